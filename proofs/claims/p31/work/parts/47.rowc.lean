section MyRows5
variable {p : Program} {l : Launch} {e : Env} {R : Room} {s : State} {m : MethodId} {args : Array Value} {below : List Frame} {meth : Method} {c : Code} {H : Heap} {locs : List Loc} {cells slots : Nat} {Q : State → Prop}
variable {cc : ByteArray} {pc : Nat} {ls : Array Slot} {rest st0 : List Value} {D : va_G} {A : Nat → Prop} {a : Nat} {tys : List (ClassId × FieldType)} {BL : List va_W} {H0 : Heap}
theorem b_copyi (hx : p.tables.exec = Jvm.exec) (hb : c.code = cc) (hml : c.maxLocals = ls.size) {own : String} {index : Nat} (hown : s.vm.findClass own = some m.cls) (hlink : (Cond.methodLink own index arraycopyName).before args s = true) (hnat : (Cond.native arraycopyName).before args s = true) (hstat : (Cond.static arraycopyName).before args s = true) (hini : (Cond.initialized "java/lang/System").before args s = true)
    (hK : va_K D vwCl tys s) (hP : va_P D vwCl BL.flatten H) (hD : va_D A BL.flatten) (hS : va_S A H0 H locs) (b0 b1 t0 : Nat) {a0 : Nat} {cA : ClassId} {n N : Nat} {f g : Nat → Int32} (ha0 : BL[b0]? = some [(a0, .inl (cA, N, .inl f))]) (ha1 : BL[b1]? = some [(a, .inl (cA, N, .inl g))]) (ht0 : tys[t0]? = some (cA, .int)) (hn : n ≤ N) (hN : N < 2 ^ 31)
    (hframes : 1 ≤ R.frames) (hlocals : (rest.map fun v => v.category).sum + (nativeFrameWords "java/lang/System" "arraycopy" 5 + 11) ≤ R.locals) (hdg : decode cc pc = .ok (.invokestatic index, 3))
    (kk : ∀ (H1 : Heap) (locs1 : List Loc), va_P D vwCl (BL.set b1 [(a, .inl (cA, N, .inl (va_cpy f g 0 0 n)))]).flatten H1 → va_D A (BL.set b1 [(a, .inl (cA, N, .inl (va_cpy f g 0 0 n)))]).flatten → va_S A H0 H1 locs1 → W p l e R s m args below meth c H1 locs1 cells slots Q (F0 m (pc + 3) ls rest)) : W p l e R s m args below meth c H locs cells slots Q (F0 m pc ls (.int (nI n) :: .int (nI 0) :: .ref a :: .int (nI 0) :: .ref a0 :: rest)) := by
  obtain ⟨q0, h1, -⟩ := bl_get (i := 0) ha0 rfl
  obtain ⟨q1, h2, h3⟩ := bl_get (i := 0) ha1 rfl
  have e := h3 (a, .inl (cA, N, .inl (va_cpy f g 0 0 n)))
  have z0 : (nI 0).toNatClampNeg = 0 := nI_clamp (by decide)
  have zn : (nI n).toNatClampNeg = n := nI_clamp (by omega)
  refine va_copyi hx hb hml hown hlink hnat hstat hini hK hP hD hS q0 q1 t0 t0 h1 h2 ht0 ht0 rfl (nI_pos (by decide)) (nI_pos (by decide)) (nI_pos (by omega)) (by rw [z0, zn]; omega) (by rw [z0, zn]; omega) (fun _ _ => rfl) hframes hlocals hdg (fun H1 locs1 k1 k2 k3 => ?_)
  rw [z0, zn, e] at k1 k2
  exact kk H1 locs1 k1 k2 k3
end MyRows5
