section MyRows8
variable {p : Program} {l : Launch} {e : Env} {R : Room} {s : State} {m : MethodId} {args : Array Value} {below : List Frame} {meth : Method} {c : Code} {H : Heap} {locs : List Loc} {cells slots : Nat} {Q : State → Prop}
variable {cc : ByteArray} {pc : Nat} {ls : Array Slot} {rest st0 : List Value} {D : va_G} {cY : Nat → ClassId} {A : Nat → Prop} {a : Nat} {BL CL : List va_W} {H0 : Heap} {tys : List (ClassId × FieldType)}
theorem f_c0 (hexec : p.tables.exec = Jvm.exec) (hb : c.code = cc) (hdg : decode cc pc = .ok (.fconst 0, 1))
    (k : W p l e R s m args below meth c H locs cells slots Q (F0 m (pc + 1) ls (.float 0 :: rest))) : W p l e R s m args below meth c H locs cells slots Q (F0 m pc ls (rest)) := by
  intro T hT X
  obtain ⟨t, a, b⟩ := k T hT X
  refine ⟨t, ?_, b⟩
  jvm_step X.here [X.here.top, hexec, hb, hdg]
  exact a
theorem r_f {S : Type} {post : UInt32 → S → Prop} {B : S → List va_W} {v : UInt32} (hx : p.tables.exec = Jvm.exec) (hb : c.code = cc) (hr : meth.sig.returnType = some .float) (hlocks : meth.locks = false) (hP : va_P D vwCl BL.flatten H) (hD : va_D A BL.flatten) (hS : va_S A s.heap H locs) (u : S) (hu : BL = B u) (hp : post v u) (hdg : decode cc pc = .ok (.freturn, 1)) : W p l e R s m args below meth c H locs cells slots (MQ below (qF D cY post B A) args s cells slots A) (F0 m pc ls [.float v]) := by
  subst hu
  exact W.fret hx hb hr (fun t ht hW => ⟨⟨v, u, rfl, hp, by rw [ht]; exact hP, hD⟩, hS.F ht⟩) hS.2.2 hdg hlocks
theorem b_dald (hx : p.tables.exec = Jvm.exec) (hb : c.code = cc) (hK : va_K D vwCl tys s) (hP : va_P D vwCl BL.flatten H) (b t0 : Nat) {cA : ClassId} {n : Nat} {f : Nat → UInt64} (ha : BL[b]? = some [(a, .inl (cA, n, .inr (.inr (.inr (.inl f)))))]) (ht : tys[t0]? = some (cA, .double)) {i : Nat} (hi : i < n) (hn : n < 2 ^ 31) (hdg : decode cc pc = .ok (.daload, 1))
    (kk : W p l e R s m args below meth c H locs cells slots Q (F0 m (pc + 1) ls (.double (f i) :: rest))) : W p l e R s m args below meth c H locs cells slots Q (F0 m pc ls (.int (nI i) :: .ref a :: rest)) := by
  obtain ⟨q0, h1, -⟩ := bl_get (i := 0) ha rfl
  exact va_dald hx hb hK hP q0 t0 h1 ht (vp_in_nI hi hn) hdg (by rw [nI_clamp (by omega)]; exact kk)
theorem b_dast (hx : p.tables.exec = Jvm.exec) (hb : c.code = cc) (hK : va_K D vwCl tys s) (hP : va_P D vwCl BL.flatten H) (hD : va_D A BL.flatten) (hS : va_S A H0 H locs) (b t0 : Nat) {cA : ClassId} {n : Nat} {f : Nat → UInt64} (ha : BL[b]? = some [(a, .inl (cA, n, .inr (.inr (.inr (.inl f)))))]) (ht : tys[t0]? = some (cA, .double)) {i : Nat} {x : UInt64} (hi : i < n) (hn : n < 2 ^ 31) (hdg : decode cc pc = .ok (.dastore, 1))
    (kk : ∀ (H1 : Heap) (locs1 : List Loc), va_P D vwCl (BL.set b [(a, .inl (cA, n, .inr (.inr (.inr (.inl (vf_upd f i x))))))]).flatten H1 → va_D A (BL.set b [(a, .inl (cA, n, .inr (.inr (.inr (.inl (vf_upd f i x))))))]).flatten → va_S A H0 H1 locs1 → W p l e R s m args below meth c H1 locs1 cells slots Q (F0 m (pc + 1) ls rest)) : W p l e R s m args below meth c H locs cells slots Q (F0 m pc ls (.double x :: .int (nI i) :: .ref a :: rest)) := by
  obtain ⟨q0, h1, h2⟩ := bl_get (i := 0) ha rfl
  have e := h2 (a, .inl (cA, n, .inr (.inr (.inr (.inl (vf_upd f i x))))))
  refine va_dast hx hb hK hP hD hS q0 t0 h1 ht (vp_in_nI hi hn) hdg (fun H1 locs1 h3 h4 h5 => ?_)
  rw [nI_clamp (by omega), e] at h3 h4
  exact kk H1 locs1 h3 h4 h5
theorem vfu_s {f : Nat → UInt64} {i : Nat} {x : UInt64} : vf_upd f i x i = x := by unfold vf_upd; exact if_pos rfl
end MyRows8
