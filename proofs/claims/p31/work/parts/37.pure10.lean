section MyRows5
variable {p : Program} {l : Launch} {e : Env} {R : Room} {s : State} {m : MethodId} {args : Array Value} {below : List Frame} {meth : Method} {c : Code} {H : Heap} {locs : List Loc} {cells slots : Nat} {Q : State → Prop}
variable {cc : ByteArray} {pc : Nat} {ls : Array Slot} {rest st0 : List Value} {D : va_G} {A : Nat → Prop} {a : Nat} {tys : List (ClassId × FieldType)} {BL : List va_W} {H0 : Heap}
theorem b_copyi (hx : p.tables.exec = Jvm.exec) (hb : c.code = cc) (hml : c.maxLocals = ls.size) {own : String} {index : Nat} (hown : s.vm.findClass own = some m.cls) (hlink : (Cond.methodLink own index arraycopyName).before args s = true) (hnat : (Cond.native arraycopyName).before args s = true) (hstat : (Cond.static arraycopyName).before args s = true) (hini : (Cond.initialized "java/lang/System").before args s = true)
    (hK : va_K D vwCl tys s) (hP : va_P D vwCl BL.flatten H) (hD : va_D A BL.flatten) (hS : va_S A H0 H locs) (b0 b1 t0 : Nat) {a0 : Nat} {cA : ClassId} {n N : Nat} {f g : Nat → Int32} (ha0 : BL[b0]? = some [(a0, .inl (cA, N, .inl f))]) (ha1 : BL[b1]? = some [(a, .inl (cA, N, .inl g))]) (ht0 : tys[t0]? = some (cA, .int)) (hn : n ≤ N) (hN : N < 2 ^ 31)
    (hframes : 1 ≤ R.frames) (hlocals : (rest.map fun v => v.category).sum + (nativeFrameWords "java/lang/System" "arraycopy" 5 + 11) ≤ R.locals) (hdg : decode cc pc = .ok (.invokestatic index, 3))
    (kk : ∀ (H1 : Heap) (locs1 : List Loc), va_P D vwCl (BL.set b1 [(a, .inl (cA, N, .inl (va_cpy f g 0 0 n)))]).flatten H1 → va_D A (BL.set b1 [(a, .inl (cA, N, .inl (va_cpy f g 0 0 n)))]).flatten → va_S A H0 H1 locs1 → W p l e R s m args below meth c H1 locs1 cells slots Q (F0 m (pc + 3) ls rest)) : W p l e R s m args below meth c H locs cells slots Q (F0 m pc ls (.int (nI n) :: .int (nI 0) :: .ref a :: .int (nI 0) :: .ref a0 :: rest)) := by
  obtain ⟨q0, h1, -⟩ := bl_get (i := 0) ha0 rfl
  obtain ⟨q1, h2, h3⟩ := bl_get (i := 0) ha1 rfl
  have e := h3 (a, .inl (cA, N, .inl (va_cpy f g 0 0 n)))
  have z0 : (nI 0).toNatClampNeg = 0 := nI_clamp (by decide)
  have zn : (nI n).toNatClampNeg = n := nI_clamp (by omega)
  refine va_copyi hx hb hml hown hlink hnat hstat hini hK hP hD hS q0 q1 t0 t0 h1 h2 ht0 ht0 rfl (nI_pos (by decide)) (nI_pos (by decide)) (nI_pos (by omega)) (by rw [z0, zn]; omega) (by rw [z0, zn]; omega) (fun _ _ => rfl) hframes hlocals hdg (fun H1 locs1 k1 k2 k3 => ?_)
  rw [z0, zn, e] at k1 k2
  exact kk H1 locs1 k1 k2 k3
end MyRows5
-- games
def stV (fp : Nat → Int32) (k t i : Nat) : Int64 := (fp i).toInt64 * lN (k ^ t)
def BC (fp : Nat → Int32) (g : Nat → Nat → Nat) (n k : Nat) : Nat → Nat → Int64
  | 0, i => stV fp k 0 i
  | t + 1, i => if sumL (fun j => lN (cnt (g i) j k) * BC fp g n k t j) n < stV fp k (t + 1) i then stV fp k (t + 1) i else sumL (fun j => lN (cnt (g i) j k) * BC fp g n k t j) n
def GC (fp : Nat → Int32) (g : Nat → Nat → Nat) (n k : Nat) : Nat → Nat → Int64
  | 0, i => stV fp k 0 i
  | t + 1, i => sumL (fun j => lN (cnt (g i) j k) * BC fp g n k t j) n
theorem BC_max {fp : Nat → Int32} {g : Nat → Nat → Nat} {n k t i : Nat} : (if GC fp g n k t i < stV fp k t i then stV fp k t i else GC fp g n k t i) = BC fp g n k t i := by
  cases t with
  | zero => show (if stV fp k 0 i < stV fp k 0 i then _ else _) = _; split <;> rfl
  | succ t => rfl
def stC (fp : Nat → Int32) (g : Nat → Nat → Nat) (n k i t : Nat) : Bool := decide (GC fp g n k t i ≤ stV fp k t i)
def BT_ (fp : Nat → Int32) (g : Nat → Nat → Nat) (n k u i : Nat) (fB : Nat → Nat → Int64) : Prop := (∀ w, w < u → ∀ d, d < n → fB w d = BC fp g n k w d) ∧ ∀ d, d < i → fB u d = BC fp g n k u d
theorem BT_0 {fp : Nat → Int32} {g : Nat → Nat → Nat} {n k : Nat} {fB : Nat → Nat → Int64} : BT_ fp g n k 0 0 fB := ⟨fun w h => by omega, fun d h => by omega⟩
theorem BT_s {fp : Nat → Int32} {g : Nat → Nat → Nat} {n k u i : Nat} {fB : Nat → Nat → Int64} {x : Int64} (h : BT_ fp g n k u i fB) (hx : x = BC fp g n k u i) : BT_ fp g n k u (i + 1) (va_up fB u (vp_updL (fB u) i x)) := by
  refine ⟨fun w hw d hd => ?_, fun d hd => ?_⟩
  · rw [va_up_ne _ _ (by omega)]; exact h.1 w hw d hd
  · rw [va_up_self]
    by_cases e : d = i
    · subst e; rw [pk_uLs, hx]
    · rw [pk_uLn e]; exact h.2 d (by omega)
theorem BT_n {fp : Nat → Int32} {g : Nat → Nat → Nat} {n k u : Nat} {fB : Nat → Nat → Int64} (h : BT_ fp g n k u n fB) : BT_ fp g n k (u + 1) 0 fB := by
  refine ⟨fun w hw d hd => ?_, fun d h => by omega⟩
  by_cases e : w = u
  · subst e; exact h.2 d hd
  · exact h.1 w (by omega) d hd
def DC (fp : Nat → Int32) (g : Nat → Nat → Nat) (n k i : Nat) : Int64 := sumL (fun j => lN (cnt (g i) j k) * (fp j).toInt64) n - lN k * (fp i).toInt64
-- lumps
def lkF (g : Nat → Nat → Nat) (n k : Nat) (col : Nat → Nat) (u w x : Nat) : Bool := decide (WC g k col n u x = WC g k col n w x)
def lkB (g : Nat → Nat → Nat) (n k : Nat) (col : Nat → Nat) (u w : Nat) : Bool := allB (lkF g n k col u w) 6
def lmF (g : Nat → Nat → Nat) (n k : Nat) (col : Nat → Nat) (u w : Nat) : Bool := !decide (col u = col w) || lkB g n k col u w
def lmA (g : Nat → Nat → Nat) (n k : Nat) (col : Nat → Nat) : Bool := allB (fun u => allB (fun w => !decide (u < w) || lmF g n k col u w) n) n
theorem lmA_t {g : Nat → Nat → Nat} {n k : Nat} {col : Nat → Nat} (h : ∀ u w, u < w → w < n → lmF g n k col u w = true) : lmA g n k col = true := by
  refine allB_iff.mpr (fun u hu => allB_iff.mpr (fun w hw => ?_))
  by_cases z : u < w
  · rw [h u w z hw, Bool.or_true]
  · rw [decide_eq_false z]; rfl
theorem lmA_f {g : Nat → Nat → Nat} {n k u w : Nat} {col : Nat → Nat} (h1 : u < w) (h2 : w < n) (h : lmF g n k col u w = false) : lmA g n k col = false := by
  refine allB_f (q := u) (by omega) (allB_f (q := w) h2 ?_)
  rw [decide_eq_true h1, h]; rfl
