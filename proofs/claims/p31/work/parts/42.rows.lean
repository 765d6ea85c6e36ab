-- ===== rows over worlds in blocks =====
abbrev nw5 : Cond := .methodLinkNest RX5 29 yX8_pairOf "ChanceHall"
abbrev nw2 : Cond := .methodLinkNest RX2 29 yX8_pairOf "ChanceHall"
/-- what is known of the tables, at every state of the run -/
def vK (D : va_G) (cY : Nat → ClassId) (U : State) : Prop := va_K D vwCl (tyz cY) U ∧ va_Nw nw5 U ∧ va_Nw nw2 U
theorem vK.warm {D : va_G} {cY : Nat → ClassId} {s U : State} (hW : s.WarmedH U.vm) (h : vK D cY s) : vK D cY U := ⟨va_K.moved hW.alike h.1, va_Nw.warmM hW h.2.1, va_Nw.warmM hW h.2.2⟩
theorem vK.call {D : va_G} {cY : Nat → ClassId} {U : State} {g : JFrame} {mk : MethodId} {a : Array Value} (h : vK D cY U) : vK D cY (U.calling g mk a) := ⟨va_K.moved (u := U) (U := U.calling g mk a) (Vm.Alike.refl U.vm) h.1, va_Nw.same rfl rfl h.2.1, va_Nw.same rfl rfl h.2.2⟩
abbrev cW (D : va_G) (cY : Nat → ClassId) (A : Nat → Prop) (BL : List va_W) (t : State) : Prop := va_P D vwCl BL.flatten t.heap ∧ va_D A BL.flatten
abbrev cP (D : va_G) (cY : Nat → ClassId) (av : List Value) (BL : List va_W) (sz : Nat) : Array Value → State → Prop := va_Pc av (fun U => U.heap.size = sz ∧ va_P D vwCl BL.flatten U.heap ∧ vK D cY U ∧ va_D (fun _ => True) BL.flatten)
abbrev qI {S : Type} (D : va_G) (cY : Nat → ClassId) (post : Int32 → S → Prop) (B : S → List va_W) (A : Nat → Prop) := va_Qi post (fun u t => cW D cY A (B u) t) A
abbrev qL {S : Type} (D : va_G) (cY : Nat → ClassId) (post : Int64 → S → Prop) (B : S → List va_W) (A : Nat → Prop) := va_Ql post (fun u t => cW D cY A (B u) t) A
abbrev qF {S : Type} (D : va_G) (cY : Nat → ClassId) (post : UInt32 → S → Prop) (B : S → List va_W) (A : Nat → Prop) := va_Qf post (fun u t => cW D cY A (B u) t) A
abbrev qV {S : Type} (D : va_G) (cY : Nat → ClassId) (post : S → Prop) (B : S → List va_W) (A : Nat → Prop) := va_Qv post (fun u t => cW D cY A (B u) t) A
theorem cP_blind {D : va_G} {cY : Nat → ClassId} {av : List Value} {BL : List va_W} {sz : Nat} : FrameBlind (cP D cY av BL sz) := fun a U g mk q => by
  obtain ⟨q0, q1, qP, qK, qD⟩ := q
  exact ⟨q0, q1, qP, qK.call, qD⟩
theorem mtB {l : Launch} {y : MethodName} {ws ws' : List Cond} {rm : Room} {cc : ByteArray} {maxL : Nat} {ret : Option FieldType} {D : va_G} {cY : Nat → ClassId} {av : List Value} {BL : List va_W} {sz : Nat} {Qc : (Nat → Prop) → Array Value → State → Outcome → State → Prop} {mc ms : Nat} (hy : plainName y.cls = true) (hw : ws = Cond.code y cc maxL ret :: ws') (hlen : (lg_sl av).length ≤ maxL)
    (body : ∀ (p : Program) (e : Env) (s : State) (m : MethodId) (below : List Frame) (meth : Method) (c : Code) (A : Nat → Prop) (ls : Array Slot), p.tables.exec = Jvm.exec → c.code = cc → meth.sig.returnType = ret → c.maxLocals = maxL → (∀ w ∈ ws, w.before av.toArray s = true) → s.vm.findClass y.cls = some m.cls → meth.locks = false → meth.name = y.name → s.heap.size = sz → va_P D vwCl BL.flatten s.heap → va_K D vwCl (tyz cY) s → vK D cY s → va_D A BL.flatten → va_S A s.heap s.heap [] → (∀ q, s.heap.size ≤ q → A q) → lv_has ls maxL (lv_args 0 av) → W p l e rm s m av.toArray below meth c s.heap [] 0 0 (MQ below (Qc A) av.toArray s mc ms A) (F0 m 0 ls [])) :
    Met l y ws rm (cP D cY av BL sz) (Qc (va_A BL.flatten sz)) mc ms (va_A BL.flatten sz) := by
  refine Met.ofW (cc := cc) (maxL := maxL) (ret := ret) hy hw ?_
  intro p e s m args below meth c s₁ B hml hv
  obtain ⟨rfl, hsz, hP, hK, hD0⟩ := hv
  have hts := atoms_spec (ws := ws) B.pre
  have hl := lv_entry av (n := maxL) hlen
  rw [lg_entry_eq]
  exact body p e s m below meth c _ _ B.exec B.bytes B.returns hml hts (findClass_of_methodNamed B.named) B.notSynchronized (name_of_methodNamed B.named B.method).1 hsz hP hK.1 hK hD0.self va_S.rf (fun q h => Or.inr (hsz ▸ h)) hl
section MyRows
variable {p : Program} {l : Launch} {e : Env} {R : Room} {s : State} {m : MethodId} {args : Array Value} {below : List Frame} {meth : Method} {c : Code} {H : Heap} {locs : List Loc} {cells slots : Nat} {Q : State → Prop}
variable {cc : ByteArray} {pc : Nat} {ls : Array Slot} {rest st0 : List Value} {D : va_G} {cY : Nat → ClassId} {A : Nat → Prop} {a : Nat} {tys : List (ClassId × FieldType)} {BL CL : List va_W} {H0 : Heap}
theorem eqi {x x' : Int32} (h : x = x') (k : W p l e R s m args below meth c H locs cells slots Q (F0 m pc ls (.int x' :: rest))) : W p l e R s m args below meth c H locs cells slots Q (F0 m pc ls (.int x :: rest)) := by subst h; exact k
theorem eql {x x' : Int64} (h : x = x') (k : W p l e R s m args below meth c H locs cells slots Q (F0 m pc ls (.long x' :: rest))) : W p l e R s m args below meth c H locs cells slots Q (F0 m pc ls (.long x :: rest)) := by subst h; exact k
theorem eqs {st st' : List Value} (h : st = st') (k : W p l e R s m args below meth c H locs cells slots Q (F0 m pc ls st')) : W p l e R s m args below meth c H locs cells slots Q (F0 m pc ls st) := by subst h; exact k
theorem n_icmp_ge (hx : p.tables.exec = Jvm.exec) (hb : c.code = cc) {x y : Nat} {off : Int} {tgt : Nat} (hdg : decode cc pc = .ok (.if_icmp .ge off, 3)) (ht : (pc : Int) + off = (tgt : Int)) (bx : x < 2 ^ 31) (bY : y < 2 ^ 31)
    (kt : y ≤ x → W p l e R s m args below meth c H locs cells slots Q (F0 m tgt ls rest)) (kf : x < y → W p l e R s m args below meth c H locs cells slots Q (F0 m (pc + 3) ls rest)) : W p l e R s m args below meth c H locs cells slots Q (F0 m pc ls (.int (nI y) :: .int (nI x) :: rest)) :=
  lv_icmp_ge hx hb hdg ht (fun h => kt ((nI_leI bY bx).mp h)) (fun h => kf (Nat.not_le.mp (fun q => h ((nI_leI bY bx).mpr q))))
theorem n_icmp_gt (hx : p.tables.exec = Jvm.exec) (hb : c.code = cc) {x y : Nat} {off : Int} {tgt : Nat} (hdg : decode cc pc = .ok (.if_icmp .gt off, 3)) (ht : (pc : Int) + off = (tgt : Int)) (bx : x < 2 ^ 31) (bY : y < 2 ^ 31)
    (kt : y < x → W p l e R s m args below meth c H locs cells slots Q (F0 m tgt ls rest)) (kf : x ≤ y → W p l e R s m args below meth c H locs cells slots Q (F0 m (pc + 3) ls rest)) : W p l e R s m args below meth c H locs cells slots Q (F0 m pc ls (.int (nI y) :: .int (nI x) :: rest)) :=
  lv_icmp_gt hx hb hdg ht (fun h => kt ((nI_ltI bY bx).mp h)) (fun h => kf (Nat.not_lt.mp (fun q => h ((nI_ltI bY bx).mpr q))))
theorem n_icmp_lt (hx : p.tables.exec = Jvm.exec) (hb : c.code = cc) {x y : Nat} {off : Int} {tgt : Nat} (hdg : decode cc pc = .ok (.if_icmp .lt off, 3)) (ht : (pc : Int) + off = (tgt : Int)) (bx : x < 2 ^ 31) (bY : y < 2 ^ 31)
    (kt : x < y → W p l e R s m args below meth c H locs cells slots Q (F0 m tgt ls rest)) (kf : y ≤ x → W p l e R s m args below meth c H locs cells slots Q (F0 m (pc + 3) ls rest)) : W p l e R s m args below meth c H locs cells slots Q (F0 m pc ls (.int (nI y) :: .int (nI x) :: rest)) :=
  lv_icmp_lt hx hb hdg ht (fun h => kt ((nI_ltI bx bY).mp h)) (fun h => kf (Nat.not_lt.mp (fun q => h ((nI_ltI bx bY).mpr q))))
theorem n_icmp_le (hx : p.tables.exec = Jvm.exec) (hb : c.code = cc) {x y : Nat} {off : Int} {tgt : Nat} (hdg : decode cc pc = .ok (.if_icmp .le off, 3)) (ht : (pc : Int) + off = (tgt : Int)) (bx : x < 2 ^ 31) (bY : y < 2 ^ 31)
    (kt : x ≤ y → W p l e R s m args below meth c H locs cells slots Q (F0 m tgt ls rest)) (kf : y < x → W p l e R s m args below meth c H locs cells slots Q (F0 m (pc + 3) ls rest)) : W p l e R s m args below meth c H locs cells slots Q (F0 m pc ls (.int (nI y) :: .int (nI x) :: rest)) :=
  lv_icmp_le hx hb hdg ht (fun h => kt ((nI_leI bx bY).mp h)) (fun h => kf (Nat.not_le.mp (fun q => h ((nI_leI bx bY).mpr q))))
theorem n_icmp_eq (hx : p.tables.exec = Jvm.exec) (hb : c.code = cc) {x y : Nat} {off : Int} {tgt : Nat} (hdg : decode cc pc = .ok (.if_icmp .eq off, 3)) (ht : (pc : Int) + off = (tgt : Int)) (bx : x < 2 ^ 31) (bY : y < 2 ^ 31)
    (kt : x = y → W p l e R s m args below meth c H locs cells slots Q (F0 m tgt ls rest)) (kf : x ≠ y → W p l e R s m args below meth c H locs cells slots Q (F0 m (pc + 3) ls rest)) : W p l e R s m args below meth c H locs cells slots Q (F0 m pc ls (.int (nI y) :: .int (nI x) :: rest)) :=
  lv_icmp_eq hx hb hdg ht (fun h => kt ((nI_eq bx bY).mp h)) (fun h => kf (fun q => h ((nI_eq bx bY).mpr q)))
theorem n_icmp_ne (hx : p.tables.exec = Jvm.exec) (hb : c.code = cc) {x y : Nat} {off : Int} {tgt : Nat} (hdg : decode cc pc = .ok (.if_icmp .ne off, 3)) (ht : (pc : Int) + off = (tgt : Int)) (bx : x < 2 ^ 31) (bY : y < 2 ^ 31)
    (kt : x ≠ y → W p l e R s m args below meth c H locs cells slots Q (F0 m tgt ls rest)) (kf : x = y → W p l e R s m args below meth c H locs cells slots Q (F0 m (pc + 3) ls rest)) : W p l e R s m args below meth c H locs cells slots Q (F0 m pc ls (.int (nI y) :: .int (nI x) :: rest)) :=
  lv_icmp_ne hx hb hdg ht (fun h => kt (fun q => h ((nI_eq bx bY).mpr q))) (fun h => kf ((nI_eq bx bY).mp h))
theorem n_if_eq (hx : p.tables.exec = Jvm.exec) (hb : c.code = cc) {x : Nat} {off : Int} {tgt : Nat} (hdg : decode cc pc = .ok (.ifCond .eq off, 3)) (ht : (pc : Int) + off = (tgt : Int)) (bx : x < 2 ^ 31)
    (kt : x = 0 → W p l e R s m args below meth c H locs cells slots Q (F0 m tgt ls rest)) (kf : x ≠ 0 → W p l e R s m args below meth c H locs cells slots Q (F0 m (pc + 3) ls rest)) : W p l e R s m args below meth c H locs cells slots Q (F0 m pc ls (.int (nI x) :: rest)) :=
  lv_if_eq hx hb hdg ht (fun h => kt ((nI_eq bx (Nat.le_of_ble_eq_true rfl)).mp (h.trans nI_0.symm))) (fun h => kf (fun q => h (by rw [q]; exact nI_0)))
theorem n_if_ne (hx : p.tables.exec = Jvm.exec) (hb : c.code = cc) {x : Nat} {off : Int} {tgt : Nat} (hdg : decode cc pc = .ok (.ifCond .ne off, 3)) (ht : (pc : Int) + off = (tgt : Int)) (bx : x < 2 ^ 31)
    (kt : x ≠ 0 → W p l e R s m args below meth c H locs cells slots Q (F0 m tgt ls rest)) (kf : x = 0 → W p l e R s m args below meth c H locs cells slots Q (F0 m (pc + 3) ls rest)) : W p l e R s m args below meth c H locs cells slots Q (F0 m pc ls (.int (nI x) :: rest)) :=
  lv_if_ne hx hb hdg ht (fun h => kt (fun q => h (by rw [q]; exact nI_0))) (fun h => kf ((nI_eq bx (Nat.le_of_ble_eq_true rfl)).mp (h.trans nI_0.symm)))
theorem n_if_le (hx : p.tables.exec = Jvm.exec) (hb : c.code = cc) {x : Nat} {off : Int} {tgt : Nat} (hdg : decode cc pc = .ok (.ifCond .le off, 3)) (ht : (pc : Int) + off = (tgt : Int)) (bx : x < 2 ^ 31)
    (kt : x = 0 → W p l e R s m args below meth c H locs cells slots Q (F0 m tgt ls rest)) (kf : 0 < x → W p l e R s m args below meth c H locs cells slots Q (F0 m (pc + 3) ls rest)) : W p l e R s m args below meth c H locs cells slots Q (F0 m pc ls (.int (nI x) :: rest)) :=
  lv_if_le hx hb hdg ht (fun h => kt (by rw [← nI_0] at h; have := (nI_leI bx (Nat.le_of_ble_eq_true rfl)).mp h; omega)) (fun h => kf (by rw [← nI_0] at h; have := mt (nI_leI bx (Nat.le_of_ble_eq_true rfl)).mpr h; omega))
theorem n_if_gt (hx : p.tables.exec = Jvm.exec) (hb : c.code = cc) {x : Nat} {off : Int} {tgt : Nat} (hdg : decode cc pc = .ok (.ifCond .gt off, 3)) (ht : (pc : Int) + off = (tgt : Int)) (bx : x < 2 ^ 31)
    (kt : 0 < x → W p l e R s m args below meth c H locs cells slots Q (F0 m tgt ls rest)) (kf : x = 0 → W p l e R s m args below meth c H locs cells slots Q (F0 m (pc + 3) ls rest)) : W p l e R s m args below meth c H locs cells slots Q (F0 m pc ls (.int (nI x) :: rest)) :=
  lv_if_gt hx hb hdg ht (fun h => kt (by rw [← nI_0] at h; exact (nI_ltI (Nat.le_of_ble_eq_true rfl) bx).mp h)) (fun h => kf (by rw [← nI_0] at h; have := mt (nI_ltI (Nat.le_of_ble_eq_true rfl) bx).mpr h; omega))
theorem b_if_eq (hx : p.tables.exec = Jvm.exec) (hb : c.code = cc) {b : Bool} {off : Int} {tgt : Nat} (hdg : decode cc pc = .ok (.ifCond .eq off, 3)) (ht : (pc : Int) + off = (tgt : Int))
    (kt : b = false → W p l e R s m args below meth c H locs cells slots Q (F0 m tgt ls rest)) (kf : b = true → W p l e R s m args below meth c H locs cells slots Q (F0 m (pc + 3) ls rest)) : W p l e R s m args below meth c H locs cells slots Q (F0 m pc ls (.int (bI b) :: rest)) :=
  lv_if_eq hx hb hdg ht (fun h => kt (by cases b; rfl; exact absurd h (by decide))) (fun h => kf (by cases b; exact absurd (by decide) h; rfl))
theorem b_if_ne (hx : p.tables.exec = Jvm.exec) (hb : c.code = cc) {b : Bool} {off : Int} {tgt : Nat} (hdg : decode cc pc = .ok (.ifCond .ne off, 3)) (ht : (pc : Int) + off = (tgt : Int))
    (kt : b = true → W p l e R s m args below meth c H locs cells slots Q (F0 m tgt ls rest)) (kf : b = false → W p l e R s m args below meth c H locs cells slots Q (F0 m (pc + 3) ls rest)) : W p l e R s m args below meth c H locs cells slots Q (F0 m pc ls (.int (bI b) :: rest)) :=
  lv_if_ne hx hb hdg ht (fun h => kt (by cases b; exact absurd (by decide) h; rfl)) (fun h => kf (by cases b; rfl; exact absurd h (by decide)))
-- fields
theorem b_get (hx : p.tables.exec = Jvm.exec) (hb : c.code = cc) {own ref C : String} {T : u_T} {N ci index : Nat} {Ts : List Cond} (hts : ∀ w ∈ Ts, w.before args s = true) (hin : ∀ w ∈ u_ws C T N, w ∈ Ts) (hown : s.vm.findClass own = some m.cls) (hK : va_K D vwCl tys s) (hP : va_P D vwCl BL.flatten H) (b : Nat) {fs : List Value} (he : BL[b]? = some [(a, .inr (ci, fs))]) (hc : vwCl[ci]? = some (C, T, N)) (k : Nat) (hk : k < N) (hlink : (Cond.fieldLink own index ref (T k).2.1 (T k).2.2.1).before args s = true) (hsame : ∀ x, s.fieldFound? (T k).1 (T k).2.1 (T k).2.2.1 = some x → s.fieldFound? ref (T k).2.1 (T k).2.2.1 = some x) {v : Value} (hv : fs[k]? = some v) (hdg : decode cc pc = .ok (.getfield index, 3))
    (kk : W p l e R s m args below meth c H locs cells slots Q (F0 m (pc + 3) ls (v :: rest))) : W p l e R s m args below meth c H locs cells slots Q (F0 m pc ls (.ref a :: rest)) := by
  obtain ⟨q0, h1, -⟩ := bl_get (i := 0) he rfl
  exact va_get hx hb hts hin hown hK hP q0 h1 hc k hk hlink hsame hv hdg kk
theorem b_put (hx : p.tables.exec = Jvm.exec) (hb : c.code = cc) {own ref C : String} {T : u_T} {N ci index : Nat} {Ts : List Cond} (hts : ∀ w ∈ Ts, w.before args s = true) (hin : ∀ w ∈ u_ws C T N, w ∈ Ts) (ty0 : Nat → FieldType) (hty : ∀ k, k < N → parseFieldDescriptor (T k).2.2.1 = some (ty0 k)) (hnm : ∀ a, a < N → ∀ b, b < N → a ≠ b → (T a).2.1 ≠ (T b).2.1) (hown : s.vm.findClass own = some m.cls) (hK : va_K D vwCl tys s) (hP : va_P D vwCl BL.flatten H) (hD : va_D A BL.flatten) (hS0 : va_S A H0 H locs) (b : Nat) {fs : List Value} (he : BL[b]? = some [(a, .inr (ci, fs))]) (hc : vwCl[ci]? = some (C, T, N)) (k : Nat) (hk : k < N) (hlink : (Cond.fieldLink own index ref (T k).2.1 (T k).2.2.1).before args s = true) (hsame : ∀ x, s.fieldFound? (T k).1 (T k).2.1 (T k).2.2.1 = some x → s.fieldFound? ref (T k).2.1 (T k).2.2.1 = some x) (hfin : (T k).2.2.2 = false) {ty : FieldType} {v : Value} (hd : parseFieldDescriptor (T k).2.2.1 = some ty) (hn : narrow ty v = v) (hfit : fits ty v = true) (hl : k < fs.length)
    (hdg : decode cc pc = .ok (.putfield index, 3)) (kk : ∀ (H1 : Heap) (locs1 : List Loc), va_P D vwCl (BL.set b [(a, .inr (ci, fs.set k v))]).flatten H1 → va_D A (BL.set b [(a, .inr (ci, fs.set k v))]).flatten → va_S A H0 H1 locs1 → W p l e R s m args below meth c H1 locs1 cells slots Q (F0 m (pc + 3) ls rest)) : W p l e R s m args below meth c H locs cells slots Q (F0 m pc ls (v :: .ref a :: rest)) := by
  obtain ⟨q0, h1, h2⟩ := bl_get (i := 0) he rfl
  have e := h2 (a, .inr (ci, fs.set k v))
  refine va_put hx hb hts hin ty0 hty hnm hown hK hP hD hS0 q0 h1 hc k hk hlink hsame hfin hd hn hfit hl hdg (fun H1 locs1 h3 h4 h5 => ?_)
  rw [e] at h3 h4
  exact kk H1 locs1 h3 h4 h5
theorem b_putF (hx : p.tables.exec = Jvm.exec) (hb : c.code = cc) {own ref C : String} {T : u_T} {N ci index : Nat} {Ts : List Cond} (hts : ∀ w ∈ Ts, w.before args s = true) (hin : ∀ w ∈ u_ws C T N, w ∈ Ts) (ty0 : Nat → FieldType) (hty : ∀ k, k < N → parseFieldDescriptor (T k).2.2.1 = some (ty0 k)) (hnm : ∀ a, a < N → ∀ b, b < N → a ≠ b → (T a).2.1 ≠ (T b).2.1) (hown : s.vm.findClass own = some m.cls) (hK : va_K D vwCl tys s) (hP : va_P D vwCl BL.flatten H) (hD : va_D A BL.flatten) (hS0 : va_S A H0 H locs) (b : Nat) {fs : List Value} (he : BL[b]? = some [(a, .inr (ci, fs))]) (hc : vwCl[ci]? = some (C, T, N)) (k : Nat) (hk : k < N) (hlink : (Cond.fieldLink own index ref (T k).2.1 (T k).2.2.1).before args s = true) (hsame : ∀ x, s.fieldFound? (T k).1 (T k).2.1 (T k).2.2.1 = some x → s.fieldFound? ref (T k).2.1 (T k).2.2.1 = some x) (hfin : (T k).2.2.2 = true) (hin2 : meth.name = "<init>") (hdecl : (T k).1 = own) {ty : FieldType} {v : Value} (hd : parseFieldDescriptor (T k).2.2.1 = some ty) (hn : narrow ty v = v) (hfit : fits ty v = true) (hl : k < fs.length)
    (hdg : decode cc pc = .ok (.putfield index, 3)) (kk : ∀ (H1 : Heap) (locs1 : List Loc), va_P D vwCl (BL.set b [(a, .inr (ci, fs.set k v))]).flatten H1 → va_D A (BL.set b [(a, .inr (ci, fs.set k v))]).flatten → va_S A H0 H1 locs1 → W p l e R s m args below meth c H1 locs1 cells slots Q (F0 m (pc + 3) ls rest)) : W p l e R s m args below meth c H locs cells slots Q (F0 m pc ls (v :: .ref a :: rest)) := by
  obtain ⟨q0, h1, h2⟩ := bl_get (i := 0) he rfl
  have e := h2 (a, .inr (ci, fs.set k v))
  refine va_putF hx hb hts hin ty0 hty hnm hown hK hP hD hS0 q0 h1 hc k hk hlink hsame hfin hin2 hdecl hd hn hfit hl hdg (fun H1 locs1 h3 h4 h5 => ?_)
  rw [e] at h3 h4
  exact kk H1 locs1 h3 h4 h5
-- arrays: one array a block
theorem b_iald (hx : p.tables.exec = Jvm.exec) (hb : c.code = cc) (hK : va_K D vwCl tys s) (hP : va_P D vwCl BL.flatten H) (b t0 : Nat) {cA : ClassId} {n : Nat} {f : Nat → Int32} (ha : BL[b]? = some [(a, .inl (cA, n, .inl f))]) (ht : tys[t0]? = some (cA, .int)) {i : Nat} (hi : i < n) (hn : n < 2 ^ 31) (hdg : decode cc pc = .ok (.iaload, 1))
    (kk : W p l e R s m args below meth c H locs cells slots Q (F0 m (pc + 1) ls (.int (f i) :: rest))) : W p l e R s m args below meth c H locs cells slots Q (F0 m pc ls (.int (nI i) :: .ref a :: rest)) := by
  obtain ⟨q0, h1, -⟩ := bl_get (i := 0) ha rfl
  exact va_iald hx hb hK hP q0 t0 h1 ht (vp_in_nI hi hn) hdg (by rw [nI_clamp (by omega)]; exact kk)
theorem b_lald (hx : p.tables.exec = Jvm.exec) (hb : c.code = cc) (hK : va_K D vwCl tys s) (hP : va_P D vwCl BL.flatten H) (b t0 : Nat) {cA : ClassId} {n : Nat} {f : Nat → Int64} (ha : BL[b]? = some [(a, .inl (cA, n, .inr (.inl f)))]) (ht : tys[t0]? = some (cA, .long)) {i : Nat} (hi : i < n) (hn : n < 2 ^ 31) (hdg : decode cc pc = .ok (.laload, 1))
    (kk : W p l e R s m args below meth c H locs cells slots Q (F0 m (pc + 1) ls (.long (f i) :: rest))) : W p l e R s m args below meth c H locs cells slots Q (F0 m pc ls (.int (nI i) :: .ref a :: rest)) := by
  obtain ⟨q0, h1, -⟩ := bl_get (i := 0) ha rfl
  exact va_lald hx hb hK hP q0 t0 h1 ht (vp_in_nI hi hn) hdg (by rw [nI_clamp (by omega)]; exact kk)
theorem b_iast (hx : p.tables.exec = Jvm.exec) (hb : c.code = cc) (hK : va_K D vwCl tys s) (hP : va_P D vwCl BL.flatten H) (hD : va_D A BL.flatten) (hS : va_S A H0 H locs) (b t0 : Nat) {cA : ClassId} {n : Nat} {f : Nat → Int32} (ha : BL[b]? = some [(a, .inl (cA, n, .inl f))]) (ht : tys[t0]? = some (cA, .int)) {i : Nat} {x : Int32} (hi : i < n) (hn : n < 2 ^ 31) (hdg : decode cc pc = .ok (.iastore, 1))
    (kk : ∀ (H1 : Heap) (locs1 : List Loc), va_P D vwCl (BL.set b [(a, .inl (cA, n, .inl (upd f i x)))]).flatten H1 → va_D A (BL.set b [(a, .inl (cA, n, .inl (upd f i x)))]).flatten → va_S A H0 H1 locs1 → W p l e R s m args below meth c H1 locs1 cells slots Q (F0 m (pc + 1) ls rest)) : W p l e R s m args below meth c H locs cells slots Q (F0 m pc ls (.int x :: .int (nI i) :: .ref a :: rest)) := by
  obtain ⟨q0, h1, h2⟩ := bl_get (i := 0) ha rfl
  have e := h2 (a, .inl (cA, n, .inl (upd f i x)))
  refine va_iast hx hb hK hP hD hS q0 t0 h1 ht (vp_in_nI hi hn) hdg (fun H1 locs1 h3 h4 h5 => ?_)
  rw [nI_clamp (by omega), e] at h3 h4
  exact kk H1 locs1 h3 h4 h5
theorem b_last (hx : p.tables.exec = Jvm.exec) (hb : c.code = cc) (hK : va_K D vwCl tys s) (hP : va_P D vwCl BL.flatten H) (hD : va_D A BL.flatten) (hS : va_S A H0 H locs) (b t0 : Nat) {cA : ClassId} {n : Nat} {f : Nat → Int64} (ha : BL[b]? = some [(a, .inl (cA, n, .inr (.inl f)))]) (ht : tys[t0]? = some (cA, .long)) {i : Nat} {x : Int64} (hi : i < n) (hn : n < 2 ^ 31) (hdg : decode cc pc = .ok (.lastore, 1))
    (kk : ∀ (H1 : Heap) (locs1 : List Loc), va_P D vwCl (BL.set b [(a, .inl (cA, n, .inr (.inl (vp_updL f i x))))]).flatten H1 → va_D A (BL.set b [(a, .inl (cA, n, .inr (.inl (vp_updL f i x))))]).flatten → va_S A H0 H1 locs1 → W p l e R s m args below meth c H1 locs1 cells slots Q (F0 m (pc + 1) ls rest)) : W p l e R s m args below meth c H locs cells slots Q (F0 m pc ls (.long x :: .int (nI i) :: .ref a :: rest)) := by
  obtain ⟨q0, h1, h2⟩ := bl_get (i := 0) ha rfl
  have e := h2 (a, .inl (cA, n, .inr (.inl (vp_updL f i x))))
  refine va_last hx hb hK hP hD hS q0 t0 h1 ht (vp_in_nI hi hn) hdg (fun H1 locs1 h3 h4 h5 => ?_)
  rw [nI_clamp (by omega), e] at h3 h4
  exact kk H1 locs1 h3 h4 h5
-- rows of a grid
theorem g_iald (hx : p.tables.exec = Jvm.exec) (hb : c.code = cc) (hK : va_K D vwCl tys s) (hP : va_P D vwCl BL.flatten H) (b t0 : Nat) {cA : ClassId} {r : Nat → Nat} {n N : Nat} {M : Nat → Nat → Int32} (ha : BL[b]? = some (gI cA r n M N)) (ht : tys[t0]? = some (cA, .int)) {j i : Nat} (hj : j < N) (hi : i < n) (hn : n < 2 ^ 31) (hdg : decode cc pc = .ok (.iaload, 1))
    (kk : W p l e R s m args below meth c H locs cells slots Q (F0 m (pc + 1) ls (.int (M j i) :: rest))) : W p l e R s m args below meth c H locs cells slots Q (F0 m pc ls (.int (nI i) :: .ref (r j) :: rest)) := by
  obtain ⟨q0, h1, -⟩ := bl_get ha (gI_get hj)
  exact va_iald hx hb hK hP q0 t0 h1 ht (vp_in_nI hi hn) hdg (by rw [nI_clamp (by omega)]; exact kk)
theorem g_lald (hx : p.tables.exec = Jvm.exec) (hb : c.code = cc) (hK : va_K D vwCl tys s) (hP : va_P D vwCl BL.flatten H) (b t0 : Nat) {cA : ClassId} {r : Nat → Nat} {n N : Nat} {M : Nat → Nat → Int64} (ha : BL[b]? = some (gJ cA r n M N)) (ht : tys[t0]? = some (cA, .long)) {j i : Nat} (hj : j < N) (hi : i < n) (hn : n < 2 ^ 31) (hdg : decode cc pc = .ok (.laload, 1))
    (kk : W p l e R s m args below meth c H locs cells slots Q (F0 m (pc + 1) ls (.long (M j i) :: rest))) : W p l e R s m args below meth c H locs cells slots Q (F0 m pc ls (.int (nI i) :: .ref (r j) :: rest)) := by
  obtain ⟨q0, h1, -⟩ := bl_get ha (gJ_get hj)
  exact va_lald hx hb hK hP q0 t0 h1 ht (vp_in_nI hi hn) hdg (by rw [nI_clamp (by omega)]; exact kk)
theorem g_iast (hx : p.tables.exec = Jvm.exec) (hb : c.code = cc) (hK : va_K D vwCl tys s) (hP : va_P D vwCl BL.flatten H) (hD : va_D A BL.flatten) (hS : va_S A H0 H locs) (b t0 : Nat) {cA : ClassId} {r : Nat → Nat} {n N : Nat} {M : Nat → Nat → Int32} (ha : BL[b]? = some (gI cA r n M N)) (ht : tys[t0]? = some (cA, .int)) {j i : Nat} {x : Int32} (hj : j < N) (hi : i < n) (hn : n < 2 ^ 31) (hdg : decode cc pc = .ok (.iastore, 1))
    (kk : ∀ (H1 : Heap) (locs1 : List Loc), va_P D vwCl (BL.set b (gI cA r n (va_up M j (upd (M j) i x)) N)).flatten H1 → va_D A (BL.set b (gI cA r n (va_up M j (upd (M j) i x)) N)).flatten → va_S A H0 H1 locs1 → W p l e R s m args below meth c H1 locs1 cells slots Q (F0 m (pc + 1) ls rest)) : W p l e R s m args below meth c H locs cells slots Q (F0 m pc ls (.int x :: .int (nI i) :: .ref (r j) :: rest)) := by
  obtain ⟨q0, h1, h2⟩ := bl_get ha (gI_get hj)
  have e := h2 (r j, .inl (cA, n, .inl (upd (M j) i x)))
  rw [gI_set hj] at e
  refine va_iast hx hb hK hP hD hS q0 t0 h1 ht (vp_in_nI hi hn) hdg (fun H1 locs1 h3 h4 h5 => ?_)
  rw [nI_clamp (by omega), e] at h3 h4
  exact kk H1 locs1 h3 h4 h5
theorem g_last (hx : p.tables.exec = Jvm.exec) (hb : c.code = cc) (hK : va_K D vwCl tys s) (hP : va_P D vwCl BL.flatten H) (hD : va_D A BL.flatten) (hS : va_S A H0 H locs) (b t0 : Nat) {cA : ClassId} {r : Nat → Nat} {n N : Nat} {M : Nat → Nat → Int64} (ha : BL[b]? = some (gJ cA r n M N)) (ht : tys[t0]? = some (cA, .long)) {j i : Nat} {x : Int64} (hj : j < N) (hi : i < n) (hn : n < 2 ^ 31) (hdg : decode cc pc = .ok (.lastore, 1))
    (kk : ∀ (H1 : Heap) (locs1 : List Loc), va_P D vwCl (BL.set b (gJ cA r n (va_up M j (vp_updL (M j) i x)) N)).flatten H1 → va_D A (BL.set b (gJ cA r n (va_up M j (vp_updL (M j) i x)) N)).flatten → va_S A H0 H1 locs1 → W p l e R s m args below meth c H1 locs1 cells slots Q (F0 m (pc + 1) ls rest)) : W p l e R s m args below meth c H locs cells slots Q (F0 m pc ls (.long x :: .int (nI i) :: .ref (r j) :: rest)) := by
  obtain ⟨q0, h1, h2⟩ := bl_get ha (gJ_get hj)
  have e := h2 (r j, .inl (cA, n, .inr (.inl (vp_updL (M j) i x))))
  rw [gJ_set hj] at e
  refine va_last hx hb hK hP hD hS q0 t0 h1 ht (vp_in_nI hi hn) hdg (fun H1 locs1 h3 h4 h5 => ?_)
  rw [nI_clamp (by omega), e] at h3 h4
  exact kk H1 locs1 h3 h4 h5
/-- the row of an outer array -/
theorem g_aald (hx : p.tables.exec = Jvm.exec) (hb : c.code = cc) (hK : va_K D vwCl tys s) (hP : va_P D vwCl BL.flatten H) (b t0 : Nat) {cA : ClassId} {r : Nat → Nat} {N : Nat} {ty : FieldType} (ha : BL[b]? = some (oQ cA a r N)) (ht : tys[t0]? = some (cA, .array ty)) {j : Nat} (hj : j < N) (hn : N < 2 ^ 31) (hdg : decode cc pc = .ok (.aaload, 1))
    (kk : W p l e R s m args below meth c H locs cells slots Q (F0 m (pc + 1) ls (.ref (r j) :: rest))) : W p l e R s m args below meth c H locs cells slots Q (F0 m pc ls (.int (nI j) :: .ref a :: rest)) := by
  obtain ⟨q0, h1, -⟩ := bl_get (i := 0) ha rfl
  have hin := vp_in_nI hj hn
  have hcl : (nI j).toNatClampNeg = j := nI_clamp (by omega)
  have hlt : (nI j).toNatClampNeg < N := by rw [hcl]; exact hj
  refine W.aald (v := .ref (r j)) (ty := .array ty) hx hb (hP q0 _ h1) ((hK.2 t0 _ ht).1 N (fun i => va_rf (if i < N then some (r i) else none))) rfl (fun q => by cases q) (by show ¬ (nI j < 0 ∨ (arrV _ _ _).slots.size ≤ _); rw [arrV_size]; exact hin) (by show (arrV _ _ _).slots[_]? = _; rw [arrV_read _ _ hlt, hcl]; show some (va_rf (if j < N then some (r j) else none)) = _; rw [if_pos hj]; rfl) rfl rfl hdg kk
-- calls
theorem b_recv (hK : va_K D vwCl tys s) (hP : va_P D vwCl BL.flatten H) (rb : Nat) {ci : Nat} {fs : List Value} {q : vw_C} (hrb : BL[rb]? = some [(a, .inr (ci, fs))]) (hc : vwCl[ci]? = some q) : ∃ cell : Cell, H[a]? = some cell ∧ cell.vm.isStatics = false ∧ s.vm.findClass q.1 = some cell.cls := by
  obtain ⟨q0, h1, -⟩ := bl_get (i := 0) hrb rfl
  exact va_recv hK hP hc h1
theorem b_preS {As : List Value} (hK : vK D cY s) (hP : va_P D vwCl BL.flatten H) (hD : va_D A BL.flatten) (isC : List Nat) (hC : isC.map (fun i => BL[i]?) = CL.map some) (hn : va_nd isC = true) : PreS s H (cP D cY As CL H.size) As :=
  ⟨cP_blind, fun U hU hW => ⟨rfl, by rw [hU], by rw [hU]; exact bl_cutP hP isC hC hn, hK.warm hW, (bl_cutD hD isC hC hn).weaken (fun _ _ _ _ => trivial)⟩⟩
theorem b_preV {As : List Value} (hK : vK D cY s) (hP : va_P D vwCl BL.flatten H) (hD : va_D A BL.flatten) (isC : List Nat) (hC : isC.map (fun i => BL[i]?) = CL.map some) (hn : va_nd isC = true) (rb : Nat) {ci : Nat} {fs : List Value} {q : vw_C} (hrb : BL[rb]? = some [(a, .inr (ci, fs))]) (hc : vwCl[ci]? = some q) : PreV s H q.1 a (cP D cY (.ref a :: As) CL H.size) As :=
  ⟨cP_blind, b_recv hK.1 hP rb hrb hc, (b_preS hK hP hD isC hC hn).2⟩
theorem ca_i {S : Type} {post : Int32 → S → Prop} {B : S → List va_W} {mc ms : Nat} {av : Array Value} (hr : va_Run p l e R s m args below meth c H locs cells slots mc ms (F0 m pc ls st0) rest (qI D cY post B (va_A CL.flatten H.size) av) (va_A CL.flatten H.size)) (hP : va_P D vwCl BL.flatten H) (hD : va_D A BL.flatten) (hS : va_S A H0 H locs) (hA : ∀ q, H0.size ≤ q → A q) (isC : List Nat) (hC : isC.map (fun i => BL[i]?) = CL.map some) (hn : va_nd isC = true) (hl : ∀ u, (B u).length = CL.length)
    (kk : ∀ (r : Int32) (u : S) (H1 : Heap) (locs1 : List Loc), post r u → va_P D vwCl (putB BL isC (B u)).flatten H1 → va_D A (putB BL isC (B u)).flatten → va_S A H0 H1 locs1 → W p l e R s m args below meth c H1 locs1 (cells + mc) (slots + ms) Q (F0 m (pc + 3) ls (.int r :: rest))) : W p l e R s m args below meth c H locs cells slots Q (F0 m pc ls st0) := by
  have hF := bl_free hD hS hA isC hC hn
  refine va_calli hr hS (fun q _ h => hF q h) hF (fun r u t H1 locs1 ht _ hq hB _ hk hS1 => ?_)
  obtain ⟨hP1, hD1⟩ := hB
  rw [ht] at hP1
  obtain ⟨hP2, hD2⟩ := bl_join hP hD isC hC hn (hl u) hk hF hP1 hD1
  exact kk r u H1 locs1 hq hP2 hD2 hS1
theorem ca_l {S : Type} {post : Int64 → S → Prop} {B : S → List va_W} {mc ms : Nat} {av : Array Value} (hr : va_Run p l e R s m args below meth c H locs cells slots mc ms (F0 m pc ls st0) rest (qL D cY post B (va_A CL.flatten H.size) av) (va_A CL.flatten H.size)) (hP : va_P D vwCl BL.flatten H) (hD : va_D A BL.flatten) (hS : va_S A H0 H locs) (hA : ∀ q, H0.size ≤ q → A q) (isC : List Nat) (hC : isC.map (fun i => BL[i]?) = CL.map some) (hn : va_nd isC = true) (hl : ∀ u, (B u).length = CL.length)
    (kk : ∀ (r : Int64) (u : S) (H1 : Heap) (locs1 : List Loc), post r u → va_P D vwCl (putB BL isC (B u)).flatten H1 → va_D A (putB BL isC (B u)).flatten → va_S A H0 H1 locs1 → W p l e R s m args below meth c H1 locs1 (cells + mc) (slots + ms) Q (F0 m (pc + 3) ls (.long r :: rest))) : W p l e R s m args below meth c H locs cells slots Q (F0 m pc ls st0) := by
  have hF := bl_free hD hS hA isC hC hn
  refine va_calll hr hS (fun q _ h => hF q h) hF (fun r u t H1 locs1 ht _ hq hB _ hk hS1 => ?_)
  obtain ⟨hP1, hD1⟩ := hB
  rw [ht] at hP1
  obtain ⟨hP2, hD2⟩ := bl_join hP hD isC hC hn (hl u) hk hF hP1 hD1
  exact kk r u H1 locs1 hq hP2 hD2 hS1
theorem ca_f {S : Type} {post : UInt32 → S → Prop} {B : S → List va_W} {mc ms : Nat} {av : Array Value} (hr : va_Run p l e R s m args below meth c H locs cells slots mc ms (F0 m pc ls st0) rest (qF D cY post B (va_A CL.flatten H.size) av) (va_A CL.flatten H.size)) (hP : va_P D vwCl BL.flatten H) (hD : va_D A BL.flatten) (hS : va_S A H0 H locs) (hA : ∀ q, H0.size ≤ q → A q) (isC : List Nat) (hC : isC.map (fun i => BL[i]?) = CL.map some) (hn : va_nd isC = true) (hl : ∀ u, (B u).length = CL.length)
    (kk : ∀ (r : UInt32) (u : S) (H1 : Heap) (locs1 : List Loc), post r u → va_P D vwCl (putB BL isC (B u)).flatten H1 → va_D A (putB BL isC (B u)).flatten → va_S A H0 H1 locs1 → W p l e R s m args below meth c H1 locs1 (cells + mc) (slots + ms) Q (F0 m (pc + 3) ls (.float r :: rest))) : W p l e R s m args below meth c H locs cells slots Q (F0 m pc ls st0) := by
  have hF := bl_free hD hS hA isC hC hn
  refine va_callf hr hS (fun q _ h => hF q h) hF (fun r u t H1 locs1 ht _ hq hB _ hk hS1 => ?_)
  obtain ⟨hP1, hD1⟩ := hB
  rw [ht] at hP1
  obtain ⟨hP2, hD2⟩ := bl_join hP hD isC hC hn (hl u) hk hF hP1 hD1
  exact kk r u H1 locs1 hq hP2 hD2 hS1
theorem ca_v {S : Type} {post : S → Prop} {B : S → List va_W} {mc ms : Nat} {av : Array Value} (hr : va_Run p l e R s m args below meth c H locs cells slots mc ms (F0 m pc ls st0) rest (qV D cY post B (va_A CL.flatten H.size) av) (va_A CL.flatten H.size)) (hP : va_P D vwCl BL.flatten H) (hD : va_D A BL.flatten) (hS : va_S A H0 H locs) (hA : ∀ q, H0.size ≤ q → A q) (isC : List Nat) (hC : isC.map (fun i => BL[i]?) = CL.map some) (hn : va_nd isC = true) (hl : ∀ u, (B u).length = CL.length)
    (kk : ∀ (u : S) (H1 : Heap) (locs1 : List Loc), post u → va_P D vwCl (putB BL isC (B u)).flatten H1 → va_D A (putB BL isC (B u)).flatten → va_S A H0 H1 locs1 → W p l e R s m args below meth c H1 locs1 (cells + mc) (slots + ms) Q (F0 m (pc + 3) ls rest)) : W p l e R s m args below meth c H locs cells slots Q (F0 m pc ls st0) := by
  have hF := bl_free hD hS hA isC hC hn
  refine va_callv hr hS (fun q _ h => hF q h) hF (fun u t H1 locs1 ht _ hq hB _ hk hS1 => ?_)
  obtain ⟨hP1, hD1⟩ := hB
  rw [ht] at hP1
  obtain ⟨hP2, hD2⟩ := bl_join hP hD isC hC hn (hl u) hk hF hP1 hD1
  exact kk u H1 locs1 hq hP2 hD2 hS1
-- returns
theorem r_i {S : Type} {post : Int32 → S → Prop} {B : S → List va_W} {v : Int32} (hx : p.tables.exec = Jvm.exec) (hb : c.code = cc) (hr : meth.sig.returnType = some .int) (hlocks : meth.locks = false) (hP : va_P D vwCl BL.flatten H) (hD : va_D A BL.flatten) (hS : va_S A s.heap H locs) (u : S) (hu : BL = B u) (hp : post v u) (hdg : decode cc pc = .ok (.ireturn, 1)) : W p l e R s m args below meth c H locs cells slots (MQ below (qI D cY post B A) args s cells slots A) (F0 m pc ls [.int v]) := by
  subst hu
  exact W.iret hx hb hr (fun t ht hW => ⟨⟨v, u, rfl, hp, by rw [ht]; exact hP, hD⟩, hS.F ht⟩) hS.2.2 hdg hlocks
theorem r_z {S : Type} {post : Int32 → S → Prop} {B : S → List va_W} {b : Bool} (hx : p.tables.exec = Jvm.exec) (hb : c.code = cc) (hr : meth.sig.returnType = some .boolean) (hlocks : meth.locks = false) (hP : va_P D vwCl BL.flatten H) (hD : va_D A BL.flatten) (hS : va_S A s.heap H locs) (u : S) (hu : BL = B u) (hp : post (bI b) u) (hdg : decode cc pc = .ok (.ireturn, 1)) : W p l e R s m args below meth c H locs cells slots (MQ below (qI D cY post B A) args s cells slots A) (F0 m pc ls [.int (bI b)]) := by
  subst hu
  exact W.zret (ty := .boolean) hx hb hr (by cases b <;> rfl) (fun t ht hW => ⟨⟨_, u, rfl, hp, by rw [ht]; exact hP, hD⟩, hS.F ht⟩) hS.2.2 hdg hlocks
theorem r_l {S : Type} {post : Int64 → S → Prop} {B : S → List va_W} {v : Int64} (hx : p.tables.exec = Jvm.exec) (hb : c.code = cc) (hr : meth.sig.returnType = some .long) (hlocks : meth.locks = false) (hP : va_P D vwCl BL.flatten H) (hD : va_D A BL.flatten) (hS : va_S A s.heap H locs) (u : S) (hu : BL = B u) (hp : post v u) (hdg : decode cc pc = .ok (.lreturn, 1)) : W p l e R s m args below meth c H locs cells slots (MQ below (qL D cY post B A) args s cells slots A) (F0 m pc ls [.long v]) := by
  subst hu
  exact W.lret hx hb hr (fun t ht hW => ⟨⟨v, u, rfl, hp, by rw [ht]; exact hP, hD⟩, hS.F ht⟩) hS.2.2 hdg hlocks
theorem r_v {S : Type} {post : S → Prop} {B : S → List va_W} (hx : p.tables.exec = Jvm.exec) (hb : c.code = cc) (hr : meth.sig.returnType = none) (hlocks : meth.locks = false) (hP : va_P D vwCl BL.flatten H) (hD : va_D A BL.flatten) (hS : va_S A s.heap H locs) (u : S) (hu : BL = B u) (hp : post u) (hdg : decode cc pc = .ok (.return_, 1)) : W p l e R s m args below meth c H locs cells slots (MQ below (qV D cY post B A) args s cells slots A) (F0 m pc ls []) := by
  subst hu
  exact W.vret hx hb hr (fun t ht hW => ⟨⟨u, rfl, hp, by rw [ht]; exact hP, hD⟩, hS.F ht⟩) hS.2.2 hdg hlocks
end MyRows
