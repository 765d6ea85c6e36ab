/-! ===== the law's helpers: rows ===== -/
abbrev eIA : String := "java/lang/IllegalArgumentException"
abbrev eIB : String := "java/lang/IndexOutOfBoundsException"
abbrev eIS : String := "java/lang/IllegalStateException"
/-- which throw is caught by which row -/
def vH (U : State) : Prop := va_Nw (.castable eIA eIA) U ∧ va_Nw (.castable eIB eIB) U ∧ va_Nw (.castable eIS eIS) U ∧ va_Nc eIA eIB U ∧ va_Nc eIS eIB U
theorem vH.warm {s U : State} (hW : s.WarmedH U.vm) (h : vH s) : vH U := ⟨va_Nw.warmC hW h.1, va_Nw.warmC hW h.2.1, va_Nw.warmC hW h.2.2.1, va_Nc.moved hW.alike h.2.2.2.1, va_Nc.moved hW.alike h.2.2.2.2⟩
theorem vH.call {U : State} {g : JFrame} {mk : MethodId} {a : Array Value} (h : vH U) : vH (U.calling g mk a) :=
  ⟨va_Nw.same (u := U) (U := U.calling g mk a) rfl rfl h.1, va_Nw.same (u := U) (U := U.calling g mk a) rfl rfl h.2.1, va_Nw.same (u := U) (U := U.calling g mk a) rfl rfl h.2.2.1, va_Nc.moved (u := U) (U := U.calling g mk a) (Vm.Alike.refl U.vm) h.2.2.2.1, va_Nc.moved (u := U) (U := U.calling g mk a) (Vm.Alike.refl U.vm) h.2.2.2.2⟩
abbrev cPH (D : va_G) (cY : Nat → ClassId) (av : List Value) (BL : List va_W) (sz : Nat) : Array Value → State → Prop := va_Pc av (fun U => U.heap.size = sz ∧ va_P D vwCl BL.flatten U.heap ∧ vK D cY U ∧ va_D (fun _ => True) BL.flatten ∧ vX (va_A BL.flatten sz) U ∧ vH U)
theorem cPH_blind {D : va_G} {cY : Nat → ClassId} {av : List Value} {BL : List va_W} {sz : Nat} : FrameBlind (cPH D cY av BL sz) := fun a U g mk q => by
  obtain ⟨q0, q1, qP, qK, qD, qX, qH⟩ := q
  exact ⟨q0, q1, qP, qK.call, qD, qX.call, qH.call⟩
/-- nothing is thrown out of a helper -/
abbrev q0 (A : Nat → Prop) := vx_X (S := Unit) (fun _ => False) (fun _ _ _ => True) A
theorem mtH {l : Launch} {y : MethodName} {ws ws' : List Cond} {rm : Room} {cc : ByteArray} {maxL : Nat} {ret : Option FieldType} {hh : List (Nat × Nat × Nat × Nat)} {D : va_G} {cY : Nat → ClassId} {av : List Value} {BL : List va_W} {sz : Nat} {Qc : (Nat → Prop) → Array Value → State → Outcome → State → Prop} {mc ms : Nat} (hy : plainName y.cls = true) (hw : ws = Cond.codeWith y cc maxL ret hh :: ws') (hlen : (lg_sl av).length ≤ maxL)
    (body : ∀ (p : Program) (e : Env) (s : State) (m : MethodId) (below : List Frame) (meth : Method) (c : Code) (A : Nat → Prop) (ls : Array Slot), p.tables.exec = Jvm.exec → c.code = cc → meth.sig.returnType = ret → c.maxLocals = maxL → (∀ w ∈ ws, w.before av.toArray s = true) → s.vm.findClass y.cls = some m.cls → meth.locks = false → s.heap.size = sz → va_P D vwCl BL.flatten s.heap → va_K D vwCl (tyz cY) s → vK D cY s → va_D A BL.flatten → va_S A s.heap s.heap [] → (∀ q, s.heap.size ≤ q → A q) → vX A s → vH s → c.exceptionTable.toList = hh.map (fun q => ⟨q.1, q.2.1, q.2.2.1, q.2.2.2⟩) → lv_has ls maxL (lv_args 0 av) → W p l e rm s m av.toArray below meth c s.heap [] 0 0 (MQ below (Qc A) av.toArray s mc ms A) (F0 m 0 ls [])) :
    vx_Met l y ws rm (cPH D cY av BL sz) (Qc (va_A BL.flatten sz)) (q0 (va_A BL.flatten sz)) mc ms (va_A BL.flatten sz) := by
  refine vx_ofWH (cc := cc) (maxL := maxL) (ret := ret) (hh := hh) hy hw ?_
  intro p e s m args below meth c s₁ B hml hv
  obtain ⟨rfl, hsz, hP, hK, hD0, hX, hH⟩ := hv
  have hts := atoms_spec (ws := ws) B.pre
  have hl := lv_entry av (n := maxL) hlen
  rw [lg_entry_eq]
  exact vx_ret (body p e s m below meth c _ _ B.exec B.bytes B.returns hml hts (findClass_of_methodNamed B.named) B.notSynchronized hsz hP hK.1 hK hD0.self va_S.rf (fun q h => Or.inr (hsz ▸ h)) hX hH (vx_table (x := y) B (hts _ (by rw [hw]; exact List.mem_cons_self))) hl)
section MyRows7
variable {p : Program} {l : Launch} {e : Env} {R : Room} {s : State} {m : MethodId} {args : Array Value} {below : List Frame} {meth : Method} {c : Code} {H : Heap} {locs : List Loc} {cells slots : Nat} {Q : State → Prop}
variable {cc : ByteArray} {pc : Nat} {ls : Array Slot} {rest st0 : List Value} {D : va_G} {cY : Nat → ClassId} {A : Nat → Prop} {a : Nat} {BL CL : List va_W}
theorem b_preHS {As : List Value} (hK : vK D cY s) (hP : va_P D vwCl BL.flatten H) (hD : va_D A BL.flatten) (hS : va_S A s.heap H locs) (hA : ∀ q, s.heap.size ≤ q → A q) (hX : vX A s) (hH : vH s) (isC : List Nat) (hC : isC.map (fun i => BL[i]?) = CL.map some) (hn : va_nd isC = true) : PreS s H (cPH D cY As CL H.size) As :=
  ⟨cPH_blind, fun U hU hW => ⟨rfl, by rw [hU], by rw [hU]; exact bl_cutP hP isC hC hn, hK.warm hW, (bl_cutD hD isC hC hn).weaken (fun _ _ _ _ => trivial), vX.at hX hS hW hU (bl_free hD hS hA isC hC hn), hH.warm hW⟩⟩
/-- what is thrown is caught by the row x -/
theorem h_catch {E : String} {ce : Cell} {q : Nat} (hown : s.vm.findClass RL = some m.cls) (pre : List ExceptionTableEntry) (x : ExceptionTableEntry) (suf : List ExceptionTableEntry) (hsplit : c.exceptionTable.toList = pre ++ x :: suf) (hpass : ∀ z ∈ pre, z.catchType ≠ 0 ∧ ∃ nm : String, (Cond.classLink RL z.catchType nm).before args s = true ∧ va_Nc E nm s) (hx : covers x pc = true) (h0 : x.catchType ≠ 0) (hlink : (Cond.classLink RL x.catchType E).before args s = true) (hcast : va_Nw (.castable E E) s) (hcell : H[q]? = some ce) (hv : ce.vm = .none) (hcl : s.vm.findClass E = some ce.cls)
    (kk : W p l e R s m args below meth c H locs cells slots Q (F0 m x.handlerPc ls [.ref q])) : vx_W p l e R s m args below meth c H locs cells slots Q (F0 m pc ls rest) q :=
  vx_catch hown pre x suf hsplit (fun z hz => Or.inr (hpass z hz)) hx h0 hlink (va_Nw.use rfl hcast) hcell hv hcl kk
/-- a face method that throws for sure: its catcher goes on over the same world -/
theorem xh_v {E0 : String} {S0 : Type} {B0 : S0 → List va_W} {mc ms : Nat} {av : Array Value} (hr : vx_Run p l e R s m args below meth c H locs cells slots mc ms (F0 m pc ls st0) rest (qV (S := S0) D cY (fun _ => False) B0 (va_A CL.flatten H.size) av) (qX (S := Unit) D cY E0 (fun _ => CL) (va_A CL.flatten H.size)) (va_A CL.flatten H.size)) (hP : va_P D vwCl BL.flatten H) (hD : va_D A BL.flatten) (hS : va_S A s.heap H locs) (hA : ∀ q, s.heap.size ≤ q → A q) (isC : List Nat) (hC : isC.map (fun i => BL[i]?) = CL.map some) (hn : va_nd isC = true) (hpb : putB BL isC CL = BL)
    (kx : ∀ (H1 : Heap) (locs1 : List Loc) (q : Nat) (ce : Cell), va_P D vwCl BL.flatten H1 → va_D A BL.flatten → va_S A s.heap H1 locs1 → H1[q]? = some ce → ce.vm = .none → s.vm.findClass E0 = some ce.cls → vx_W p l e R s m args below meth c H1 locs1 (cells + mc) (slots + ms) Q (F0 m pc ls rest) q) : W p l e R s m args below meth c H locs cells slots Q (F0 m pc ls st0) := by
  have hF := bl_free hD hS hA isC hC hn
  refine vx_callv hr hS (fun q _ h => hF q h) hF (fun q _ h => hF q h) (fun E ce q9 _ t H1 locs1 ht hal _ hB hsz hk hS1 hcell hv hcl => ?_) (fun _ _ _ _ _ _ hq _ _ _ _ => hq.elim)
  obtain ⟨rfl, hP1, hD1⟩ := hB
  rw [ht] at hP1
  obtain ⟨hP2, hD2⟩ := bl_join hP hD isC hC hn rfl hk hF hP1 hD1
  rw [hpb] at hP2 hD2
  exact kx H1 locs1 q9 ce hP2 hD2 hS1 hcell hv hcl
theorem xh_i {E0 : String} {S0 : Type} {B0 : S0 → List va_W} {mc ms : Nat} {av : Array Value} (hr : vx_Run p l e R s m args below meth c H locs cells slots mc ms (F0 m pc ls st0) rest (qI (S := S0) D cY (fun _ _ => False) B0 (va_A CL.flatten H.size) av) (qX (S := Unit) D cY E0 (fun _ => CL) (va_A CL.flatten H.size)) (va_A CL.flatten H.size)) (hP : va_P D vwCl BL.flatten H) (hD : va_D A BL.flatten) (hS : va_S A s.heap H locs) (hA : ∀ q, s.heap.size ≤ q → A q) (isC : List Nat) (hC : isC.map (fun i => BL[i]?) = CL.map some) (hn : va_nd isC = true) (hpb : putB BL isC CL = BL)
    (kx : ∀ (H1 : Heap) (locs1 : List Loc) (q : Nat) (ce : Cell), va_P D vwCl BL.flatten H1 → va_D A BL.flatten → va_S A s.heap H1 locs1 → H1[q]? = some ce → ce.vm = .none → s.vm.findClass E0 = some ce.cls → vx_W p l e R s m args below meth c H1 locs1 (cells + mc) (slots + ms) Q (F0 m pc ls rest) q) : W p l e R s m args below meth c H locs cells slots Q (F0 m pc ls st0) := by
  have hF := bl_free hD hS hA isC hC hn
  refine vx_calli hr hS (fun q _ h => hF q h) hF (fun q _ h => hF q h) (fun E ce q9 _ t H1 locs1 ht hal _ hB hsz hk hS1 hcell hv hcl => ?_) (fun _ _ _ _ _ _ _ hq _ _ _ _ => hq.elim)
  obtain ⟨rfl, hP1, hD1⟩ := hB
  rw [ht] at hP1
  obtain ⟨hP2, hD2⟩ := bl_join hP hD isC hC hn rfl hk hF hP1 hD1
  rw [hpb] at hP2 hD2
  exact kx H1 locs1 q9 ce hP2 hD2 hS1 hcell hv hcl
theorem xh_l {E0 : String} {S0 : Type} {B0 : S0 → List va_W} {mc ms : Nat} {av : Array Value} (hr : vx_Run p l e R s m args below meth c H locs cells slots mc ms (F0 m pc ls st0) rest (qL (S := S0) D cY (fun _ _ => False) B0 (va_A CL.flatten H.size) av) (qX (S := Unit) D cY E0 (fun _ => CL) (va_A CL.flatten H.size)) (va_A CL.flatten H.size)) (hP : va_P D vwCl BL.flatten H) (hD : va_D A BL.flatten) (hS : va_S A s.heap H locs) (hA : ∀ q, s.heap.size ≤ q → A q) (isC : List Nat) (hC : isC.map (fun i => BL[i]?) = CL.map some) (hn : va_nd isC = true) (hpb : putB BL isC CL = BL)
    (kx : ∀ (H1 : Heap) (locs1 : List Loc) (q : Nat) (ce : Cell), va_P D vwCl BL.flatten H1 → va_D A BL.flatten → va_S A s.heap H1 locs1 → H1[q]? = some ce → ce.vm = .none → s.vm.findClass E0 = some ce.cls → vx_W p l e R s m args below meth c H1 locs1 (cells + mc) (slots + ms) Q (F0 m pc ls rest) q) : W p l e R s m args below meth c H locs cells slots Q (F0 m pc ls st0) := by
  have hF := bl_free hD hS hA isC hC hn
  refine vx_calll hr hS (fun q _ h => hF q h) hF (fun q _ h => hF q h) (fun E ce q9 _ t H1 locs1 ht hal _ hB hsz hk hS1 hcell hv hcl => ?_) (fun _ _ _ _ _ _ _ hq _ _ _ _ => hq.elim)
  obtain ⟨rfl, hP1, hD1⟩ := hB
  rw [ht] at hP1
  obtain ⟨hP2, hD2⟩ := bl_join hP hD isC hC hn rfl hk hF hP1 hD1
  rw [hpb] at hP2 hD2
  exact kx H1 locs1 q9 ce hP2 hD2 hS1 hcell hv hcl
theorem xh_f {E0 : String} {S0 S2 : Type} {B0 : S0 → List va_W} {B2 : S2 → List va_W} {mc ms : Nat} {av : Array Value} (hr : vx_Run p l e R s m args below meth c H locs cells slots mc ms (F0 m pc ls st0) rest (qF (S := S0) D cY (fun _ _ => False) B0 (va_A CL.flatten H.size) av) (qX (S := S2) D cY E0 B2 (va_A CL.flatten H.size)) (va_A CL.flatten H.size)) (hP : va_P D vwCl BL.flatten H) (hD : va_D A BL.flatten) (hS : va_S A s.heap H locs) (hA : ∀ q, s.heap.size ≤ q → A q) (isC : List Nat) (hC : isC.map (fun i => BL[i]?) = CL.map some) (hn : va_nd isC = true) (hln : ∀ u, (B2 u).length = CL.length)
    (kx : ∀ (u : S2) (H1 : Heap) (locs1 : List Loc) (q : Nat) (ce : Cell), va_P D vwCl (putB BL isC (B2 u)).flatten H1 → va_D A (putB BL isC (B2 u)).flatten → va_S A s.heap H1 locs1 → H1[q]? = some ce → ce.vm = .none → s.vm.findClass E0 = some ce.cls → vx_W p l e R s m args below meth c H1 locs1 (cells + mc) (slots + ms) Q (F0 m pc ls rest) q) : W p l e R s m args below meth c H locs cells slots Q (F0 m pc ls st0) := by
  have hF := bl_free hD hS hA isC hC hn
  refine vx_callf hr hS (fun q _ h => hF q h) hF (fun q _ h => hF q h) (fun E ce q9 u t H1 locs1 ht hal _ hB hsz hk hS1 hcell hv hcl => ?_) (fun _ _ _ _ _ _ _ hq _ _ _ _ => hq.elim)
  obtain ⟨rfl, hP1, hD1⟩ := hB
  rw [ht] at hP1
  obtain ⟨hP2, hD2⟩ := bl_join hP hD isC hC hn (hln u) hk hF hP1 hD1
  exact kx u H1 locs1 q9 ce hP2 hD2 hS1 hcell hv hcl
end MyRows7
def bL (b : Bool) : Int64 := if b then lN 1 else lN 0
