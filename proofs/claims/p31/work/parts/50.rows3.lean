/-! ===== constructors: rows ===== -/
theorem aoa_vm {t : FieldType} {u U : State} (h : u.vm = U.vm) (hh : va_AOA t u) : va_AOA t U := by
  cases u
  cases U
  dsimp only at h
  subst h
  exact hh
theorem aoa_warm {t : FieldType} {s U : State} (hW : s.WarmedH U.vm) (h : va_AOA t s) : va_AOA t U :=
  aoa_vm (u := s.setVm U.vm) rfl ((Cond.arrayOver_setVmC hW.alike (.array t)).trans h)
theorem aoa_call {t : FieldType} {U : State} {g : JFrame} {mk : MethodId} {a : Array Value} (h : va_AOA t U) : va_AOA t (U.calling g mk a) :=
  aoa_vm (u := U) rfl h
def vKA (D : va_G) (cY : Nat → ClassId) (U : State) : Prop := vK D cY U ∧ va_AOA .int U ∧ va_AOA .long U
theorem vKA.warm {D : va_G} {cY : Nat → ClassId} {s U : State} (hW : s.WarmedH U.vm) (h : vKA D cY s) : vKA D cY U := ⟨h.1.warm hW, aoa_warm hW h.2.1, aoa_warm hW h.2.2⟩
theorem vKA.call {D : va_G} {cY : Nat → ClassId} {U : State} {g : JFrame} {mk : MethodId} {a : Array Value} (h : vKA D cY U) : vKA D cY (U.calling g mk a) := ⟨h.1.call, aoa_call h.2.1, aoa_call h.2.2⟩
abbrev cPA (D : va_G) (cY : Nat → ClassId) (av : List Value) (BL : List va_W) (sz : Nat) : Array Value → State → Prop := va_Pc av (fun U => U.heap.size = sz ∧ va_P D vwCl BL.flatten U.heap ∧ vKA D cY U ∧ va_D (fun _ => True) BL.flatten)
theorem cPA_blind {D : va_G} {cY : Nat → ClassId} {av : List Value} {BL : List va_W} {sz : Nat} : FrameBlind (cPA D cY av BL sz) := fun a U g mk q => by
  obtain ⟨q0, q1, qP, qK, qD⟩ := q
  exact ⟨q0, q1, qP, qK.call, qD⟩
theorem mtA {l : Launch} {y : MethodName} {ws ws' : List Cond} {rm : Room} {cc : ByteArray} {maxL : Nat} {ret : Option FieldType} {D : va_G} {cY : Nat → ClassId} {av : List Value} {BL : List va_W} {sz : Nat} {Qc : (Nat → Prop) → Array Value → State → Outcome → State → Prop} {mc ms : Nat} (hy : plainName y.cls = true) (hw : ws = Cond.code y cc maxL ret :: ws') (hlen : (lg_sl av).length ≤ maxL)
    (body : ∀ (p : Program) (e : Env) (s : State) (m : MethodId) (below : List Frame) (meth : Method) (c : Code) (A : Nat → Prop) (ls : Array Slot), p.tables.exec = Jvm.exec → c.code = cc → meth.sig.returnType = ret → c.maxLocals = maxL → (∀ w ∈ ws, w.before av.toArray s = true) → s.vm.findClass y.cls = some m.cls → meth.locks = false → meth.name = y.name → s.heap.size = sz → va_P D vwCl BL.flatten s.heap → va_K D vwCl (tyz cY) s → vKA D cY s → va_D A BL.flatten → va_S A s.heap s.heap [] → (∀ q, s.heap.size ≤ q → A q) → lv_has ls maxL (lv_args 0 av) → W p l e rm s m av.toArray below meth c s.heap [] 0 0 (MQ below (Qc A) av.toArray s mc ms A) (F0 m 0 ls [])) :
    Met l y ws rm (cPA D cY av BL sz) (Qc (va_A BL.flatten sz)) mc ms (va_A BL.flatten sz) := by
  refine Met.ofW (cc := cc) (maxL := maxL) (ret := ret) hy hw ?_
  intro p e s m args below meth c s₁ B hml hv
  obtain ⟨rfl, hsz, hP, hK, hD0⟩ := hv
  have hts := atoms_spec (ws := ws) B.pre
  have hl := lv_entry av (n := maxL) hlen
  rw [lg_entry_eq]
  exact body p e s m below meth c _ _ B.exec B.bytes B.returns hml hts (findClass_of_methodNamed B.named) B.notSynchronized (name_of_methodNamed B.named B.method).1 hsz hP hK.1.1 hK hD0.self va_S.rf (fun q h => Or.inr (hsz ▸ h)) hl
theorem fl_app {BL : List va_W} {x : va_W} : (BL ++ [x]).flatten = BL.flatten ++ x := by simp
section MyRows3
variable {p : Program} {l : Launch} {e : Env} {R : Room} {s : State} {m : MethodId} {args : Array Value} {below : List Frame} {meth : Method} {c : Code} {H : Heap} {locs : List Loc} {cells slots : Nat} {Q : State → Prop}
variable {cc : ByteArray} {pc : Nat} {ls : Array Slot} {rest st0 : List Value} {D : va_G} {cY : Nat → ClassId} {A : Nat → Prop} {a : Nat} {BL CL : List va_W} {H0 : Heap}
theorem b_preA {As : List Value} (hK : vKA D cY s) (hP : va_P D vwCl BL.flatten H) (hD : va_D A BL.flatten) (isC : List Nat) (hC : isC.map (fun i => BL[i]?) = CL.map some) (hn : va_nd isC = true) : PreS s H (cPA D cY As CL H.size) As :=
  ⟨cPA_blind, fun U hU hW => ⟨rfl, by rw [hU], by rw [hU]; exact bl_cutP hP isC hC hn, hK.warm hW, (bl_cutD hD isC hC hn).weaken (fun _ _ _ _ => trivial)⟩⟩
theorem b_newI (hx : p.tables.exec = Jvm.exec) (hb : c.code = cc) (harr : (Cond.arrayClass .int).before args s = true) (hK : va_K D vwCl (tyz cY) s) (hP : va_P D vwCl BL.flatten H) (hD : va_D A BL.flatten) (hS : va_S A H0 H locs) (hA : ∀ q, H0.size ≤ q → A q) {n : Int32} (N' : Nat) (hn : ¬ n < 0) (hN : n.toNatClampNeg = N') (hbytes : N' * componentBytes .int ≤ 536870912) (k' n' : Nat) (hk' : cells + 1 ≤ k') (hn' : slots + N' ≤ n') (hcells : k' ≤ R.cells) (hslots : n' ≤ R.slots) (hdg : decode cc pc = .ok (.newarray .int, 2))
    (kk : ∀ (q : Nat) (H1 : Heap), va_P D vwCl (BL ++ [[(q, .inl (cY 0, N', .inl (fun _ => nI 0)))]] : List va_W).flatten H1 → va_D A (BL ++ [[(q, .inl (cY 0, N', .inl (fun _ => nI 0)))]] : List va_W).flatten → va_S A H0 H1 locs → W p l e R s m args below meth c H1 locs k' n' Q (F0 m (pc + 2) ls (.ref q :: rest))) : W p l e R s m args below meth c H locs cells slots Q (F0 m pc ls (.int n :: rest)) := by
  refine va_newa (atype := .int) hx hb (ty := .int) harr rfl hK hP hD hS hA (a0 := (N', .inl (fun _ => nI 0))) (fun cA => rfl) hn hN hbytes (Nat.le_trans hk' hcells) (Nat.le_trans hn' hslots) hdg (fun q cA H1 hK1 hP1 hD1 hS1 => ?_)
  have e1 : s.vm.findClass ("[" ++ (FieldType.int).toString) = some cA := (hK1.2 4 (cA, .int) rfl).2
  have e2 : s.vm.findClass ("[" ++ (FieldType.int).toString) = some (cY 0) := (hK.2 0 (cY 0, .int) rfl).2
  have e3 : cA = cY 0 := Option.some.inj (e1.symm.trans e2)
  subst e3
  refine W.widen hk' hn' (kk q H1 ?_ ?_ hS1)
  · rw [fl_app]; exact hP1
  · rw [fl_app]; exact hD1
theorem b_newJ (hx : p.tables.exec = Jvm.exec) (hb : c.code = cc) (harr : (Cond.arrayClass .long).before args s = true) (hK : va_K D vwCl (tyz cY) s) (hP : va_P D vwCl BL.flatten H) (hD : va_D A BL.flatten) (hS : va_S A H0 H locs) (hA : ∀ q, H0.size ≤ q → A q) {n : Int32} (N' : Nat) (hn : ¬ n < 0) (hN : n.toNatClampNeg = N') (hbytes : N' * componentBytes .long ≤ 536870912) (k' n' : Nat) (hk' : cells + 1 ≤ k') (hn' : slots + N' ≤ n') (hcells : k' ≤ R.cells) (hslots : n' ≤ R.slots) (hdg : decode cc pc = .ok (.newarray .long, 2))
    (kk : ∀ (q : Nat) (H1 : Heap), va_P D vwCl (BL ++ [[(q, .inl (cY 1, N', .inr (.inl (fun _ => lN 0))))]] : List va_W).flatten H1 → va_D A (BL ++ [[(q, .inl (cY 1, N', .inr (.inl (fun _ => lN 0))))]] : List va_W).flatten → va_S A H0 H1 locs → W p l e R s m args below meth c H1 locs k' n' Q (F0 m (pc + 2) ls (.ref q :: rest))) : W p l e R s m args below meth c H locs cells slots Q (F0 m pc ls (.int n :: rest)) := by
  refine va_newa (atype := .long) hx hb (ty := .long) harr rfl hK hP hD hS hA (a0 := (N', .inr (.inl (fun _ => lN 0)))) (fun cA => rfl) hn hN hbytes (Nat.le_trans hk' hcells) (Nat.le_trans hn' hslots) hdg (fun q cA H1 hK1 hP1 hD1 hS1 => ?_)
  have e1 : s.vm.findClass ("[" ++ (FieldType.long).toString) = some cA := (hK1.2 4 (cA, .long) rfl).2
  have e2 : s.vm.findClass ("[" ++ (FieldType.long).toString) = some (cY 1) := (hK.2 1 (cY 1, .long) rfl).2
  have e3 : cA = cY 1 := Option.some.inj (e1.symm.trans e2)
  subst e3
  refine W.widen hk' hn' (kk q H1 ?_ ?_ hS1)
  · rw [fl_app]; exact hP1
  · rw [fl_app]; exact hD1
theorem pl_nil {f : Nat → va_E} : va_pl [] f = [] := rfl
theorem pl_gI {r : Nat → Nat} {N K : Nat} {f : Nat → va_E} {cA : ClassId} : va_pl ([] ++ (List.range N).map r) (vr_up f ((List.range N).map r) (.inl (cA, K, .inl (fun _ => nI 0)))) = gI cA r K (fun _ _ => nI 0) N := by
  unfold va_pl gI
  rw [List.nil_append, List.map_map]
  refine List.map_congr_left (fun j hj => ?_)
  show (r j, _) = _
  rw [vr_up_in (List.mem_map.mpr ⟨j, hj, rfl⟩)]
theorem pl_gJ {r : Nat → Nat} {N K : Nat} {f : Nat → va_E} {cA : ClassId} : va_pl ([] ++ (List.range N).map r) (vr_up f ((List.range N).map r) (.inl (cA, K, .inr (.inl (fun _ => lN 0))))) = gJ cA r K (fun _ _ => lN 0) N := by
  unfold va_pl gJ
  rw [List.nil_append, List.map_map]
  refine List.map_congr_left (fun j hj => ?_)
  show (r j, _) = _
  rw [vr_up_in (List.mem_map.mpr ⟨j, hj, rfl⟩)]
theorem fl_app2 {BL : List va_W} {x y : va_W} : (BL ++ [x, y]).flatten = (BL.flatten ++ x) ++ y := by simp
theorem b_mnaI (hx : p.tables.exec = Jvm.exec) (hb : c.code = cc) {own : String} {index : Nat} (hown : s.vm.findClass own = some m.cls) (hcl : (Cond.classLink own index "[[I").before args s = true) (harr : (Cond.arrayClass .int).before args s = true) (hKA : vKA D cY s) (hP : va_P D vwCl BL.flatten H) (hD : va_D A BL.flatten) (hS : va_S A H0 H locs) (hA : ∀ q, H0.size ≤ q → A q) {n k : Int32} (N' K' : Nat) (hn : ¬ n < 0) (hk : ¬ k < 0) (hN : n.toNatClampNeg = N') (hM : k.toNatClampNeg = K')
    (hb1 : N' * 4 ≤ 536870912) (hb2 : K' * componentBytes .int ≤ 536870912) (hb3 : K' ≤ 536870912) (k' n' : Nat) (hk' : cells + 1 + N' ≤ k') (hn' : slots + N' + N' * K' ≤ n') (hcells : k' ≤ R.cells) (hslots : n' ≤ R.slots) (hdg : decode cc pc = .ok (.multianewarray index 2, 4))
    (kk : ∀ (q : Nat) (r : Nat → Nat) (H1 : Heap), va_P D vwCl (BL ++ [oQ (cY 2) q r N', gI (cY 0) r K' (fun _ _ => nI 0) N'] : List va_W).flatten H1 → va_D A (BL ++ [oQ (cY 2) q r N', gI (cY 0) r K' (fun _ _ => nI 0) N'] : List va_W).flatten → va_S A H0 H1 locs → W p l e R s m args below meth c H1 locs k' n' Q (F0 m (pc + 4) ls (.ref q :: rest))) : W p l e R s m args below meth c H locs cells slots Q (F0 m pc ls (.int k :: .int n :: rest)) := by
  have hK := hKA.1.1
  have hP0 : va_P D vwCl (BL.flatten ++ va_pl [] (fun _ => .inr (0, []))) H := by rw [pl_nil, List.append_nil]; exact hP
  have hD0 : va_D A (BL.flatten ++ va_pl [] (fun _ => .inr (0, []))) := by rw [pl_nil, List.append_nil]; exact hD
  refine va_mna (z := (K', .inl (fun _ => nI 0))) hx hb hown hcl hKA.2.1 harr (hK.2 0 (cY 0, .int) rfl).2 hK hP0 hD0 hS hA hn hk hN hM hb1 hb2 hb3 rfl rfl (Nat.le_trans (by omega) hcells) (Nat.le_trans (by omega) hslots) (fun cA => arrV_new cA K' (.int 0)) hdg (fun q r cA H1 _ _ hK1 hP1 hD1 hS1 => ?_)
  have e1 : s.vm.findClass ("[" ++ (FieldType.array .int).toString) = some cA := (hK1.2 4 (cA, .array .int) rfl).2
  have e2 : s.vm.findClass ("[" ++ (FieldType.array .int).toString) = some (cY 2) := (hK.2 2 (cY 2, .array .int) rfl).2
  have e3 : cA = cY 2 := Option.some.inj (e1.symm.trans e2)
  subst e3
  rw [pl_gI] at hP1 hD1
  refine W.widen hk' hn' (kk q r H1 ?_ ?_ hS1)
  · rw [fl_app2]; exact hP1
  · rw [fl_app2]; exact hD1
theorem b_mnaJ (hx : p.tables.exec = Jvm.exec) (hb : c.code = cc) {own : String} {index : Nat} (hown : s.vm.findClass own = some m.cls) (hcl : (Cond.classLink own index "[[J").before args s = true) (harr : (Cond.arrayClass .long).before args s = true) (hKA : vKA D cY s) (hP : va_P D vwCl BL.flatten H) (hD : va_D A BL.flatten) (hS : va_S A H0 H locs) (hA : ∀ q, H0.size ≤ q → A q) {n k : Int32} (N' K' : Nat) (hn : ¬ n < 0) (hk : ¬ k < 0) (hN : n.toNatClampNeg = N') (hM : k.toNatClampNeg = K')
    (hb1 : N' * 4 ≤ 536870912) (hb2 : K' * componentBytes .long ≤ 536870912) (hb3 : K' ≤ 536870912) (k' n' : Nat) (hk' : cells + 1 + N' ≤ k') (hn' : slots + N' + N' * K' ≤ n') (hcells : k' ≤ R.cells) (hslots : n' ≤ R.slots) (hdg : decode cc pc = .ok (.multianewarray index 2, 4))
    (kk : ∀ (q : Nat) (r : Nat → Nat) (H1 : Heap), va_P D vwCl (BL ++ [oQ (cY 3) q r N', gJ (cY 1) r K' (fun _ _ => lN 0) N'] : List va_W).flatten H1 → va_D A (BL ++ [oQ (cY 3) q r N', gJ (cY 1) r K' (fun _ _ => lN 0) N'] : List va_W).flatten → va_S A H0 H1 locs → W p l e R s m args below meth c H1 locs k' n' Q (F0 m (pc + 4) ls (.ref q :: rest))) : W p l e R s m args below meth c H locs cells slots Q (F0 m pc ls (.int k :: .int n :: rest)) := by
  have hK := hKA.1.1
  have hP0 : va_P D vwCl (BL.flatten ++ va_pl [] (fun _ => .inr (0, []))) H := by rw [pl_nil, List.append_nil]; exact hP
  have hD0 : va_D A (BL.flatten ++ va_pl [] (fun _ => .inr (0, []))) := by rw [pl_nil, List.append_nil]; exact hD
  refine va_mna (z := (K', .inr (.inl (fun _ => lN 0)))) hx hb hown hcl hKA.2.2 harr (hK.2 1 (cY 1, .long) rfl).2 hK hP0 hD0 hS hA hn hk hN hM hb1 hb2 hb3 rfl rfl (Nat.le_trans (by omega) hcells) (Nat.le_trans (by omega) hslots) (fun cA => arrV_new cA K' (.long 0)) hdg (fun q r cA H1 _ _ hK1 hP1 hD1 hS1 => ?_)
  have e1 : s.vm.findClass ("[" ++ (FieldType.array .long).toString) = some cA := (hK1.2 4 (cA, .array .long) rfl).2
  have e2 : s.vm.findClass ("[" ++ (FieldType.array .long).toString) = some (cY 3) := (hK.2 3 (cY 3, .array .long) rfl).2
  have e3 : cA = cY 3 := Option.some.inj (e1.symm.trans e2)
  subst e3
  rw [pl_gJ] at hP1 hD1
  refine W.widen hk' hn' (kk q r H1 ?_ ?_ hS1)
  · rw [fl_app2]; exact hP1
  · rw [fl_app2]; exact hD1
theorem b_new {own C : String} {T : u_T} {N ci index : Nat} {Ts : List Cond} (hx : p.tables.exec = Jvm.exec) (hb : c.code = cc) (hts : ∀ w ∈ Ts, w.before args s = true) (hin : ∀ w ∈ u_ws C T N, w ∈ Ts) (ty : Nat → FieldType) (hty : ∀ k, k < N → parseFieldDescriptor (T k).2.2.1 = some (ty k)) (hown : s.vm.findClass own = some m.cls) (hcl : (Cond.classLink own index C).before args s = true) (hinst : (Cond.instantiable C N).before args s = true) (hini : (Cond.initialized C).before args s = true)
    (hK : va_K D vwCl (tyz cY) s) (hP : va_P D vwCl BL.flatten H) (hD : va_D A BL.flatten) (hS : va_S A H0 H locs) (hA : ∀ q, H0.size ≤ q → A q) (hc : vwCl[ci]? = some (C, T, N)) {fs : List Value} (hfs : ∀ j, j < N → defaultValue (ty j) = vp_V fs j) (k' n' : Nat) (hk' : cells + 1 ≤ k') (hn' : slots + N ≤ n') (hcells : k' ≤ R.cells) (hslots : n' ≤ R.slots) (hdg : decode cc pc = .ok (.new index, 3))
    (kk : ∀ (q : Nat) (H1 : Heap), va_P D vwCl (BL ++ [[(q, .inr (ci, fs))]] : List va_W).flatten H1 → va_D A (BL ++ [[(q, .inr (ci, fs))]] : List va_W).flatten → va_S A H0 H1 locs → W p l e R s m args below meth c H1 locs k' n' Q (F0 m (pc + 3) ls (.ref q :: rest))) : W p l e R s m args below meth c H locs cells slots Q (F0 m pc ls rest) := by
  refine va_new (c0 := c) hx hb hts hin ty hty hown hcl hinst hini hK hP hD hS hA hc hfs (Nat.le_trans hk' hcells) (Nat.le_trans hn' hslots) hdg (fun q H1 hP1 hD1 hS1 => ?_)
  refine W.widen hk' hn' (kk q H1 ?_ ?_ hS1)
  · rw [fl_app]; exact hP1
  · rw [fl_app]; exact hD1
/-- behind a constructor: the callee's blocks, and new ones -/
theorem ca_vN {S : Type} {post : S → Prop} {B N : S → List va_W} {mc ms : Nat} {av : Array Value} (hr : va_Run p l e R s m args below meth c H locs cells slots mc ms (F0 m pc ls st0) rest (qV D cY post (fun u => B u ++ N u) (va_A CL.flatten H.size) av) (va_A CL.flatten H.size)) (hP : va_P D vwCl BL.flatten H) (hD : va_D A BL.flatten) (hS : va_S A H0 H locs) (hA : ∀ q, H0.size ≤ q → A q) (isC : List Nat) (hC : isC.map (fun i => BL[i]?) = CL.map some) (hn : va_nd isC = true) (hl : ∀ u, (B u).length = CL.length) (k' n' : Nat) (hk' : cells + mc ≤ k') (hn' : slots + ms ≤ n')
    (kk : ∀ (u : S) (H1 : Heap) (locs1 : List Loc), post u → va_P D vwCl (putB BL isC (B u) ++ N u).flatten H1 → va_D A (putB BL isC (B u) ++ N u).flatten → va_S A H0 H1 locs1 → W p l e R s m args below meth c H1 locs1 k' n' Q (F0 m (pc + 3) ls rest)) : W p l e R s m args below meth c H locs cells slots Q (F0 m pc ls st0) := by
  have hF := bl_free hD hS hA isC hC hn
  refine va_callv hr hS (fun q _ h => hF q h) hF (fun u t H1 locs1 ht _ hq hB _ hk hS1 => ?_)
  obtain ⟨hP1, hD1⟩ := hB
  rw [ht] at hP1
  obtain ⟨RL, r1, r2⟩ := bl_split isC BL CL hC hn
  have hP' := vP_app.mp (vP_perm r1 hP)
  have hD' := vD_mem.mp (vD_perm r1 hD)
  have hnd := hD'.1
  rw [List.map_append, List.nodup_append] at hnd
  have hlt : ∀ q ∈ RL, q.1 < H.size := fun q hq => (vP_mem.mp hP'.2 q hq).lt
  have hout : ∀ q ∈ RL, ¬ va_A CL.flatten H.size q.1 := by
    intro q hq h
    rcases vA_mem.mp h with ⟨e, h⟩ | h
    · exact hnd.2.2 q.1 (List.mem_map.mpr ⟨(q.1, e), h, rfl⟩) q.1 (List.mem_map.mpr ⟨q, hq, rfl⟩) rfl
    · exact absurd (hlt q hq) (Nat.not_lt.mpr h)
  have hD1' := vD_mem.mp hD1
  have rr : ((putB BL isC (B u)) ++ N u).flatten.Perm ((B u ++ N u).flatten ++ RL) := by
    rw [List.flatten_append, List.flatten_append]
    refine ((r2 (B u) (hl u)).append_right _).trans ?_
    rw [List.append_assoc, List.append_assoc]
    exact List.Perm.append_left _ List.perm_append_comm
  refine W.widen hk' hn' (kk u H1 locs1 hq (vP_perm rr.symm (vP_app.mpr ⟨hP1, vP_mem.mpr fun q hq => (vP_mem.mp hP'.2 q hq).kept (hk q.1 (hlt q hq) (hout q hq))⟩)) (vD_perm rr.symm (vD_mem.mpr ⟨?_, fun q hq => ?_⟩)) hS1)
  · rw [List.map_append, List.nodup_append]
    refine ⟨hD1'.1, hnd.2.1, fun a ha b hb e => ?_⟩
    obtain ⟨x, hx, rfl⟩ := List.mem_map.mp ha
    obtain ⟨y, hy, rfl⟩ := List.mem_map.mp hb
    exact hout y hy (e ▸ hD1'.2 x hx)
  · rcases List.mem_append.mp hq with h | h
    · exact hF q.1 (hD1'.2 q h)
    · exact hD'.2 q (List.mem_append_right _ h)
end MyRows3
