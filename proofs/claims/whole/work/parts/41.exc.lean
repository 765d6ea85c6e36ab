-- ===== methods that throw: own rows =====
def xmv : Cond → Bool
  | .castable .. => true
  | .declares .. => true
  | _ => false
theorem xmv_warm {w : Cond} {s U : State} (h : xmv w = true) (hW : s.WarmedH U.vm) (hZ : va_Nw w s) : va_Nw w U := by
  match w, h, hZ with
  | .castable _ _, _, hZ => exact va_Nw.warmC hW hZ
  | .declares _, _, hZ => exact va_Nw.warmD hW hZ
theorem xmv_on {w : Cond} (h : xmv w = true) : w.onTables = true := by
  match w, h with
  | .castable _ _, _ => rfl
  | .declares _, _ => rfl
abbrev xN : List String := ["java/lang/RuntimeException", "java/lang/Exception"]
abbrev xL1 : List Cond := vx_atS RX8 212 "java/lang/IllegalArgumentException" xN
abbrev xL2 : List Cond := vx_atS RX8 167 "java/lang/IndexOutOfBoundsException" xN
abbrev xL3 : List Cond := vx_atS RX8 160 "java/lang/IllegalStateException" xN
theorem xL1_ok : (xL1.filter (fun w => !goodWord w)).all xmv = true := by decide +kernel
theorem xL2_ok : (xL2.filter (fun w => !goodWord w)).all xmv = true := by decide +kernel
theorem xL3_ok : (xL3.filter (fun w => !goodWord w)).all xmv = true := by decide +kernel
abbrev tNx : String := Bundle.tN
/-- what a throw asks of the tables, of texts and of two statics -/
def vX (A : Nat → Prop) (U : State) : Prop := (∀ w : Cond, xmv w = true → (w ∈ xL1 ∨ w ∈ xL2 ∨ w ∈ xL3) → va_Nw w U) ∧
  (∃ a0 a1 a2 a3 a4 : Nat, vk_R RX8 158 "the whole rest is 0" a0 U ∧ vk_R RX8 165 "a rank is not below 0" a1 U ∧ vk_R RX8 201 "there is no such state" a2 U ∧ vk_R RX8 206 "there is no such slot" a3 U ∧ vk_R RX8 210 "an argument is out of range" a4 U) ∧
  vx_Zq Bundle.tN "UNASSIGNED_STACK" Bundle.steD A U U.heap ∧ vx_Zq Bundle.tN "SUPPRESSED_SENTINEL" Bundle.listD A U U.heap
theorem vX.call {A : Nat → Prop} {U : State} {g : JFrame} {mk : MethodId} {a : Array Value} (h : vX A U) : vX A (U.calling g mk a) := by
  obtain ⟨h1, ⟨a0, a1, a2, a3, a4, k0, k1, k2, k3, k4⟩, h3, h4⟩ := h
  exact ⟨fun w hw hm => va_Nw.same (u := U) (U := U.calling g mk a) (xmv_on hw) rfl (h1 w hw hm), ⟨a0, a1, a2, a3, a4, vk_R.same (u := U) (U := U.calling g mk a) rfl k0, vk_R.same (u := U) (U := U.calling g mk a) rfl k1, vk_R.same (u := U) (U := U.calling g mk a) rfl k2, vk_R.same (u := U) (U := U.calling g mk a) rfl k3, vk_R.same (u := U) (U := U.calling g mk a) rfl k4⟩, vx_Zq.moved (u := U) (U := U.calling g mk a) (Vm.Alike.refl U.vm) h3, vx_Zq.moved (u := U) (U := U.calling g mk a) (Vm.Alike.refl U.vm) h4⟩
theorem vX.at {A A' : Nat → Prop} {s U : State} {H : Heap} {locs : List Loc} (h : vX A s) (hS : va_S A s.heap H locs) (hW : s.WarmedH U.vm) (hU : U.heap = H) (hA : ∀ q, A' q → A q) : vX A' U := by
  obtain ⟨h1, ⟨a0, a1, a2, a3, a4, k0, k1, k2, k3, k4⟩, h3, h4⟩ := h
  refine ⟨fun w hw hm => xmv_warm hw hW (h1 w hw hm), ⟨a0, a1, a2, a3, a4, vk_R.warm hW k0, vk_R.warm hW k1, vk_R.warm hW k2, vk_R.warm hW k3, vk_R.warm hW k4⟩, ?_, ?_⟩
  · rw [hU]; exact vx_Zq.narrow (vx_Zq.kept (vx_Zq.moved hW.alike h3) (fun a h1 h2 => hS.2.1 a h1 h2)) hA
  · rw [hU]; exact vx_Zq.narrow (vx_Zq.kept (vx_Zq.moved hW.alike h4) (fun a h1 h2 => hS.2.1 a h1 h2)) hA
abbrev cPX (D : va_G) (cY : Nat → ClassId) (av : List Value) (BL : List va_W) (sz : Nat) : Array Value → State → Prop := va_Pc av (fun U => U.heap.size = sz ∧ va_P D vwCl BL.flatten U.heap ∧ vK D cY U ∧ va_D (fun _ => True) BL.flatten ∧ vX (va_A BL.flatten sz) U)
abbrev qX {S : Type} (D : va_G) (cY : Nat → ClassId) (E0 : String) (B : S → List va_W) (A : Nat → Prop) := vx_X (S := S) (fun _ => True) (fun E u t => E = E0 ∧ cW D cY A (B u) t) A
theorem cPX_blind {D : va_G} {cY : Nat → ClassId} {av : List Value} {BL : List va_W} {sz : Nat} : FrameBlind (cPX D cY av BL sz) := fun a U g mk q => by
  obtain ⟨q0, q1, qP, qK, qD, qX⟩ := q
  exact ⟨q0, q1, qP, qK.call, qD, qX.call⟩
theorem mtX {l : Launch} {y : MethodName} {ws ws' : List Cond} {rm : Room} {cc : ByteArray} {maxL : Nat} {ret : Option FieldType} {D : va_G} {cY : Nat → ClassId} {av : List Value} {BL : List va_W} {sz : Nat} {Qc : (Nat → Prop) → Array Value → State → Outcome → State → Prop} {XC : (Nat → Prop) → String → State → State → Prop} {mc ms : Nat} (hy : plainName y.cls = true) (hw : ws = Cond.code y cc maxL ret :: ws') (hlen : (lg_sl av).length ≤ maxL)
    (body : ∀ (p : Program) (e : Env) (s : State) (m : MethodId) (below : List Frame) (meth : Method) (c : Code) (A : Nat → Prop) (ls : Array Slot), p.tables.exec = Jvm.exec → c.code = cc → meth.sig.returnType = ret → c.maxLocals = maxL → (∀ w ∈ ws, w.before av.toArray s = true) → s.vm.findClass y.cls = some m.cls → meth.locks = false → meth.name = y.name → s.heap.size = sz → va_P D vwCl BL.flatten s.heap → va_K D vwCl (tyz cY) s → vK D cY s → va_D A BL.flatten → va_S A s.heap s.heap [] → (∀ q, s.heap.size ≤ q → A q) → vX A s → (∀ x ∈ c.exceptionTable.toList, False) → lv_has ls maxL (lv_args 0 av) → W p l e rm s m av.toArray below meth c s.heap [] 0 0 (vx_MQ below (Qc A) (XC A) av.toArray s mc ms A) (F0 m 0 ls [])) :
    vx_Met l y ws rm (cPX D cY av BL sz) (Qc (va_A BL.flatten sz)) (XC (va_A BL.flatten sz)) mc ms (va_A BL.flatten sz) := by
  refine vx_ofW (cc := cc) (maxL := maxL) (ret := ret) hy hw ?_
  intro p e s m args below meth c s₁ B hml hnx hv
  obtain ⟨rfl, hsz, hP, hK, hD0, hX⟩ := hv
  have hts := atoms_spec (ws := ws) B.pre
  have hl := lv_entry av (n := maxL) hlen
  rw [lg_entry_eq]
  exact body p e s m below meth c _ _ B.exec B.bytes B.returns hml hts (findClass_of_methodNamed B.named) B.notSynchronized (name_of_methodNamed B.named B.method).1 hsz hP hK.1 hK hD0.self va_S.rf (fun q h => Or.inr (hsz ▸ h)) hX hnx hl
theorem x_hat {args : Array Value} {s : State} {L : List Cond} (hL : (L.filter (fun w => !goodWord w)).all xmv = true) (h1 : ∀ w ∈ L.filter goodWord, w.before args s = true) (h3 : ∀ w : Cond, xmv w = true → w ∈ L → va_Nw w s) : ∀ w ∈ L, w.before args s = true :=
  vx_hat (B := L.filter (fun w => !goodWord w)) h1 (fun w hw => hw) (fun w hw => by
    have hx := List.all_eq_true.mp hL w hw
    exact va_Nw.use (xmv_on hx) (h3 w hx (List.mem_filter.mp hw).1))
section MyRows6
variable {p : Program} {l : Launch} {e : Env} {R : Room} {s : State} {m : MethodId} {args : Array Value} {below : List Frame} {meth : Method} {c : Code} {H : Heap} {locs : List Loc} {cells slots : Nat}
variable {cc : ByteArray} {pc : Nat} {ls : Array Slot} {rest st0 : List Value} {D : va_G} {cY : Nat → ClassId} {A : Nat → Prop} {a : Nat} {BL CL : List va_W} {Qc : Array Value → State → Outcome → State → Prop}
/-- the world of a throw: nothing old has changed -/
theorem x_thr {S : Type} {B : S → List va_W} {E0 : String} (hP : va_P D vwCl BL.flatten H) (hD : va_D A BL.flatten) (hS : va_S A s.heap H locs) (u : S) (hu : BL = B u) : ∀ t : State, s.vm.Alike t.vm → H.size ≤ t.heap.size → (∀ q : Nat, q < H.size → t.heap[q]? = H[q]?) → qX D cY E0 B A E0 s t := by
  subst hu
  intro t _ h1 h2
  exact ⟨u, trivial, ⟨rfl, hP.kept (fun k x hx => h2 x.1 ((hP k x hx).lt)), hD⟩, Nat.le_trans hS.1 h1, fun q g1 g2 => (h2 q (Nat.lt_of_lt_of_le g1 hS.1)).trans (hS.2.1 q g1 g2)⟩
theorem b_preXS {As : List Value} (hK : vK D cY s) (hP : va_P D vwCl BL.flatten H) (hD : va_D A BL.flatten) (hS : va_S A s.heap H locs) (hA : ∀ q, s.heap.size ≤ q → A q) (hX : vX A s) (isC : List Nat) (hC : isC.map (fun i => BL[i]?) = CL.map some) (hn : va_nd isC = true) : PreS s H (cPX D cY As CL H.size) As :=
  ⟨cPX_blind, fun U hU hW => ⟨rfl, by rw [hU], by rw [hU]; exact bl_cutP hP isC hC hn, hK.warm hW, (bl_cutD hD isC hC hn).weaken (fun _ _ _ _ => trivial), vX.at hX hS hW hU (bl_free hD hS hA isC hC hn)⟩⟩
theorem b_preXV {As : List Value} (hK : vK D cY s) (hP : va_P D vwCl BL.flatten H) (hD : va_D A BL.flatten) (hS : va_S A s.heap H locs) (hA : ∀ q, s.heap.size ≤ q → A q) (hX : vX A s) (isC : List Nat) (hC : isC.map (fun i => BL[i]?) = CL.map some) (hn : va_nd isC = true) (rb : Nat) {ci : Nat} {fs : List Value} {q : vw_C} (hrb : BL[rb]? = some [(a, .inr (ci, fs))]) (hc : vwCl[ci]? = some q) : PreV s H q.1 a (cPX D cY (.ref a :: As) CL H.size) As :=
  ⟨cPX_blind, b_recv hK.1 hP rb hrb hc, (b_preXS hK hP hD hS hA hX isC hC hn).2⟩
/-- a call that throws for sure, and isn't caught here -/
theorem xc_v {E0 : String} {S0 : Type} {B0 : S0 → List va_W} {S : Type} {B : S → List va_W} {mc ms mc' ms' : Nat} {av : Array Value} (hr : vx_Run p l e R s m args below meth c H locs cells slots mc' ms' (F0 m pc ls st0) rest (qV (S := S0) D cY (fun _ => False) B0 (va_A CL.flatten H.size) av) (qX (S := Unit) D cY E0 (fun _ => CL) (va_A CL.flatten H.size)) (va_A CL.flatten H.size)) (hP : va_P D vwCl BL.flatten H) (hD : va_D A BL.flatten) (hS : va_S A s.heap H locs) (hA : ∀ q, s.heap.size ≤ q → A q) (isC : List Nat) (hC : isC.map (fun i => BL[i]?) = CL.map some) (hn : va_nd isC = true) (hpb : putB BL isC CL = BL)
    (hnx : ∀ x ∈ c.exceptionTable.toList, False) (hlocks : meth.locks = false) (u : S) (hu : BL = B u) (hc : cells + mc' ≤ mc) (hs : slots + ms' ≤ ms) : W p l e R s m args below meth c H locs cells slots (vx_MQ below Qc (qX D cY E0 B A) args s mc ms A) (F0 m pc ls st0) := by
  have hF := bl_free hD hS hA isC hC hn
  refine vx_callv hr hS (fun q _ h => hF q h) hF (fun q _ h => hF q h) (fun E ce q9 _ t H1 locs1 ht hal _ hB hsz hk hS1 hcell hv hcl => ?_) (fun _ _ _ _ _ _ hq _ _ _ _ => hq.elim)
  obtain ⟨rfl, hP1, hD1⟩ := hB
  rw [ht] at hP1
  obtain ⟨hP2, hD2⟩ := bl_join hP hD isC hC hn rfl hk hF hP1 hD1
  rw [hpb] at hP2 hD2
  subst hu
  exact vx_out (fun x hx => (hnx x hx).elim) hlocks hcell hv hcl (fun t' ht' _ => ⟨u, trivial, ⟨rfl, by rw [ht']; exact hP2, hD2⟩, hS1.F ht'⟩) hS1.2.2 hc hs
end MyRows6
