/-! ===== the law's loop ===== -/
section MyRows10
variable {p : Program} {l : Launch} {e : Env} {R : Room} {s : State} {m : MethodId} {args : Array Value} {below : List Frame} {meth : Method} {c : Code} {H : Heap} {locs : List Loc} {cells slots : Nat} {Q : State → Prop}
variable {cc : ByteArray} {pc : Nat} {ls : Array Slot} {rest st0 : List Value} {D : va_G} {cY : Nat → ClassId} {A : Nat → Prop} {a : Nat} {BL CL : List va_W} {H0 : Heap}
theorem b_newD (hx : p.tables.exec = Jvm.exec) (hb : c.code = cc) (harr : (Cond.arrayClass .double).before args s = true) (hK : va_K D vwCl (tyz cY) s) (hP : va_P D vwCl BL.flatten H) (hD : va_D A BL.flatten) (hS : va_S A H0 H locs) (hA : ∀ q, H0.size ≤ q → A q) {n : Int32} (N' : Nat) (hn : ¬ n < 0) (hN : n.toNatClampNeg = N') (hbytes : N' * componentBytes .double ≤ 536870912) (k' n' : Nat) (hk' : cells + 1 ≤ k') (hn' : slots + N' ≤ n') (hcells : k' ≤ R.cells) (hslots : n' ≤ R.slots) (hdg : decode cc pc = .ok (.newarray .double, 2))
    (kk : ∀ (q : Nat) (H1 : Heap), va_P D vwCl (BL ++ [[(q, .inl (cY 4, N', .inr (.inr (.inr (.inl (fun _ => 0))))))]] : List va_W).flatten H1 → va_D A (BL ++ [[(q, .inl (cY 4, N', .inr (.inr (.inr (.inl (fun _ => 0))))))]] : List va_W).flatten → va_S A H0 H1 locs → W p l e R s m args below meth c H1 locs k' n' Q (F0 m (pc + 2) ls (.ref q :: rest))) : W p l e R s m args below meth c H locs cells slots Q (F0 m pc ls (.int n :: rest)) := by
  refine va_newa (atype := .double) hx hb (ty := .double) harr rfl hK hP hD hS hA (a0 := (N', .inr (.inr (.inr (.inl (fun _ => 0)))))) (fun cA => rfl) hn hN hbytes (Nat.le_trans hk' hcells) (Nat.le_trans hn' hslots) hdg (fun q cA H1 hK1 hP1 hD1 hS1 => ?_)
  have e1 : s.vm.findClass ("[" ++ (FieldType.double).toString) = some cA := (hK1.2 5 (cA, .double) rfl).2
  have e2 : s.vm.findClass ("[" ++ (FieldType.double).toString) = some (cY 4) := (hK.2 4 (cY 4, .double) rfl).2
  have e3 : cA = cY 4 := Option.some.inj (e1.symm.trans e2)
  subst e3
  refine W.widen hk' hn' (kk q H1 ?_ ?_ hS1)
  · rw [fl_app]; exact hP1
  · rw [fl_app]; exact hD1
end MyRows10
theorem and31 (x : Int32) : ∃ r, r < 32 ∧ x &&& nI 31 = nI r := by
  refine ⟨x.toBitVec.toNat &&& 31, ?_, ?_⟩
  · exact Nat.lt_of_le_of_lt Nat.and_le_right (by decide)
  · apply Int32.toBitVec_inj.1
    rw [Int32.toBitVec_and, nI_bv, nI_bv]
    apply BitVec.eq_of_toNat_eq
    have h31 : x.toBitVec.toNat &&& 31 ≤ 31 := Nat.and_le_right
    rw [BitVec.toNat_and, BitVec.toNat_ofNat, BitVec.toNat_ofNat, Nat.mod_eq_of_lt (a := 31) (by decide), Nat.mod_eq_of_lt (by omega)]
theorem LV_0 {fG fW : Nat → Nat → Int32} (hG : ∀ i j, i < 6 → j < 12 → fG i j = nI i) (hW : ∀ i j, i < 6 → j < 6 → fW i j = (if i = j then nI 1 else nI 0)) : LV 1 1 (fun i _ => i) (fun _ => 0) fG fW (fun _ => nI 0) (fun _ => nI 0) (fun _ => nI 0) (fun _ => nI 0) (fun _ => nI 0) := by
  refine ⟨⟨by decide, by decide, by decide, by decide⟩, fun i j hi hj => hG i j (by omega) (by omega), fun i j hi hj => hi, fun i j hi hj => ?_, fun i j hi hj => ?_, fun q hq => ⟨rfl, show inR (nI 0) (-100000) (nI 100000) = true by decide⟩, fun q hq => ⟨rfl, rfl, Nat.succ_pos 5⟩⟩
  · have h1 : i = 0 := by omega
    have h2 : j = 0 := by omega
    subst h1
    subst h2
    exact hW 0 0 (by decide) (by decide)
  · have h1 : i = 0 := by omega
    subst h1
    rfl
set_option maxHeartbeats 4000000 in
set_option maxRecDepth 100000 in
theorem law_sw {p : Program} {l : Launch} {e : Env} {s : State} {m : MethodId} {below : List Frame} {meth : Method} {c : Code} {H : Heap} {locs : List Loc} {cells slots : Nat} {Q : State → Prop} {D : va_G} {cY : Nat → ClassId} {A : Nat → Prop} {sc L : Nat} {xs : Nat → Int32} {b : Nat → Nat} {rr : Nat → Nat → Nat} {a : Nat → Nat} {oo od z0 : Nat} {ls : Array Slot} (E : LE p s m sc c D cY A L xs) (hlT : l.stackTraces = false) (hi4 : z0 + 4 ≤ L) (hL : L ≤ 2048) (hroom : cells + 1 ≤ room_1.cells ∧ slots + 6 ≤ room_1.slots) {n k : Nat} {g : Nat → Nat → Nat} {col : Nat → Nat} {fG fW : Nat → Nat → Int32} {fR fH fA fS : Nat → Nat → Int64} {fRs : Nat → Int64} {fOt : Nat → Int32} {fMi : Nat → Int64} {fEn fEb fPy : Nat → Int32} {fB : Nat → Nat → Int64} {fCc : Nat → Int32} {th : Int32} {fto fpay fcol : Nat → Int32} {fnow fthn foth fmnr fwts : Nat → Int64} {fmap fnxt : Nat → Int32} {fO : Nat → Int64} {fE : Nat → UInt64} (hI : LV n k g col fG fW fPy fCc fto fpay fcol) (hP : va_P D vwCl (LB cY b rr a oo od n k n k fG fW fR fH fA fS fRs fOt fMi fEn fEb fPy fB fCc th fto fpay fcol fnow fthn foth fmnr fwts fmap fnxt fO fE).flatten H) (hD : va_D A (LB cY b rr a oo od n k n k fG fW fR fH fA fS fRs fOt fMi fEn fEb fPy fB fCc th fto fpay fcol fnow fthn foth fmnr fwts fmap fnxt fO fE).flatten) (hS : va_S A s.heap H locs) (hl : lv_has ls 9 [(5, .int (nI (z0))), (4, .ref od), (3, .ref oo), (2, .ref (a 0)), (1, .ref (b 0)), (0, .ref sc)]) (K : LK p l e s m below meth c sc D cY A b rr a oo od z0 cells slots Q) (r : Nat) (hr : r < 32) : W p l e room_1 s m #[Value.ref sc] below meth c H locs cells slots Q (F0 m 44 ls [.int (nI r)]) := by
  obtain ⟨hx, hb, hml, hts, hown, hK, hVK, hA, hX, hH, hsc, hscl, hscA⟩ := id E
  match r, hr with
  | 0, _ =>
    refine lv_tableIn (off := 128) (tgt := 172) hx hb dL_law__44 (by decide) (by decide) (by decide +kernel) (by decide) ?_
    exact lc_begin E hlT hi4 hL hroom hI hP hD hS hl K
  | 1, _ =>
    refine lv_tableIn (off := 176) (tgt := 220) hx hb dL_law__44 (by decide) (by decide) (by decide +kernel) (by decide) ?_
    exact lc_lead E hlT hi4 hL hroom hI hP hD hS hl K
  | 2, _ =>
    refine lv_tableIn (off := 256) (tgt := 300) hx hb dL_law__44 (by decide) (by decide) (by decide +kernel) (by decide) ?_
    exact lc_swap E hlT hi4 hL hroom hI hP hD hS hl K
  | 3, _ =>
    refine lv_tableIn (off := 316) (tgt := 360) hx hb dL_law__44 (by decide) (by decide) (by decide +kernel) (by decide) ?_
    exact lc_pay E hlT hi4 hL hroom hI hP hD hS hl K
  | 4, _ =>
    refine lv_tableIn (off := 384) (tgt := 428) hx hb dL_law__44 (by decide) (by decide) (by decide +kernel) (by decide) ?_
    exact lc_colour E hlT hi4 hL hroom hI hP hD hS hl K
  | 5, _ =>
    refine lv_tableIn (off := 452) (tgt := 496) hx hb dL_law__44 (by decide) (by decide) (by decide +kernel) (by decide) ?_
    exact lc_weight E hlT hi4 hL hroom hI hP hD hS hl K
  | 6, _ =>
    refine lv_tableIn (off := 520) (tgt := 564) hx hb dL_law__44 (by decide) (by decide) (by decide +kernel) (by decide) ?_
    exact lc_words E hlT hi4 hL hroom hI hP hD hS hl K
  | 7, _ =>
    refine lv_tableIn (off := 575) (tgt := 619) hx hb dL_law__44 (by decide) (by decide) (by decide +kernel) (by decide) ?_
    exact lc_law E hlT hi4 hL hroom hI hP hD hS hl K
  | 8, _ =>
    refine lv_tableIn (off := 654) (tgt := 698) hx hb dL_law__44 (by decide) (by decide) (by decide +kernel) (by decide) ?_
    exact lc_lawAnew E hlT hi4 hL hroom hI hP hD hS hl K
  | 9, _ =>
    refine lv_tableIn (off := 733) (tgt := 777) hx hb dL_law__44 (by decide) (by decide) (by decide +kernel) (by decide) ?_
    exact lc_distance E hlT hi4 hL hroom hI hP hD hS hl K
  | 10, _ =>
    refine lv_tableIn (off := 812) (tgt := 856) hx hb dL_law__44 (by decide) (by decide) (by decide +kernel) (by decide) ?_
    exact lc_mixing E hlT hi4 hL hroom hI hP hD hS hl K
  | 11, _ =>
    refine lv_tableIn (off := 868) (tgt := 912) hx hb dL_law__44 (by decide) (by decide) (by decide +kernel) (by decide) ?_
    exact lc_apart E hlT hi4 hL hroom hI hP hD hS hl K
  | 12, _ =>
    refine lv_tableIn (off := 947) (tgt := 991) hx hb dL_law__44 (by decide) (by decide) (by decide +kernel) (by decide) ?_
    exact lc_together E hlT hi4 hL hroom hI hP hD hS hl K
  | 13, _ =>
    refine lv_tableIn (off := 1014) (tgt := 1058) hx hb dL_law__44 (by decide) (by decide) (by decide +kernel) (by decide) ?_
    exact lc_hits E hlT hi4 hL hroom hI hP hD hS hl K
  | 14, _ =>
    refine lv_tableIn (off := 1093) (tgt := 1137) hx hb dL_law__44 (by decide) (by decide) (by decide +kernel) (by decide) ?_
    exact lc_reach E hlT hi4 hL hroom hI hP hD hS hl K
  | 15, _ =>
    refine lv_tableIn (off := 1149) (tgt := 1193) hx hb dL_law__44 (by decide) (by decide) (by decide +kernel) (by decide) ?_
    exact lc_closed E hlT hi4 hL hroom hI hP hD hS hl K
  | 16, _ =>
    refine lv_tableIn (off := 1162) (tgt := 1206) hx hb dL_law__44 (by decide) (by decide) (by decide +kernel) (by decide) ?_
    exact lc_period E hlT hi4 hL hroom hI hP hD hS hl K
  | 17, _ =>
    refine lv_tableIn (off := 1218) (tgt := 1262) hx hb dL_law__44 (by decide) (by decide) (by decide +kernel) (by decide) ?_
    exact lc_rest E hlT hi4 hL hroom hI hP hD hS hl K
  | 18, _ =>
    refine lv_tableIn (off := 1273) (tgt := 1317) hx hb dL_law__44 (by decide) (by decide) (by decide +kernel) (by decide) ?_
    exact lc_share E hlT hi4 hL hroom hI hP hD hS hl K
  | 19, _ =>
    refine lv_tableIn (off := 1351) (tgt := 1395) hx hb dL_law__44 (by decide) (by decide) (by decide +kernel) (by decide) ?_
    exact lc_ranked E hlT hi4 hL hroom hI hP hD hS hl K
  | 20, _ =>
    refine lv_tableIn (off := 1407) (tgt := 1451) hx hb dL_law__44 (by decide) (by decide) (by decide +kernel) (by decide) ?_
    exact lc_walk E hlT hi4 hL hroom hI hP hD hS hl K
  | 21, _ =>
    refine lv_tableIn (off := 1487) (tgt := 1531) hx hb dL_law__44 (by decide) (by decide) (by decide +kernel) (by decide) ?_
    exact lc_draw E hlT hi4 hL hroom hI hP hD hS hl K
  | 22, _ =>
    refine lv_tableIn (off := 1543) (tgt := 1587) hx hb dL_law__44 (by decide) (by decide) (by decide +kernel) (by decide) ?_
    exact lc_drift E hlT hi4 hL hroom hI hP hD hS hl K
  | 23, _ =>
    refine lv_tableIn (off := 1598) (tgt := 1642) hx hb dL_law__44 (by decide) (by decide) (by decide +kernel) (by decide) ?_
    exact lc_isFair E hlT hi4 hL hroom hI hP hD hS hl K
  | 24, _ =>
    refine lv_tableIn (off := 1611) (tgt := 1655) hx hb dL_law__44 (by decide) (by decide) (by decide +kernel) (by decide) ?_
    exact lc_best E hlT hi4 hL hroom hI hP hD hS hl K
  | 25, _ =>
    refine lv_tableIn (off := 1678) (tgt := 1722) hx hb dL_law__44 (by decide) (by decide) (by decide +kernel) (by decide) ?_
    exact lc_stops E hlT hi4 hL hroom hI hP hD hS hl K
  | 26, _ =>
    refine lv_tableIn (off := 1753) (tgt := 1797) hx hb dL_law__44 (by decide) (by decide) (by decide +kernel) (by decide) ?_
    exact lc_reverses E hlT hi4 hL hroom hI hP hD hS hl K
  | 27, _ =>
    refine lv_tableIn (off := 1766) (tgt := 1810) hx hb dL_law__44 (by decide) (by decide) (by decide +kernel) (by decide) ?_
    exact lc_isLumped E hlT hi4 hL hroom hI hP hD hS hl K
  | r + 28, hr =>
    refine lv_tableOut (tgt := 1823) hx hb dL_law__44 (Or.inr (by rw [nI_toInt (by omega)]; omega)) (by decide) ?_
    refine W.widen (Nat.le_add_right cells 1) (Nat.le_add_right slots 6) ?_
    exact K n k g col fG fW fR fH fA fS fRs fOt fMi fEn fEb fPy fB fCc th fto fpay fcol fnow fthn foth fmnr fwts fmap fnxt fO fE hI _ _ hP hD hS _ hl
set_option maxHeartbeats 4000000 in
set_option maxRecDepth 100000 in
theorem law_loop {p : Program} {l : Launch} {e : Env} {s : State} {m : MethodId} {below : List Frame} {meth : Method} {c : Code} {Q : State → Prop} {D : va_G} {cY : Nat → ClassId} {A : Nat → Prop} {sc L : Nat} {xs : Nat → Int32} {b : Nat → Nat} {rr : Nat → Nat → Nat} {a : Nat → Nat} {oo od : Nat} (E : LE p s m sc c D cY A L xs) (hlT : l.stackTraces = false) (hL : L ≤ 2048)
    (hend : ∀ (H : Heap) (locs : List Loc) (ls : Array Slot) (cells slots : Nat), va_S A s.heap H locs → cells ≤ 601024 → slots ≤ 7293034 → W p l e room_1 s m #[Value.ref sc] below meth c H locs cells slots Q (F0 m 1829 ls [])) :
    ∀ (fu z : Nat), L < 4 * z + 4 * fu → z ≤ 512 → ∀ (n k : Nat) (g : Nat → Nat → Nat) (col : Nat → Nat) (fG fW : Nat → Nat → Int32) (fR fH fA fS : Nat → Nat → Int64) (fRs : Nat → Int64) (fOt : Nat → Int32) (fMi : Nat → Int64) (fEn fEb fPy : Nat → Int32) (fB : Nat → Nat → Int64) (fCc : Nat → Int32) (th : Int32) (fto fpay fcol : Nat → Int32) (fnow fthn foth fmnr fwts : Nat → Int64) (fmap fnxt : Nat → Int32) (fO : Nat → Int64) (fE : Nat → UInt64), LV n k g col fG fW fPy fCc fto fpay fcol → ∀ (H : Heap) (locs : List Loc), va_P D vwCl (LB cY b rr a oo od n k n k fG fW fR fH fA fS fRs fOt fMi fEn fEb fPy fB fCc th fto fpay fcol fnow fthn foth fmnr fwts fmap fnxt fO fE).flatten H → va_D A (LB cY b rr a oo od n k n k fG fW fR fH fA fS fRs fOt fMi fEn fEb fPy fB fCc th fto fpay fcol fnow fthn foth fmnr fwts fmap fnxt fO fE).flatten → va_S A s.heap H locs → ∀ ls : Array Slot, lv_has ls 9 [(5, .int (nI (4 * z))), (4, .ref od), (3, .ref oo), (2, .ref (a 0)), (1, .ref (b 0)), (0, .ref sc)] → W p l e room_1 s m #[Value.ref sc] below meth c H locs (113 + z) (2510 + 6 * z) Q (F0 m 28 ls []) := by
  obtain ⟨hx, hb, hml, hts, hown, hK, hVK, hA, hX, hH, hsc, hscl, hscA⟩ := id E
  intro fu
  induction fu with
  | zero =>
    intro z hz h512 n k g col fG fW fR fH fA fS fRs fOt fMi fEn fEb fPy fB fCc th fto fpay fcol fnow fthn foth fmnr fwts fmap fnxt fO fE hI H locs hP hD hS ls hl
    refine lv_iload hx hb dL_law__28 (lv_at hl 0 rfl) ?_
    refine lv_aload_n hx hb dL_law__30 rfl (lv_at hl 5 rfl) ?_
    refine va_slen hx hb hsc hscl hscA hS dL_law__31 ?_
    refine eqi (x' := nI L) rfl ?_
    refine lv_iconst (v := nI 4) hx hb dL_law__32 (by decide) ?_
    refine lv_isub hx hb dL_law__33 ?_
    refine lv_icmp_gt (tgt := 1829) hx hb dL_law__34 (by decide) (fun h => ?_) (fun h => ?_)
    · exact hend _ _ _ _ _ hS (by omega) (by omega)
    · rw [Int32.lt_iff_toInt_lt, pk_sub_toInt (by omega) (by omega), nI_toInt (by omega)] at h
      omega
  | succ fu ih =>
    intro z hz h512 n k g col fG fW fR fH fA fS fRs fOt fMi fEn fEb fPy fB fCc th fto fpay fcol fnow fthn foth fmnr fwts fmap fnxt fO fE hI H locs hP hD hS ls hl
    refine lv_iload hx hb dL_law__28 (lv_at hl 0 rfl) ?_
    refine lv_aload_n hx hb dL_law__30 rfl (lv_at hl 5 rfl) ?_
    refine va_slen hx hb hsc hscl hscA hS dL_law__31 ?_
    refine eqi (x' := nI L) rfl ?_
    refine lv_iconst (v := nI 4) hx hb dL_law__32 (by decide) ?_
    refine lv_isub hx hb dL_law__33 ?_
    refine lv_icmp_gt (tgt := 1829) hx hb dL_law__34 (by decide) (fun h => ?_) (fun h => ?_)
    · exact hend _ _ _ _ _ hS (by omega) (by omega)
    · rw [Int32.lt_iff_toInt_lt, pk_sub_toInt (by omega) (by omega), nI_toInt (by omega)] at h
      refine lv_aload_n hx hb dL_law__37 rfl (lv_at hl 5 rfl) ?_
      refine lv_iload hx hb dL_law__38 (lv_at hl 0 rfl) ?_
      refine s_ld hx hb hsc hscl hscA hS (by omega) hL dL_law__40 ?_
      refine lv_bipush (v := nI 31) hx hb dL_law__41 (by decide) ?_
      refine lv_iand hx hb dL_law__43 ?_
      obtain ⟨r, hr, er⟩ := and31 (xs (4 * z))
      refine eqi (x' := nI r) er ?_
      refine law_sw E hlT (by omega) hL ⟨by show 113 + z + 1 ≤ 601024; omega, by show 2510 + 6 * z + 6 ≤ 7293034; omega⟩ hI hP hD hS hl ?_ r hr
      intro n k g col fG fW fR fH fA fS fRs fOt fMi fEn fEb fPy fB fCc th fto fpay fcol fnow fthn foth fmnr fwts fmap fnxt fO fE hI H locs hP hD hS ls hl
      refine lv_iinc (v := nI (4 * (z + 1))) (lv' := [(5, .int (nI (4 * (z + 1)))), (4, .ref od), (3, .ref oo), (2, .ref (a 0)), (1, .ref (b 0)), (0, .ref sc)]) hx hb dL_law__1823 hl (k := 0) rfl (by rw [show 4 * (z + 1) = 4 * z + 4 by omega, ← nI_add]; rfl) (by decide) rfl (fun ls hl => ?_)
      refine lv_goto (tgt := 28) hx hb dL_law__1826 (by decide) ?_
      have := ih (z + 1) (by omega) (by omega) n k g col fG fW fR fH fA fS fRs fOt fMi fEn fEb fPy fB fCc th fto fpay fcol fnow fthn foth fmnr fwts fmap fnxt fO fE hI H locs hP hD hS ls hl
      rw [show 113 + (z + 1) = 113 + z + 1 by omega, show 2510 + 6 * (z + 1) = 2510 + 6 * z + 6 by omega] at this
      exact this
