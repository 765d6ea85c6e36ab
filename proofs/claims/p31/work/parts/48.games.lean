set_option maxHeartbeats 4000000 in
set_option maxRecDepth 100000 in
theorem c_X3_seedBehind (l : Launch) (D : va_G) (cY : Nat → ClassId) (sz : Nat) (x : Nat) (hx1 : x < 65521) : Met l yX3_seedBehind wsX3_seedBehind ({ frames := 0, cells := 0, slots := 0, locals := 0 }) (cP D cY [.int (nI x)] [] sz) (qI (S := Unit) D cY (fun r uu => r = nI (sd x)) (fun uu => []) (va_A ([] : List va_W).flatten sz)) 0 0 (va_A ([] : List va_W).flatten sz) := by
  refine mtB (Qc := fun A => qI (S := Unit) D cY (fun r uu => r = nI (sd x)) (fun uu => []) A) (cc := cX3_seedBehind) (maxL := 1) (ret := (some .int)) (by decide) rfl (Nat.le_of_ble_eq_true rfl) ?_
  intro p e s m below meth c A ls hx hb hr hml hts hown hlocks hnm hsz hP hK hVK hD hS hA hl
  have hown : s.vm.findClass RX3 = some m.cls := hown
  have hl : lv_has ls 1 [(0, .int (nI x))] := hl
  have hP : va_P D vwCl ([] : List va_W).flatten s.heap := hP
  have hD : va_D A ([] : List va_W).flatten := hD
  refine lv_sipush (v := nI 7919) hx hb dX3_seedBehind_0 (by decide) ?_
  refine lv_iload_n hx hb dX3_seedBehind_3 rfl (lv_at hl 0 rfl) ?_
  refine lv_imul hx hb dX3_seedBehind_4 ?_
  refine eqi (x' := nI (7919 * x)) (pk_mul _ _) ?_
  refine lv_sipush (v := nI 12345) hx hb dX3_seedBehind_5 (by decide) ?_
  refine lv_iadd hx hb dX3_seedBehind_8 ?_
  refine eqi (x' := nI (7919 * x + 12345)) (nI_add _ _) ?_
  refine lv_ldc (v := 65521) hx hb hown (hts (.constant RX3 56 65521) (by decide +kernel)) dX3_seedBehind_9 ?_
  refine eqi (x' := nI 65521) (by decide) ?_
  refine lv_irem hx hb dX3_seedBehind_11 (nI_ne0 (by omega) (by omega)) ?_
  refine eqi (x' := nI ((7919 * x + 12345) % 65521)) (pk_rem (by omega) (by omega) (by omega)) ?_
  exact r_i hx hb hr hlocks hP hD hS () rfl (rfl) dX3_seedBehind_12

set_option maxHeartbeats 4000000 in
set_option maxRecDepth 100000 in
theorem c_X3_slotOf (l : Launch) (D : va_G) (cY : Nat → ClassId) (sz : Nat) (b : Nat → Nat) (n : Nat) (k : Nat) (x : Nat) (hn1 : 1 ≤ n) (hn6 : n ≤ 6) (hk1 : 1 ≤ k) (hk12 : k ≤ 12) (hx1 : x < 65521) : Met l yX3_slotOf wsX3_slotOf ({ frames := 0, cells := 0, slots := 0, locals := 0 }) (cP D cY [.ref (b 15), .int (nI x)] [dO b, cO b (nI n) (nI k)] sz) (qI (S := Unit) D cY (fun r uu => r = nI (x % k)) (fun uu => [dO b, cO b (nI n) (nI k)]) (va_A ([dO b, cO b (nI n) (nI k)] : List va_W).flatten sz)) 0 0 (va_A ([dO b, cO b (nI n) (nI k)] : List va_W).flatten sz) := by
  refine mtB (Qc := fun A => qI (S := Unit) D cY (fun r uu => r = nI (x % k)) (fun uu => [dO b, cO b (nI n) (nI k)]) A) (cc := cX3_slotOf) (maxL := 2) (ret := (some .int)) (by decide) rfl (Nat.le_of_ble_eq_true rfl) ?_
  intro p e s m below meth c A ls hx hb hr hml hts hown hlocks hnm hsz hP hK hVK hD hS hA hl
  have hown : s.vm.findClass RX3 = some m.cls := hown
  have hl : lv_has ls 2 [(0, .ref (b 15)), (1, .int (nI x))] := hl
  have hP : va_P D vwCl ([dO b, cO b (nI n) (nI k)] : List va_W).flatten s.heap := hP
  have hD : va_D A ([dO b, cO b (nI n) (nI k)] : List va_W).flatten := hD
  refine lv_aload_n hx hb dX3_slotOf_0 rfl (lv_at hl 0 rfl) ?_
  refine b_get (ci := 3) (v := .ref (b 1)) (C := RX3) (T := TX3) (N := 3) hx hb hts (by decide +kernel) hown hK hP 0 rfl rfl 0 (by decide) (hts (.fieldLink RX3 9 "ChanceHall$Draws" "chain" "LChanceHall$Chain;") (by decide +kernel)) (fun _ h9 => h9) rfl dX3_slotOf_1 ?_
  refine b_get (ci := 0) (v := .int (nI k)) (C := RX0) (T := TX0) (N := 4) hx hb hts (by decide +kernel) hown hK hP 1 rfl rfl 1 (by decide) (hts (.fieldLink RX3 53 "ChanceHall$Chain" "slots" "I") (by decide +kernel)) (fun _ h9 => h9) rfl dX3_slotOf_4 ?_
  refine lv_iconst (v := nI 1) hx hb dX3_slotOf_7 (by decide) ?_
  refine n_icmp_ge (tgt := 15) hx hb dX3_slotOf_8 (by decide) (by omega) (by omega) (fun h8 => ?_) (fun h8 => ?_)
  · -- t
    refine lv_iload_n hx hb dX3_slotOf_15 rfl (lv_at hl 1 rfl) ?_
    refine lv_aload_n hx hb dX3_slotOf_16 rfl (lv_at hl 0 rfl) ?_
    refine b_get (ci := 3) (v := .ref (b 1)) (C := RX3) (T := TX3) (N := 3) hx hb hts (by decide +kernel) hown hK hP 0 rfl rfl 0 (by decide) (hts (.fieldLink RX3 9 "ChanceHall$Draws" "chain" "LChanceHall$Chain;") (by decide +kernel)) (fun _ h9 => h9) rfl dX3_slotOf_17 ?_
    refine b_get (ci := 0) (v := .int (nI k)) (C := RX0) (T := TX0) (N := 4) hx hb hts (by decide +kernel) hown hK hP 1 rfl rfl 1 (by decide) (hts (.fieldLink RX3 53 "ChanceHall$Chain" "slots" "I") (by decide +kernel)) (fun _ h9 => h9) rfl dX3_slotOf_20 ?_
    refine lv_irem hx hb dX3_slotOf_23 (nI_ne0 (by omega) (by omega)) ?_
    refine eqi (x' := nI (x % k)) (pk_rem (by omega) (by omega) (by omega)) ?_
    exact r_i hx hb hr hlocks hP hD hS () rfl (rfl) dX3_slotOf_24
  · -- f
    exact absurd h8 (by omega)

set_option maxHeartbeats 4000000 in
set_option maxRecDepth 100000 in
theorem c_X3_walkOn (l : Launch) (D : va_G) (cY : Nat → ClassId) (sz : Nat) (b : Nat → Nat) (rr : Nat → Nat → Nat) (n : Nat) (k : Nat) (fG : Nat → Nat → Int32) (g : Nat → Nat → Nat) (i : Nat) (x : Nat) (t : Nat) (hn1 : 1 ≤ n) (hn6 : n ≤ 6) (hk1 : 1 ≤ k) (hk12 : k ≤ 12) (hG : ∀ i j, i < n → j < k → fG i j = nI (g i j)) (hgn : ∀ i j, i < n → j < k → g i j < n) (hi : i < n) (hx1 : x < 65521) (ht : t ≤ 1000) : Met l yX3_walkOn wsX3_walkOn ({ frames := 1, cells := 0, slots := 0, locals := 40 }) (cP D cY [.ref (b 15), .int (nI i), .int (nI x), .int (nI t)] [dO b, cO b (nI n) (nI k), oQ (cY 2) (b 2) (rr 0) 6, gI (cY 0) (rr 0) 12 fG 6] sz) (qI (S := Unit) D cY (fun r uu => r = nI (wk g k i x t)) (fun uu => [dO b, cO b (nI n) (nI k), oQ (cY 2) (b 2) (rr 0) 6, gI (cY 0) (rr 0) 12 fG 6]) (va_A ([dO b, cO b (nI n) (nI k), oQ (cY 2) (b 2) (rr 0) 6, gI (cY 0) (rr 0) 12 fG 6] : List va_W).flatten sz)) 0 0 (va_A ([dO b, cO b (nI n) (nI k), oQ (cY 2) (b 2) (rr 0) 6, gI (cY 0) (rr 0) 12 fG 6] : List va_W).flatten sz) := by
  refine mtB (Qc := fun A => qI (S := Unit) D cY (fun r uu => r = nI (wk g k i x t)) (fun uu => [dO b, cO b (nI n) (nI k), oQ (cY 2) (b 2) (rr 0) 6, gI (cY 0) (rr 0) 12 fG 6]) A) (cc := cX3_walkOn) (maxL := 7) (ret := (some .int)) (by decide) rfl (Nat.le_of_ble_eq_true rfl) ?_
  intro p e s m below meth c A ls hx hb hr hml hts hown hlocks hnm hsz hP hK hVK hD hS hA hl
  have hown : s.vm.findClass RX3 = some m.cls := hown
  have hl : lv_has ls 7 [(0, .ref (b 15)), (1, .int (nI i)), (2, .int (nI x)), (3, .int (nI t))] := hl
  have hP : va_P D vwCl ([dO b, cO b (nI n) (nI k), oQ (cY 2) (b 2) (rr 0) 6, gI (cY 0) (rr 0) 12 fG 6] : List va_W).flatten s.heap := hP
  have hD : va_D A ([dO b, cO b (nI n) (nI k), oQ (cY 2) (b 2) (rr 0) 6, gI (cY 0) (rr 0) 12 fG 6] : List va_W).flatten := hD
  refine lv_iload_n hx hb dX3_walkOn_0 rfl (lv_at hl 1 rfl) ?_
  refine lv_istore (lv' := [(4, .int (nI i)), (0, .ref (b 15)), (1, .int (nI i)), (2, .int (nI x)), (3, .int (nI t))]) hx hb dX3_walkOn_1 hl (by decide) rfl (fun ls hl => ?_)
  refine lv_iload_n hx hb dX3_walkOn_3 rfl (lv_at hl 3 rfl) ?_
  refine lv_istore (lv' := [(5, .int (nI x)), (4, .int (nI i)), (0, .ref (b 15)), (1, .int (nI i)), (2, .int (nI x)), (3, .int (nI t))]) hx hb dX3_walkOn_4 hl (by decide) rfl (fun ls hl => ?_)
  refine lv_iconst (v := nI 0) hx hb dX3_walkOn_6 (by decide) ?_
  refine lv_istore (lv' := [(6, .int (nI 0)), (5, .int (nI x)), (4, .int (nI i)), (0, .ref (b 15)), (1, .int (nI i)), (2, .int (nI x)), (3, .int (nI t))]) hx hb dX3_walkOn_7 hl (by decide) rfl (fun ls hl => ?_)
  have L9 : ∀ q : Nat, q ≤ t →  ∀ (H : Heap) (locs : List Loc), va_P D vwCl ([dO b, cO b (nI n) (nI k), oQ (cY 2) (b 2) (rr 0) 6, gI (cY 0) (rr 0) 12 fG 6] : List va_W).flatten H → va_D A ([dO b, cO b (nI n) (nI k), oQ (cY 2) (b 2) (rr 0) 6, gI (cY 0) (rr 0) 12 fG 6] : List va_W).flatten → va_S A s.heap H locs → ∀ (ls : Array Slot), lv_has ls 7 [(0, .ref (b 15)), (1, .int (nI i)), (2, .int (nI x)), (3, .int (nI t)), (4, .int (nI (wk g k i x q))), (5, .int (nI (sdq x q))), (6, .int (nI q))] → W p l e ({ frames := 1, cells := 0, slots := 0, locals := 40 }) s m ([.ref (b 15), .int (nI i), .int (nI x), .int (nI t)] : List Value).toArray below meth c H locs 0 0 (MQ below (qI (S := Unit) D cY (fun r uu => r = nI (wk g k i x t)) (fun uu => [dO b, cO b (nI n) (nI k), oQ (cY 2) (b 2) (rr 0) 6, gI (cY 0) (rr 0) 12 fG 6]) A) ([.ref (b 15), .int (nI i), .int (nI x), .int (nI t)] : List Value).toArray s 0 0 A) (F0 m 9 ls []) := by
    refine lpW t ?_
    intro q bdq ih9   H locs hP hD hS ls hl
    refine lv_iload hx hb dX3_walkOn_9 (lv_at hl 6 rfl) ?_
    refine lv_iload_n hx hb dX3_walkOn_11 rfl (lv_at hl 3 rfl) ?_
    refine n_icmp_ge (tgt := 47) hx hb dX3_walkOn_12 (by decide) (by omega) (by omega) (fun h12 => ?_) (fun h12 => ?_)
    · -- t
      refine lv_iload hx hb dX3_walkOn_47 (lv_at hl 4 rfl) ?_
      exact r_i hx hb hr hlocks hP hD hS () rfl (by (have e : q = t := by omega); subst e; rfl) dX3_walkOn_49
    · -- f
      refine lv_iload hx hb dX3_walkOn_15 (lv_at hl 5 rfl) ?_
      refine ca_i (CL := []) (va_runS (As := [.int (nI (sdq x q))]) (rest := []) ⟨hx, hb, hml, hown, hts⟩ (c_X3_seedBehind l D cY H.size (sdq x q) (sdq_lt hx1 q)) (va_cwS 1 hts gX3_walkOn_X3_seedBehind rfl rfl rfl (by decide +kernel) ⟨Nat.le_of_ble_eq_true rfl, Nat.le_of_ble_eq_true rfl⟩) (b_preS hVK hP hD [] rfl rfl) rfl rfl hl.1 rfl (lv_room (Nat.le_of_ble_eq_true rfl)) dX3_walkOn_17 ⟨Nat.le_refl _, Nat.le_refl _⟩) hP hD hS hA [] rfl rfl (fun _ => rfl) (fun r17 uu H locs hq hP hD hS => ?_)
      subst hq
      have hP : va_P D vwCl ([dO b, cO b (nI n) (nI k), oQ (cY 2) (b 2) (rr 0) 6, gI (cY 0) (rr 0) 12 fG 6] : List va_W).flatten H := hP
      have hD : va_D A ([dO b, cO b (nI n) (nI k), oQ (cY 2) (b 2) (rr 0) 6, gI (cY 0) (rr 0) 12 fG 6] : List va_W).flatten := hD
      refine eqi (x' := nI (sdq x (q + 1))) (rfl) ?_
      have hsl := sdq_lt hx1 (q + 1)
      have hwl := wk_lt (x := x) hgn (show 0 < k by omega) hi q
      have hml2 := Nat.mod_lt (sdq x (q + 1)) (show k > 0 by omega)
      refine lv_istore (lv' := [(5, .int (nI (sdq x (q + 1)))), (0, .ref (b 15)), (1, .int (nI i)), (2, .int (nI x)), (3, .int (nI t)), (4, .int (nI (wk g k i x q))), (6, .int (nI q))]) hx hb dX3_walkOn_20 hl (by decide) rfl (fun ls hl => ?_)
      refine lv_aload_n hx hb dX3_walkOn_22 rfl (lv_at hl 1 rfl) ?_
      refine b_get (ci := 3) (v := .ref (b 1)) (C := RX3) (T := TX3) (N := 3) hx hb hts (by decide +kernel) hown hK hP 0 rfl rfl 0 (by decide) (hts (.fieldLink RX3 9 "ChanceHall$Draws" "chain" "LChanceHall$Chain;") (by decide +kernel)) (fun _ h9 => h9) rfl dX3_walkOn_23 ?_
      refine b_get (ci := 0) (v := .ref (b 2)) (C := RX0) (T := TX0) (N := 4) hx hb hts (by decide +kernel) hown hK hP 1 rfl rfl 2 (by decide) (hts (.fieldLink RX3 26 "ChanceHall$Chain" "goesTo" "[[I") (by decide +kernel)) (fun _ h9 => h9) rfl dX3_walkOn_26 ?_
      refine lv_iload hx hb dX3_walkOn_29 (lv_at hl 5 rfl) ?_
      refine g_aald hx hb hK hP 2 2 rfl rfl (by omega) (by decide) dX3_walkOn_31 ?_
      refine lv_aload_n hx hb dX3_walkOn_32 rfl (lv_at hl 1 rfl) ?_
      refine lv_iload hx hb dX3_walkOn_33 (lv_at hl 0 rfl) ?_
      refine ca_i (CL := [dO b, cO b (nI n) (nI k)]) (va_runV (As := [.int (nI (sdq x (q + 1)))]) (rest := [.ref (rr 0 (wk g k i x q))]) ⟨hx, hb, hml, hown, hts⟩ (c_X3_slotOf l D cY H.size b n k (sdq x (q + 1)) (by omega) (by omega) (by omega) (by omega) hsl) (cwV 1 hts gX3_walkOn_X3_slotOf rfl rfl rfl (by decide +kernel) ⟨Nat.le_of_ble_eq_true rfl, Nat.le_of_ble_eq_true rfl⟩) (b_preV hVK hP hD [0, 1] rfl rfl 0 rfl rfl) rfl rfl hl.1 rfl (lv_room (Nat.le_of_ble_eq_true rfl)) dX3_walkOn_35 ⟨Nat.le_refl _, Nat.le_refl _⟩) hP hD hS hA [0, 1] rfl rfl (fun _ => rfl) (fun r35 uu H locs hq hP hD hS => ?_)
      subst hq
      have hP : va_P D vwCl ([dO b, cO b (nI n) (nI k), oQ (cY 2) (b 2) (rr 0) 6, gI (cY 0) (rr 0) 12 fG 6] : List va_W).flatten H := hP
      have hD : va_D A ([dO b, cO b (nI n) (nI k), oQ (cY 2) (b 2) (rr 0) 6, gI (cY 0) (rr 0) 12 fG 6] : List va_W).flatten := hD
      refine g_iald hx hb hK hP 3 0 rfl rfl (by omega) (by omega) (by decide) dX3_walkOn_38 ?_
      refine eqi (x' := nI (wk g k i x (q + 1))) (hG _ _ hwl hml2) ?_
      refine lv_istore (lv' := [(4, .int (nI (wk g k i x (q + 1)))), (5, .int (nI (sdq x (q + 1)))), (0, .ref (b 15)), (1, .int (nI i)), (2, .int (nI x)), (3, .int (nI t)), (6, .int (nI q))]) hx hb dX3_walkOn_39 hl (by decide) rfl (fun ls hl => ?_)
      refine lv_iinc (v := nI (q + 1)) (lv' := [(6, .int (nI (q + 1))), (4, .int (nI (wk g k i x (q + 1)))), (5, .int (nI (sdq x (q + 1)))), (0, .ref (b 15)), (1, .int (nI i)), (2, .int (nI x)), (3, .int (nI t))]) hx hb dX3_walkOn_41 hl (k := 6) rfl (nI_1 q) (by decide) rfl (fun ls hl => ?_)
      refine lv_goto (tgt := 9) hx hb dX3_walkOn_44 (by decide) ?_
      exact ih9 (by omega)   _ _ hP hD hS _ (lv_sub hl [3, 4, 5, 6, 1, 2, 0] rfl)
  exact L9 0 (by omega)   _ _ hP hD hS _ (lv_sub hl [3, 4, 5, 6, 2, 1, 0] rfl)

set_option maxHeartbeats 4000000 in
set_option maxRecDepth 100000 in
theorem c_X3_isTogether (l : Launch) (D : va_G) (cY : Nat → ClassId) (sz : Nat) (b : Nat → Nat) (n : Nat) (k : Nat) (fEn : Nat → Int32) (Fm : Nat → Nat) (hn1 : 1 ≤ n) (hn6 : n ≤ 6) (hk1 : 1 ≤ k) (hk12 : k ≤ 12) (hF : ∀ j, j < n → fEn j = nI (Fm j)) (hFn : ∀ j, j < n → Fm j < n) : Met l yX3_isTogether wsX3_isTogether ({ frames := 0, cells := 0, slots := 0, locals := 0 }) (cP D cY [.ref (b 15)] [dO b, cO b (nI n) (nI k), [(b 16, .inl (cY 0, 6, .inl fEn))]] sz) (qI (S := Unit) D cY (fun r uu => r = bI (oneB Fm n)) (fun uu => [dO b, cO b (nI n) (nI k), [(b 16, .inl (cY 0, 6, .inl fEn))]]) (va_A ([dO b, cO b (nI n) (nI k), [(b 16, .inl (cY 0, 6, .inl fEn))]] : List va_W).flatten sz)) 0 0 (va_A ([dO b, cO b (nI n) (nI k), [(b 16, .inl (cY 0, 6, .inl fEn))]] : List va_W).flatten sz) := by
  refine mtB (Qc := fun A => qI (S := Unit) D cY (fun r uu => r = bI (oneB Fm n)) (fun uu => [dO b, cO b (nI n) (nI k), [(b 16, .inl (cY 0, 6, .inl fEn))]]) A) (cc := cX3_isTogether) (maxL := 2) (ret := (some .boolean)) (by decide) rfl (Nat.le_of_ble_eq_true rfl) ?_
  intro p e s m below meth c A ls hx hb hr hml hts hown hlocks hnm hsz hP hK hVK hD hS hA hl
  have hown : s.vm.findClass RX3 = some m.cls := hown
  have hl : lv_has ls 2 [(0, .ref (b 15))] := hl
  have hP : va_P D vwCl ([dO b, cO b (nI n) (nI k), [(b 16, .inl (cY 0, 6, .inl fEn))]] : List va_W).flatten s.heap := hP
  have hD : va_D A ([dO b, cO b (nI n) (nI k), [(b 16, .inl (cY 0, 6, .inl fEn))]] : List va_W).flatten := hD
  refine lv_iconst (v := nI 1) hx hb dX3_isTogether_0 (by decide) ?_
  refine lv_istore_n (lv' := [(1, .int (nI 1)), (0, .ref (b 15))]) hx hb dX3_isTogether_1 rfl hl (by decide) rfl (fun ls hl => ?_)
  have L2 : ∀ q : Nat, q ≤ n - 1 →  (∀ o, o < q → decide (Fm (o + 1) = Fm 0) = true) → ∀ (H : Heap) (locs : List Loc), va_P D vwCl ([dO b, cO b (nI n) (nI k), [(b 16, .inl (cY 0, 6, .inl fEn))]] : List va_W).flatten H → va_D A ([dO b, cO b (nI n) (nI k), [(b 16, .inl (cY 0, 6, .inl fEn))]] : List va_W).flatten → va_S A s.heap H locs → ∀ (ls : Array Slot), lv_has ls 2 [(0, .ref (b 15)), (1, .int (nI (q + 1)))] → W p l e ({ frames := 0, cells := 0, slots := 0, locals := 0 }) s m ([.ref (b 15)] : List Value).toArray below meth c H locs 0 0 (MQ below (qI (S := Unit) D cY (fun r uu => r = bI (oneB Fm n)) (fun uu => [dO b, cO b (nI n) (nI k), [(b 16, .inl (cY 0, 6, .inl fEn))]]) A) ([.ref (b 15)] : List Value).toArray s 0 0 A) (F0 m 2 ls []) := by
    refine lpW (n - 1) ?_
    intro q bdq ih2  hI H locs hP hD hS ls hl
    refine lv_iload_n hx hb dX3_isTogether_2 rfl (lv_at hl 1 rfl) ?_
    refine lv_aload_n hx hb dX3_isTogether_3 rfl (lv_at hl 0 rfl) ?_
    refine b_get (ci := 3) (v := .ref (b 1)) (C := RX3) (T := TX3) (N := 3) hx hb hts (by decide +kernel) hown hK hP 0 rfl rfl 0 (by decide) (hts (.fieldLink RX3 9 "ChanceHall$Draws" "chain" "LChanceHall$Chain;") (by decide +kernel)) (fun _ h9 => h9) rfl dX3_isTogether_4 ?_
    refine b_get (ci := 0) (v := .int (nI n)) (C := RX0) (T := TX0) (N := 4) hx hb hts (by decide +kernel) hown hK hP 1 rfl rfl 0 (by decide) (hts (.fieldLink RX3 35 "ChanceHall$Chain" "states" "I") (by decide +kernel)) (fun _ h9 => h9) rfl dX3_isTogether_7 ?_
    refine n_icmp_ge (tgt := 36) hx hb dX3_isTogether_10 (by decide) (by omega) (by omega) (fun h10 => ?_) (fun h10 => ?_)
    · -- t
      refine lv_iconst (v := nI 1) hx hb dX3_isTogether_36 (by decide) ?_
      refine eqi (x' := bI true) rfl ?_
      exact r_z hx hb hr hlocks hP hD hS () rfl (congrArg bI (allB_iff.mpr (fun o ho => hI o (by omega))).symm) dX3_isTogether_37
    · -- f
      refine lv_aload_n hx hb dX3_isTogether_13 rfl (lv_at hl 0 rfl) ?_
      refine b_get (ci := 3) (v := .ref (b 16)) (C := RX3) (T := TX3) (N := 3) hx hb hts (by decide +kernel) hown hK hP 0 rfl rfl 1 (by decide) (hts (.fieldLink RX3 15 "ChanceHall$Draws" "ends" "[I") (by decide +kernel)) (fun _ h9 => h9) rfl dX3_isTogether_14 ?_
      refine lv_iload_n hx hb dX3_isTogether_17 rfl (lv_at hl 1 rfl) ?_
      refine b_iald hx hb hK hP 2 0 rfl rfl (by omega) (by decide) dX3_isTogether_18 ?_
      refine eqi (x' := nI (Fm (q + 1))) (hF _ (by omega)) ?_
      refine lv_aload_n hx hb dX3_isTogether_19 rfl (lv_at hl 0 rfl) ?_
      refine b_get (ci := 3) (v := .ref (b 16)) (C := RX3) (T := TX3) (N := 3) hx hb hts (by decide +kernel) hown hK hP 0 rfl rfl 1 (by decide) (hts (.fieldLink RX3 15 "ChanceHall$Draws" "ends" "[I") (by decide +kernel)) (fun _ h9 => h9) rfl dX3_isTogether_20 ?_
      refine lv_iconst (v := nI 0) hx hb dX3_isTogether_23 (by decide) ?_
      refine b_iald hx hb hK hP 2 0 rfl rfl (by omega) (by decide) dX3_isTogether_24 ?_
      refine eqi (x' := nI (Fm 0)) (hF _ (by omega)) ?_
      have hz1 := hFn (q + 1) (by omega)
      have hz2 := hFn 0 (by omega)
      refine n_icmp_eq (tgt := 30) hx hb dX3_isTogether_25 (by decide) (by omega) (by omega) (fun h25 => ?_) (fun h25 => ?_)
      · -- t
        refine lv_iinc (v := nI (q + 1 + 1)) (lv' := [(1, .int (nI (q + 1 + 1))), (0, .ref (b 15))]) hx hb dX3_isTogether_30 hl (k := 1) rfl (nI_1 (q + 1)) (by decide) rfl (fun ls hl => ?_)
        refine lv_goto (tgt := 2) hx hb dX3_isTogether_33 (by decide) ?_
        exact ih2 (by omega)  (fun o ho => by
  by_cases e : o = q
  · rw [e]; exact dec_t h25
  · exact hI o (by omega)) _ _ hP hD hS _ (lv_sub hl [1, 0] rfl)
      · -- f
        refine lv_iconst (v := nI 0) hx hb dX3_isTogether_28 (by decide) ?_
        refine eqi (x' := bI false) rfl ?_
        exact r_z hx hb hr hlocks hP hD hS () rfl (congrArg bI (allB_f (f := fun q => decide (Fm (q + 1) = Fm 0)) (q := q) (by omega) (dec_f h25)).symm) dX3_isTogether_29
  exact L2 0 (by omega)  (fun o h => by omega) _ _ hP hD hS _ (lv_sub hl [1, 0] rfl)

set_option maxHeartbeats 4000000 in
set_option maxRecDepth 100000 in
theorem c_X3_putAhead (l : Launch) (D : va_G) (cY : Nat → ClassId) (sz : Nat) (b : Nat → Nat) (rr : Nat → Nat → Nat) (n : Nat) (k : Nat) (fG : Nat → Nat → Int32) (fEn : Nat → Int32) (fEb : Nat → Int32) (g : Nat → Nat → Nat) (Fm : Nat → Nat) (j : Nat) (hn1 : 1 ≤ n) (hn6 : n ≤ 6) (hk1 : 1 ≤ k) (hk12 : k ≤ 12) (hG : ∀ i j, i < n → j < k → fG i j = nI (g i j)) (hgn : ∀ i j, i < n → j < k → g i j < n) (hF : ∀ j, j < n → fEn j = nI (Fm j)) (hFn : ∀ j, j < n → Fm j < n) (hj : j < k) : Met l yX3_putAhead wsX3_putAhead ({ frames := 1, cells := 0, slots := 0, locals := 40 }) (cP D cY [.ref (b 15), .int (nI j)] [dO b, cO b (nI n) (nI k), oQ (cY 2) (b 2) (rr 0) 6, gI (cY 0) (rr 0) 12 fG 6, [(b 16, .inl (cY 0, 6, .inl fEn))], [(b 17, .inl (cY 0, 6, .inl fEb))]] sz) (qV (S := (Nat → Int32) × (Nat → Int32)) D cY (fun uu => ∀ i, i < n → uu.1 i = nI (Fm (g i j))) (fun uu => [dO b, cO b (nI n) (nI k), oQ (cY 2) (b 2) (rr 0) 6, gI (cY 0) (rr 0) 12 fG 6, [(b 16, .inl (cY 0, 6, .inl uu.1))], [(b 17, .inl (cY 0, 6, .inl uu.2))]]) (va_A ([dO b, cO b (nI n) (nI k), oQ (cY 2) (b 2) (rr 0) 6, gI (cY 0) (rr 0) 12 fG 6, [(b 16, .inl (cY 0, 6, .inl fEn))], [(b 17, .inl (cY 0, 6, .inl fEb))]] : List va_W).flatten sz)) 0 0 (va_A ([dO b, cO b (nI n) (nI k), oQ (cY 2) (b 2) (rr 0) 6, gI (cY 0) (rr 0) 12 fG 6, [(b 16, .inl (cY 0, 6, .inl fEn))], [(b 17, .inl (cY 0, 6, .inl fEb))]] : List va_W).flatten sz) := by
  refine mtB (Qc := fun A => qV (S := (Nat → Int32) × (Nat → Int32)) D cY (fun uu => ∀ i, i < n → uu.1 i = nI (Fm (g i j))) (fun uu => [dO b, cO b (nI n) (nI k), oQ (cY 2) (b 2) (rr 0) 6, gI (cY 0) (rr 0) 12 fG 6, [(b 16, .inl (cY 0, 6, .inl uu.1))], [(b 17, .inl (cY 0, 6, .inl uu.2))]]) A) (cc := cX3_putAhead) (maxL := 3) (ret := none) (by decide) rfl (Nat.le_of_ble_eq_true rfl) ?_
  intro p e s m below meth c A ls hx hb hr hml hts hown hlocks hnm hsz hP hK hVK hD hS hA hl
  have hown : s.vm.findClass RX3 = some m.cls := hown
  have hl : lv_has ls 3 [(0, .ref (b 15)), (1, .int (nI j))] := hl
  have hP : va_P D vwCl ([dO b, cO b (nI n) (nI k), oQ (cY 2) (b 2) (rr 0) 6, gI (cY 0) (rr 0) 12 fG 6, [(b 16, .inl (cY 0, 6, .inl fEn))], [(b 17, .inl (cY 0, 6, .inl fEb))]] : List va_W).flatten s.heap := hP
  have hD : va_D A ([dO b, cO b (nI n) (nI k), oQ (cY 2) (b 2) (rr 0) 6, gI (cY 0) (rr 0) 12 fG 6, [(b 16, .inl (cY 0, 6, .inl fEn))], [(b 17, .inl (cY 0, 6, .inl fEb))]] : List va_W).flatten := hD
  refine lv_aload_n hx hb dX3_putAhead_0 rfl (lv_at hl 0 rfl) ?_
  refine b_get (ci := 3) (v := .ref (b 16)) (C := RX3) (T := TX3) (N := 3) hx hb hts (by decide +kernel) hown hK hP 0 rfl rfl 1 (by decide) (hts (.fieldLink RX3 15 "ChanceHall$Draws" "ends" "[I") (by decide +kernel)) (fun _ h9 => h9) rfl dX3_putAhead_1 ?_
  refine lv_iconst (v := nI 0) hx hb dX3_putAhead_4 (by decide) ?_
  refine lv_aload_n hx hb dX3_putAhead_5 rfl (lv_at hl 0 rfl) ?_
  refine b_get (ci := 3) (v := .ref (b 17)) (C := RX3) (T := TX3) (N := 3) hx hb hts (by decide +kernel) hown hK hP 0 rfl rfl 2 (by decide) (hts (.fieldLink RX3 19 "ChanceHall$Draws" "endsBefore" "[I") (by decide +kernel)) (fun _ h9 => h9) rfl dX3_putAhead_6 ?_
  refine lv_iconst (v := nI 0) hx hb dX3_putAhead_9 (by decide) ?_
  refine lv_bipush (v := nI 6) hx hb dX3_putAhead_10 (by decide) ?_
  refine b_copyi hx hb (hml.trans hl.1.symm) hown (hts (.methodLink RX3 47 arraycopyName) (by decide +kernel)) (hts (.native arraycopyName) (by decide +kernel)) (hts (.static arraycopyName) (by decide +kernel)) (hts (.initialized "java/lang/System") (by decide +kernel)) hK hP hD hS 4 5 0 rfl rfl rfl (by decide) (by decide) (Nat.le_of_ble_eq_true rfl) (Nat.le_of_ble_eq_true rfl) dX3_putAhead_12 (fun H locs hP hD hS => ?_)
  have hP : va_P D vwCl ([dO b, cO b (nI n) (nI k), oQ (cY 2) (b 2) (rr 0) 6, gI (cY 0) (rr 0) 12 fG 6, [(b 16, .inl (cY 0, 6, .inl fEn))], [(b 17, .inl (cY 0, 6, .inl (va_cpy fEn fEb 0 0 6)))]] : List va_W).flatten H := hP
  have hD : va_D A ([dO b, cO b (nI n) (nI k), oQ (cY 2) (b 2) (rr 0) 6, gI (cY 0) (rr 0) 12 fG 6, [(b 16, .inl (cY 0, 6, .inl fEn))], [(b 17, .inl (cY 0, 6, .inl (va_cpy fEn fEb 0 0 6)))]] : List va_W).flatten := hD
  refine lv_iconst (v := nI 0) hx hb dX3_putAhead_15 (by decide) ?_
  refine lv_istore_n (lv' := [(2, .int (nI 0)), (0, .ref (b 15)), (1, .int (nI j))]) hx hb dX3_putAhead_16 rfl hl (by decide) rfl (fun ls hl => ?_)
  have L17 : ∀ q : Nat, q ≤ n → ∀ (gE : Nat → Int32), (PWJ gE (fun i => nI (Fm (g i j))) q) → ∀ (H : Heap) (locs : List Loc), va_P D vwCl ([dO b, cO b (nI n) (nI k), oQ (cY 2) (b 2) (rr 0) 6, gI (cY 0) (rr 0) 12 fG 6, [(b 16, .inl (cY 0, 6, .inl gE))], [(b 17, .inl (cY 0, 6, .inl (va_cpy fEn fEb 0 0 6)))]] : List va_W).flatten H → va_D A ([dO b, cO b (nI n) (nI k), oQ (cY 2) (b 2) (rr 0) 6, gI (cY 0) (rr 0) 12 fG 6, [(b 16, .inl (cY 0, 6, .inl gE))], [(b 17, .inl (cY 0, 6, .inl (va_cpy fEn fEb 0 0 6)))]] : List va_W).flatten → va_S A s.heap H locs → ∀ (ls : Array Slot), lv_has ls 3 [(0, .ref (b 15)), (1, .int (nI j)), (2, .int (nI q))] → W p l e ({ frames := 1, cells := 0, slots := 0, locals := 40 }) s m ([.ref (b 15), .int (nI j)] : List Value).toArray below meth c H locs 0 0 (MQ below (qV (S := (Nat → Int32) × (Nat → Int32)) D cY (fun uu => ∀ i, i < n → uu.1 i = nI (Fm (g i j))) (fun uu => [dO b, cO b (nI n) (nI k), oQ (cY 2) (b 2) (rr 0) 6, gI (cY 0) (rr 0) 12 fG 6, [(b 16, .inl (cY 0, 6, .inl uu.1))], [(b 17, .inl (cY 0, 6, .inl uu.2))]]) A) ([.ref (b 15), .int (nI j)] : List Value).toArray s 0 0 A) (F0 m 17 ls []) := by
    refine lpW n ?_
    intro q bdq ih17 gE hI H locs hP hD hS ls hl
    refine lv_iload_n hx hb dX3_putAhead_17 rfl (lv_at hl 2 rfl) ?_
    refine lv_aload_n hx hb dX3_putAhead_18 rfl (lv_at hl 0 rfl) ?_
    refine b_get (ci := 3) (v := .ref (b 1)) (C := RX3) (T := TX3) (N := 3) hx hb hts (by decide +kernel) hown hK hP 0 rfl rfl 0 (by decide) (hts (.fieldLink RX3 9 "ChanceHall$Draws" "chain" "LChanceHall$Chain;") (by decide +kernel)) (fun _ h9 => h9) rfl dX3_putAhead_19 ?_
    refine b_get (ci := 0) (v := .int (nI n)) (C := RX0) (T := TX0) (N := 4) hx hb hts (by decide +kernel) hown hK hP 1 rfl rfl 0 (by decide) (hts (.fieldLink RX3 35 "ChanceHall$Chain" "states" "I") (by decide +kernel)) (fun _ h9 => h9) rfl dX3_putAhead_22 ?_
    refine n_icmp_ge (tgt := 56) hx hb dX3_putAhead_25 (by decide) (by omega) (by omega) (fun h25 => ?_) (fun h25 => ?_)
    · -- t
      exact r_v hx hb hr hlocks hP hD hS (gE, (va_cpy fEn fEb 0 0 6)) rfl (by (have e : q = n := by omega); rw [e] at hI; exact hI) dX3_putAhead_56
    · -- f
      refine lv_aload_n hx hb dX3_putAhead_28 rfl (lv_at hl 0 rfl) ?_
      refine b_get (ci := 3) (v := .ref (b 16)) (C := RX3) (T := TX3) (N := 3) hx hb hts (by decide +kernel) hown hK hP 0 rfl rfl 1 (by decide) (hts (.fieldLink RX3 15 "ChanceHall$Draws" "ends" "[I") (by decide +kernel)) (fun _ h9 => h9) rfl dX3_putAhead_29 ?_
      refine lv_iload_n hx hb dX3_putAhead_32 rfl (lv_at hl 2 rfl) ?_
      refine lv_aload_n hx hb dX3_putAhead_33 rfl (lv_at hl 0 rfl) ?_
      refine b_get (ci := 3) (v := .ref (b 17)) (C := RX3) (T := TX3) (N := 3) hx hb hts (by decide +kernel) hown hK hP 0 rfl rfl 2 (by decide) (hts (.fieldLink RX3 19 "ChanceHall$Draws" "endsBefore" "[I") (by decide +kernel)) (fun _ h9 => h9) rfl dX3_putAhead_34 ?_
      refine lv_aload_n hx hb dX3_putAhead_37 rfl (lv_at hl 0 rfl) ?_
      refine b_get (ci := 3) (v := .ref (b 1)) (C := RX3) (T := TX3) (N := 3) hx hb hts (by decide +kernel) hown hK hP 0 rfl rfl 0 (by decide) (hts (.fieldLink RX3 9 "ChanceHall$Draws" "chain" "LChanceHall$Chain;") (by decide +kernel)) (fun _ h9 => h9) rfl dX3_putAhead_38 ?_
      refine b_get (ci := 0) (v := .ref (b 2)) (C := RX0) (T := TX0) (N := 4) hx hb hts (by decide +kernel) hown hK hP 1 rfl rfl 2 (by decide) (hts (.fieldLink RX3 26 "ChanceHall$Chain" "goesTo" "[[I") (by decide +kernel)) (fun _ h9 => h9) rfl dX3_putAhead_41 ?_
      refine lv_iload_n hx hb dX3_putAhead_44 rfl (lv_at hl 2 rfl) ?_
      refine g_aald hx hb hK hP 2 2 rfl rfl (by omega) (by decide) dX3_putAhead_45 ?_
      refine lv_iload_n hx hb dX3_putAhead_46 rfl (lv_at hl 1 rfl) ?_
      refine g_iald hx hb hK hP 3 0 rfl rfl (by omega) (by omega) (by decide) dX3_putAhead_47 ?_
      refine eqi (x' := nI (g q j)) (hG q j (by omega) hj) ?_
      have hgi := hgn q j (by omega) hj
      refine b_iald hx hb hK hP 5 0 rfl rfl (by omega) (by decide) dX3_putAhead_48 ?_
      refine eqi (x' := nI (Fm (g q j))) (by rw [sb_cpy0 (by omega)]; exact hF _ hgi) ?_
      refine b_iast hx hb hK hP hD hS 4 0 rfl rfl (by omega) (by decide) dX3_putAhead_49 (fun H locs hP hD hS => ?_)
      have hP : va_P D vwCl ([dO b, cO b (nI n) (nI k), oQ (cY 2) (b 2) (rr 0) 6, gI (cY 0) (rr 0) 12 fG 6, [(b 16, .inl (cY 0, 6, .inl (upd gE q (nI (Fm (g q j))))))], [(b 17, .inl (cY 0, 6, .inl (va_cpy fEn fEb 0 0 6)))]] : List va_W).flatten H := hP
      have hD : va_D A ([dO b, cO b (nI n) (nI k), oQ (cY 2) (b 2) (rr 0) 6, gI (cY 0) (rr 0) 12 fG 6, [(b 16, .inl (cY 0, 6, .inl (upd gE q (nI (Fm (g q j))))))], [(b 17, .inl (cY 0, 6, .inl (va_cpy fEn fEb 0 0 6)))]] : List va_W).flatten := hD
      refine lv_iinc (v := nI (q + 1)) (lv' := [(2, .int (nI (q + 1))), (0, .ref (b 15)), (1, .int (nI j))]) hx hb dX3_putAhead_50 hl (k := 2) rfl (nI_1 q) (by decide) rfl (fun ls hl => ?_)
      refine lv_goto (tgt := 17) hx hb dX3_putAhead_53 (by decide) ?_
      exact ih17 (by omega) (upd gE q (nI (Fm (g q j)))) (PWJ_s hI rfl) _ _ hP hD hS _ (lv_sub hl [1, 2, 0] rfl)
  exact L17 0 (by omega) fEn PWJ_0 _ _ hP hD hS _ (lv_sub hl [1, 2, 0] rfl)

set_option maxHeartbeats 4000000 in
set_option maxRecDepth 100000 in
theorem c_X3_drawFromPast (l : Launch) (D : va_G) (cY : Nat → ClassId) (sz : Nat) (b : Nat → Nat) (rr : Nat → Nat → Nat) (n : Nat) (k : Nat) (fG : Nat → Nat → Int32) (fEn : Nat → Int32) (fEb : Nat → Int32) (g : Nat → Nat → Nat) (x : Nat) (hn1 : 1 ≤ n) (hn6 : n ≤ 6) (hk1 : 1 ≤ k) (hk12 : k ≤ 12) (hG : ∀ i j, i < n → j < k → fG i j = nI (g i j)) (hgn : ∀ i j, i < n → j < k → g i j < n) (hx1 : x < 65521) : Met l yX3_drawFromPast wsX3_drawFromPast ({ frames := 2, cells := 0, slots := 0, locals := 80 }) (cP D cY [.ref (b 15), .int (nI x)] [dO b, cO b (nI n) (nI k), oQ (cY 2) (b 2) (rr 0) 6, gI (cY 0) (rr 0) 12 fG 6, [(b 16, .inl (cY 0, 6, .inl fEn))], [(b 17, .inl (cY 0, 6, .inl fEb))]] sz) (qI (S := (Nat → Int32) × (Nat → Int32)) D cY (fun r uu => r = dgo g n k x 200 0) (fun uu => [dO b, cO b (nI n) (nI k), oQ (cY 2) (b 2) (rr 0) 6, gI (cY 0) (rr 0) 12 fG 6, [(b 16, .inl (cY 0, 6, .inl uu.1))], [(b 17, .inl (cY 0, 6, .inl uu.2))]]) (va_A ([dO b, cO b (nI n) (nI k), oQ (cY 2) (b 2) (rr 0) 6, gI (cY 0) (rr 0) 12 fG 6, [(b 16, .inl (cY 0, 6, .inl fEn))], [(b 17, .inl (cY 0, 6, .inl fEb))]] : List va_W).flatten sz)) 0 0 (va_A ([dO b, cO b (nI n) (nI k), oQ (cY 2) (b 2) (rr 0) 6, gI (cY 0) (rr 0) 12 fG 6, [(b 16, .inl (cY 0, 6, .inl fEn))], [(b 17, .inl (cY 0, 6, .inl fEb))]] : List va_W).flatten sz) := by
  refine mtB (Qc := fun A => qI (S := (Nat → Int32) × (Nat → Int32)) D cY (fun r uu => r = dgo g n k x 200 0) (fun uu => [dO b, cO b (nI n) (nI k), oQ (cY 2) (b 2) (rr 0) 6, gI (cY 0) (rr 0) 12 fG 6, [(b 16, .inl (cY 0, 6, .inl uu.1))], [(b 17, .inl (cY 0, 6, .inl uu.2))]]) A) (cc := cX3_drawFromPast) (maxL := 4) (ret := (some .int)) (by decide) rfl (Nat.le_of_ble_eq_true rfl) ?_
  intro p e s m below meth c A ls hx hb hr hml hts hown hlocks hnm hsz hP hK hVK hD hS hA hl
  have hown : s.vm.findClass RX3 = some m.cls := hown
  have hl : lv_has ls 4 [(0, .ref (b 15)), (1, .int (nI x))] := hl
  have hP : va_P D vwCl ([dO b, cO b (nI n) (nI k), oQ (cY 2) (b 2) (rr 0) 6, gI (cY 0) (rr 0) 12 fG 6, [(b 16, .inl (cY 0, 6, .inl fEn))], [(b 17, .inl (cY 0, 6, .inl fEb))]] : List va_W).flatten s.heap := hP
  have hD : va_D A ([dO b, cO b (nI n) (nI k), oQ (cY 2) (b 2) (rr 0) 6, gI (cY 0) (rr 0) 12 fG 6, [(b 16, .inl (cY 0, 6, .inl fEn))], [(b 17, .inl (cY 0, 6, .inl fEb))]] : List va_W).flatten := hD
  refine lv_iconst (v := nI 0) hx hb dX3_drawFromPast_0 (by decide) ?_
  refine lv_istore_n (lv' := [(2, .int (nI 0)), (0, .ref (b 15)), (1, .int (nI x))]) hx hb dX3_drawFromPast_1 rfl hl (by decide) rfl (fun ls hl => ?_)
  have L2 : ∀ j : Nat, j ≤ n → ∀ (gM : Nat → Int32), (PWJ gM (fun j => nI j) j) → ∀ (H : Heap) (locs : List Loc), va_P D vwCl ([dO b, cO b (nI n) (nI k), oQ (cY 2) (b 2) (rr 0) 6, gI (cY 0) (rr 0) 12 fG 6, [(b 16, .inl (cY 0, 6, .inl gM))], [(b 17, .inl (cY 0, 6, .inl fEb))]] : List va_W).flatten H → va_D A ([dO b, cO b (nI n) (nI k), oQ (cY 2) (b 2) (rr 0) 6, gI (cY 0) (rr 0) 12 fG 6, [(b 16, .inl (cY 0, 6, .inl gM))], [(b 17, .inl (cY 0, 6, .inl fEb))]] : List va_W).flatten → va_S A s.heap H locs → ∀ (ls : Array Slot), lv_has ls 4 [(0, .ref (b 15)), (1, .int (nI x)), (2, .int (nI j))] → W p l e ({ frames := 2, cells := 0, slots := 0, locals := 80 }) s m ([.ref (b 15), .int (nI x)] : List Value).toArray below meth c H locs 0 0 (MQ below (qI (S := (Nat → Int32) × (Nat → Int32)) D cY (fun r uu => r = dgo g n k x 200 0) (fun uu => [dO b, cO b (nI n) (nI k), oQ (cY 2) (b 2) (rr 0) 6, gI (cY 0) (rr 0) 12 fG 6, [(b 16, .inl (cY 0, 6, .inl uu.1))], [(b 17, .inl (cY 0, 6, .inl uu.2))]]) A) ([.ref (b 15), .int (nI x)] : List Value).toArray s 0 0 A) (F0 m 2 ls []) := by
    refine lpW n ?_
    intro j bdj ih2 gM hI H locs hP hD hS ls hl
    refine lv_iload_n hx hb dX3_drawFromPast_2 rfl (lv_at hl 2 rfl) ?_
    refine lv_aload_n hx hb dX3_drawFromPast_3 rfl (lv_at hl 0 rfl) ?_
    refine b_get (ci := 3) (v := .ref (b 1)) (C := RX3) (T := TX3) (N := 3) hx hb hts (by decide +kernel) hown hK hP 0 rfl rfl 0 (by decide) (hts (.fieldLink RX3 9 "ChanceHall$Draws" "chain" "LChanceHall$Chain;") (by decide +kernel)) (fun _ h9 => h9) rfl dX3_drawFromPast_4 ?_
    refine b_get (ci := 0) (v := .int (nI n)) (C := RX0) (T := TX0) (N := 4) hx hb hts (by decide +kernel) hown hK hP 1 rfl rfl 0 (by decide) (hts (.fieldLink RX3 35 "ChanceHall$Chain" "states" "I") (by decide +kernel)) (fun _ h9 => h9) rfl dX3_drawFromPast_7 ?_
    refine n_icmp_ge (tgt := 26) hx hb dX3_drawFromPast_10 (by decide) (by omega) (by omega) (fun h10 => ?_) (fun h10 => ?_)
    · -- t
      refine lv_iload_n hx hb dX3_drawFromPast_26 rfl (lv_at hl 1 rfl) ?_
      refine lv_istore_n (lv' := [(2, .int (nI x)), (0, .ref (b 15)), (1, .int (nI x))]) hx hb dX3_drawFromPast_27 rfl hl (by decide) rfl (fun ls hl => ?_)
      refine lv_iconst (v := nI 0) hx hb dX3_drawFromPast_28 (by decide) ?_
      refine lv_istore_n (lv' := [(3, .int (nI 0)), (2, .int (nI x)), (0, .ref (b 15)), (1, .int (nI x))]) hx hb dX3_drawFromPast_29 rfl hl (by decide) rfl (fun ls hl => ?_)
      have L30 : ∀ q : Nat, q ≤ 200 → ∀ (gE : Nat → Int32) (gX : Nat → Int32), (∀ j, j < n → gE j = nI (mpq g k x q j)) → (dgo g n k x (200 - q) q = dgo g n k x 200 0) → ∀ (H : Heap) (locs : List Loc), va_P D vwCl ([dO b, cO b (nI n) (nI k), oQ (cY 2) (b 2) (rr 0) 6, gI (cY 0) (rr 0) 12 fG 6, [(b 16, .inl (cY 0, 6, .inl gE))], [(b 17, .inl (cY 0, 6, .inl gX))]] : List va_W).flatten H → va_D A ([dO b, cO b (nI n) (nI k), oQ (cY 2) (b 2) (rr 0) 6, gI (cY 0) (rr 0) 12 fG 6, [(b 16, .inl (cY 0, 6, .inl gE))], [(b 17, .inl (cY 0, 6, .inl gX))]] : List va_W).flatten → va_S A s.heap H locs → ∀ (ls : Array Slot), lv_has ls 4 [(0, .ref (b 15)), (1, .int (nI x)), (2, .int (nI (sdq x q))), (3, .int (nI q))] → W p l e ({ frames := 2, cells := 0, slots := 0, locals := 80 }) s m ([.ref (b 15), .int (nI x)] : List Value).toArray below meth c H locs 0 0 (MQ below (qI (S := (Nat → Int32) × (Nat → Int32)) D cY (fun r uu => r = dgo g n k x 200 0) (fun uu => [dO b, cO b (nI n) (nI k), oQ (cY 2) (b 2) (rr 0) 6, gI (cY 0) (rr 0) 12 fG 6, [(b 16, .inl (cY 0, 6, .inl uu.1))], [(b 17, .inl (cY 0, 6, .inl uu.2))]]) A) ([.ref (b 15), .int (nI x)] : List Value).toArray s 0 0 A) (F0 m 30 ls []) := by
        refine lpW 200 ?_
        intro q bdq ih30 gE gX hF hdg H locs hP hD hS ls hl
        refine lv_iload_n hx hb dX3_drawFromPast_30 rfl (lv_at hl 3 rfl) ?_
        refine lv_sipush (v := nI 200) hx hb dX3_drawFromPast_31 (by decide) ?_
        refine n_icmp_ge (tgt := 64) hx hb dX3_drawFromPast_34 (by decide) (by omega) (by omega) (fun h34 => ?_) (fun h34 => ?_)
        · -- t
          refine lv_aload_n hx hb dX3_drawFromPast_64 rfl (lv_at hl 0 rfl) ?_
          refine ca_i (CL := [dO b, cO b (nI n) (nI k), [(b 16, .inl (cY 0, 6, .inl gE))]]) (va_runV (As := []) (rest := []) ⟨hx, hb, hml, hown, hts⟩ (c_X3_isTogether l D cY H.size b n k gE (mpq g k x q) (by omega) (by omega) (by omega) (by omega) hF (mpq_lt hgn (by omega) q)) (cwV 0 hts gX3_drawFromPast_X3_isTogether rfl rfl rfl (by decide +kernel) ⟨Nat.le_of_ble_eq_true rfl, Nat.le_of_ble_eq_true rfl⟩) (b_preV hVK hP hD [0, 1, 4] rfl rfl 0 rfl rfl) rfl rfl hl.1 rfl (lv_room (Nat.le_of_ble_eq_true rfl)) dX3_drawFromPast_65 ⟨Nat.le_refl _, Nat.le_refl _⟩) hP hD hS hA [0, 1, 4] rfl rfl (fun _ => rfl) (fun r65 uu H locs hq hP hD hS => ?_)
          subst hq
          have hP : va_P D vwCl ([dO b, cO b (nI n) (nI k), oQ (cY 2) (b 2) (rr 0) 6, gI (cY 0) (rr 0) 12 fG 6, [(b 16, .inl (cY 0, 6, .inl gE))], [(b 17, .inl (cY 0, 6, .inl gX))]] : List va_W).flatten H := hP
          have hD : va_D A ([dO b, cO b (nI n) (nI k), oQ (cY 2) (b 2) (rr 0) 6, gI (cY 0) (rr 0) 12 fG 6, [(b 16, .inl (cY 0, 6, .inl gE))], [(b 17, .inl (cY 0, 6, .inl gX))]] : List va_W).flatten := hD
          refine b_if_eq (tgt := 85) hx hb dX3_drawFromPast_68 (by decide) (fun h68 => ?_) (fun h68 => ?_)
          · -- t
            refine lv_iconst (v := (-1)) hx hb dX3_drawFromPast_85 (by decide) ?_
            exact r_i hx hb hr hlocks hP hD hS (gE, gX) rfl (by first | (rw [← hdg, dgo_t h68]; done) | (rw [← hdg, dgo_e h34 h68]; done) | (rw [h41] at h68; cases h68)) dX3_drawFromPast_86
          · -- f
            refine lv_bipush (v := nI 6) hx hb dX3_drawFromPast_71 (by decide) ?_
            refine lv_iload_n hx hb dX3_drawFromPast_73 rfl (lv_at hl 3 rfl) ?_
            refine lv_imul hx hb dX3_drawFromPast_74 ?_
            refine eqi (x' := nI (6 * q)) (pk_mul _ _) ?_
            refine lv_aload_n hx hb dX3_drawFromPast_75 rfl (lv_at hl 0 rfl) ?_
            refine b_get (ci := 3) (v := .ref (b 16)) (C := RX3) (T := TX3) (N := 3) hx hb hts (by decide +kernel) hown hK hP 0 rfl rfl 1 (by decide) (hts (.fieldLink RX3 15 "ChanceHall$Draws" "ends" "[I") (by decide +kernel)) (fun _ h9 => h9) rfl dX3_drawFromPast_76 ?_
            refine lv_iconst (v := nI 0) hx hb dX3_drawFromPast_79 (by decide) ?_
            refine b_iald hx hb hK hP 4 0 rfl rfl (by omega) (by decide) dX3_drawFromPast_80 ?_
            refine eqi (x' := nI (mpq g k x q 0)) (hF 0 (by omega)) ?_
            refine lv_iadd hx hb dX3_drawFromPast_81 ?_
            refine eqi (x' := nI (6 * q + mpq g k x q 0)) (nI_add _ _) ?_
            refine lv_goto (tgt := 86) hx hb dX3_drawFromPast_82 (by decide) ?_
            exact r_i hx hb hr hlocks hP hD hS (gE, gX) rfl (by first | (rw [← hdg, dgo_t h68]; done) | (rw [← hdg, dgo_e h34 h68]; done) | (rw [h41] at h68; cases h68)) dX3_drawFromPast_86
        · -- f
          refine lv_aload_n hx hb dX3_drawFromPast_37 rfl (lv_at hl 0 rfl) ?_
          refine ca_i (CL := [dO b, cO b (nI n) (nI k), [(b 16, .inl (cY 0, 6, .inl gE))]]) (va_runV (As := []) (rest := []) ⟨hx, hb, hml, hown, hts⟩ (c_X3_isTogether l D cY H.size b n k gE (mpq g k x q) (by omega) (by omega) (by omega) (by omega) hF (mpq_lt hgn (by omega) q)) (cwV 0 hts gX3_drawFromPast_X3_isTogether rfl rfl rfl (by decide +kernel) ⟨Nat.le_of_ble_eq_true rfl, Nat.le_of_ble_eq_true rfl⟩) (b_preV hVK hP hD [0, 1, 4] rfl rfl 0 rfl rfl) rfl rfl hl.1 rfl (lv_room (Nat.le_of_ble_eq_true rfl)) dX3_drawFromPast_38 ⟨Nat.le_refl _, Nat.le_refl _⟩) hP hD hS hA [0, 1, 4] rfl rfl (fun _ => rfl) (fun r38 uu H locs hq hP hD hS => ?_)
          subst hq
          have hP : va_P D vwCl ([dO b, cO b (nI n) (nI k), oQ (cY 2) (b 2) (rr 0) 6, gI (cY 0) (rr 0) 12 fG 6, [(b 16, .inl (cY 0, 6, .inl gE))], [(b 17, .inl (cY 0, 6, .inl gX))]] : List va_W).flatten H := hP
          have hD : va_D A ([dO b, cO b (nI n) (nI k), oQ (cY 2) (b 2) (rr 0) 6, gI (cY 0) (rr 0) 12 fG 6, [(b 16, .inl (cY 0, 6, .inl gE))], [(b 17, .inl (cY 0, 6, .inl gX))]] : List va_W).flatten := hD
          refine b_if_ne (tgt := 64) hx hb dX3_drawFromPast_41 (by decide) (fun h41 => ?_) (fun h41 => ?_)
          · -- t
            refine lv_aload_n hx hb dX3_drawFromPast_64 rfl (lv_at hl 0 rfl) ?_
            refine ca_i (CL := [dO b, cO b (nI n) (nI k), [(b 16, .inl (cY 0, 6, .inl gE))]]) (va_runV (As := []) (rest := []) ⟨hx, hb, hml, hown, hts⟩ (c_X3_isTogether l D cY H.size b n k gE (mpq g k x q) (by omega) (by omega) (by omega) (by omega) hF (mpq_lt hgn (by omega) q)) (cwV 0 hts gX3_drawFromPast_X3_isTogether rfl rfl rfl (by decide +kernel) ⟨Nat.le_of_ble_eq_true rfl, Nat.le_of_ble_eq_true rfl⟩) (b_preV hVK hP hD [0, 1, 4] rfl rfl 0 rfl rfl) rfl rfl hl.1 rfl (lv_room (Nat.le_of_ble_eq_true rfl)) dX3_drawFromPast_65 ⟨Nat.le_refl _, Nat.le_refl _⟩) hP hD hS hA [0, 1, 4] rfl rfl (fun _ => rfl) (fun r65 uu H locs hq hP hD hS => ?_)
            subst hq
            have hP : va_P D vwCl ([dO b, cO b (nI n) (nI k), oQ (cY 2) (b 2) (rr 0) 6, gI (cY 0) (rr 0) 12 fG 6, [(b 16, .inl (cY 0, 6, .inl gE))], [(b 17, .inl (cY 0, 6, .inl gX))]] : List va_W).flatten H := hP
            have hD : va_D A ([dO b, cO b (nI n) (nI k), oQ (cY 2) (b 2) (rr 0) 6, gI (cY 0) (rr 0) 12 fG 6, [(b 16, .inl (cY 0, 6, .inl gE))], [(b 17, .inl (cY 0, 6, .inl gX))]] : List va_W).flatten := hD
            refine b_if_eq (tgt := 85) hx hb dX3_drawFromPast_68 (by decide) (fun h68 => ?_) (fun h68 => ?_)
            · -- t
              refine lv_iconst (v := (-1)) hx hb dX3_drawFromPast_85 (by decide) ?_
              exact r_i hx hb hr hlocks hP hD hS (gE, gX) rfl (by first | (rw [← hdg, dgo_t h68]; done) | (rw [← hdg, dgo_e h34 h68]; done) | (rw [h41] at h68; cases h68)) dX3_drawFromPast_86
            · -- f
              refine lv_bipush (v := nI 6) hx hb dX3_drawFromPast_71 (by decide) ?_
              refine lv_iload_n hx hb dX3_drawFromPast_73 rfl (lv_at hl 3 rfl) ?_
              refine lv_imul hx hb dX3_drawFromPast_74 ?_
              refine eqi (x' := nI (6 * q)) (pk_mul _ _) ?_
              refine lv_aload_n hx hb dX3_drawFromPast_75 rfl (lv_at hl 0 rfl) ?_
              refine b_get (ci := 3) (v := .ref (b 16)) (C := RX3) (T := TX3) (N := 3) hx hb hts (by decide +kernel) hown hK hP 0 rfl rfl 1 (by decide) (hts (.fieldLink RX3 15 "ChanceHall$Draws" "ends" "[I") (by decide +kernel)) (fun _ h9 => h9) rfl dX3_drawFromPast_76 ?_
              refine lv_iconst (v := nI 0) hx hb dX3_drawFromPast_79 (by decide) ?_
              refine b_iald hx hb hK hP 4 0 rfl rfl (by omega) (by decide) dX3_drawFromPast_80 ?_
              refine eqi (x' := nI (mpq g k x q 0)) (hF 0 (by omega)) ?_
              refine lv_iadd hx hb dX3_drawFromPast_81 ?_
              refine eqi (x' := nI (6 * q + mpq g k x q 0)) (nI_add _ _) ?_
              refine lv_goto (tgt := 86) hx hb dX3_drawFromPast_82 (by decide) ?_
              exact r_i hx hb hr hlocks hP hD hS (gE, gX) rfl (by first | (rw [← hdg, dgo_t h68]; done) | (rw [← hdg, dgo_e h34 h68]; done) | (rw [h41] at h68; cases h68)) dX3_drawFromPast_86
          · -- f
            refine lv_iload_n hx hb dX3_drawFromPast_44 rfl (lv_at hl 2 rfl) ?_
            refine ca_i (CL := []) (va_runS (As := [.int (nI (sdq x q))]) (rest := []) ⟨hx, hb, hml, hown, hts⟩ (c_X3_seedBehind l D cY H.size (sdq x q) (sdq_lt hx1 q)) (va_cwS 1 hts gX3_drawFromPast_X3_seedBehind rfl rfl rfl (by decide +kernel) ⟨Nat.le_of_ble_eq_true rfl, Nat.le_of_ble_eq_true rfl⟩) (b_preS hVK hP hD [] rfl rfl) rfl rfl hl.1 rfl (lv_room (Nat.le_of_ble_eq_true rfl)) dX3_drawFromPast_45 ⟨Nat.le_refl _, Nat.le_refl _⟩) hP hD hS hA [] rfl rfl (fun _ => rfl) (fun r45 uu H locs hq hP hD hS => ?_)
            subst hq
            have hP : va_P D vwCl ([dO b, cO b (nI n) (nI k), oQ (cY 2) (b 2) (rr 0) 6, gI (cY 0) (rr 0) 12 fG 6, [(b 16, .inl (cY 0, 6, .inl gE))], [(b 17, .inl (cY 0, 6, .inl gX))]] : List va_W).flatten H := hP
            have hD : va_D A ([dO b, cO b (nI n) (nI k), oQ (cY 2) (b 2) (rr 0) 6, gI (cY 0) (rr 0) 12 fG 6, [(b 16, .inl (cY 0, 6, .inl gE))], [(b 17, .inl (cY 0, 6, .inl gX))]] : List va_W).flatten := hD
            refine eqi (x' := nI (sdq x (q + 1))) (rfl) ?_
            have hsl := sdq_lt hx1 (q + 1)
            refine lv_istore_n (lv' := [(2, .int (nI (sdq x (q + 1)))), (0, .ref (b 15)), (1, .int (nI x)), (3, .int (nI q))]) hx hb dX3_drawFromPast_48 rfl hl (by decide) rfl (fun ls hl => ?_)
            refine lv_aload_n hx hb dX3_drawFromPast_49 rfl (lv_at hl 1 rfl) ?_
            refine lv_aload_n hx hb dX3_drawFromPast_50 rfl (lv_at hl 1 rfl) ?_
            refine lv_iload_n hx hb dX3_drawFromPast_51 rfl (lv_at hl 0 rfl) ?_
            refine ca_i (CL := [dO b, cO b (nI n) (nI k)]) (va_runV (As := [.int (nI (sdq x (q + 1)))]) (rest := [.ref (b 15)]) ⟨hx, hb, hml, hown, hts⟩ (c_X3_slotOf l D cY H.size b n k (sdq x (q + 1)) (by omega) (by omega) (by omega) (by omega) hsl) (cwV 1 hts gX3_drawFromPast_X3_slotOf rfl rfl rfl (by decide +kernel) ⟨Nat.le_of_ble_eq_true rfl, Nat.le_of_ble_eq_true rfl⟩) (b_preV hVK hP hD [0, 1] rfl rfl 0 rfl rfl) rfl rfl hl.1 rfl (lv_room (Nat.le_of_ble_eq_true rfl)) dX3_drawFromPast_52 ⟨Nat.le_refl _, Nat.le_refl _⟩) hP hD hS hA [0, 1] rfl rfl (fun _ => rfl) (fun r52 uu H locs hq hP hD hS => ?_)
            subst hq
            have hP : va_P D vwCl ([dO b, cO b (nI n) (nI k), oQ (cY 2) (b 2) (rr 0) 6, gI (cY 0) (rr 0) 12 fG 6, [(b 16, .inl (cY 0, 6, .inl gE))], [(b 17, .inl (cY 0, 6, .inl gX))]] : List va_W).flatten H := hP
            have hD : va_D A ([dO b, cO b (nI n) (nI k), oQ (cY 2) (b 2) (rr 0) 6, gI (cY 0) (rr 0) 12 fG 6, [(b 16, .inl (cY 0, 6, .inl gE))], [(b 17, .inl (cY 0, 6, .inl gX))]] : List va_W).flatten := hD
            refine ca_v (CL := [dO b, cO b (nI n) (nI k), oQ (cY 2) (b 2) (rr 0) 6, gI (cY 0) (rr 0) 12 fG 6, [(b 16, .inl (cY 0, 6, .inl gE))], [(b 17, .inl (cY 0, 6, .inl gX))]]) (va_runV (As := [.int (nI ((sdq x (q + 1)) % k))]) (rest := []) ⟨hx, hb, hml, hown, hts⟩ (c_X3_putAhead l D cY H.size b rr n k fG gE gX g (mpq g k x q) ((sdq x (q + 1)) % k) (by omega) (by omega) (by omega) (by omega) hG hgn hF (mpq_lt hgn (by omega) q) (Nat.mod_lt _ (by omega))) (cwV 1 hts gX3_drawFromPast_X3_putAhead rfl rfl rfl (by decide +kernel) ⟨Nat.le_of_ble_eq_true rfl, Nat.le_of_ble_eq_true rfl⟩) (b_preV hVK hP hD [0, 1, 2, 3, 4, 5] rfl rfl 0 rfl rfl) rfl rfl hl.1 rfl (lv_room (Nat.le_of_ble_eq_true rfl)) dX3_drawFromPast_55 ⟨Nat.le_refl _, Nat.le_refl _⟩) hP hD hS hA [0, 1, 2, 3, 4, 5] rfl rfl (fun _ => rfl) (fun uu H locs hq hP hD hS => ?_)
            obtain ⟨fEn1_1, fEb1_2⟩ := uu
            try dsimp only at hq
            have q55 := hq
            have hP : va_P D vwCl ([dO b, cO b (nI n) (nI k), oQ (cY 2) (b 2) (rr 0) 6, gI (cY 0) (rr 0) 12 fG 6, [(b 16, .inl (cY 0, 6, .inl fEn1_1))], [(b 17, .inl (cY 0, 6, .inl fEb1_2))]] : List va_W).flatten H := hP
            have hD : va_D A ([dO b, cO b (nI n) (nI k), oQ (cY 2) (b 2) (rr 0) 6, gI (cY 0) (rr 0) 12 fG 6, [(b 16, .inl (cY 0, 6, .inl fEn1_1))], [(b 17, .inl (cY 0, 6, .inl fEb1_2))]] : List va_W).flatten := hD
            refine lv_iinc (v := nI (q + 1)) (lv' := [(3, .int (nI (q + 1))), (2, .int (nI (sdq x (q + 1)))), (0, .ref (b 15)), (1, .int (nI x))]) hx hb dX3_drawFromPast_58 hl (k := 3) rfl (nI_1 q) (by decide) rfl (fun ls hl => ?_)
            refine lv_goto (tgt := 30) hx hb dX3_drawFromPast_61 (by decide) ?_
            exact ih30 (by omega) fEn1_1 fEb1_2 q55 (by rw [← dgo_s h34 h41]; exact hdg) _ _ hP hD hS _ (lv_sub hl [2, 3, 1, 0] rfl)
      exact L30 0 (by omega) gM fEb (by (have e : j = n := by omega); rw [e] at hI; exact hI) rfl _ _ hP hD hS _ (lv_sub hl [2, 3, 1, 0] rfl)
    · -- f
      refine lv_aload_n hx hb dX3_drawFromPast_13 rfl (lv_at hl 0 rfl) ?_
      refine b_get (ci := 3) (v := .ref (b 16)) (C := RX3) (T := TX3) (N := 3) hx hb hts (by decide +kernel) hown hK hP 0 rfl rfl 1 (by decide) (hts (.fieldLink RX3 15 "ChanceHall$Draws" "ends" "[I") (by decide +kernel)) (fun _ h9 => h9) rfl dX3_drawFromPast_14 ?_
      refine lv_iload_n hx hb dX3_drawFromPast_17 rfl (lv_at hl 2 rfl) ?_
      refine lv_iload_n hx hb dX3_drawFromPast_18 rfl (lv_at hl 2 rfl) ?_
      refine b_iast hx hb hK hP hD hS 4 0 rfl rfl (by omega) (by decide) dX3_drawFromPast_19 (fun H locs hP hD hS => ?_)
      have hP : va_P D vwCl ([dO b, cO b (nI n) (nI k), oQ (cY 2) (b 2) (rr 0) 6, gI (cY 0) (rr 0) 12 fG 6, [(b 16, .inl (cY 0, 6, .inl (upd gM j (nI j))))], [(b 17, .inl (cY 0, 6, .inl fEb))]] : List va_W).flatten H := hP
      have hD : va_D A ([dO b, cO b (nI n) (nI k), oQ (cY 2) (b 2) (rr 0) 6, gI (cY 0) (rr 0) 12 fG 6, [(b 16, .inl (cY 0, 6, .inl (upd gM j (nI j))))], [(b 17, .inl (cY 0, 6, .inl fEb))]] : List va_W).flatten := hD
      refine lv_iinc (v := nI (j + 1)) (lv' := [(2, .int (nI (j + 1))), (0, .ref (b 15)), (1, .int (nI x))]) hx hb dX3_drawFromPast_20 hl (k := 2) rfl (nI_1 j) (by decide) rfl (fun ls hl => ?_)
      refine lv_goto (tgt := 2) hx hb dX3_drawFromPast_23 (by decide) ?_
      exact ih2 (by omega) (upd gM j (nI j)) (PWJ_s hI rfl) _ _ hP hD hS _ (lv_sub hl [1, 2, 0] rfl)
  exact L2 0 (by omega) fEn PWJ_0 _ _ hP hD hS _ (lv_sub hl [1, 2, 0] rfl)

set_option maxHeartbeats 4000000 in
set_option maxRecDepth 100000 in
theorem c_X4_forget (l : Launch) (D : va_G) (cY : Nat → ClassId) (sz : Nat) (b : Nat → Nat) (fPy : Nat → Int32)  : Met l yX4_forget wsX4_forget ({ frames := 1, cells := 0, slots := 0, locals := 40 }) (cP D cY [.ref (b 18)] [gO b, [(b 19, .inl (cY 0, 6, .inl fPy))]] sz) (qV (S := (Nat → Int32)) D cY (fun uu => ∀ j, j < 6 → uu j = nI 0) (fun uu => [gO b, [(b 19, .inl (cY 0, 6, .inl uu))]]) (va_A ([gO b, [(b 19, .inl (cY 0, 6, .inl fPy))]] : List va_W).flatten sz)) 0 0 (va_A ([gO b, [(b 19, .inl (cY 0, 6, .inl fPy))]] : List va_W).flatten sz) := by
  refine mtB (Qc := fun A => qV (S := (Nat → Int32)) D cY (fun uu => ∀ j, j < 6 → uu j = nI 0) (fun uu => [gO b, [(b 19, .inl (cY 0, 6, .inl uu))]]) A) (cc := cX4_forget) (maxL := 1) (ret := none) (by decide) rfl (Nat.le_of_ble_eq_true rfl) ?_
  intro p e s m below meth c A ls hx hb hr hml hts hown hlocks hnm hsz hP hK hVK hD hS hA hl
  have hown : s.vm.findClass RX4 = some m.cls := hown
  have hl : lv_has ls 1 [(0, .ref (b 18))] := hl
  have hP : va_P D vwCl ([gO b, [(b 19, .inl (cY 0, 6, .inl fPy))]] : List va_W).flatten s.heap := hP
  have hD : va_D A ([gO b, [(b 19, .inl (cY 0, 6, .inl fPy))]] : List va_W).flatten := hD
  refine lv_aload_n hx hb dX4_forget_0 rfl (lv_at hl 0 rfl) ?_
  refine b_get (ci := 4) (v := .ref (b 19)) (C := RX4) (T := TX4) (N := 3) hx hb hts (by decide +kernel) hown hK hP 0 rfl rfl 1 (by decide) (hts (.fieldLink RX4 15 "ChanceHall$Games" "pays" "[I") (by decide +kernel)) (fun _ h9 => h9) rfl dX4_forget_1 ?_
  refine lv_iconst (v := nI 0) hx hb dX4_forget_4 (by decide) ?_
  refine ca_v (CL := [[(b 19, .inl (cY 0, 6, .inl fPy))]]) (va_runS (As := [.ref (b 19), .int (nI 0)]) (rest := []) ⟨hx, hb, hml, hown, hts⟩ (c_J7_fill_53178 l D cY s.heap.size (b 19) 6 fPy (nI 0) (by omega)) (va_cwS 2 hts gX4_forget_J7_fill_53178 rfl rfl rfl (by decide +kernel) ⟨Nat.le_of_ble_eq_true rfl, Nat.le_of_ble_eq_true rfl⟩) (b_preS hVK hP hD [1] rfl rfl) rfl rfl hl.1 rfl (lv_room (Nat.le_of_ble_eq_true rfl)) dX4_forget_5 ⟨Nat.le_refl _, Nat.le_refl _⟩) hP hD hS hA [1] rfl rfl (fun _ => rfl) (fun uu H locs hq hP hD hS => ?_)
  obtain ⟨f1_1, rfl⟩ : ∃ z, z = uu := ⟨_, rfl⟩
  try dsimp only at hq
  have q5 := hq
  have hP : va_P D vwCl ([gO b, [(b 19, .inl (cY 0, 6, .inl f1_1))]] : List va_W).flatten H := hP
  have hD : va_D A ([gO b, [(b 19, .inl (cY 0, 6, .inl f1_1))]] : List va_W).flatten := hD
  exact r_v hx hb hr hlocks hP hD hS f1_1 rfl (q5) dX4_forget_8

set_option maxHeartbeats 4000000 in
set_option maxRecDepth 100000 in
theorem c_X4_setPay (l : Launch) (D : va_G) (cY : Nat → ClassId) (sz : Nat) (b : Nat → Nat) (fPy : Nat → Int32) (i : Nat) (v0 : Int32) (hi6 : i < 6) : Met l yX4_setPay wsX4_setPay ({ frames := 0, cells := 0, slots := 0, locals := 0 }) (cP D cY [.ref (b 18), .int (nI i), .int v0] [gO b, [(b 19, .inl (cY 0, 6, .inl fPy))]] sz) (qI (S := Unit) D cY (fun r uu => r = fPy i) (fun uu => [gO b, [(b 19, .inl (cY 0, 6, .inl (upd fPy i v0)))]]) (va_A ([gO b, [(b 19, .inl (cY 0, 6, .inl fPy))]] : List va_W).flatten sz)) 0 0 (va_A ([gO b, [(b 19, .inl (cY 0, 6, .inl fPy))]] : List va_W).flatten sz) := by
  refine mtB (Qc := fun A => qI (S := Unit) D cY (fun r uu => r = fPy i) (fun uu => [gO b, [(b 19, .inl (cY 0, 6, .inl (upd fPy i v0)))]]) A) (cc := cX4_setPay) (maxL := 4) (ret := (some .int)) (by decide) rfl (Nat.le_of_ble_eq_true rfl) ?_
  intro p e s m below meth c A ls hx hb hr hml hts hown hlocks hnm hsz hP hK hVK hD hS hA hl
  have hown : s.vm.findClass RX4 = some m.cls := hown
  have hl : lv_has ls 4 [(0, .ref (b 18)), (1, .int (nI i)), (2, .int v0)] := hl
  have hP : va_P D vwCl ([gO b, [(b 19, .inl (cY 0, 6, .inl fPy))]] : List va_W).flatten s.heap := hP
  have hD : va_D A ([gO b, [(b 19, .inl (cY 0, 6, .inl fPy))]] : List va_W).flatten := hD
  refine lv_aload_n hx hb dX4_setPay_0 rfl (lv_at hl 0 rfl) ?_
  refine b_get (ci := 4) (v := .ref (b 19)) (C := RX4) (T := TX4) (N := 3) hx hb hts (by decide +kernel) hown hK hP 0 rfl rfl 1 (by decide) (hts (.fieldLink RX4 15 "ChanceHall$Games" "pays" "[I") (by decide +kernel)) (fun _ h9 => h9) rfl dX4_setPay_1 ?_
  refine lv_iload_n hx hb dX4_setPay_4 rfl (lv_at hl 1 rfl) ?_
  refine b_iald hx hb hK hP 1 0 rfl rfl (by omega) (by decide) dX4_setPay_5 ?_
  refine lv_istore_n (lv' := [(3, .int (fPy i)), (0, .ref (b 18)), (1, .int (nI i)), (2, .int v0)]) hx hb dX4_setPay_6 rfl hl (by decide) rfl (fun ls hl => ?_)
  refine lv_aload_n hx hb dX4_setPay_7 rfl (lv_at hl 1 rfl) ?_
  refine b_get (ci := 4) (v := .ref (b 19)) (C := RX4) (T := TX4) (N := 3) hx hb hts (by decide +kernel) hown hK hP 0 rfl rfl 1 (by decide) (hts (.fieldLink RX4 15 "ChanceHall$Games" "pays" "[I") (by decide +kernel)) (fun _ h9 => h9) rfl dX4_setPay_8 ?_
  refine lv_iload_n hx hb dX4_setPay_11 rfl (lv_at hl 2 rfl) ?_
  refine lv_iload_n hx hb dX4_setPay_12 rfl (lv_at hl 3 rfl) ?_
  refine b_iast hx hb hK hP hD hS 1 0 rfl rfl (by omega) (by decide) dX4_setPay_13 (fun H locs hP hD hS => ?_)
  have hP : va_P D vwCl ([gO b, [(b 19, .inl (cY 0, 6, .inl (upd fPy i v0)))]] : List va_W).flatten H := hP
  have hD : va_D A ([gO b, [(b 19, .inl (cY 0, 6, .inl (upd fPy i v0)))]] : List va_W).flatten := hD
  refine lv_iload_n hx hb dX4_setPay_14 rfl (lv_at hl 0 rfl) ?_
  exact r_i hx hb hr hlocks hP hD hS () rfl (rfl) dX4_setPay_15

set_option maxHeartbeats 4000000 in
set_option maxRecDepth 100000 in
theorem c_X4_driftOf (l : Launch) (D : va_G) (cY : Nat → ClassId) (sz : Nat) (b : Nat → Nat) (rr : Nat → Nat → Nat) (n : Nat) (k : Nat) (fW : Nat → Nat → Int32) (fPy : Nat → Int32) (g : Nat → Nat → Nat) (i : Nat) (hn1 : 1 ≤ n) (hn6 : n ≤ 6) (hk1 : 1 ≤ k) (hk12 : k ≤ 12) (hW : ∀ i j, i < n → j < n → fW i j = nI (cnt (g i) j k)) (hi : i < n) : Met l yX4_driftOf wsX4_driftOf ({ frames := 0, cells := 0, slots := 0, locals := 0 }) (cP D cY [.ref (b 18), .int (nI i)] [gO b, cO b (nI n) (nI k), oQ (cY 2) (b 3) (rr 1) 6, gI (cY 0) (rr 1) 6 fW 6, [(b 19, .inl (cY 0, 6, .inl fPy))]] sz) (qL (S := Unit) D cY (fun r uu => r = DC fPy g n k i) (fun uu => [gO b, cO b (nI n) (nI k), oQ (cY 2) (b 3) (rr 1) 6, gI (cY 0) (rr 1) 6 fW 6, [(b 19, .inl (cY 0, 6, .inl fPy))]]) (va_A ([gO b, cO b (nI n) (nI k), oQ (cY 2) (b 3) (rr 1) 6, gI (cY 0) (rr 1) 6 fW 6, [(b 19, .inl (cY 0, 6, .inl fPy))]] : List va_W).flatten sz)) 0 0 (va_A ([gO b, cO b (nI n) (nI k), oQ (cY 2) (b 3) (rr 1) 6, gI (cY 0) (rr 1) 6 fW 6, [(b 19, .inl (cY 0, 6, .inl fPy))]] : List va_W).flatten sz) := by
  refine mtB (Qc := fun A => qL (S := Unit) D cY (fun r uu => r = DC fPy g n k i) (fun uu => [gO b, cO b (nI n) (nI k), oQ (cY 2) (b 3) (rr 1) 6, gI (cY 0) (rr 1) 6 fW 6, [(b 19, .inl (cY 0, 6, .inl fPy))]]) A) (cc := cX4_driftOf) (maxL := 5) (ret := (some .long)) (by decide) rfl (Nat.le_of_ble_eq_true rfl) ?_
  intro p e s m below meth c A ls hx hb hr hml hts hown hlocks hnm hsz hP hK hVK hD hS hA hl
  have hown : s.vm.findClass RX4 = some m.cls := hown
  have hl : lv_has ls 5 [(0, .ref (b 18)), (1, .int (nI i))] := hl
  have hP : va_P D vwCl ([gO b, cO b (nI n) (nI k), oQ (cY 2) (b 3) (rr 1) 6, gI (cY 0) (rr 1) 6 fW 6, [(b 19, .inl (cY 0, 6, .inl fPy))]] : List va_W).flatten s.heap := hP
  have hD : va_D A ([gO b, cO b (nI n) (nI k), oQ (cY 2) (b 3) (rr 1) 6, gI (cY 0) (rr 1) 6 fW 6, [(b 19, .inl (cY 0, 6, .inl fPy))]] : List va_W).flatten := hD
  refine lv_lconst (v := lN 0) hx hb dX4_driftOf_0 (by decide) ?_
  refine lv_lstore_n (lv' := [(2, .long (lN 0)), (0, .ref (b 18)), (1, .int (nI i))]) hx hb dX4_driftOf_1 rfl hl (by decide) rfl (fun ls hl => ?_)
  refine lv_iconst (v := nI 0) hx hb dX4_driftOf_2 (by decide) ?_
  refine lv_istore (lv' := [(4, .int (nI 0)), (2, .long (lN 0)), (0, .ref (b 18)), (1, .int (nI i))]) hx hb dX4_driftOf_3 hl (by decide) rfl (fun ls hl => ?_)
  have L5 : ∀ q : Nat, q ≤ n →  ∀ (H : Heap) (locs : List Loc), va_P D vwCl ([gO b, cO b (nI n) (nI k), oQ (cY 2) (b 3) (rr 1) 6, gI (cY 0) (rr 1) 6 fW 6, [(b 19, .inl (cY 0, 6, .inl fPy))]] : List va_W).flatten H → va_D A ([gO b, cO b (nI n) (nI k), oQ (cY 2) (b 3) (rr 1) 6, gI (cY 0) (rr 1) 6 fW 6, [(b 19, .inl (cY 0, 6, .inl fPy))]] : List va_W).flatten → va_S A s.heap H locs → ∀ (ls : Array Slot), lv_has ls 5 [(0, .ref (b 18)), (1, .int (nI i)), (2, .long (sumL (fun j => lN (cnt (g i) j k) * (fPy j).toInt64) q)), (4, .int (nI q))] → W p l e ({ frames := 0, cells := 0, slots := 0, locals := 0 }) s m ([.ref (b 18), .int (nI i)] : List Value).toArray below meth c H locs 0 0 (MQ below (qL (S := Unit) D cY (fun r uu => r = DC fPy g n k i) (fun uu => [gO b, cO b (nI n) (nI k), oQ (cY 2) (b 3) (rr 1) 6, gI (cY 0) (rr 1) 6 fW 6, [(b 19, .inl (cY 0, 6, .inl fPy))]]) A) ([.ref (b 18), .int (nI i)] : List Value).toArray s 0 0 A) (F0 m 5 ls []) := by
    refine lpW n ?_
    intro q bdq ih5   H locs hP hD hS ls hl
    refine lv_iload hx hb dX4_driftOf_5 (lv_at hl 3 rfl) ?_
    refine lv_aload_n hx hb dX4_driftOf_7 rfl (lv_at hl 0 rfl) ?_
    refine b_get (ci := 4) (v := .ref (b 1)) (C := RX4) (T := TX4) (N := 3) hx hb hts (by decide +kernel) hown hK hP 0 rfl rfl 0 (by decide) (hts (.fieldLink RX4 9 "ChanceHall$Games" "chain" "LChanceHall$Chain;") (by decide +kernel)) (fun _ h9 => h9) rfl dX4_driftOf_8 ?_
    refine b_get (ci := 0) (v := .int (nI n)) (C := RX0) (T := TX0) (N := 4) hx hb hts (by decide +kernel) hown hK hP 1 rfl rfl 0 (by decide) (hts (.fieldLink RX4 30 "ChanceHall$Chain" "states" "I") (by decide +kernel)) (fun _ h9 => h9) rfl dX4_driftOf_11 ?_
    refine n_icmp_ge (tgt := 48) hx hb dX4_driftOf_14 (by decide) (by omega) (by omega) (fun h14 => ?_) (fun h14 => ?_)
    · -- t
      refine lv_lload_n hx hb dX4_driftOf_48 rfl (lv_at hl 2 rfl) ?_
      refine lv_aload_n hx hb dX4_driftOf_49 rfl (lv_at hl 0 rfl) ?_
      refine b_get (ci := 4) (v := .ref (b 1)) (C := RX4) (T := TX4) (N := 3) hx hb hts (by decide +kernel) hown hK hP 0 rfl rfl 0 (by decide) (hts (.fieldLink RX4 9 "ChanceHall$Games" "chain" "LChanceHall$Chain;") (by decide +kernel)) (fun _ h9 => h9) rfl dX4_driftOf_50 ?_
      refine b_get (ci := 0) (v := .int (nI k)) (C := RX0) (T := TX0) (N := 4) hx hb hts (by decide +kernel) hown hK hP 1 rfl rfl 1 (by decide) (hts (.fieldLink RX4 40 "ChanceHall$Chain" "slots" "I") (by decide +kernel)) (fun _ h9 => h9) rfl dX4_driftOf_53 ?_
      refine lv_i2l (v := lN k) hx hb dX4_driftOf_56 (nI_l (by omega)) ?_
      refine lv_aload_n hx hb dX4_driftOf_57 rfl (lv_at hl 0 rfl) ?_
      refine b_get (ci := 4) (v := .ref (b 19)) (C := RX4) (T := TX4) (N := 3) hx hb hts (by decide +kernel) hown hK hP 0 rfl rfl 1 (by decide) (hts (.fieldLink RX4 15 "ChanceHall$Games" "pays" "[I") (by decide +kernel)) (fun _ h9 => h9) rfl dX4_driftOf_58 ?_
      refine lv_iload_n hx hb dX4_driftOf_61 rfl (lv_at hl 1 rfl) ?_
      refine b_iald hx hb hK hP 4 0 rfl rfl (by omega) (by decide) dX4_driftOf_62 ?_
      refine lv_i2l (v := ((fPy i)).toInt64) hx hb dX4_driftOf_63 rfl ?_
      refine lv_lmul hx hb dX4_driftOf_64 ?_
      refine lv_lsub hx hb dX4_driftOf_65 ?_
      exact r_l hx hb hr hlocks hP hD hS () rfl (by (have e : q = n := by omega); subst e; rfl) dX4_driftOf_66
    · -- f
      refine lv_lload_n hx hb dX4_driftOf_17 rfl (lv_at hl 2 rfl) ?_
      refine lv_aload_n hx hb dX4_driftOf_18 rfl (lv_at hl 0 rfl) ?_
      refine b_get (ci := 4) (v := .ref (b 1)) (C := RX4) (T := TX4) (N := 3) hx hb hts (by decide +kernel) hown hK hP 0 rfl rfl 0 (by decide) (hts (.fieldLink RX4 9 "ChanceHall$Games" "chain" "LChanceHall$Chain;") (by decide +kernel)) (fun _ h9 => h9) rfl dX4_driftOf_19 ?_
      refine b_get (ci := 0) (v := .ref (b 3)) (C := RX0) (T := TX0) (N := 4) hx hb hts (by decide +kernel) hown hK hP 1 rfl rfl 3 (by decide) (hts (.fieldLink RX4 36 "ChanceHall$Chain" "weights" "[[I") (by decide +kernel)) (fun _ h9 => h9) rfl dX4_driftOf_22 ?_
      refine lv_iload_n hx hb dX4_driftOf_25 rfl (lv_at hl 1 rfl) ?_
      refine g_aald hx hb hK hP 2 2 rfl rfl (by omega) (by decide) dX4_driftOf_26 ?_
      refine lv_iload hx hb dX4_driftOf_27 (lv_at hl 3 rfl) ?_
      refine g_iald hx hb hK hP 3 0 rfl rfl (by omega) (by omega) (by decide) dX4_driftOf_29 ?_
      refine eqi (x' := nI (cnt (g i) q k)) (hW i q hi (by omega)) ?_
      have hcl := cnt_le (g i) q k
      refine lv_i2l (v := lN (cnt (g i) q k)) hx hb dX4_driftOf_30 (nI_l (by omega)) ?_
      refine lv_aload_n hx hb dX4_driftOf_31 rfl (lv_at hl 0 rfl) ?_
      refine b_get (ci := 4) (v := .ref (b 19)) (C := RX4) (T := TX4) (N := 3) hx hb hts (by decide +kernel) hown hK hP 0 rfl rfl 1 (by decide) (hts (.fieldLink RX4 15 "ChanceHall$Games" "pays" "[I") (by decide +kernel)) (fun _ h9 => h9) rfl dX4_driftOf_32 ?_
      refine lv_iload hx hb dX4_driftOf_35 (lv_at hl 3 rfl) ?_
      refine b_iald hx hb hK hP 4 0 rfl rfl (by omega) (by decide) dX4_driftOf_37 ?_
      refine lv_i2l (v := ((fPy q)).toInt64) hx hb dX4_driftOf_38 rfl ?_
      refine lv_lmul hx hb dX4_driftOf_39 ?_
      refine lv_ladd hx hb dX4_driftOf_40 ?_
      refine lv_lstore_n (lv' := [(2, .long ((sumL (fun j => lN (cnt (g i) j k) * (fPy j).toInt64) q) + ((lN (cnt (g i) q k)) * (((fPy q)).toInt64)))), (0, .ref (b 18)), (1, .int (nI i)), (4, .int (nI q))]) hx hb dX4_driftOf_41 rfl hl (by decide) rfl (fun ls hl => ?_)
      refine lv_iinc (v := nI (q + 1)) (lv' := [(4, .int (nI (q + 1))), (2, .long ((sumL (fun j => lN (cnt (g i) j k) * (fPy j).toInt64) q) + ((lN (cnt (g i) q k)) * (((fPy q)).toInt64)))), (0, .ref (b 18)), (1, .int (nI i))]) hx hb dX4_driftOf_42 hl (k := 3) rfl (nI_1 q) (by decide) rfl (fun ls hl => ?_)
      refine lv_goto (tgt := 5) hx hb dX4_driftOf_45 (by decide) ?_
      exact ih5 (by omega)   _ _ hP hD hS _ (lv_sub hl [2, 3, 1, 0] rfl)
  exact L5 0 (by omega)   _ _ hP hD hS _ (lv_sub hl [2, 3, 1, 0] rfl)

set_option maxHeartbeats 4000000 in
set_option maxRecDepth 100000 in
theorem c_X4_byStopping (l : Launch) (D : va_G) (cY : Nat → ClassId) (sz : Nat) (b : Nat → Nat) (n : Nat) (k : Nat) (fPy : Nat → Int32) (i : Nat) (t : Nat) (hn1 : 1 ≤ n) (hn6 : n ≤ 6) (hk1 : 1 ≤ k) (hk12 : k ≤ 12) (hi : i < n) (ht : t ≤ 12) : Met l yX4_byStopping wsX4_byStopping ({ frames := 1, cells := 0, slots := 0, locals := 40 }) (cP D cY [.ref (b 18), .int (nI i), .int (nI t)] [gO b, cO b (nI n) (nI k), [(b 19, .inl (cY 0, 6, .inl fPy))]] sz) (qL (S := Unit) D cY (fun r uu => r = stV fPy k t i) (fun uu => [gO b, cO b (nI n) (nI k), [(b 19, .inl (cY 0, 6, .inl fPy))]]) (va_A ([gO b, cO b (nI n) (nI k), [(b 19, .inl (cY 0, 6, .inl fPy))]] : List va_W).flatten sz)) 0 0 (va_A ([gO b, cO b (nI n) (nI k), [(b 19, .inl (cY 0, 6, .inl fPy))]] : List va_W).flatten sz) := by
  refine mtB (Qc := fun A => qL (S := Unit) D cY (fun r uu => r = stV fPy k t i) (fun uu => [gO b, cO b (nI n) (nI k), [(b 19, .inl (cY 0, 6, .inl fPy))]]) A) (cc := cX4_byStopping) (maxL := 3) (ret := (some .long)) (by decide) rfl (Nat.le_of_ble_eq_true rfl) ?_
  intro p e s m below meth c A ls hx hb hr hml hts hown hlocks hnm hsz hP hK hVK hD hS hA hl
  have hown : s.vm.findClass RX4 = some m.cls := hown
  have hl : lv_has ls 3 [(0, .ref (b 18)), (1, .int (nI i)), (2, .int (nI t))] := hl
  have hP : va_P D vwCl ([gO b, cO b (nI n) (nI k), [(b 19, .inl (cY 0, 6, .inl fPy))]] : List va_W).flatten s.heap := hP
  have hD : va_D A ([gO b, cO b (nI n) (nI k), [(b 19, .inl (cY 0, 6, .inl fPy))]] : List va_W).flatten := hD
  refine lv_aload_n hx hb dX4_byStopping_0 rfl (lv_at hl 0 rfl) ?_
  refine b_get (ci := 4) (v := .ref (b 19)) (C := RX4) (T := TX4) (N := 3) hx hb hts (by decide +kernel) hown hK hP 0 rfl rfl 1 (by decide) (hts (.fieldLink RX4 15 "ChanceHall$Games" "pays" "[I") (by decide +kernel)) (fun _ h9 => h9) rfl dX4_byStopping_1 ?_
  refine lv_iload_n hx hb dX4_byStopping_4 rfl (lv_at hl 1 rfl) ?_
  refine b_iald hx hb hK hP 2 0 rfl rfl (by omega) (by decide) dX4_byStopping_5 ?_
  refine lv_i2l (v := ((fPy i)).toInt64) hx hb dX4_byStopping_6 rfl ?_
  refine lv_aload_n hx hb dX4_byStopping_7 rfl (lv_at hl 0 rfl) ?_
  refine b_get (ci := 4) (v := .ref (b 1)) (C := RX4) (T := TX4) (N := 3) hx hb hts (by decide +kernel) hown hK hP 0 rfl rfl 0 (by decide) (hts (.fieldLink RX4 9 "ChanceHall$Games" "chain" "LChanceHall$Chain;") (by decide +kernel)) (fun _ h9 => h9) rfl dX4_byStopping_8 ?_
  refine lv_iload_n hx hb dX4_byStopping_11 rfl (lv_at hl 2 rfl) ?_
  refine ca_l (CL := [cO b (nI n) (nI k)]) (va_runV (As := [.int (nI t)]) (rest := [.long (((fPy i)).toInt64)]) ⟨hx, hb, hml, hown, hts⟩ (c_X0_countWords l D cY s.heap.size b n k t (by omega) (by omega) (by omega) (by omega) (by omega)) (cwV 1 hts gX4_byStopping_X0_countWords rfl rfl rfl (by decide +kernel) ⟨Nat.le_of_ble_eq_true rfl, Nat.le_of_ble_eq_true rfl⟩) (b_preV hVK hP hD [1] rfl rfl 1 rfl rfl) rfl rfl hl.1 rfl (lv_room (Nat.le_of_ble_eq_true rfl)) dX4_byStopping_12 ⟨Nat.le_refl _, Nat.le_refl _⟩) hP hD hS hA [1] rfl rfl (fun _ => rfl) (fun r12 uu H locs hq hP hD hS => ?_)
  subst hq
  have hP : va_P D vwCl ([gO b, cO b (nI n) (nI k), [(b 19, .inl (cY 0, 6, .inl fPy))]] : List va_W).flatten H := hP
  have hD : va_D A ([gO b, cO b (nI n) (nI k), [(b 19, .inl (cY 0, 6, .inl fPy))]] : List va_W).flatten := hD
  refine lv_lmul hx hb dX4_byStopping_15 ?_
  exact r_l hx hb hr hlocks hP hD hS () rfl (rfl) dX4_byStopping_16

set_option maxHeartbeats 4000000 in
set_option maxRecDepth 100000 in
theorem c_X4_byGoingOn (l : Launch) (D : va_G) (cY : Nat → ClassId) (sz : Nat) (b : Nat → Nat) (rr : Nat → Nat → Nat) (n : Nat) (k : Nat) (fW : Nat → Nat → Int32) (fPy : Nat → Int32) (fB : Nat → Nat → Int64) (g : Nat → Nat → Nat) (i : Nat) (t : Nat) (hn1 : 1 ≤ n) (hn6 : n ≤ 6) (hk1 : 1 ≤ k) (hk12 : k ≤ 12) (hW : ∀ i j, i < n → j < n → fW i j = nI (cnt (g i) j k)) (hi : i < n) (ht : t ≤ 12) (hB : t = 0 ∨ ∀ d, d < n → fB (t - 1) d = BC fPy g n k (t - 1) d) : Met l yX4_byGoingOn wsX4_byGoingOn ({ frames := 2, cells := 0, slots := 0, locals := 80 }) (cP D cY [.ref (b 18), .int (nI i), .int (nI t)] [gO b, cO b (nI n) (nI k), oQ (cY 2) (b 3) (rr 1) 6, gI (cY 0) (rr 1) 6 fW 6, [(b 19, .inl (cY 0, 6, .inl fPy))], oQ (cY 3) (b 20) (rr 6) 13, gJ (cY 1) (rr 6) 6 fB 13] sz) (qL (S := Unit) D cY (fun r uu => r = GC fPy g n k t i) (fun uu => [gO b, cO b (nI n) (nI k), oQ (cY 2) (b 3) (rr 1) 6, gI (cY 0) (rr 1) 6 fW 6, [(b 19, .inl (cY 0, 6, .inl fPy))], oQ (cY 3) (b 20) (rr 6) 13, gJ (cY 1) (rr 6) 6 fB 13]) (va_A ([gO b, cO b (nI n) (nI k), oQ (cY 2) (b 3) (rr 1) 6, gI (cY 0) (rr 1) 6 fW 6, [(b 19, .inl (cY 0, 6, .inl fPy))], oQ (cY 3) (b 20) (rr 6) 13, gJ (cY 1) (rr 6) 6 fB 13] : List va_W).flatten sz)) 0 0 (va_A ([gO b, cO b (nI n) (nI k), oQ (cY 2) (b 3) (rr 1) 6, gI (cY 0) (rr 1) 6 fW 6, [(b 19, .inl (cY 0, 6, .inl fPy))], oQ (cY 3) (b 20) (rr 6) 13, gJ (cY 1) (rr 6) 6 fB 13] : List va_W).flatten sz) := by
  refine mtB (Qc := fun A => qL (S := Unit) D cY (fun r uu => r = GC fPy g n k t i) (fun uu => [gO b, cO b (nI n) (nI k), oQ (cY 2) (b 3) (rr 1) 6, gI (cY 0) (rr 1) 6 fW 6, [(b 19, .inl (cY 0, 6, .inl fPy))], oQ (cY 3) (b 20) (rr 6) 13, gJ (cY 1) (rr 6) 6 fB 13]) A) (cc := cX4_byGoingOn) (maxL := 3) (ret := (some .long)) (by decide) rfl (Nat.le_of_ble_eq_true rfl) ?_
  intro p e s m below meth c A ls hx hb hr hml hts hown hlocks hnm hsz hP hK hVK hD hS hA hl
  have hown : s.vm.findClass RX4 = some m.cls := hown
  have hl : lv_has ls 3 [(0, .ref (b 18)), (1, .int (nI i)), (2, .int (nI t))] := hl
  have hP : va_P D vwCl ([gO b, cO b (nI n) (nI k), oQ (cY 2) (b 3) (rr 1) 6, gI (cY 0) (rr 1) 6 fW 6, [(b 19, .inl (cY 0, 6, .inl fPy))], oQ (cY 3) (b 20) (rr 6) 13, gJ (cY 1) (rr 6) 6 fB 13] : List va_W).flatten s.heap := hP
  have hD : va_D A ([gO b, cO b (nI n) (nI k), oQ (cY 2) (b 3) (rr 1) 6, gI (cY 0) (rr 1) 6 fW 6, [(b 19, .inl (cY 0, 6, .inl fPy))], oQ (cY 3) (b 20) (rr 6) 13, gJ (cY 1) (rr 6) 6 fB 13] : List va_W).flatten := hD
  refine lv_iload_n hx hb dX4_byGoingOn_0 rfl (lv_at hl 2 rfl) ?_
  refine lv_iconst (v := nI 1) hx hb dX4_byGoingOn_1 (by decide) ?_
  refine n_icmp_ge (tgt := 14) hx hb dX4_byGoingOn_2 (by decide) (by omega) (by omega) (fun h2 => ?_) (fun h2 => ?_)
  · -- t
    refine lv_aload_n hx hb dX4_byGoingOn_14 rfl (lv_at hl 0 rfl) ?_
    refine b_get (ci := 4) (v := .ref (b 1)) (C := RX4) (T := TX4) (N := 3) hx hb hts (by decide +kernel) hown hK hP 0 rfl rfl 0 (by decide) (hts (.fieldLink RX4 9 "ChanceHall$Games" "chain" "LChanceHall$Chain;") (by decide +kernel)) (fun _ h9 => h9) rfl dX4_byGoingOn_15 ?_
    refine lv_iload_n hx hb dX4_byGoingOn_18 rfl (lv_at hl 1 rfl) ?_
    refine lv_aload_n hx hb dX4_byGoingOn_19 rfl (lv_at hl 0 rfl) ?_
    refine b_get (ci := 4) (v := .ref (b 20)) (C := RX4) (T := TX4) (N := 3) hx hb hts (by decide +kernel) hown hK hP 0 rfl rfl 2 (by decide) (hts (.fieldLink RX4 21 "ChanceHall$Games" "bests" "[[J") (by decide +kernel)) (fun _ h9 => h9) rfl dX4_byGoingOn_20 ?_
    refine lv_iload_n hx hb dX4_byGoingOn_23 rfl (lv_at hl 2 rfl) ?_
    refine lv_iconst (v := nI 1) hx hb dX4_byGoingOn_24 (by decide) ?_
    refine lv_isub hx hb dX4_byGoingOn_25 ?_
    refine eqi (x' := nI (t - 1)) (pk_sub (by omega)) ?_
    refine g_aald hx hb hK hP 5 3 rfl rfl (by omega) (by decide) dX4_byGoingOn_26 ?_
    obtain ⟨X_1, hP, hD, hbk2s, hbk2⟩ := g_outJ hP hD (b := 6) rfl (j := t - 1) (by omega)
    have hP : va_P D vwCl ([gO b, cO b (nI n) (nI k), oQ (cY 2) (b 3) (rr 1) 6, gI (cY 0) (rr 1) 6 fW 6, [(b 19, .inl (cY 0, 6, .inl fPy))], oQ (cY 3) (b 20) (rr 6) 13, X_1, [(rr 6 (t - 1), .inl (cY 1, 6, .inr (.inl (fB (t - 1)))))]] : List va_W).flatten s.heap := hP
    have hD : va_D A ([gO b, cO b (nI n) (nI k), oQ (cY 2) (b 3) (rr 1) 6, gI (cY 0) (rr 1) 6 fW 6, [(b 19, .inl (cY 0, 6, .inl fPy))], oQ (cY 3) (b 20) (rr 6) 13, X_1, [(rr 6 (t - 1), .inl (cY 1, 6, .inr (.inl (fB (t - 1)))))]] : List va_W).flatten := hD
    refine ca_l (CL := [cO b (nI n) (nI k), oQ (cY 2) (b 3) (rr 1) 6, gI (cY 0) (rr 1) 6 fW 6, [(rr 6 (t - 1), .inl (cY 1, 6, .inr (.inl (fB (t - 1)))))]]) (va_runV (As := [.int (nI i), .ref (rr 6 (t - 1))]) (rest := []) ⟨hx, hb, hml, hown, hts⟩ (c_X0_sumOverSlots l D cY s.heap.size b rr n k fW g i (rr 6 (t - 1)) 6 (fB (t - 1)) (by omega) (by omega) (by omega) (by omega) hW (by omega) (⟨by omega, by omega⟩)) (cwV 2 hts gX4_byGoingOn_X0_sumOverSlots rfl rfl rfl (by decide +kernel) ⟨Nat.le_of_ble_eq_true rfl, Nat.le_of_ble_eq_true rfl⟩) (b_preV hVK hP hD [1, 2, 3, 7] rfl rfl 1 rfl rfl) rfl rfl hl.1 rfl (lv_room (Nat.le_of_ble_eq_true rfl)) dX4_byGoingOn_27 ⟨Nat.le_refl _, Nat.le_refl _⟩) hP hD hS hA [1, 2, 3, 7] rfl rfl (fun _ => rfl) (fun r27 uu H locs hq hP hD hS => ?_)
    subst hq
    have hP : va_P D vwCl ([gO b, cO b (nI n) (nI k), oQ (cY 2) (b 3) (rr 1) 6, gI (cY 0) (rr 1) 6 fW 6, [(b 19, .inl (cY 0, 6, .inl fPy))], oQ (cY 3) (b 20) (rr 6) 13, X_1, [(rr 6 (t - 1), .inl (cY 1, 6, .inr (.inl (fB (t - 1)))))]] : List va_W).flatten H := hP
    have hD : va_D A ([gO b, cO b (nI n) (nI k), oQ (cY 2) (b 3) (rr 1) 6, gI (cY 0) (rr 1) 6 fW 6, [(b 19, .inl (cY 0, 6, .inl fPy))], oQ (cY 3) (b 20) (rr 6) 13, X_1, [(rr 6 (t - 1), .inl (cY 1, 6, .inr (.inl (fB (t - 1)))))]] : List va_W).flatten := hD
    obtain ⟨hP, hD⟩ := hbk2s _ hP hD
    have hP : va_P D vwCl ([gO b, cO b (nI n) (nI k), oQ (cY 2) (b 3) (rr 1) 6, gI (cY 0) (rr 1) 6 fW 6, [(b 19, .inl (cY 0, 6, .inl fPy))], oQ (cY 3) (b 20) (rr 6) 13, gJ (cY 1) (rr 6) 6 fB 13] : List va_W).flatten H := hP
    have hD : va_D A ([gO b, cO b (nI n) (nI k), oQ (cY 2) (b 3) (rr 1) 6, gI (cY 0) (rr 1) 6 fW 6, [(b 19, .inl (cY 0, 6, .inl fPy))], oQ (cY 3) (b 20) (rr 6) 13, gJ (cY 1) (rr 6) 6 fB 13] : List va_W).flatten := hD
    have hfin : sumL (fun j => lN (cnt (g i) j k) * fB (t - 1) j) n = GC fPy g n k t i := by
      obtain ⟨z, rfl⟩ : ∃ z, t = z + 1 := ⟨t - 1, by omega⟩
      rcases hB with e | hB
      · omega
      · exact sumL_congr (fun d hd => by rw [hB d hd]; rfl)
    exact r_l hx hb hr hlocks hP hD hS () rfl (by first | exact hfin | ((have e : t = 0 := by omega); subst e; rfl)) dX4_byGoingOn_30
  · -- f
    refine lv_aload_n hx hb dX4_byGoingOn_5 rfl (lv_at hl 0 rfl) ?_
    refine lv_iload_n hx hb dX4_byGoingOn_6 rfl (lv_at hl 1 rfl) ?_
    refine lv_iload_n hx hb dX4_byGoingOn_7 rfl (lv_at hl 2 rfl) ?_
    refine ca_l (CL := [gO b, cO b (nI n) (nI k), [(b 19, .inl (cY 0, 6, .inl fPy))]]) (va_runV (As := [.int (nI i), .int (nI t)]) (rest := []) ⟨hx, hb, hml, hown, hts⟩ (c_X4_byStopping l D cY s.heap.size b n k fPy i t (by omega) (by omega) (by omega) (by omega) (by omega) (by omega)) (cwV 2 hts gX4_byGoingOn_X4_byStopping rfl rfl rfl (by decide +kernel) ⟨Nat.le_of_ble_eq_true rfl, Nat.le_of_ble_eq_true rfl⟩) (b_preV hVK hP hD [0, 1, 4] rfl rfl 0 rfl rfl) rfl rfl hl.1 rfl (lv_room (Nat.le_of_ble_eq_true rfl)) dX4_byGoingOn_8 ⟨Nat.le_refl _, Nat.le_refl _⟩) hP hD hS hA [0, 1, 4] rfl rfl (fun _ => rfl) (fun r8 uu H locs hq hP hD hS => ?_)
    subst hq
    have hP : va_P D vwCl ([gO b, cO b (nI n) (nI k), oQ (cY 2) (b 3) (rr 1) 6, gI (cY 0) (rr 1) 6 fW 6, [(b 19, .inl (cY 0, 6, .inl fPy))], oQ (cY 3) (b 20) (rr 6) 13, gJ (cY 1) (rr 6) 6 fB 13] : List va_W).flatten H := hP
    have hD : va_D A ([gO b, cO b (nI n) (nI k), oQ (cY 2) (b 3) (rr 1) 6, gI (cY 0) (rr 1) 6 fW 6, [(b 19, .inl (cY 0, 6, .inl fPy))], oQ (cY 3) (b 20) (rr 6) 13, gJ (cY 1) (rr 6) 6 fB 13] : List va_W).flatten := hD
    refine lv_goto (tgt := 30) hx hb dX4_byGoingOn_11 (by decide) ?_
    exact r_l hx hb hr hlocks hP hD hS () rfl (by first | exact hfin | ((have e : t = 0 := by omega); subst e; rfl)) dX4_byGoingOn_30

set_option maxHeartbeats 4000000 in
set_option maxRecDepth 100000 in
theorem c_X4_countBests (l : Launch) (D : va_G) (cY : Nat → ClassId) (sz : Nat) (b : Nat → Nat) (rr : Nat → Nat → Nat) (n : Nat) (k : Nat) (fW : Nat → Nat → Int32) (fPy : Nat → Int32) (fB : Nat → Nat → Int64) (g : Nat → Nat → Nat) (t : Nat) (hn1 : 1 ≤ n) (hn6 : n ≤ 6) (hk1 : 1 ≤ k) (hk12 : k ≤ 12) (hW : ∀ i j, i < n → j < n → fW i j = nI (cnt (g i) j k)) (ht : t ≤ 12) : Met l yX4_countBests wsX4_countBests ({ frames := 3, cells := 0, slots := 0, locals := 120 }) (cP D cY [.ref (b 18), .int (nI t)] [gO b, cO b (nI n) (nI k), oQ (cY 2) (b 3) (rr 1) 6, gI (cY 0) (rr 1) 6 fW 6, [(b 19, .inl (cY 0, 6, .inl fPy))], oQ (cY 3) (b 20) (rr 6) 13, gJ (cY 1) (rr 6) 6 fB 13] sz) (qV (S := (Nat → Nat → Int64)) D cY (fun uu => ∀ u, u ≤ t → ∀ d, d < n → uu u d = BC fPy g n k u d) (fun uu => [gO b, cO b (nI n) (nI k), oQ (cY 2) (b 3) (rr 1) 6, gI (cY 0) (rr 1) 6 fW 6, [(b 19, .inl (cY 0, 6, .inl fPy))], oQ (cY 3) (b 20) (rr 6) 13, gJ (cY 1) (rr 6) 6 uu 13]) (va_A ([gO b, cO b (nI n) (nI k), oQ (cY 2) (b 3) (rr 1) 6, gI (cY 0) (rr 1) 6 fW 6, [(b 19, .inl (cY 0, 6, .inl fPy))], oQ (cY 3) (b 20) (rr 6) 13, gJ (cY 1) (rr 6) 6 fB 13] : List va_W).flatten sz)) 0 0 (va_A ([gO b, cO b (nI n) (nI k), oQ (cY 2) (b 3) (rr 1) 6, gI (cY 0) (rr 1) 6 fW 6, [(b 19, .inl (cY 0, 6, .inl fPy))], oQ (cY 3) (b 20) (rr 6) 13, gJ (cY 1) (rr 6) 6 fB 13] : List va_W).flatten sz) := by
  refine mtB (Qc := fun A => qV (S := (Nat → Nat → Int64)) D cY (fun uu => ∀ u, u ≤ t → ∀ d, d < n → uu u d = BC fPy g n k u d) (fun uu => [gO b, cO b (nI n) (nI k), oQ (cY 2) (b 3) (rr 1) 6, gI (cY 0) (rr 1) 6 fW 6, [(b 19, .inl (cY 0, 6, .inl fPy))], oQ (cY 3) (b 20) (rr 6) 13, gJ (cY 1) (rr 6) 6 uu 13]) A) (cc := cX4_countBests) (maxL := 4) (ret := none) (by decide) rfl (Nat.le_of_ble_eq_true rfl) ?_
  intro p e s m below meth c A ls hx hb hr hml hts hown hlocks hnm hsz hP hK hVK hD hS hA hl
  have hown : s.vm.findClass RX4 = some m.cls := hown
  have hl : lv_has ls 4 [(0, .ref (b 18)), (1, .int (nI t))] := hl
  have hP : va_P D vwCl ([gO b, cO b (nI n) (nI k), oQ (cY 2) (b 3) (rr 1) 6, gI (cY 0) (rr 1) 6 fW 6, [(b 19, .inl (cY 0, 6, .inl fPy))], oQ (cY 3) (b 20) (rr 6) 13, gJ (cY 1) (rr 6) 6 fB 13] : List va_W).flatten s.heap := hP
  have hD : va_D A ([gO b, cO b (nI n) (nI k), oQ (cY 2) (b 3) (rr 1) 6, gI (cY 0) (rr 1) 6 fW 6, [(b 19, .inl (cY 0, 6, .inl fPy))], oQ (cY 3) (b 20) (rr 6) 13, gJ (cY 1) (rr 6) 6 fB 13] : List va_W).flatten := hD
  refine lv_iconst (v := nI 0) hx hb dX4_countBests_0 (by decide) ?_
  refine lv_istore_n (lv' := [(2, .int (nI 0)), (0, .ref (b 18)), (1, .int (nI t))]) hx hb dX4_countBests_1 rfl hl (by decide) rfl (fun ls hl => ?_)
  have L2 : ∀ u : Nat, u ≤ t + 1 → ∀ (gB : Nat → Nat → Int64), (BT_ fPy g n k u 0 gB) → ∀ (H : Heap) (locs : List Loc), va_P D vwCl ([gO b, cO b (nI n) (nI k), oQ (cY 2) (b 3) (rr 1) 6, gI (cY 0) (rr 1) 6 fW 6, [(b 19, .inl (cY 0, 6, .inl fPy))], oQ (cY 3) (b 20) (rr 6) 13, gJ (cY 1) (rr 6) 6 gB 13] : List va_W).flatten H → va_D A ([gO b, cO b (nI n) (nI k), oQ (cY 2) (b 3) (rr 1) 6, gI (cY 0) (rr 1) 6 fW 6, [(b 19, .inl (cY 0, 6, .inl fPy))], oQ (cY 3) (b 20) (rr 6) 13, gJ (cY 1) (rr 6) 6 gB 13] : List va_W).flatten → va_S A s.heap H locs → ∀ (ls : Array Slot), lv_has ls 4 [(0, .ref (b 18)), (1, .int (nI t)), (2, .int (nI u))] → W p l e ({ frames := 3, cells := 0, slots := 0, locals := 120 }) s m ([.ref (b 18), .int (nI t)] : List Value).toArray below meth c H locs 0 0 (MQ below (qV (S := (Nat → Nat → Int64)) D cY (fun uu => ∀ u, u ≤ t → ∀ d, d < n → uu u d = BC fPy g n k u d) (fun uu => [gO b, cO b (nI n) (nI k), oQ (cY 2) (b 3) (rr 1) 6, gI (cY 0) (rr 1) 6 fW 6, [(b 19, .inl (cY 0, 6, .inl fPy))], oQ (cY 3) (b 20) (rr 6) 13, gJ (cY 1) (rr 6) 6 uu 13]) A) ([.ref (b 18), .int (nI t)] : List Value).toArray s 0 0 A) (F0 m 2 ls []) := by
    refine lpW (t + 1) ?_
    intro u bdu ih2 gB hI H locs hP hD hS ls hl
    refine lv_iload_n hx hb dX4_countBests_2 rfl (lv_at hl 2 rfl) ?_
    refine lv_iload_n hx hb dX4_countBests_3 rfl (lv_at hl 1 rfl) ?_
    refine n_icmp_gt (tgt := 55) hx hb dX4_countBests_4 (by decide) (by omega) (by omega) (fun h4 => ?_) (fun h4 => ?_)
    · -- t
      exact r_v hx hb hr hlocks hP hD hS gB rfl (fun u2 hu d hd => hI.1 u2 (by omega) d hd) dX4_countBests_55
    · -- f
      refine lv_iconst (v := nI 0) hx hb dX4_countBests_7 (by decide) ?_
      refine lv_istore_n (lv' := [(3, .int (nI 0)), (0, .ref (b 18)), (1, .int (nI t)), (2, .int (nI u))]) hx hb dX4_countBests_8 rfl hl (by decide) rfl (fun ls hl => ?_)
      have L9 : ∀ i : Nat, i ≤ n → ∀ (gB2 : Nat → Nat → Int64), (BT_ fPy g n k u i gB2) → ∀ (H : Heap) (locs : List Loc), va_P D vwCl ([gO b, cO b (nI n) (nI k), oQ (cY 2) (b 3) (rr 1) 6, gI (cY 0) (rr 1) 6 fW 6, [(b 19, .inl (cY 0, 6, .inl fPy))], oQ (cY 3) (b 20) (rr 6) 13, gJ (cY 1) (rr 6) 6 gB2 13] : List va_W).flatten H → va_D A ([gO b, cO b (nI n) (nI k), oQ (cY 2) (b 3) (rr 1) 6, gI (cY 0) (rr 1) 6 fW 6, [(b 19, .inl (cY 0, 6, .inl fPy))], oQ (cY 3) (b 20) (rr 6) 13, gJ (cY 1) (rr 6) 6 gB2 13] : List va_W).flatten → va_S A s.heap H locs → ∀ (ls : Array Slot), lv_has ls 4 [(0, .ref (b 18)), (1, .int (nI t)), (2, .int (nI u)), (3, .int (nI i))] → W p l e ({ frames := 3, cells := 0, slots := 0, locals := 120 }) s m ([.ref (b 18), .int (nI t)] : List Value).toArray below meth c H locs 0 0 (MQ below (qV (S := (Nat → Nat → Int64)) D cY (fun uu => ∀ u, u ≤ t → ∀ d, d < n → uu u d = BC fPy g n k u d) (fun uu => [gO b, cO b (nI n) (nI k), oQ (cY 2) (b 3) (rr 1) 6, gI (cY 0) (rr 1) 6 fW 6, [(b 19, .inl (cY 0, 6, .inl fPy))], oQ (cY 3) (b 20) (rr 6) 13, gJ (cY 1) (rr 6) 6 uu 13]) A) ([.ref (b 18), .int (nI t)] : List Value).toArray s 0 0 A) (F0 m 9 ls []) := by
        refine lpW n ?_
        intro i bdi ih9 gB2 hJ H locs hP hD hS ls hl
        refine lv_iload_n hx hb dX4_countBests_9 rfl (lv_at hl 3 rfl) ?_
        refine lv_aload_n hx hb dX4_countBests_10 rfl (lv_at hl 0 rfl) ?_
        refine b_get (ci := 4) (v := .ref (b 1)) (C := RX4) (T := TX4) (N := 3) hx hb hts (by decide +kernel) hown hK hP 0 rfl rfl 0 (by decide) (hts (.fieldLink RX4 9 "ChanceHall$Games" "chain" "LChanceHall$Chain;") (by decide +kernel)) (fun _ h9 => h9) rfl dX4_countBests_11 ?_
        refine b_get (ci := 0) (v := .int (nI n)) (C := RX0) (T := TX0) (N := 4) hx hb hts (by decide +kernel) hown hK hP 1 rfl rfl 0 (by decide) (hts (.fieldLink RX4 30 "ChanceHall$Chain" "states" "I") (by decide +kernel)) (fun _ h9 => h9) rfl dX4_countBests_14 ?_
        refine n_icmp_ge (tgt := 49) hx hb dX4_countBests_17 (by decide) (by omega) (by omega) (fun h17 => ?_) (fun h17 => ?_)
        · -- t
          refine lv_iinc (v := nI (u + 1)) (lv' := [(2, .int (nI (u + 1))), (0, .ref (b 18)), (1, .int (nI t)), (3, .int (nI i))]) hx hb dX4_countBests_49 hl (k := 2) rfl (nI_1 u) (by decide) rfl (fun ls hl => ?_)
          refine lv_goto (tgt := 2) hx hb dX4_countBests_52 (by decide) ?_
          exact ih2 (by omega) gB2 (BT_n (by (have e : i = n := by omega); rw [e] at hJ; exact hJ)) _ _ hP hD hS _ (lv_sub hl [1, 2, 0] rfl)
        · -- f
          refine lv_aload_n hx hb dX4_countBests_20 rfl (lv_at hl 0 rfl) ?_
          refine b_get (ci := 4) (v := .ref (b 20)) (C := RX4) (T := TX4) (N := 3) hx hb hts (by decide +kernel) hown hK hP 0 rfl rfl 2 (by decide) (hts (.fieldLink RX4 21 "ChanceHall$Games" "bests" "[[J") (by decide +kernel)) (fun _ h9 => h9) rfl dX4_countBests_21 ?_
          refine lv_iload_n hx hb dX4_countBests_24 rfl (lv_at hl 2 rfl) ?_
          refine g_aald hx hb hK hP 5 3 rfl rfl (by omega) (by decide) dX4_countBests_25 ?_
          refine lv_iload_n hx hb dX4_countBests_26 rfl (lv_at hl 3 rfl) ?_
          refine lv_aload_n hx hb dX4_countBests_27 rfl (lv_at hl 0 rfl) ?_
          refine lv_iload_n hx hb dX4_countBests_28 rfl (lv_at hl 3 rfl) ?_
          refine lv_iload_n hx hb dX4_countBests_29 rfl (lv_at hl 2 rfl) ?_
          refine ca_l (CL := [gO b, cO b (nI n) (nI k), [(b 19, .inl (cY 0, 6, .inl fPy))]]) (va_runV (As := [.int (nI i), .int (nI u)]) (rest := [.int (nI i), .ref (rr 6 u)]) ⟨hx, hb, hml, hown, hts⟩ (c_X4_byStopping l D cY H.size b n k fPy i u (by omega) (by omega) (by omega) (by omega) (by omega) (by omega)) (cwV 2 hts gX4_countBests_X4_byStopping rfl rfl rfl (by decide +kernel) ⟨Nat.le_of_ble_eq_true rfl, Nat.le_of_ble_eq_true rfl⟩) (b_preV hVK hP hD [0, 1, 4] rfl rfl 0 rfl rfl) rfl rfl hl.1 rfl (lv_room (Nat.le_of_ble_eq_true rfl)) dX4_countBests_30 ⟨Nat.le_refl _, Nat.le_refl _⟩) hP hD hS hA [0, 1, 4] rfl rfl (fun _ => rfl) (fun r30 uu H locs hq hP hD hS => ?_)
          subst hq
          have hP : va_P D vwCl ([gO b, cO b (nI n) (nI k), oQ (cY 2) (b 3) (rr 1) 6, gI (cY 0) (rr 1) 6 fW 6, [(b 19, .inl (cY 0, 6, .inl fPy))], oQ (cY 3) (b 20) (rr 6) 13, gJ (cY 1) (rr 6) 6 gB2 13] : List va_W).flatten H := hP
          have hD : va_D A ([gO b, cO b (nI n) (nI k), oQ (cY 2) (b 3) (rr 1) 6, gI (cY 0) (rr 1) 6 fW 6, [(b 19, .inl (cY 0, 6, .inl fPy))], oQ (cY 3) (b 20) (rr 6) 13, gJ (cY 1) (rr 6) 6 gB2 13] : List va_W).flatten := hD
          refine lv_aload_n hx hb dX4_countBests_33 rfl (lv_at hl 0 rfl) ?_
          refine lv_iload_n hx hb dX4_countBests_34 rfl (lv_at hl 3 rfl) ?_
          refine lv_iload_n hx hb dX4_countBests_35 rfl (lv_at hl 2 rfl) ?_
          refine ca_l (CL := [gO b, cO b (nI n) (nI k), oQ (cY 2) (b 3) (rr 1) 6, gI (cY 0) (rr 1) 6 fW 6, [(b 19, .inl (cY 0, 6, .inl fPy))], oQ (cY 3) (b 20) (rr 6) 13, gJ (cY 1) (rr 6) 6 gB2 13]) (va_runV (As := [.int (nI i), .int (nI u)]) (rest := [.long (stV fPy k u i), .int (nI i), .ref (rr 6 u)]) ⟨hx, hb, hml, hown, hts⟩ (c_X4_byGoingOn l D cY H.size b rr n k fW fPy gB2 g i u (by omega) (by omega) (by omega) (by omega) hW (by omega) (by omega) (by
  rcases Nat.eq_zero_or_pos u with z | z
  · exact Or.inl z
  · exact Or.inr (fun d hd => hJ.1 (u - 1) (by omega) d hd))) (cwV 2 hts gX4_countBests_X4_byGoingOn rfl rfl rfl (by decide +kernel) ⟨Nat.le_of_ble_eq_true rfl, Nat.le_of_ble_eq_true rfl⟩) (b_preV hVK hP hD [0, 1, 2, 3, 4, 5, 6] rfl rfl 0 rfl rfl) rfl rfl hl.1 rfl (lv_room (Nat.le_of_ble_eq_true rfl)) dX4_countBests_36 ⟨Nat.le_refl _, Nat.le_refl _⟩) hP hD hS hA [0, 1, 2, 3, 4, 5, 6] rfl rfl (fun _ => rfl) (fun r36 uu H locs hq hP hD hS => ?_)
          subst hq
          have hP : va_P D vwCl ([gO b, cO b (nI n) (nI k), oQ (cY 2) (b 3) (rr 1) 6, gI (cY 0) (rr 1) 6 fW 6, [(b 19, .inl (cY 0, 6, .inl fPy))], oQ (cY 3) (b 20) (rr 6) 13, gJ (cY 1) (rr 6) 6 gB2 13] : List va_W).flatten H := hP
          have hD : va_D A ([gO b, cO b (nI n) (nI k), oQ (cY 2) (b 3) (rr 1) 6, gI (cY 0) (rr 1) 6 fW 6, [(b 19, .inl (cY 0, 6, .inl fPy))], oQ (cY 3) (b 20) (rr 6) 13, gJ (cY 1) (rr 6) 6 gB2 13] : List va_W).flatten := hD
          refine va_mmax_long hx hb (hml.trans hl.1.symm) hown (hts (.methodLink RX4 54 Lib.MathLoose.max_long.x) (by decide +kernel)) (hts (.static Lib.MathLoose.max_long.x) (by decide +kernel)) (hts (.initialized "java/lang/Math") (by decide +kernel)) (hts (.code Lib.MathLoose.max_long.x Lib.MathLoose.max_long.code 4 (some .long)) (by decide +kernel)) (Nat.le_of_ble_eq_true rfl) (Nat.le_of_ble_eq_true rfl) (Nat.zero_le _) (Nat.zero_le _) dX4_countBests_39 ?_
          refine g_last hx hb hK hP hD hS 6 1 rfl rfl (by omega) (by omega) (by decide) dX4_countBests_42 (fun H locs hP hD hS => ?_)
          have hP : va_P D vwCl ([gO b, cO b (nI n) (nI k), oQ (cY 2) (b 3) (rr 1) 6, gI (cY 0) (rr 1) 6 fW 6, [(b 19, .inl (cY 0, 6, .inl fPy))], oQ (cY 3) (b 20) (rr 6) 13, gJ (cY 1) (rr 6) 6 (va_up gB2 u (vp_updL (gB2 u) i (if (GC fPy g n k u i) < (stV fPy k u i) then (stV fPy k u i) else (GC fPy g n k u i)))) 13] : List va_W).flatten H := hP
          have hD : va_D A ([gO b, cO b (nI n) (nI k), oQ (cY 2) (b 3) (rr 1) 6, gI (cY 0) (rr 1) 6 fW 6, [(b 19, .inl (cY 0, 6, .inl fPy))], oQ (cY 3) (b 20) (rr 6) 13, gJ (cY 1) (rr 6) 6 (va_up gB2 u (vp_updL (gB2 u) i (if (GC fPy g n k u i) < (stV fPy k u i) then (stV fPy k u i) else (GC fPy g n k u i)))) 13] : List va_W).flatten := hD
          refine lv_iinc (v := nI (i + 1)) (lv' := [(3, .int (nI (i + 1))), (0, .ref (b 18)), (1, .int (nI t)), (2, .int (nI u))]) hx hb dX4_countBests_43 hl (k := 3) rfl (nI_1 i) (by decide) rfl (fun ls hl => ?_)
          refine lv_goto (tgt := 9) hx hb dX4_countBests_46 (by decide) ?_
          exact ih9 (by omega) (va_up gB2 u (vp_updL (gB2 u) i (if (GC fPy g n k u i) < (stV fPy k u i) then (stV fPy k u i) else (GC fPy g n k u i)))) (BT_s hJ BC_max) _ _ hP hD hS _ (lv_sub hl [1, 2, 3, 0] rfl)
      exact L9 0 (by omega) gB hI _ _ hP hD hS _ (lv_sub hl [1, 2, 3, 0] rfl)
  exact L2 0 (by omega) fB BT_0 _ _ hP hD hS _ (lv_sub hl [1, 2, 0] rfl)

set_option maxHeartbeats 4000000 in
set_option maxRecDepth 100000 in
theorem c_X4_bestOf (l : Launch) (D : va_G) (cY : Nat → ClassId) (sz : Nat) (b : Nat → Nat) (rr : Nat → Nat → Nat) (n : Nat) (k : Nat) (fW : Nat → Nat → Int32) (fPy : Nat → Int32) (fB : Nat → Nat → Int64) (g : Nat → Nat → Nat) (i : Nat) (t : Nat) (hn1 : 1 ≤ n) (hn6 : n ≤ 6) (hk1 : 1 ≤ k) (hk12 : k ≤ 12) (hW : ∀ i j, i < n → j < n → fW i j = nI (cnt (g i) j k)) (hi : i < n) (ht : t ≤ 12) : Met l yX4_bestOf wsX4_bestOf ({ frames := 4, cells := 0, slots := 0, locals := 160 }) (cP D cY [.ref (b 18), .int (nI i), .int (nI t)] [gO b, cO b (nI n) (nI k), oQ (cY 2) (b 3) (rr 1) 6, gI (cY 0) (rr 1) 6 fW 6, [(b 19, .inl (cY 0, 6, .inl fPy))], oQ (cY 3) (b 20) (rr 6) 13, gJ (cY 1) (rr 6) 6 fB 13] sz) (qL (S := (Nat → Nat → Int64)) D cY (fun r uu => r = BC fPy g n k t i) (fun uu => [gO b, cO b (nI n) (nI k), oQ (cY 2) (b 3) (rr 1) 6, gI (cY 0) (rr 1) 6 fW 6, [(b 19, .inl (cY 0, 6, .inl fPy))], oQ (cY 3) (b 20) (rr 6) 13, gJ (cY 1) (rr 6) 6 uu 13]) (va_A ([gO b, cO b (nI n) (nI k), oQ (cY 2) (b 3) (rr 1) 6, gI (cY 0) (rr 1) 6 fW 6, [(b 19, .inl (cY 0, 6, .inl fPy))], oQ (cY 3) (b 20) (rr 6) 13, gJ (cY 1) (rr 6) 6 fB 13] : List va_W).flatten sz)) 0 0 (va_A ([gO b, cO b (nI n) (nI k), oQ (cY 2) (b 3) (rr 1) 6, gI (cY 0) (rr 1) 6 fW 6, [(b 19, .inl (cY 0, 6, .inl fPy))], oQ (cY 3) (b 20) (rr 6) 13, gJ (cY 1) (rr 6) 6 fB 13] : List va_W).flatten sz) := by
  refine mtB (Qc := fun A => qL (S := (Nat → Nat → Int64)) D cY (fun r uu => r = BC fPy g n k t i) (fun uu => [gO b, cO b (nI n) (nI k), oQ (cY 2) (b 3) (rr 1) 6, gI (cY 0) (rr 1) 6 fW 6, [(b 19, .inl (cY 0, 6, .inl fPy))], oQ (cY 3) (b 20) (rr 6) 13, gJ (cY 1) (rr 6) 6 uu 13]) A) (cc := cX4_bestOf) (maxL := 3) (ret := (some .long)) (by decide) rfl (Nat.le_of_ble_eq_true rfl) ?_
  intro p e s m below meth c A ls hx hb hr hml hts hown hlocks hnm hsz hP hK hVK hD hS hA hl
  have hown : s.vm.findClass RX4 = some m.cls := hown
  have hl : lv_has ls 3 [(0, .ref (b 18)), (1, .int (nI i)), (2, .int (nI t))] := hl
  have hP : va_P D vwCl ([gO b, cO b (nI n) (nI k), oQ (cY 2) (b 3) (rr 1) 6, gI (cY 0) (rr 1) 6 fW 6, [(b 19, .inl (cY 0, 6, .inl fPy))], oQ (cY 3) (b 20) (rr 6) 13, gJ (cY 1) (rr 6) 6 fB 13] : List va_W).flatten s.heap := hP
  have hD : va_D A ([gO b, cO b (nI n) (nI k), oQ (cY 2) (b 3) (rr 1) 6, gI (cY 0) (rr 1) 6 fW 6, [(b 19, .inl (cY 0, 6, .inl fPy))], oQ (cY 3) (b 20) (rr 6) 13, gJ (cY 1) (rr 6) 6 fB 13] : List va_W).flatten := hD
  refine lv_aload_n hx hb dX4_bestOf_0 rfl (lv_at hl 0 rfl) ?_
  refine lv_iload_n hx hb dX4_bestOf_1 rfl (lv_at hl 2 rfl) ?_
  refine ca_v (CL := [gO b, cO b (nI n) (nI k), oQ (cY 2) (b 3) (rr 1) 6, gI (cY 0) (rr 1) 6 fW 6, [(b 19, .inl (cY 0, 6, .inl fPy))], oQ (cY 3) (b 20) (rr 6) 13, gJ (cY 1) (rr 6) 6 fB 13]) (va_runV (As := [.int (nI t)]) (rest := []) ⟨hx, hb, hml, hown, hts⟩ (c_X4_countBests l D cY s.heap.size b rr n k fW fPy fB g t (by omega) (by omega) (by omega) (by omega) hW (by omega)) (cwV 1 hts gX4_bestOf_X4_countBests rfl rfl rfl (by decide +kernel) ⟨Nat.le_of_ble_eq_true rfl, Nat.le_of_ble_eq_true rfl⟩) (b_preV hVK hP hD [0, 1, 2, 3, 4, 5, 6] rfl rfl 0 rfl rfl) rfl rfl hl.1 rfl (lv_room (Nat.le_of_ble_eq_true rfl)) dX4_bestOf_2 ⟨Nat.le_refl _, Nat.le_refl _⟩) hP hD hS hA [0, 1, 2, 3, 4, 5, 6] rfl rfl (fun _ => rfl) (fun uu H locs hq hP hD hS => ?_)
  obtain ⟨fB1_1, rfl⟩ : ∃ z, z = uu := ⟨_, rfl⟩
  try dsimp only at hq
  have q2 := hq
  have hP : va_P D vwCl ([gO b, cO b (nI n) (nI k), oQ (cY 2) (b 3) (rr 1) 6, gI (cY 0) (rr 1) 6 fW 6, [(b 19, .inl (cY 0, 6, .inl fPy))], oQ (cY 3) (b 20) (rr 6) 13, gJ (cY 1) (rr 6) 6 fB1_1 13] : List va_W).flatten H := hP
  have hD : va_D A ([gO b, cO b (nI n) (nI k), oQ (cY 2) (b 3) (rr 1) 6, gI (cY 0) (rr 1) 6 fW 6, [(b 19, .inl (cY 0, 6, .inl fPy))], oQ (cY 3) (b 20) (rr 6) 13, gJ (cY 1) (rr 6) 6 fB1_1 13] : List va_W).flatten := hD
  refine lv_aload_n hx hb dX4_bestOf_5 rfl (lv_at hl 0 rfl) ?_
  refine b_get (ci := 4) (v := .ref (b 20)) (C := RX4) (T := TX4) (N := 3) hx hb hts (by decide +kernel) hown hK hP 0 rfl rfl 2 (by decide) (hts (.fieldLink RX4 21 "ChanceHall$Games" "bests" "[[J") (by decide +kernel)) (fun _ h9 => h9) rfl dX4_bestOf_6 ?_
  refine lv_iload_n hx hb dX4_bestOf_9 rfl (lv_at hl 2 rfl) ?_
  refine g_aald hx hb hK hP 5 3 rfl rfl (by omega) (by decide) dX4_bestOf_10 ?_
  refine lv_iload_n hx hb dX4_bestOf_11 rfl (lv_at hl 1 rfl) ?_
  refine g_lald hx hb hK hP 6 1 rfl rfl (by omega) (by omega) (by decide) dX4_bestOf_12 ?_
  exact r_l hx hb hr hlocks hP hD hS fB1_1 rfl (q2 t (by omega) i hi) dX4_bestOf_13

set_option maxHeartbeats 4000000 in
set_option maxRecDepth 100000 in
theorem c_X4_isBestToStop (l : Launch) (D : va_G) (cY : Nat → ClassId) (sz : Nat) (b : Nat → Nat) (rr : Nat → Nat → Nat) (n : Nat) (k : Nat) (fW : Nat → Nat → Int32) (fPy : Nat → Int32) (fB : Nat → Nat → Int64) (g : Nat → Nat → Nat) (i : Nat) (t : Nat) (hn1 : 1 ≤ n) (hn6 : n ≤ 6) (hk1 : 1 ≤ k) (hk12 : k ≤ 12) (hW : ∀ i j, i < n → j < n → fW i j = nI (cnt (g i) j k)) (hi : i < n) (ht : t ≤ 12) : Met l yX4_isBestToStop wsX4_isBestToStop ({ frames := 4, cells := 0, slots := 0, locals := 160 }) (cP D cY [.ref (b 18), .int (nI i), .int (nI t)] [gO b, cO b (nI n) (nI k), oQ (cY 2) (b 3) (rr 1) 6, gI (cY 0) (rr 1) 6 fW 6, [(b 19, .inl (cY 0, 6, .inl fPy))], oQ (cY 3) (b 20) (rr 6) 13, gJ (cY 1) (rr 6) 6 fB 13] sz) (qI (S := (Nat → Nat → Int64)) D cY (fun r uu => r = bI (stC fPy g n k i t)) (fun uu => [gO b, cO b (nI n) (nI k), oQ (cY 2) (b 3) (rr 1) 6, gI (cY 0) (rr 1) 6 fW 6, [(b 19, .inl (cY 0, 6, .inl fPy))], oQ (cY 3) (b 20) (rr 6) 13, gJ (cY 1) (rr 6) 6 uu 13]) (va_A ([gO b, cO b (nI n) (nI k), oQ (cY 2) (b 3) (rr 1) 6, gI (cY 0) (rr 1) 6 fW 6, [(b 19, .inl (cY 0, 6, .inl fPy))], oQ (cY 3) (b 20) (rr 6) 13, gJ (cY 1) (rr 6) 6 fB 13] : List va_W).flatten sz)) 0 0 (va_A ([gO b, cO b (nI n) (nI k), oQ (cY 2) (b 3) (rr 1) 6, gI (cY 0) (rr 1) 6 fW 6, [(b 19, .inl (cY 0, 6, .inl fPy))], oQ (cY 3) (b 20) (rr 6) 13, gJ (cY 1) (rr 6) 6 fB 13] : List va_W).flatten sz) := by
  refine mtB (Qc := fun A => qI (S := (Nat → Nat → Int64)) D cY (fun r uu => r = bI (stC fPy g n k i t)) (fun uu => [gO b, cO b (nI n) (nI k), oQ (cY 2) (b 3) (rr 1) 6, gI (cY 0) (rr 1) 6 fW 6, [(b 19, .inl (cY 0, 6, .inl fPy))], oQ (cY 3) (b 20) (rr 6) 13, gJ (cY 1) (rr 6) 6 uu 13]) A) (cc := cX4_isBestToStop) (maxL := 3) (ret := (some .boolean)) (by decide) rfl (Nat.le_of_ble_eq_true rfl) ?_
  intro p e s m below meth c A ls hx hb hr hml hts hown hlocks hnm hsz hP hK hVK hD hS hA hl
  have hown : s.vm.findClass RX4 = some m.cls := hown
  have hl : lv_has ls 3 [(0, .ref (b 18)), (1, .int (nI i)), (2, .int (nI t))] := hl
  have hP : va_P D vwCl ([gO b, cO b (nI n) (nI k), oQ (cY 2) (b 3) (rr 1) 6, gI (cY 0) (rr 1) 6 fW 6, [(b 19, .inl (cY 0, 6, .inl fPy))], oQ (cY 3) (b 20) (rr 6) 13, gJ (cY 1) (rr 6) 6 fB 13] : List va_W).flatten s.heap := hP
  have hD : va_D A ([gO b, cO b (nI n) (nI k), oQ (cY 2) (b 3) (rr 1) 6, gI (cY 0) (rr 1) 6 fW 6, [(b 19, .inl (cY 0, 6, .inl fPy))], oQ (cY 3) (b 20) (rr 6) 13, gJ (cY 1) (rr 6) 6 fB 13] : List va_W).flatten := hD
  refine lv_aload_n hx hb dX4_isBestToStop_0 rfl (lv_at hl 0 rfl) ?_
  refine lv_iload_n hx hb dX4_isBestToStop_1 rfl (lv_at hl 2 rfl) ?_
  refine ca_v (CL := [gO b, cO b (nI n) (nI k), oQ (cY 2) (b 3) (rr 1) 6, gI (cY 0) (rr 1) 6 fW 6, [(b 19, .inl (cY 0, 6, .inl fPy))], oQ (cY 3) (b 20) (rr 6) 13, gJ (cY 1) (rr 6) 6 fB 13]) (va_runV (As := [.int (nI t)]) (rest := []) ⟨hx, hb, hml, hown, hts⟩ (c_X4_countBests l D cY s.heap.size b rr n k fW fPy fB g t (by omega) (by omega) (by omega) (by omega) hW (by omega)) (cwV 1 hts gX4_isBestToStop_X4_countBests rfl rfl rfl (by decide +kernel) ⟨Nat.le_of_ble_eq_true rfl, Nat.le_of_ble_eq_true rfl⟩) (b_preV hVK hP hD [0, 1, 2, 3, 4, 5, 6] rfl rfl 0 rfl rfl) rfl rfl hl.1 rfl (lv_room (Nat.le_of_ble_eq_true rfl)) dX4_isBestToStop_2 ⟨Nat.le_refl _, Nat.le_refl _⟩) hP hD hS hA [0, 1, 2, 3, 4, 5, 6] rfl rfl (fun _ => rfl) (fun uu H locs hq hP hD hS => ?_)
  obtain ⟨fB1_1, rfl⟩ : ∃ z, z = uu := ⟨_, rfl⟩
  try dsimp only at hq
  have q2 := hq
  have hP : va_P D vwCl ([gO b, cO b (nI n) (nI k), oQ (cY 2) (b 3) (rr 1) 6, gI (cY 0) (rr 1) 6 fW 6, [(b 19, .inl (cY 0, 6, .inl fPy))], oQ (cY 3) (b 20) (rr 6) 13, gJ (cY 1) (rr 6) 6 fB1_1 13] : List va_W).flatten H := hP
  have hD : va_D A ([gO b, cO b (nI n) (nI k), oQ (cY 2) (b 3) (rr 1) 6, gI (cY 0) (rr 1) 6 fW 6, [(b 19, .inl (cY 0, 6, .inl fPy))], oQ (cY 3) (b 20) (rr 6) 13, gJ (cY 1) (rr 6) 6 fB1_1 13] : List va_W).flatten := hD
  refine lv_aload_n hx hb dX4_isBestToStop_5 rfl (lv_at hl 0 rfl) ?_
  refine lv_iload_n hx hb dX4_isBestToStop_6 rfl (lv_at hl 1 rfl) ?_
  refine lv_iload_n hx hb dX4_isBestToStop_7 rfl (lv_at hl 2 rfl) ?_
  refine ca_l (CL := [gO b, cO b (nI n) (nI k), [(b 19, .inl (cY 0, 6, .inl fPy))]]) (va_runV (As := [.int (nI i), .int (nI t)]) (rest := []) ⟨hx, hb, hml, hown, hts⟩ (c_X4_byStopping l D cY H.size b n k fPy i t (by omega) (by omega) (by omega) (by omega) (by omega) (by omega)) (cwV 2 hts gX4_isBestToStop_X4_byStopping rfl rfl rfl (by decide +kernel) ⟨Nat.le_of_ble_eq_true rfl, Nat.le_of_ble_eq_true rfl⟩) (b_preV hVK hP hD [0, 1, 4] rfl rfl 0 rfl rfl) rfl rfl hl.1 rfl (lv_room (Nat.le_of_ble_eq_true rfl)) dX4_isBestToStop_8 ⟨Nat.le_refl _, Nat.le_refl _⟩) hP hD hS hA [0, 1, 4] rfl rfl (fun _ => rfl) (fun r8 uu H locs hq hP hD hS => ?_)
  subst hq
  have hP : va_P D vwCl ([gO b, cO b (nI n) (nI k), oQ (cY 2) (b 3) (rr 1) 6, gI (cY 0) (rr 1) 6 fW 6, [(b 19, .inl (cY 0, 6, .inl fPy))], oQ (cY 3) (b 20) (rr 6) 13, gJ (cY 1) (rr 6) 6 fB1_1 13] : List va_W).flatten H := hP
  have hD : va_D A ([gO b, cO b (nI n) (nI k), oQ (cY 2) (b 3) (rr 1) 6, gI (cY 0) (rr 1) 6 fW 6, [(b 19, .inl (cY 0, 6, .inl fPy))], oQ (cY 3) (b 20) (rr 6) 13, gJ (cY 1) (rr 6) 6 fB1_1 13] : List va_W).flatten := hD
  refine lv_aload_n hx hb dX4_isBestToStop_11 rfl (lv_at hl 0 rfl) ?_
  refine lv_iload_n hx hb dX4_isBestToStop_12 rfl (lv_at hl 1 rfl) ?_
  refine lv_iload_n hx hb dX4_isBestToStop_13 rfl (lv_at hl 2 rfl) ?_
  refine ca_l (CL := [gO b, cO b (nI n) (nI k), oQ (cY 2) (b 3) (rr 1) 6, gI (cY 0) (rr 1) 6 fW 6, [(b 19, .inl (cY 0, 6, .inl fPy))], oQ (cY 3) (b 20) (rr 6) 13, gJ (cY 1) (rr 6) 6 fB1_1 13]) (va_runV (As := [.int (nI i), .int (nI t)]) (rest := [.long (stV fPy k t i)]) ⟨hx, hb, hml, hown, hts⟩ (c_X4_byGoingOn l D cY H.size b rr n k fW fPy fB1_1 g i t (by omega) (by omega) (by omega) (by omega) hW (by omega) (by omega) (Or.inr (fun d hd => q2 (t - 1) (by omega) d hd))) (cwV 2 hts gX4_isBestToStop_X4_byGoingOn rfl rfl rfl (by decide +kernel) ⟨Nat.le_of_ble_eq_true rfl, Nat.le_of_ble_eq_true rfl⟩) (b_preV hVK hP hD [0, 1, 2, 3, 4, 5, 6] rfl rfl 0 rfl rfl) rfl rfl hl.1 rfl (lv_room (Nat.le_of_ble_eq_true rfl)) dX4_isBestToStop_14 ⟨Nat.le_refl _, Nat.le_refl _⟩) hP hD hS hA [0, 1, 2, 3, 4, 5, 6] rfl rfl (fun _ => rfl) (fun r14 uu H locs hq hP hD hS => ?_)
  subst hq
  have hP : va_P D vwCl ([gO b, cO b (nI n) (nI k), oQ (cY 2) (b 3) (rr 1) 6, gI (cY 0) (rr 1) 6 fW 6, [(b 19, .inl (cY 0, 6, .inl fPy))], oQ (cY 3) (b 20) (rr 6) 13, gJ (cY 1) (rr 6) 6 fB1_1 13] : List va_W).flatten H := hP
  have hD : va_D A ([gO b, cO b (nI n) (nI k), oQ (cY 2) (b 3) (rr 1) 6, gI (cY 0) (rr 1) 6 fW 6, [(b 19, .inl (cY 0, 6, .inl fPy))], oQ (cY 3) (b 20) (rr 6) 13, gJ (cY 1) (rr 6) 6 fB1_1 13] : List va_W).flatten := hD
  refine W.lcmp hx hb dX4_isBestToStop_17 ?_
  refine l_if_lt (tgt := 25) hx hb dX4_isBestToStop_18 (by decide) (fun h18 => ?_) (fun h18 => ?_)
  · -- t
    refine lv_iconst (v := nI 0) hx hb dX4_isBestToStop_25 (by decide) ?_
    refine eqi (x' := bI false) rfl ?_
    exact r_z hx hb hr hlocks hP hD hS fB1_1 rfl (by first | exact congrArg bI (dec_f (Int64.not_le.mpr h18)).symm | exact congrArg bI (dec_t (Int64.not_lt.mp h18)).symm) dX4_isBestToStop_26
  · -- f
    refine lv_iconst (v := nI 1) hx hb dX4_isBestToStop_21 (by decide) ?_
    refine lv_goto (tgt := 26) hx hb dX4_isBestToStop_22 (by decide) ?_
    refine eqi (x' := bI true) rfl ?_
    exact r_z hx hb hr hlocks hP hD hS fB1_1 rfl (by first | exact congrArg bI (dec_f (Int64.not_le.mpr h18)).symm | exact congrArg bI (dec_t (Int64.not_lt.mp h18)).symm) dX4_isBestToStop_26

set_option maxHeartbeats 4000000 in
set_option maxRecDepth 100000 in
theorem c_X6_forget (l : Launch) (D : va_G) (cY : Nat → ClassId) (sz : Nat) (b : Nat → Nat) (fCc : Nat → Int32)  : Met l yX6_forget wsX6_forget ({ frames := 1, cells := 0, slots := 0, locals := 40 }) (cP D cY [.ref (b 21)] [uO b, [(b 22, .inl (cY 0, 6, .inl fCc))]] sz) (qV (S := (Nat → Int32)) D cY (fun uu => ∀ j, j < 6 → uu j = nI 0) (fun uu => [uO b, [(b 22, .inl (cY 0, 6, .inl uu))]]) (va_A ([uO b, [(b 22, .inl (cY 0, 6, .inl fCc))]] : List va_W).flatten sz)) 0 0 (va_A ([uO b, [(b 22, .inl (cY 0, 6, .inl fCc))]] : List va_W).flatten sz) := by
  refine mtB (Qc := fun A => qV (S := (Nat → Int32)) D cY (fun uu => ∀ j, j < 6 → uu j = nI 0) (fun uu => [uO b, [(b 22, .inl (cY 0, 6, .inl uu))]]) A) (cc := cX6_forget) (maxL := 1) (ret := none) (by decide) rfl (Nat.le_of_ble_eq_true rfl) ?_
  intro p e s m below meth c A ls hx hb hr hml hts hown hlocks hnm hsz hP hK hVK hD hS hA hl
  have hown : s.vm.findClass RX6 = some m.cls := hown
  have hl : lv_has ls 1 [(0, .ref (b 21))] := hl
  have hP : va_P D vwCl ([uO b, [(b 22, .inl (cY 0, 6, .inl fCc))]] : List va_W).flatten s.heap := hP
  have hD : va_D A ([uO b, [(b 22, .inl (cY 0, 6, .inl fCc))]] : List va_W).flatten := hD
  refine lv_aload_n hx hb dX6_forget_0 rfl (lv_at hl 0 rfl) ?_
  refine b_get (ci := 6) (v := .ref (b 22)) (C := RX6) (T := TX6) (N := 2) hx hb hts (by decide +kernel) hown hK hP 0 rfl rfl 1 (by decide) (hts (.fieldLink RX6 15 "ChanceHall$Lumps" "colours" "[I") (by decide +kernel)) (fun _ h9 => h9) rfl dX6_forget_1 ?_
  refine lv_iconst (v := nI 0) hx hb dX6_forget_4 (by decide) ?_
  refine ca_v (CL := [[(b 22, .inl (cY 0, 6, .inl fCc))]]) (va_runS (As := [.ref (b 22), .int (nI 0)]) (rest := []) ⟨hx, hb, hml, hown, hts⟩ (c_J7_fill_53178 l D cY s.heap.size (b 22) 6 fCc (nI 0) (by omega)) (va_cwS 2 hts gX6_forget_J7_fill_53178 rfl rfl rfl (by decide +kernel) ⟨Nat.le_of_ble_eq_true rfl, Nat.le_of_ble_eq_true rfl⟩) (b_preS hVK hP hD [1] rfl rfl) rfl rfl hl.1 rfl (lv_room (Nat.le_of_ble_eq_true rfl)) dX6_forget_5 ⟨Nat.le_refl _, Nat.le_refl _⟩) hP hD hS hA [1] rfl rfl (fun _ => rfl) (fun uu H locs hq hP hD hS => ?_)
  obtain ⟨f1_1, rfl⟩ : ∃ z, z = uu := ⟨_, rfl⟩
  try dsimp only at hq
  have q5 := hq
  have hP : va_P D vwCl ([uO b, [(b 22, .inl (cY 0, 6, .inl f1_1))]] : List va_W).flatten H := hP
  have hD : va_D A ([uO b, [(b 22, .inl (cY 0, 6, .inl f1_1))]] : List va_W).flatten := hD
  exact r_v hx hb hr hlocks hP hD hS f1_1 rfl (q5) dX6_forget_8

set_option maxHeartbeats 4000000 in
set_option maxRecDepth 100000 in
theorem c_X6_setColour (l : Launch) (D : va_G) (cY : Nat → ClassId) (sz : Nat) (b : Nat → Nat) (fCc : Nat → Int32) (i : Nat) (v0 : Int32) (hi6 : i < 6) : Met l yX6_setColour wsX6_setColour ({ frames := 0, cells := 0, slots := 0, locals := 0 }) (cP D cY [.ref (b 21), .int (nI i), .int v0] [uO b, [(b 22, .inl (cY 0, 6, .inl fCc))]] sz) (qI (S := Unit) D cY (fun r uu => r = fCc i) (fun uu => [uO b, [(b 22, .inl (cY 0, 6, .inl (upd fCc i v0)))]]) (va_A ([uO b, [(b 22, .inl (cY 0, 6, .inl fCc))]] : List va_W).flatten sz)) 0 0 (va_A ([uO b, [(b 22, .inl (cY 0, 6, .inl fCc))]] : List va_W).flatten sz) := by
  refine mtB (Qc := fun A => qI (S := Unit) D cY (fun r uu => r = fCc i) (fun uu => [uO b, [(b 22, .inl (cY 0, 6, .inl (upd fCc i v0)))]]) A) (cc := cX6_setColour) (maxL := 4) (ret := (some .int)) (by decide) rfl (Nat.le_of_ble_eq_true rfl) ?_
  intro p e s m below meth c A ls hx hb hr hml hts hown hlocks hnm hsz hP hK hVK hD hS hA hl
  have hown : s.vm.findClass RX6 = some m.cls := hown
  have hl : lv_has ls 4 [(0, .ref (b 21)), (1, .int (nI i)), (2, .int v0)] := hl
  have hP : va_P D vwCl ([uO b, [(b 22, .inl (cY 0, 6, .inl fCc))]] : List va_W).flatten s.heap := hP
  have hD : va_D A ([uO b, [(b 22, .inl (cY 0, 6, .inl fCc))]] : List va_W).flatten := hD
  refine lv_aload_n hx hb dX6_setColour_0 rfl (lv_at hl 0 rfl) ?_
  refine b_get (ci := 6) (v := .ref (b 22)) (C := RX6) (T := TX6) (N := 2) hx hb hts (by decide +kernel) hown hK hP 0 rfl rfl 1 (by decide) (hts (.fieldLink RX6 15 "ChanceHall$Lumps" "colours" "[I") (by decide +kernel)) (fun _ h9 => h9) rfl dX6_setColour_1 ?_
  refine lv_iload_n hx hb dX6_setColour_4 rfl (lv_at hl 1 rfl) ?_
  refine b_iald hx hb hK hP 1 0 rfl rfl (by omega) (by decide) dX6_setColour_5 ?_
  refine lv_istore_n (lv' := [(3, .int (fCc i)), (0, .ref (b 21)), (1, .int (nI i)), (2, .int v0)]) hx hb dX6_setColour_6 rfl hl (by decide) rfl (fun ls hl => ?_)
  refine lv_aload_n hx hb dX6_setColour_7 rfl (lv_at hl 1 rfl) ?_
  refine b_get (ci := 6) (v := .ref (b 22)) (C := RX6) (T := TX6) (N := 2) hx hb hts (by decide +kernel) hown hK hP 0 rfl rfl 1 (by decide) (hts (.fieldLink RX6 15 "ChanceHall$Lumps" "colours" "[I") (by decide +kernel)) (fun _ h9 => h9) rfl dX6_setColour_8 ?_
  refine lv_iload_n hx hb dX6_setColour_11 rfl (lv_at hl 2 rfl) ?_
  refine lv_iload_n hx hb dX6_setColour_12 rfl (lv_at hl 3 rfl) ?_
  refine b_iast hx hb hK hP hD hS 1 0 rfl rfl (by omega) (by decide) dX6_setColour_13 (fun H locs hP hD hS => ?_)
  have hP : va_P D vwCl ([uO b, [(b 22, .inl (cY 0, 6, .inl (upd fCc i v0)))]] : List va_W).flatten H := hP
  have hD : va_D A ([uO b, [(b 22, .inl (cY 0, 6, .inl (upd fCc i v0)))]] : List va_W).flatten := hD
  refine lv_iload_n hx hb dX6_setColour_14 rfl (lv_at hl 0 rfl) ?_
  exact r_i hx hb hr hlocks hP hD hS () rfl (rfl) dX6_setColour_15

set_option maxHeartbeats 4000000 in
set_option maxRecDepth 100000 in
theorem c_X6_weightTo (l : Launch) (D : va_G) (cY : Nat → ClassId) (sz : Nat) (b : Nat → Nat) (rr : Nat → Nat → Nat) (n : Nat) (k : Nat) (fW : Nat → Nat → Int32) (fCc : Nat → Int32) (g : Nat → Nat → Nat) (col : Nat → Nat) (i : Nat) (x : Nat) (hn1 : 1 ≤ n) (hn6 : n ≤ 6) (hk1 : 1 ≤ k) (hk12 : k ≤ 12) (hW : ∀ i j, i < n → j < n → fW i j = nI (cnt (g i) j k)) (hC : ∀ j, j < n → fCc j = nI (col j)) (hcl : ∀ j, j < n → col j < 6) (hi : i < n) (hx6 : x < 6) : Met l yX6_weightTo wsX6_weightTo ({ frames := 0, cells := 0, slots := 0, locals := 0 }) (cP D cY [.ref (b 21), .int (nI i), .int (nI x)] [uO b, cO b (nI n) (nI k), oQ (cY 2) (b 3) (rr 1) 6, gI (cY 0) (rr 1) 6 fW 6, [(b 22, .inl (cY 0, 6, .inl fCc))]] sz) (qI (S := Unit) D cY (fun r uu => r = nI (WC g k col n i x)) (fun uu => [uO b, cO b (nI n) (nI k), oQ (cY 2) (b 3) (rr 1) 6, gI (cY 0) (rr 1) 6 fW 6, [(b 22, .inl (cY 0, 6, .inl fCc))]]) (va_A ([uO b, cO b (nI n) (nI k), oQ (cY 2) (b 3) (rr 1) 6, gI (cY 0) (rr 1) 6 fW 6, [(b 22, .inl (cY 0, 6, .inl fCc))]] : List va_W).flatten sz)) 0 0 (va_A ([uO b, cO b (nI n) (nI k), oQ (cY 2) (b 3) (rr 1) 6, gI (cY 0) (rr 1) 6 fW 6, [(b 22, .inl (cY 0, 6, .inl fCc))]] : List va_W).flatten sz) := by
  refine mtB (Qc := fun A => qI (S := Unit) D cY (fun r uu => r = nI (WC g k col n i x)) (fun uu => [uO b, cO b (nI n) (nI k), oQ (cY 2) (b 3) (rr 1) 6, gI (cY 0) (rr 1) 6 fW 6, [(b 22, .inl (cY 0, 6, .inl fCc))]]) A) (cc := cX6_weightTo) (maxL := 5) (ret := (some .int)) (by decide) rfl (Nat.le_of_ble_eq_true rfl) ?_
  intro p e s m below meth c A ls hx hb hr hml hts hown hlocks hnm hsz hP hK hVK hD hS hA hl
  have hown : s.vm.findClass RX6 = some m.cls := hown
  have hl : lv_has ls 5 [(0, .ref (b 21)), (1, .int (nI i)), (2, .int (nI x))] := hl
  have hP : va_P D vwCl ([uO b, cO b (nI n) (nI k), oQ (cY 2) (b 3) (rr 1) 6, gI (cY 0) (rr 1) 6 fW 6, [(b 22, .inl (cY 0, 6, .inl fCc))]] : List va_W).flatten s.heap := hP
  have hD : va_D A ([uO b, cO b (nI n) (nI k), oQ (cY 2) (b 3) (rr 1) 6, gI (cY 0) (rr 1) 6 fW 6, [(b 22, .inl (cY 0, 6, .inl fCc))]] : List va_W).flatten := hD
  refine lv_iconst (v := nI 0) hx hb dX6_weightTo_0 (by decide) ?_
  refine lv_istore_n (lv' := [(3, .int (nI 0)), (0, .ref (b 21)), (1, .int (nI i)), (2, .int (nI x))]) hx hb dX6_weightTo_1 rfl hl (by decide) rfl (fun ls hl => ?_)
  refine lv_iconst (v := nI 0) hx hb dX6_weightTo_2 (by decide) ?_
  refine lv_istore (lv' := [(4, .int (nI 0)), (3, .int (nI 0)), (0, .ref (b 21)), (1, .int (nI i)), (2, .int (nI x))]) hx hb dX6_weightTo_3 hl (by decide) rfl (fun ls hl => ?_)
  have L5 : ∀ q : Nat, q ≤ n →  ∀ (H : Heap) (locs : List Loc), va_P D vwCl ([uO b, cO b (nI n) (nI k), oQ (cY 2) (b 3) (rr 1) 6, gI (cY 0) (rr 1) 6 fW 6, [(b 22, .inl (cY 0, 6, .inl fCc))]] : List va_W).flatten H → va_D A ([uO b, cO b (nI n) (nI k), oQ (cY 2) (b 3) (rr 1) 6, gI (cY 0) (rr 1) 6 fW 6, [(b 22, .inl (cY 0, 6, .inl fCc))]] : List va_W).flatten → va_S A s.heap H locs → ∀ (ls : Array Slot), lv_has ls 5 [(0, .ref (b 21)), (1, .int (nI i)), (2, .int (nI x)), (3, .int (nI (sm (fun q => if col q = x then cnt (g i) q k else 0) q))), (4, .int (nI q))] → W p l e ({ frames := 0, cells := 0, slots := 0, locals := 0 }) s m ([.ref (b 21), .int (nI i), .int (nI x)] : List Value).toArray below meth c H locs 0 0 (MQ below (qI (S := Unit) D cY (fun r uu => r = nI (WC g k col n i x)) (fun uu => [uO b, cO b (nI n) (nI k), oQ (cY 2) (b 3) (rr 1) 6, gI (cY 0) (rr 1) 6 fW 6, [(b 22, .inl (cY 0, 6, .inl fCc))]]) A) ([.ref (b 21), .int (nI i), .int (nI x)] : List Value).toArray s 0 0 A) (F0 m 5 ls []) := by
    refine lpW n ?_
    intro q bdq ih5   H locs hP hD hS ls hl
    refine lv_iload hx hb dX6_weightTo_5 (lv_at hl 4 rfl) ?_
    refine lv_aload_n hx hb dX6_weightTo_7 rfl (lv_at hl 0 rfl) ?_
    refine b_get (ci := 6) (v := .ref (b 1)) (C := RX6) (T := TX6) (N := 2) hx hb hts (by decide +kernel) hown hK hP 0 rfl rfl 0 (by decide) (hts (.fieldLink RX6 9 "ChanceHall$Lumps" "chain" "LChanceHall$Chain;") (by decide +kernel)) (fun _ h9 => h9) rfl dX6_weightTo_8 ?_
    refine b_get (ci := 0) (v := .int (nI n)) (C := RX0) (T := TX0) (N := 4) hx hb hts (by decide +kernel) hown hK hP 1 rfl rfl 0 (by decide) (hts (.fieldLink RX6 25 "ChanceHall$Chain" "states" "I") (by decide +kernel)) (fun _ h9 => h9) rfl dX6_weightTo_11 ?_
    refine n_icmp_ge (tgt := 49) hx hb dX6_weightTo_14 (by decide) (by omega) (by omega) (fun h14 => ?_) (fun h14 => ?_)
    · -- t
      refine lv_iload_n hx hb dX6_weightTo_49 rfl (lv_at hl 3 rfl) ?_
      exact r_i hx hb hr hlocks hP hD hS () rfl (by (have e : q = n := by omega); subst e; rfl) dX6_weightTo_50
    · -- f
      refine lv_aload_n hx hb dX6_weightTo_17 rfl (lv_at hl 0 rfl) ?_
      refine b_get (ci := 6) (v := .ref (b 22)) (C := RX6) (T := TX6) (N := 2) hx hb hts (by decide +kernel) hown hK hP 0 rfl rfl 1 (by decide) (hts (.fieldLink RX6 15 "ChanceHall$Lumps" "colours" "[I") (by decide +kernel)) (fun _ h9 => h9) rfl dX6_weightTo_18 ?_
      refine lv_iload hx hb dX6_weightTo_21 (lv_at hl 4 rfl) ?_
      refine b_iald hx hb hK hP 4 0 rfl rfl (by omega) (by decide) dX6_weightTo_23 ?_
      refine eqi (x' := nI (col q)) (hC q (by omega)) ?_
      have hcq := hcl q (by omega)
      refine lv_iload_n hx hb dX6_weightTo_24 rfl (lv_at hl 2 rfl) ?_
      refine n_icmp_ne (tgt := 43) hx hb dX6_weightTo_25 (by decide) (by omega) (by omega) (fun h25 => ?_) (fun h25 => ?_)
      · -- t
        have hif : sm (fun q => if col q = x then cnt (g i) q k else 0) q = sm (fun q => if col q = x then cnt (g i) q k else 0) (q + 1) := by simp [sm, h25]
        refine lv_iinc (v := nI (q + 1)) (lv' := [(4, .int (nI (q + 1))), (0, .ref (b 21)), (1, .int (nI i)), (2, .int (nI x)), (3, .int (nI (sm (fun q => if col q = x then cnt (g i) q k else 0) q)))]) hx hb dX6_weightTo_43 hl (k := 4) rfl (nI_1 q) (by decide) rfl (fun ls hl => ?_)
        refine lv_goto (tgt := 5) hx hb dX6_weightTo_46 (by decide) ?_
        exact ih5 (by omega)   _ _ hP hD hS _ (lv_sub hl [1, 2, 3, 4, 0] (by first | rfl | (rw [← hif]; rfl)))
      · -- f
        refine lv_iload_n hx hb dX6_weightTo_28 rfl (lv_at hl 3 rfl) ?_
        refine lv_aload_n hx hb dX6_weightTo_29 rfl (lv_at hl 0 rfl) ?_
        refine b_get (ci := 6) (v := .ref (b 1)) (C := RX6) (T := TX6) (N := 2) hx hb hts (by decide +kernel) hown hK hP 0 rfl rfl 0 (by decide) (hts (.fieldLink RX6 9 "ChanceHall$Lumps" "chain" "LChanceHall$Chain;") (by decide +kernel)) (fun _ h9 => h9) rfl dX6_weightTo_30 ?_
        refine b_get (ci := 0) (v := .ref (b 3)) (C := RX0) (T := TX0) (N := 4) hx hb hts (by decide +kernel) hown hK hP 1 rfl rfl 3 (by decide) (hts (.fieldLink RX6 39 "ChanceHall$Chain" "weights" "[[I") (by decide +kernel)) (fun _ h9 => h9) rfl dX6_weightTo_33 ?_
        refine lv_iload_n hx hb dX6_weightTo_36 rfl (lv_at hl 1 rfl) ?_
        refine g_aald hx hb hK hP 2 2 rfl rfl (by omega) (by decide) dX6_weightTo_37 ?_
        refine lv_iload hx hb dX6_weightTo_38 (lv_at hl 4 rfl) ?_
        refine g_iald hx hb hK hP 3 0 rfl rfl (by omega) (by omega) (by decide) dX6_weightTo_40 ?_
        refine eqi (x' := nI (cnt (g i) q k)) (hW i q hi (by omega)) ?_
        refine lv_iadd hx hb dX6_weightTo_41 ?_
        refine eqi (x' := nI (sm (fun q => if col q = x then cnt (g i) q k else 0) q + cnt (g i) q k)) (nI_add _ _) ?_
        refine eqi (x' := nI (sm (fun q => if col q = x then cnt (g i) q k else 0) (q + 1))) (congrArg nI (by simp [sm, h25])) ?_
        refine lv_istore_n (lv' := [(3, .int (nI (sm (fun q => if col q = x then cnt (g i) q k else 0) (q + 1)))), (0, .ref (b 21)), (1, .int (nI i)), (2, .int (nI x)), (4, .int (nI q))]) hx hb dX6_weightTo_42 rfl hl (by decide) rfl (fun ls hl => ?_)
        refine lv_iinc (v := nI (q + 1)) (lv' := [(4, .int (nI (q + 1))), (3, .int (nI (sm (fun q => if col q = x then cnt (g i) q k else 0) (q + 1)))), (0, .ref (b 21)), (1, .int (nI i)), (2, .int (nI x))]) hx hb dX6_weightTo_43 hl (k := 4) rfl (nI_1 q) (by decide) rfl (fun ls hl => ?_)
        refine lv_goto (tgt := 5) hx hb dX6_weightTo_46 (by decide) ?_
        exact ih5 (by omega)   _ _ hP hD hS _ (lv_sub hl [2, 3, 4, 1, 0] (by first | rfl | (rw [← hif]; rfl)))
  exact L5 0 (by omega)   _ _ hP hD hS _ (lv_sub hl [2, 3, 4, 1, 0] rfl)

set_option maxHeartbeats 4000000 in
set_option maxRecDepth 100000 in
theorem c_X6_leadAlike (l : Launch) (D : va_G) (cY : Nat → ClassId) (sz : Nat) (b : Nat → Nat) (rr : Nat → Nat → Nat) (n : Nat) (k : Nat) (fW : Nat → Nat → Int32) (fCc : Nat → Int32) (g : Nat → Nat → Nat) (col : Nat → Nat) (i : Nat) (w : Nat) (hn1 : 1 ≤ n) (hn6 : n ≤ 6) (hk1 : 1 ≤ k) (hk12 : k ≤ 12) (hW : ∀ i j, i < n → j < n → fW i j = nI (cnt (g i) j k)) (hC : ∀ j, j < n → fCc j = nI (col j)) (hcl : ∀ j, j < n → col j < 6) (hi : i < n) (hw : w < n) : Met l yX6_leadAlike wsX6_leadAlike ({ frames := 1, cells := 0, slots := 0, locals := 40 }) (cP D cY [.ref (b 21), .int (nI i), .int (nI w)] [uO b, cO b (nI n) (nI k), oQ (cY 2) (b 3) (rr 1) 6, gI (cY 0) (rr 1) 6 fW 6, [(b 22, .inl (cY 0, 6, .inl fCc))]] sz) (qI (S := Unit) D cY (fun r uu => r = bI (lkB g n k col i w)) (fun uu => [uO b, cO b (nI n) (nI k), oQ (cY 2) (b 3) (rr 1) 6, gI (cY 0) (rr 1) 6 fW 6, [(b 22, .inl (cY 0, 6, .inl fCc))]]) (va_A ([uO b, cO b (nI n) (nI k), oQ (cY 2) (b 3) (rr 1) 6, gI (cY 0) (rr 1) 6 fW 6, [(b 22, .inl (cY 0, 6, .inl fCc))]] : List va_W).flatten sz)) 0 0 (va_A ([uO b, cO b (nI n) (nI k), oQ (cY 2) (b 3) (rr 1) 6, gI (cY 0) (rr 1) 6 fW 6, [(b 22, .inl (cY 0, 6, .inl fCc))]] : List va_W).flatten sz) := by
  refine mtB (Qc := fun A => qI (S := Unit) D cY (fun r uu => r = bI (lkB g n k col i w)) (fun uu => [uO b, cO b (nI n) (nI k), oQ (cY 2) (b 3) (rr 1) 6, gI (cY 0) (rr 1) 6 fW 6, [(b 22, .inl (cY 0, 6, .inl fCc))]]) A) (cc := cX6_leadAlike) (maxL := 4) (ret := (some .boolean)) (by decide) rfl (Nat.le_of_ble_eq_true rfl) ?_
  intro p e s m below meth c A ls hx hb hr hml hts hown hlocks hnm hsz hP hK hVK hD hS hA hl
  have hown : s.vm.findClass RX6 = some m.cls := hown
  have hl : lv_has ls 4 [(0, .ref (b 21)), (1, .int (nI i)), (2, .int (nI w))] := hl
  have hP : va_P D vwCl ([uO b, cO b (nI n) (nI k), oQ (cY 2) (b 3) (rr 1) 6, gI (cY 0) (rr 1) 6 fW 6, [(b 22, .inl (cY 0, 6, .inl fCc))]] : List va_W).flatten s.heap := hP
  have hD : va_D A ([uO b, cO b (nI n) (nI k), oQ (cY 2) (b 3) (rr 1) 6, gI (cY 0) (rr 1) 6 fW 6, [(b 22, .inl (cY 0, 6, .inl fCc))]] : List va_W).flatten := hD
  refine lv_iconst (v := nI 0) hx hb dX6_leadAlike_0 (by decide) ?_
  refine lv_istore_n (lv' := [(3, .int (nI 0)), (0, .ref (b 21)), (1, .int (nI i)), (2, .int (nI w))]) hx hb dX6_leadAlike_1 rfl hl (by decide) rfl (fun ls hl => ?_)
  have L2 : ∀ x : Nat, x ≤ 6 →  (∀ o, o < x → lkF g n k col i w o = true) → ∀ (H : Heap) (locs : List Loc), va_P D vwCl ([uO b, cO b (nI n) (nI k), oQ (cY 2) (b 3) (rr 1) 6, gI (cY 0) (rr 1) 6 fW 6, [(b 22, .inl (cY 0, 6, .inl fCc))]] : List va_W).flatten H → va_D A ([uO b, cO b (nI n) (nI k), oQ (cY 2) (b 3) (rr 1) 6, gI (cY 0) (rr 1) 6 fW 6, [(b 22, .inl (cY 0, 6, .inl fCc))]] : List va_W).flatten → va_S A s.heap H locs → ∀ (ls : Array Slot), lv_has ls 4 [(0, .ref (b 21)), (1, .int (nI i)), (2, .int (nI w)), (3, .int (nI x))] → W p l e ({ frames := 1, cells := 0, slots := 0, locals := 40 }) s m ([.ref (b 21), .int (nI i), .int (nI w)] : List Value).toArray below meth c H locs 0 0 (MQ below (qI (S := Unit) D cY (fun r uu => r = bI (lkB g n k col i w)) (fun uu => [uO b, cO b (nI n) (nI k), oQ (cY 2) (b 3) (rr 1) 6, gI (cY 0) (rr 1) 6 fW 6, [(b 22, .inl (cY 0, 6, .inl fCc))]]) A) ([.ref (b 21), .int (nI i), .int (nI w)] : List Value).toArray s 0 0 A) (F0 m 2 ls []) := by
    refine lpW 6 ?_
    intro x bdx ih2  hI H locs hP hD hS ls hl
    refine lv_iload_n hx hb dX6_leadAlike_2 rfl (lv_at hl 3 rfl) ?_
    refine lv_bipush (v := nI 6) hx hb dX6_leadAlike_3 (by decide) ?_
    refine n_icmp_ge (tgt := 31) hx hb dX6_leadAlike_5 (by decide) (by omega) (by omega) (fun h5 => ?_) (fun h5 => ?_)
    · -- t
      refine lv_iconst (v := nI 1) hx hb dX6_leadAlike_31 (by decide) ?_
      refine eqi (x' := bI true) rfl ?_
      exact r_z hx hb hr hlocks hP hD hS () rfl (congrArg bI (allB_iff.mpr (fun o ho => hI o (by omega))).symm) dX6_leadAlike_32
    · -- f
      refine lv_aload_n hx hb dX6_leadAlike_8 rfl (lv_at hl 0 rfl) ?_
      refine lv_iload_n hx hb dX6_leadAlike_9 rfl (lv_at hl 1 rfl) ?_
      refine lv_iload_n hx hb dX6_leadAlike_10 rfl (lv_at hl 3 rfl) ?_
      refine ca_i (CL := [uO b, cO b (nI n) (nI k), oQ (cY 2) (b 3) (rr 1) 6, gI (cY 0) (rr 1) 6 fW 6, [(b 22, .inl (cY 0, 6, .inl fCc))]]) (va_runV (As := [.int (nI i), .int (nI x)]) (rest := []) ⟨hx, hb, hml, hown, hts⟩ (c_X6_weightTo l D cY H.size b rr n k fW fCc g col i x (by omega) (by omega) (by omega) (by omega) hW hC hcl (by omega) (by omega)) (cwV 2 hts gX6_leadAlike_X6_weightTo rfl rfl rfl (by decide +kernel) ⟨Nat.le_of_ble_eq_true rfl, Nat.le_of_ble_eq_true rfl⟩) (b_preV hVK hP hD [0, 1, 2, 3, 4] rfl rfl 0 rfl rfl) rfl rfl hl.1 rfl (lv_room (Nat.le_of_ble_eq_true rfl)) dX6_leadAlike_11 ⟨Nat.le_refl _, Nat.le_refl _⟩) hP hD hS hA [0, 1, 2, 3, 4] rfl rfl (fun _ => rfl) (fun r11 uu H locs hq hP hD hS => ?_)
      subst hq
      have hP : va_P D vwCl ([uO b, cO b (nI n) (nI k), oQ (cY 2) (b 3) (rr 1) 6, gI (cY 0) (rr 1) 6 fW 6, [(b 22, .inl (cY 0, 6, .inl fCc))]] : List va_W).flatten H := hP
      have hD : va_D A ([uO b, cO b (nI n) (nI k), oQ (cY 2) (b 3) (rr 1) 6, gI (cY 0) (rr 1) 6 fW 6, [(b 22, .inl (cY 0, 6, .inl fCc))]] : List va_W).flatten := hD
      refine lv_aload_n hx hb dX6_leadAlike_14 rfl (lv_at hl 0 rfl) ?_
      refine lv_iload_n hx hb dX6_leadAlike_15 rfl (lv_at hl 2 rfl) ?_
      refine lv_iload_n hx hb dX6_leadAlike_16 rfl (lv_at hl 3 rfl) ?_
      refine ca_i (CL := [uO b, cO b (nI n) (nI k), oQ (cY 2) (b 3) (rr 1) 6, gI (cY 0) (rr 1) 6 fW 6, [(b 22, .inl (cY 0, 6, .inl fCc))]]) (va_runV (As := [.int (nI w), .int (nI x)]) (rest := [.int (nI (WC g k col n i x))]) ⟨hx, hb, hml, hown, hts⟩ (c_X6_weightTo l D cY H.size b rr n k fW fCc g col w x (by omega) (by omega) (by omega) (by omega) hW hC hcl (by omega) (by omega)) (cwV 2 hts gX6_leadAlike_X6_weightTo rfl rfl rfl (by decide +kernel) ⟨Nat.le_of_ble_eq_true rfl, Nat.le_of_ble_eq_true rfl⟩) (b_preV hVK hP hD [0, 1, 2, 3, 4] rfl rfl 0 rfl rfl) rfl rfl hl.1 rfl (lv_room (Nat.le_of_ble_eq_true rfl)) dX6_leadAlike_17 ⟨Nat.le_refl _, Nat.le_refl _⟩) hP hD hS hA [0, 1, 2, 3, 4] rfl rfl (fun _ => rfl) (fun r17 uu H locs hq hP hD hS => ?_)
      subst hq
      have hP : va_P D vwCl ([uO b, cO b (nI n) (nI k), oQ (cY 2) (b 3) (rr 1) 6, gI (cY 0) (rr 1) 6 fW 6, [(b 22, .inl (cY 0, 6, .inl fCc))]] : List va_W).flatten H := hP
      have hD : va_D A ([uO b, cO b (nI n) (nI k), oQ (cY 2) (b 3) (rr 1) 6, gI (cY 0) (rr 1) 6 fW 6, [(b 22, .inl (cY 0, 6, .inl fCc))]] : List va_W).flatten := hD
      have hwu := WC_le (g := g) (k := k) (col := col) (n := n) (i := i) (x := x)
      have hww := WC_le (g := g) (k := k) (col := col) (n := n) (i := w) (x := x)
      refine n_icmp_eq (tgt := 25) hx hb dX6_leadAlike_20 (by decide) (by omega) (by omega) (fun h20 => ?_) (fun h20 => ?_)
      · -- t
        refine lv_iinc (v := nI (x + 1)) (lv' := [(3, .int (nI (x + 1))), (0, .ref (b 21)), (1, .int (nI i)), (2, .int (nI w))]) hx hb dX6_leadAlike_25 hl (k := 3) rfl (nI_1 x) (by decide) rfl (fun ls hl => ?_)
        refine lv_goto (tgt := 2) hx hb dX6_leadAlike_28 (by decide) ?_
        exact ih2 (by omega)  (fun o ho => by
  by_cases e : o = x
  · rw [e]; exact dec_t h20
  · exact hI o (by omega)) _ _ hP hD hS _ (lv_sub hl [1, 2, 3, 0] rfl)
      · -- f
        refine lv_iconst (v := nI 0) hx hb dX6_leadAlike_23 (by decide) ?_
        refine eqi (x' := bI false) rfl ?_
        exact r_z hx hb hr hlocks hP hD hS () rfl (congrArg bI (allB_f (q := x) (by omega) (dec_f h20)).symm) dX6_leadAlike_24
  exact L2 0 (by omega)  (fun o h => by omega) _ _ hP hD hS _ (lv_sub hl [1, 2, 3, 0] rfl)

set_option maxHeartbeats 4000000 in
set_option maxRecDepth 100000 in
theorem c_X6_isChainLumped (l : Launch) (D : va_G) (cY : Nat → ClassId) (sz : Nat) (b : Nat → Nat) (rr : Nat → Nat → Nat) (n : Nat) (k : Nat) (fW : Nat → Nat → Int32) (fCc : Nat → Int32) (g : Nat → Nat → Nat) (col : Nat → Nat) (hn1 : 1 ≤ n) (hn6 : n ≤ 6) (hk1 : 1 ≤ k) (hk12 : k ≤ 12) (hW : ∀ i j, i < n → j < n → fW i j = nI (cnt (g i) j k)) (hC : ∀ j, j < n → fCc j = nI (col j)) (hcl : ∀ j, j < n → col j < 6) : Met l yX6_isChainLumped wsX6_isChainLumped ({ frames := 2, cells := 0, slots := 0, locals := 80 }) (cP D cY [.ref (b 21)] [uO b, cO b (nI n) (nI k), oQ (cY 2) (b 3) (rr 1) 6, gI (cY 0) (rr 1) 6 fW 6, [(b 22, .inl (cY 0, 6, .inl fCc))]] sz) (qI (S := Unit) D cY (fun r uu => r = bI (lmA g n k col)) (fun uu => [uO b, cO b (nI n) (nI k), oQ (cY 2) (b 3) (rr 1) 6, gI (cY 0) (rr 1) 6 fW 6, [(b 22, .inl (cY 0, 6, .inl fCc))]]) (va_A ([uO b, cO b (nI n) (nI k), oQ (cY 2) (b 3) (rr 1) 6, gI (cY 0) (rr 1) 6 fW 6, [(b 22, .inl (cY 0, 6, .inl fCc))]] : List va_W).flatten sz)) 0 0 (va_A ([uO b, cO b (nI n) (nI k), oQ (cY 2) (b 3) (rr 1) 6, gI (cY 0) (rr 1) 6 fW 6, [(b 22, .inl (cY 0, 6, .inl fCc))]] : List va_W).flatten sz) := by
  refine mtB (Qc := fun A => qI (S := Unit) D cY (fun r uu => r = bI (lmA g n k col)) (fun uu => [uO b, cO b (nI n) (nI k), oQ (cY 2) (b 3) (rr 1) 6, gI (cY 0) (rr 1) 6 fW 6, [(b 22, .inl (cY 0, 6, .inl fCc))]]) A) (cc := cX6_isChainLumped) (maxL := 3) (ret := (some .boolean)) (by decide) rfl (Nat.le_of_ble_eq_true rfl) ?_
  intro p e s m below meth c A ls hx hb hr hml hts hown hlocks hnm hsz hP hK hVK hD hS hA hl
  have hown : s.vm.findClass RX6 = some m.cls := hown
  have hl : lv_has ls 3 [(0, .ref (b 21))] := hl
  have hP : va_P D vwCl ([uO b, cO b (nI n) (nI k), oQ (cY 2) (b 3) (rr 1) 6, gI (cY 0) (rr 1) 6 fW 6, [(b 22, .inl (cY 0, 6, .inl fCc))]] : List va_W).flatten s.heap := hP
  have hD : va_D A ([uO b, cO b (nI n) (nI k), oQ (cY 2) (b 3) (rr 1) 6, gI (cY 0) (rr 1) 6 fW 6, [(b 22, .inl (cY 0, 6, .inl fCc))]] : List va_W).flatten := hD
  refine lv_iconst (v := nI 0) hx hb dX6_isChainLumped_0 (by decide) ?_
  refine lv_istore_n (lv' := [(1, .int (nI 0)), (0, .ref (b 21))]) hx hb dX6_isChainLumped_1 rfl hl (by decide) rfl (fun ls hl => ?_)
  have L2 : ∀ u : Nat, u ≤ n →  (∀ o w, o < u → o < w → w < n → lmF g n k col o w = true) → ∀ (H : Heap) (locs : List Loc), va_P D vwCl ([uO b, cO b (nI n) (nI k), oQ (cY 2) (b 3) (rr 1) 6, gI (cY 0) (rr 1) 6 fW 6, [(b 22, .inl (cY 0, 6, .inl fCc))]] : List va_W).flatten H → va_D A ([uO b, cO b (nI n) (nI k), oQ (cY 2) (b 3) (rr 1) 6, gI (cY 0) (rr 1) 6 fW 6, [(b 22, .inl (cY 0, 6, .inl fCc))]] : List va_W).flatten → va_S A s.heap H locs → ∀ (ls : Array Slot), lv_has ls 3 [(0, .ref (b 21)), (1, .int (nI u))] → W p l e ({ frames := 2, cells := 0, slots := 0, locals := 80 }) s m ([.ref (b 21)] : List Value).toArray below meth c H locs 0 0 (MQ below (qI (S := Unit) D cY (fun r uu => r = bI (lmA g n k col)) (fun uu => [uO b, cO b (nI n) (nI k), oQ (cY 2) (b 3) (rr 1) 6, gI (cY 0) (rr 1) 6 fW 6, [(b 22, .inl (cY 0, 6, .inl fCc))]]) A) ([.ref (b 21)] : List Value).toArray s 0 0 A) (F0 m 2 ls []) := by
    refine lpW n ?_
    intro u bdu ih2  hI H locs hP hD hS ls hl
    refine lv_iload_n hx hb dX6_isChainLumped_2 rfl (lv_at hl 1 rfl) ?_
    refine lv_aload_n hx hb dX6_isChainLumped_3 rfl (lv_at hl 0 rfl) ?_
    refine b_get (ci := 6) (v := .ref (b 1)) (C := RX6) (T := TX6) (N := 2) hx hb hts (by decide +kernel) hown hK hP 0 rfl rfl 0 (by decide) (hts (.fieldLink RX6 9 "ChanceHall$Lumps" "chain" "LChanceHall$Chain;") (by decide +kernel)) (fun _ h9 => h9) rfl dX6_isChainLumped_4 ?_
    refine b_get (ci := 0) (v := .int (nI n)) (C := RX0) (T := TX0) (N := 4) hx hb hts (by decide +kernel) hown hK hP 1 rfl rfl 0 (by decide) (hts (.fieldLink RX6 25 "ChanceHall$Chain" "states" "I") (by decide +kernel)) (fun _ h9 => h9) rfl dX6_isChainLumped_7 ?_
    refine n_icmp_ge (tgt := 66) hx hb dX6_isChainLumped_10 (by decide) (by omega) (by omega) (fun h10 => ?_) (fun h10 => ?_)
    · -- t
      refine lv_iconst (v := nI 1) hx hb dX6_isChainLumped_66 (by decide) ?_
      refine eqi (x' := bI true) rfl ?_
      exact r_z hx hb hr hlocks hP hD hS () rfl (congrArg bI (lmA_t (fun o w h1 h2 => hI o w (by omega) h1 h2)).symm) dX6_isChainLumped_67
    · -- f
      refine lv_iload_n hx hb dX6_isChainLumped_13 rfl (lv_at hl 1 rfl) ?_
      refine lv_iconst (v := nI 1) hx hb dX6_isChainLumped_14 (by decide) ?_
      refine lv_iadd hx hb dX6_isChainLumped_15 ?_
      refine eqi (x' := nI (u + 1)) (nI_add _ _) ?_
      refine lv_istore_n (lv' := [(2, .int (nI (u + 1))), (0, .ref (b 21)), (1, .int (nI u))]) hx hb dX6_isChainLumped_16 rfl hl (by decide) rfl (fun ls hl => ?_)
      have L17 : ∀ w : Nat, w ≤ n →  (∀ z, u < z → z < w → lmF g n k col u z = true) → (u < w) → ∀ (H : Heap) (locs : List Loc), va_P D vwCl ([uO b, cO b (nI n) (nI k), oQ (cY 2) (b 3) (rr 1) 6, gI (cY 0) (rr 1) 6 fW 6, [(b 22, .inl (cY 0, 6, .inl fCc))]] : List va_W).flatten H → va_D A ([uO b, cO b (nI n) (nI k), oQ (cY 2) (b 3) (rr 1) 6, gI (cY 0) (rr 1) 6 fW 6, [(b 22, .inl (cY 0, 6, .inl fCc))]] : List va_W).flatten → va_S A s.heap H locs → ∀ (ls : Array Slot), lv_has ls 3 [(0, .ref (b 21)), (1, .int (nI u)), (2, .int (nI w))] → W p l e ({ frames := 2, cells := 0, slots := 0, locals := 80 }) s m ([.ref (b 21)] : List Value).toArray below meth c H locs 0 0 (MQ below (qI (S := Unit) D cY (fun r uu => r = bI (lmA g n k col)) (fun uu => [uO b, cO b (nI n) (nI k), oQ (cY 2) (b 3) (rr 1) 6, gI (cY 0) (rr 1) 6 fW 6, [(b 22, .inl (cY 0, 6, .inl fCc))]]) A) ([.ref (b 21)] : List Value).toArray s 0 0 A) (F0 m 17 ls []) := by
        refine lpW n ?_
        intro w bdw ih17  hJ huw H locs hP hD hS ls hl
        refine lv_iload_n hx hb dX6_isChainLumped_17 rfl (lv_at hl 2 rfl) ?_
        refine lv_aload_n hx hb dX6_isChainLumped_18 rfl (lv_at hl 0 rfl) ?_
        refine b_get (ci := 6) (v := .ref (b 1)) (C := RX6) (T := TX6) (N := 2) hx hb hts (by decide +kernel) hown hK hP 0 rfl rfl 0 (by decide) (hts (.fieldLink RX6 9 "ChanceHall$Lumps" "chain" "LChanceHall$Chain;") (by decide +kernel)) (fun _ h9 => h9) rfl dX6_isChainLumped_19 ?_
        refine b_get (ci := 0) (v := .int (nI n)) (C := RX0) (T := TX0) (N := 4) hx hb hts (by decide +kernel) hown hK hP 1 rfl rfl 0 (by decide) (hts (.fieldLink RX6 25 "ChanceHall$Chain" "states" "I") (by decide +kernel)) (fun _ h9 => h9) rfl dX6_isChainLumped_22 ?_
        refine n_icmp_ge (tgt := 60) hx hb dX6_isChainLumped_25 (by decide) (by omega) (by omega) (fun h25 => ?_) (fun h25 => ?_)
        · -- t
          refine lv_iinc (v := nI (u + 1)) (lv' := [(1, .int (nI (u + 1))), (0, .ref (b 21)), (2, .int (nI w))]) hx hb dX6_isChainLumped_60 hl (k := 1) rfl (nI_1 u) (by decide) rfl (fun ls hl => ?_)
          refine lv_goto (tgt := 2) hx hb dX6_isChainLumped_63 (by decide) ?_
          exact ih2 (by omega)  (fun o w h1 h2 h3 => by
  by_cases e : o = u
  · subst e; exact hJ w h2 (by omega)
  · exact hI o w (by omega) h2 h3) _ _ hP hD hS _ (lv_sub hl [1, 0] rfl)
        · -- f
          refine lv_aload_n hx hb dX6_isChainLumped_28 rfl (lv_at hl 0 rfl) ?_
          refine b_get (ci := 6) (v := .ref (b 22)) (C := RX6) (T := TX6) (N := 2) hx hb hts (by decide +kernel) hown hK hP 0 rfl rfl 1 (by decide) (hts (.fieldLink RX6 15 "ChanceHall$Lumps" "colours" "[I") (by decide +kernel)) (fun _ h9 => h9) rfl dX6_isChainLumped_29 ?_
          refine lv_iload_n hx hb dX6_isChainLumped_32 rfl (lv_at hl 1 rfl) ?_
          refine b_iald hx hb hK hP 4 0 rfl rfl (by omega) (by decide) dX6_isChainLumped_33 ?_
          refine eqi (x' := nI (col u)) (hC u (by omega)) ?_
          refine lv_aload_n hx hb dX6_isChainLumped_34 rfl (lv_at hl 0 rfl) ?_
          refine b_get (ci := 6) (v := .ref (b 22)) (C := RX6) (T := TX6) (N := 2) hx hb hts (by decide +kernel) hown hK hP 0 rfl rfl 1 (by decide) (hts (.fieldLink RX6 15 "ChanceHall$Lumps" "colours" "[I") (by decide +kernel)) (fun _ h9 => h9) rfl dX6_isChainLumped_35 ?_
          refine lv_iload_n hx hb dX6_isChainLumped_38 rfl (lv_at hl 2 rfl) ?_
          refine b_iald hx hb hK hP 4 0 rfl rfl (by omega) (by decide) dX6_isChainLumped_39 ?_
          refine eqi (x' := nI (col w)) (hC w (by omega)) ?_
          have hcu := hcl u (by omega)
          have hcw := hcl w (by omega)
          refine n_icmp_ne (tgt := 54) hx hb dX6_isChainLumped_40 (by decide) (by omega) (by omega) (fun h40 => ?_) (fun h40 => ?_)
          · -- t
            have hF : lmF g n k col u w = true := or_1 (not_t (dec_f h40))
            refine lv_iinc (v := nI (w + 1)) (lv' := [(2, .int (nI (w + 1))), (0, .ref (b 21)), (1, .int (nI u))]) hx hb dX6_isChainLumped_54 hl (k := 2) rfl (nI_1 w) (by decide) rfl (fun ls hl => ?_)
            refine lv_goto (tgt := 17) hx hb dX6_isChainLumped_57 (by decide) ?_
            exact ih17 (by omega)  (fun z h1 h2 => by
  by_cases e : z = w
  · subst e; exact hF
  · exact hJ z h1 (by omega)) (by omega) _ _ hP hD hS _ (lv_sub hl [1, 2, 0] rfl)
          · -- f
            refine lv_aload_n hx hb dX6_isChainLumped_43 rfl (lv_at hl 0 rfl) ?_
            refine lv_iload_n hx hb dX6_isChainLumped_44 rfl (lv_at hl 1 rfl) ?_
            refine lv_iload_n hx hb dX6_isChainLumped_45 rfl (lv_at hl 2 rfl) ?_
            refine ca_i (CL := [uO b, cO b (nI n) (nI k), oQ (cY 2) (b 3) (rr 1) 6, gI (cY 0) (rr 1) 6 fW 6, [(b 22, .inl (cY 0, 6, .inl fCc))]]) (va_runV (As := [.int (nI u), .int (nI w)]) (rest := []) ⟨hx, hb, hml, hown, hts⟩ (c_X6_leadAlike l D cY H.size b rr n k fW fCc g col u w (by omega) (by omega) (by omega) (by omega) hW hC hcl (by omega) (by omega)) (cwV 2 hts gX6_isChainLumped_X6_leadAlike rfl rfl rfl (by decide +kernel) ⟨Nat.le_of_ble_eq_true rfl, Nat.le_of_ble_eq_true rfl⟩) (b_preV hVK hP hD [0, 1, 2, 3, 4] rfl rfl 0 rfl rfl) rfl rfl hl.1 rfl (lv_room (Nat.le_of_ble_eq_true rfl)) dX6_isChainLumped_46 ⟨Nat.le_refl _, Nat.le_refl _⟩) hP hD hS hA [0, 1, 2, 3, 4] rfl rfl (fun _ => rfl) (fun r46 uu H locs hq hP hD hS => ?_)
            subst hq
            have hP : va_P D vwCl ([uO b, cO b (nI n) (nI k), oQ (cY 2) (b 3) (rr 1) 6, gI (cY 0) (rr 1) 6 fW 6, [(b 22, .inl (cY 0, 6, .inl fCc))]] : List va_W).flatten H := hP
            have hD : va_D A ([uO b, cO b (nI n) (nI k), oQ (cY 2) (b 3) (rr 1) 6, gI (cY 0) (rr 1) 6 fW 6, [(b 22, .inl (cY 0, 6, .inl fCc))]] : List va_W).flatten := hD
            refine b_if_ne (tgt := 54) hx hb dX6_isChainLumped_49 (by decide) (fun h49 => ?_) (fun h49 => ?_)
            · -- t
              have hF : lmF g n k col u w = true := or_2 h49
              refine lv_iinc (v := nI (w + 1)) (lv' := [(2, .int (nI (w + 1))), (0, .ref (b 21)), (1, .int (nI u))]) hx hb dX6_isChainLumped_54 hl (k := 2) rfl (nI_1 w) (by decide) rfl (fun ls hl => ?_)
              refine lv_goto (tgt := 17) hx hb dX6_isChainLumped_57 (by decide) ?_
              exact ih17 (by omega)  (fun z h1 h2 => by
  by_cases e : z = w
  · subst e; exact hF
  · exact hJ z h1 (by omega)) (by omega) _ _ hP hD hS _ (lv_sub hl [1, 2, 0] rfl)
            · -- f
              have hB : lmF g n k col u w = false := or_ff (not_f (dec_t h40)) h49
              refine lv_iconst (v := nI 0) hx hb dX6_isChainLumped_52 (by decide) ?_
              refine eqi (x' := bI false) rfl ?_
              exact r_z hx hb hr hlocks hP hD hS () rfl (congrArg bI (lmA_f huw (by omega) hB).symm) dX6_isChainLumped_53
      exact L17 (u + 1) (by omega)  (fun z h1 h2 => by omega) (by omega) _ _ hP hD hS _ (lv_sub hl [1, 2, 0] rfl)
  exact L2 0 (by omega)  (fun o w h => by omega) _ _ hP hD hS _ (lv_sub hl [1, 0] rfl)

