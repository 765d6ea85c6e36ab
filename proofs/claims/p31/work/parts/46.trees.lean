set_option maxHeartbeats 4000000 in
set_option maxRecDepth 100000 in
theorem c_X1_setOneStepOn (l : Launch) (D : va_G) (cY : Nat → ClassId) (sz : Nat) (b : Nat → Nat) (rr : Nat → Nat → Nat) (n : Nat) (k : Nat) (fW : Nat → Nat → Int32) (g : Nat → Nat → Nat) (X : Nat) (hn1 : 1 ≤ n) (hn6 : n ≤ 6) (hk1 : 1 ≤ k) (hk12 : k ≤ 12) (hW : ∀ i j, i < n → j < n → fW i j = nI (cnt (g i) j k)) (hX : X < 64) : Met l yX1_setOneStepOn wsX1_setOneStepOn ({ frames := 0, cells := 0, slots := 0, locals := 0 }) (cP D cY [.ref (b 10), .int (nI X)] [sO b, cO b (nI n) (nI k), oQ (cY 2) (b 3) (rr 1) 6, gI (cY 0) (rr 1) 6 fW 6] sz) (qI (S := Unit) D cY (fun r uu => r = nI (soO g n k X n)) (fun uu => [sO b, cO b (nI n) (nI k), oQ (cY 2) (b 3) (rr 1) 6, gI (cY 0) (rr 1) 6 fW 6]) (va_A ([sO b, cO b (nI n) (nI k), oQ (cY 2) (b 3) (rr 1) 6, gI (cY 0) (rr 1) 6 fW 6] : List va_W).flatten sz)) 0 0 (va_A ([sO b, cO b (nI n) (nI k), oQ (cY 2) (b 3) (rr 1) 6, gI (cY 0) (rr 1) 6 fW 6] : List va_W).flatten sz) := by
  refine mtB (Qc := fun A => qI (S := Unit) D cY (fun r uu => r = nI (soO g n k X n)) (fun uu => [sO b, cO b (nI n) (nI k), oQ (cY 2) (b 3) (rr 1) 6, gI (cY 0) (rr 1) 6 fW 6]) A) (cc := cX1_setOneStepOn) (maxL := 5) (ret := (some .int)) (by decide) rfl (Nat.le_of_ble_eq_true rfl) ?_
  intro p e s m below meth c A ls hx hb hr hml hts hown hlocks hnm hsz hP hK hVK hD hS hA hl
  have hown : s.vm.findClass RX1 = some m.cls := hown
  have hl : lv_has ls 5 [(0, .ref (b 10)), (1, .int (nI X))] := hl
  have hP : va_P D vwCl ([sO b, cO b (nI n) (nI k), oQ (cY 2) (b 3) (rr 1) 6, gI (cY 0) (rr 1) 6 fW 6] : List va_W).flatten s.heap := hP
  have hD : va_D A ([sO b, cO b (nI n) (nI k), oQ (cY 2) (b 3) (rr 1) 6, gI (cY 0) (rr 1) 6 fW 6] : List va_W).flatten := hD
  refine lv_iconst (v := nI 0) hx hb dX1_setOneStepOn_0 (by decide) ?_
  refine lv_istore_n (lv' := [(2, .int (nI 0)), (0, .ref (b 10)), (1, .int (nI X))]) hx hb dX1_setOneStepOn_1 rfl hl (by decide) rfl (fun ls hl => ?_)
  refine lv_iconst (v := nI 0) hx hb dX1_setOneStepOn_2 (by decide) ?_
  refine lv_istore_n (lv' := [(3, .int (nI 0)), (2, .int (nI 0)), (0, .ref (b 10)), (1, .int (nI X))]) hx hb dX1_setOneStepOn_3 rfl hl (by decide) rfl (fun ls hl => ?_)
  have L4 : ∀ i : Nat, i ≤ n →  ∀ (H : Heap) (locs : List Loc), va_P D vwCl ([sO b, cO b (nI n) (nI k), oQ (cY 2) (b 3) (rr 1) 6, gI (cY 0) (rr 1) 6 fW 6] : List va_W).flatten H → va_D A ([sO b, cO b (nI n) (nI k), oQ (cY 2) (b 3) (rr 1) 6, gI (cY 0) (rr 1) 6 fW 6] : List va_W).flatten → va_S A s.heap H locs → ∀ (ls : Array Slot), lv_has ls 5 [(0, .ref (b 10)), (1, .int (nI X)), (2, .int (nI (soO g n k X i))), (3, .int (nI i))] → W p l e ({ frames := 0, cells := 0, slots := 0, locals := 0 }) s m ([.ref (b 10), .int (nI X)] : List Value).toArray below meth c H locs 0 0 (MQ below (qI (S := Unit) D cY (fun r uu => r = nI (soO g n k X n)) (fun uu => [sO b, cO b (nI n) (nI k), oQ (cY 2) (b 3) (rr 1) 6, gI (cY 0) (rr 1) 6 fW 6]) A) ([.ref (b 10), .int (nI X)] : List Value).toArray s 0 0 A) (F0 m 4 ls []) := by
    refine lpW n ?_
    intro i bdi ih4   H locs hP hD hS ls hl
    refine lv_iload_n hx hb dX1_setOneStepOn_4 rfl (lv_at hl 3 rfl) ?_
    refine lv_aload_n hx hb dX1_setOneStepOn_5 rfl (lv_at hl 0 rfl) ?_
    refine b_get (ci := 1) (v := .ref (b 1)) (C := RX1) (T := TX1) (N := 1) hx hb hts (by decide +kernel) hown hK hP 0 rfl rfl 0 (by decide) (hts (.fieldLink RX1 9 "ChanceHall$Classes" "chain" "LChanceHall$Chain;") (by decide +kernel)) (fun _ h9 => h9) rfl dX1_setOneStepOn_6 ?_
    refine b_get (ci := 0) (v := .int (nI n)) (C := RX0) (T := TX0) (N := 4) hx hb hts (by decide +kernel) hown hK hP 1 rfl rfl 0 (by decide) (hts (.fieldLink RX1 15 "ChanceHall$Chain" "states" "I") (by decide +kernel)) (fun _ h9 => h9) rfl dX1_setOneStepOn_9 ?_
    refine n_icmp_ge (tgt := 72) hx hb dX1_setOneStepOn_12 (by decide) (by omega) (by omega) (fun h12 => ?_) (fun h12 => ?_)
    · -- t
      refine lv_iload_n hx hb dX1_setOneStepOn_72 rfl (lv_at hl 2 rfl) ?_
      exact r_i hx hb hr hlocks hP hD hS () rfl (by (have e : i = n := by omega); subst e; rfl) dX1_setOneStepOn_73
    · -- f
      refine lv_iconst (v := nI 0) hx hb dX1_setOneStepOn_15 (by decide) ?_
      refine lv_istore (lv' := [(4, .int (nI 0)), (0, .ref (b 10)), (1, .int (nI X)), (2, .int (nI (soO g n k X i))), (3, .int (nI i))]) hx hb dX1_setOneStepOn_16 hl (by decide) rfl (fun ls hl => ?_)
      have L18 : ∀ j : Nat, j ≤ n →  ∀ (H : Heap) (locs : List Loc), va_P D vwCl ([sO b, cO b (nI n) (nI k), oQ (cY 2) (b 3) (rr 1) 6, gI (cY 0) (rr 1) 6 fW 6] : List va_W).flatten H → va_D A ([sO b, cO b (nI n) (nI k), oQ (cY 2) (b 3) (rr 1) 6, gI (cY 0) (rr 1) 6 fW 6] : List va_W).flatten → va_S A s.heap H locs → ∀ (ls : Array Slot), lv_has ls 5 [(0, .ref (b 10)), (1, .int (nI X)), (2, .int (nI (so2 g k X (soO g n k X i) i j))), (3, .int (nI i)), (4, .int (nI j))] → W p l e ({ frames := 0, cells := 0, slots := 0, locals := 0 }) s m ([.ref (b 10), .int (nI X)] : List Value).toArray below meth c H locs 0 0 (MQ below (qI (S := Unit) D cY (fun r uu => r = nI (soO g n k X n)) (fun uu => [sO b, cO b (nI n) (nI k), oQ (cY 2) (b 3) (rr 1) 6, gI (cY 0) (rr 1) 6 fW 6]) A) ([.ref (b 10), .int (nI X)] : List Value).toArray s 0 0 A) (F0 m 18 ls []) := by
        refine lpW n ?_
        intro j bdj ih18   H locs hP hD hS ls hl
        refine lv_iload hx hb dX1_setOneStepOn_18 (lv_at hl 4 rfl) ?_
        refine lv_aload_n hx hb dX1_setOneStepOn_20 rfl (lv_at hl 0 rfl) ?_
        refine b_get (ci := 1) (v := .ref (b 1)) (C := RX1) (T := TX1) (N := 1) hx hb hts (by decide +kernel) hown hK hP 0 rfl rfl 0 (by decide) (hts (.fieldLink RX1 9 "ChanceHall$Classes" "chain" "LChanceHall$Chain;") (by decide +kernel)) (fun _ h9 => h9) rfl dX1_setOneStepOn_21 ?_
        refine b_get (ci := 0) (v := .int (nI n)) (C := RX0) (T := TX0) (N := 4) hx hb hts (by decide +kernel) hown hK hP 1 rfl rfl 0 (by decide) (hts (.fieldLink RX1 15 "ChanceHall$Chain" "states" "I") (by decide +kernel)) (fun _ h9 => h9) rfl dX1_setOneStepOn_24 ?_
        refine n_icmp_ge (tgt := 66) hx hb dX1_setOneStepOn_27 (by decide) (by omega) (by omega) (fun h27 => ?_) (fun h27 => ?_)
        · -- t
          have e18 : j = n := by omega
          refine lv_iinc (v := nI (i + 1)) (lv' := [(3, .int (nI (i + 1))), (0, .ref (b 10)), (1, .int (nI X)), (2, .int (nI (so2 g k X (soO g n k X i) i j))), (4, .int (nI j))]) hx hb dX1_setOneStepOn_66 hl (k := 3) rfl (nI_1 i) (by decide) rfl (fun ls hl => ?_)
          refine lv_goto (tgt := 4) hx hb dX1_setOneStepOn_69 (by decide) ?_
          exact ih4 (by omega)   _ _ hP hD hS _ (lv_sub hl [1, 2, 3, 0] (by rw [e18]; rfl))
        · -- f
          refine lv_iload_n hx hb dX1_setOneStepOn_30 rfl (lv_at hl 1 rfl) ?_
          refine lv_iconst (v := nI 1) hx hb dX1_setOneStepOn_31 (by decide) ?_
          refine lv_iload_n hx hb dX1_setOneStepOn_32 rfl (lv_at hl 3 rfl) ?_
          refine lv_ishl hx hb dX1_setOneStepOn_33 ?_
          refine eqi (x' := nI (2 ^ i)) (nI_shl1 (by omega)) ?_
          have han : X &&& 2 ^ i ≤ X := Nat.and_le_left
          refine lv_iand hx hb dX1_setOneStepOn_34 ?_
          refine eqi (x' := nI (X &&& (2 ^ i))) (nI_and _ _) ?_
          refine n_if_eq (tgt := 60) hx hb dX1_setOneStepOn_35 (by decide) (by omega) (fun h35 => ?_) (fun h35 => ?_)
          · -- t
            have hif := so2_f (g := g) (k := k) (B := soO g n k X i) (j := j) (Or.inl ((and_b0 i (by omega) X hX).mp h35))
            refine lv_iinc (v := nI (j + 1)) (lv' := [(4, .int (nI (j + 1))), (0, .ref (b 10)), (1, .int (nI X)), (2, .int (nI (so2 g k X (soO g n k X i) i j))), (3, .int (nI i))]) hx hb dX1_setOneStepOn_60 hl (k := 4) rfl (nI_1 j) (by decide) rfl (fun ls hl => ?_)
            refine lv_goto (tgt := 18) hx hb dX1_setOneStepOn_63 (by decide) ?_
            exact ih18 (by omega)   _ _ hP hD hS _ (lv_sub hl [1, 2, 3, 4, 0] (by first | rfl | (rw [← hif]; rfl)))
          · -- f
            refine lv_aload_n hx hb dX1_setOneStepOn_38 rfl (lv_at hl 0 rfl) ?_
            refine b_get (ci := 1) (v := .ref (b 1)) (C := RX1) (T := TX1) (N := 1) hx hb hts (by decide +kernel) hown hK hP 0 rfl rfl 0 (by decide) (hts (.fieldLink RX1 9 "ChanceHall$Classes" "chain" "LChanceHall$Chain;") (by decide +kernel)) (fun _ h9 => h9) rfl dX1_setOneStepOn_39 ?_
            refine b_get (ci := 0) (v := .ref (b 3)) (C := RX0) (T := TX0) (N := 4) hx hb hts (by decide +kernel) hown hK hP 1 rfl rfl 3 (by decide) (hts (.fieldLink RX1 25 "ChanceHall$Chain" "weights" "[[I") (by decide +kernel)) (fun _ h9 => h9) rfl dX1_setOneStepOn_42 ?_
            refine lv_iload_n hx hb dX1_setOneStepOn_45 rfl (lv_at hl 3 rfl) ?_
            refine g_aald hx hb hK hP 2 2 rfl rfl (by omega) (by decide) dX1_setOneStepOn_46 ?_
            refine lv_iload hx hb dX1_setOneStepOn_47 (lv_at hl 4 rfl) ?_
            refine g_iald hx hb hK hP 3 0 rfl rfl (by omega) (by omega) (by decide) dX1_setOneStepOn_49 ?_
            refine eqi (x' := nI (cnt (g i) j k)) (hW i j (by omega) (by omega)) ?_
            have hcl := cnt_le (g i) j k
            refine n_if_le (tgt := 60) hx hb dX1_setOneStepOn_50 (by decide) (by omega) (fun h50 => ?_) (fun h50 => ?_)
            · -- t
              have hif := so2_f (g := g) (X := X) (B := soO g n k X i) (Or.inr h50)
              refine lv_iinc (v := nI (j + 1)) (lv' := [(4, .int (nI (j + 1))), (0, .ref (b 10)), (1, .int (nI X)), (2, .int (nI (so2 g k X (soO g n k X i) i j))), (3, .int (nI i))]) hx hb dX1_setOneStepOn_60 hl (k := 4) rfl (nI_1 j) (by decide) rfl (fun ls hl => ?_)
              refine lv_goto (tgt := 18) hx hb dX1_setOneStepOn_63 (by decide) ?_
              exact ih18 (by omega)   _ _ hP hD hS _ (lv_sub hl [1, 2, 3, 4, 0] (by first | rfl | (rw [← hif]; rfl)))
            · -- f
              refine lv_iload_n hx hb dX1_setOneStepOn_53 rfl (lv_at hl 2 rfl) ?_
              refine lv_iconst (v := nI 1) hx hb dX1_setOneStepOn_54 (by decide) ?_
              refine lv_iload hx hb dX1_setOneStepOn_55 (lv_at hl 4 rfl) ?_
              refine lv_ishl hx hb dX1_setOneStepOn_57 ?_
              refine eqi (x' := nI (2 ^ j)) (nI_shl1 (by omega)) ?_
              refine lv_ior hx hb dX1_setOneStepOn_58 ?_
              refine eqi (x' := nI ((so2 g k X (soO g n k X i) i j) ||| (2 ^ j))) (nI_or _ _) ?_
              refine eqi (x' := nI (so2 g k X (soO g n k X i) i (j + 1))) (congrArg nI (so2_t ((and_bt i (by omega) X hX).mp h35) h50)) ?_
              refine lv_istore_n (lv' := [(2, .int (nI (so2 g k X (soO g n k X i) i (j + 1)))), (0, .ref (b 10)), (1, .int (nI X)), (3, .int (nI i)), (4, .int (nI j))]) hx hb dX1_setOneStepOn_59 rfl hl (by decide) rfl (fun ls hl => ?_)
              refine lv_iinc (v := nI (j + 1)) (lv' := [(4, .int (nI (j + 1))), (2, .int (nI (so2 g k X (soO g n k X i) i (j + 1)))), (0, .ref (b 10)), (1, .int (nI X)), (3, .int (nI i))]) hx hb dX1_setOneStepOn_60 hl (k := 4) rfl (nI_1 j) (by decide) rfl (fun ls hl => ?_)
              refine lv_goto (tgt := 18) hx hb dX1_setOneStepOn_63 (by decide) ?_
              exact ih18 (by omega)   _ _ hP hD hS _ (lv_sub hl [2, 3, 1, 4, 0] (by first | rfl | (rw [← hif]; rfl)))
      exact L18 0 (by omega)   _ _ hP hD hS _ (lv_sub hl [1, 2, 3, 4, 0] rfl)
  exact L4 0 (by omega)   _ _ hP hD hS _ (lv_sub hl [2, 3, 1, 0] rfl)

set_option maxHeartbeats 4000000 in
set_option maxRecDepth 100000 in
theorem c_X1_reachedFrom (l : Launch) (D : va_G) (cY : Nat → ClassId) (sz : Nat) (b : Nat → Nat) (rr : Nat → Nat → Nat) (n : Nat) (k : Nat) (fW : Nat → Nat → Int32) (g : Nat → Nat → Nat) (i : Nat) (hn1 : 1 ≤ n) (hn6 : n ≤ 6) (hk1 : 1 ≤ k) (hk12 : k ≤ 12) (hW : ∀ i j, i < n → j < n → fW i j = nI (cnt (g i) j k)) (hi : i < n) : Met l yX1_reachedFrom wsX1_reachedFrom ({ frames := 1, cells := 0, slots := 0, locals := 40 }) (cP D cY [.ref (b 10), .int (nI i)] [sO b, cO b (nI n) (nI k), oQ (cY 2) (b 3) (rr 1) 6, gI (cY 0) (rr 1) 6 fW 6] sz) (qI (S := Unit) D cY (fun r uu => r = nI (rcA g n k i (n - 1))) (fun uu => [sO b, cO b (nI n) (nI k), oQ (cY 2) (b 3) (rr 1) 6, gI (cY 0) (rr 1) 6 fW 6]) (va_A ([sO b, cO b (nI n) (nI k), oQ (cY 2) (b 3) (rr 1) 6, gI (cY 0) (rr 1) 6 fW 6] : List va_W).flatten sz)) 0 0 (va_A ([sO b, cO b (nI n) (nI k), oQ (cY 2) (b 3) (rr 1) 6, gI (cY 0) (rr 1) 6 fW 6] : List va_W).flatten sz) := by
  refine mtB (Qc := fun A => qI (S := Unit) D cY (fun r uu => r = nI (rcA g n k i (n - 1))) (fun uu => [sO b, cO b (nI n) (nI k), oQ (cY 2) (b 3) (rr 1) 6, gI (cY 0) (rr 1) 6 fW 6]) A) (cc := cX1_reachedFrom) (maxL := 4) (ret := (some .int)) (by decide) rfl (Nat.le_of_ble_eq_true rfl) ?_
  intro p e s m below meth c A ls hx hb hr hml hts hown hlocks hnm hsz hP hK hVK hD hS hA hl
  have hown : s.vm.findClass RX1 = some m.cls := hown
  have hl : lv_has ls 4 [(0, .ref (b 10)), (1, .int (nI i))] := hl
  have hP : va_P D vwCl ([sO b, cO b (nI n) (nI k), oQ (cY 2) (b 3) (rr 1) 6, gI (cY 0) (rr 1) 6 fW 6] : List va_W).flatten s.heap := hP
  have hD : va_D A ([sO b, cO b (nI n) (nI k), oQ (cY 2) (b 3) (rr 1) 6, gI (cY 0) (rr 1) 6 fW 6] : List va_W).flatten := hD
  refine lv_iconst (v := nI 1) hx hb dX1_reachedFrom_0 (by decide) ?_
  refine lv_iload_n hx hb dX1_reachedFrom_1 rfl (lv_at hl 1 rfl) ?_
  refine lv_ishl hx hb dX1_reachedFrom_2 ?_
  refine eqi (x' := nI (2 ^ i)) (nI_shl1 (by omega)) ?_
  refine lv_istore_n (lv' := [(2, .int (nI (2 ^ i))), (0, .ref (b 10)), (1, .int (nI i))]) hx hb dX1_reachedFrom_3 rfl hl (by decide) rfl (fun ls hl => ?_)
  refine lv_iconst (v := nI 1) hx hb dX1_reachedFrom_4 (by decide) ?_
  refine lv_istore_n (lv' := [(3, .int (nI 1)), (2, .int (nI (2 ^ i))), (0, .ref (b 10)), (1, .int (nI i))]) hx hb dX1_reachedFrom_5 rfl hl (by decide) rfl (fun ls hl => ?_)
  have L6 : ∀ q : Nat, q ≤ n - 1 →  ∀ (H : Heap) (locs : List Loc), va_P D vwCl ([sO b, cO b (nI n) (nI k), oQ (cY 2) (b 3) (rr 1) 6, gI (cY 0) (rr 1) 6 fW 6] : List va_W).flatten H → va_D A ([sO b, cO b (nI n) (nI k), oQ (cY 2) (b 3) (rr 1) 6, gI (cY 0) (rr 1) 6 fW 6] : List va_W).flatten → va_S A s.heap H locs → ∀ (ls : Array Slot), lv_has ls 4 [(0, .ref (b 10)), (1, .int (nI i)), (2, .int (nI (rcA g n k i q))), (3, .int (nI (q + 1)))] → W p l e ({ frames := 1, cells := 0, slots := 0, locals := 40 }) s m ([.ref (b 10), .int (nI i)] : List Value).toArray below meth c H locs 0 0 (MQ below (qI (S := Unit) D cY (fun r uu => r = nI (rcA g n k i (n - 1))) (fun uu => [sO b, cO b (nI n) (nI k), oQ (cY 2) (b 3) (rr 1) 6, gI (cY 0) (rr 1) 6 fW 6]) A) ([.ref (b 10), .int (nI i)] : List Value).toArray s 0 0 A) (F0 m 6 ls []) := by
    refine lpW (n - 1) ?_
    intro q bdq ih6   H locs hP hD hS ls hl
    refine lv_iload_n hx hb dX1_reachedFrom_6 rfl (lv_at hl 3 rfl) ?_
    refine lv_aload_n hx hb dX1_reachedFrom_7 rfl (lv_at hl 0 rfl) ?_
    refine b_get (ci := 1) (v := .ref (b 1)) (C := RX1) (T := TX1) (N := 1) hx hb hts (by decide +kernel) hown hK hP 0 rfl rfl 0 (by decide) (hts (.fieldLink RX1 9 "ChanceHall$Classes" "chain" "LChanceHall$Chain;") (by decide +kernel)) (fun _ h9 => h9) rfl dX1_reachedFrom_8 ?_
    refine b_get (ci := 0) (v := .int (nI n)) (C := RX0) (T := TX0) (N := 4) hx hb hts (by decide +kernel) hown hK hP 1 rfl rfl 0 (by decide) (hts (.fieldLink RX1 15 "ChanceHall$Chain" "states" "I") (by decide +kernel)) (fun _ h9 => h9) rfl dX1_reachedFrom_11 ?_
    refine n_icmp_ge (tgt := 31) hx hb dX1_reachedFrom_14 (by decide) (by omega) (by omega) (fun h14 => ?_) (fun h14 => ?_)
    · -- t
      refine lv_iload_n hx hb dX1_reachedFrom_31 rfl (lv_at hl 2 rfl) ?_
      exact r_i hx hb hr hlocks hP hD hS () rfl (by (have e : q = n - 1 := by omega); rw [e]) dX1_reachedFrom_32
    · -- f
      refine lv_iload_n hx hb dX1_reachedFrom_17 rfl (lv_at hl 2 rfl) ?_
      refine lv_aload_n hx hb dX1_reachedFrom_18 rfl (lv_at hl 0 rfl) ?_
      refine lv_iload_n hx hb dX1_reachedFrom_19 rfl (lv_at hl 2 rfl) ?_
      refine ca_i (CL := [sO b, cO b (nI n) (nI k), oQ (cY 2) (b 3) (rr 1) 6, gI (cY 0) (rr 1) 6 fW 6]) (va_runV (As := [.int (nI (rcA g n k i q))]) (rest := [.int (nI (rcA g n k i q))]) ⟨hx, hb, hml, hown, hts⟩ (c_X1_setOneStepOn l D cY H.size b rr n k fW g (rcA g n k i q) (by omega) (by omega) (by omega) (by omega) hW (rcA_lt hn6 hi q)) (cwV 1 hts gX1_reachedFrom_X1_setOneStepOn rfl rfl rfl (by decide +kernel) ⟨Nat.le_of_ble_eq_true rfl, Nat.le_of_ble_eq_true rfl⟩) (b_preV hVK hP hD [0, 1, 2, 3] rfl rfl 0 rfl rfl) rfl rfl hl.1 rfl (lv_room (Nat.le_of_ble_eq_true rfl)) dX1_reachedFrom_20 ⟨Nat.le_refl _, Nat.le_refl _⟩) hP hD hS hA [0, 1, 2, 3] rfl rfl (fun _ => rfl) (fun r20 uu H locs hq hP hD hS => ?_)
      subst hq
      have hP : va_P D vwCl ([sO b, cO b (nI n) (nI k), oQ (cY 2) (b 3) (rr 1) 6, gI (cY 0) (rr 1) 6 fW 6] : List va_W).flatten H := hP
      have hD : va_D A ([sO b, cO b (nI n) (nI k), oQ (cY 2) (b 3) (rr 1) 6, gI (cY 0) (rr 1) 6 fW 6] : List va_W).flatten := hD
      refine lv_ior hx hb dX1_reachedFrom_23 ?_
      refine eqi (x' := nI ((rcA g n k i q) ||| (soO g n k (rcA g n k i q) n))) (nI_or _ _) ?_
      refine lv_istore_n (lv' := [(2, .int (nI ((rcA g n k i q) ||| (soO g n k (rcA g n k i q) n)))), (0, .ref (b 10)), (1, .int (nI i)), (3, .int (nI (q + 1)))]) hx hb dX1_reachedFrom_24 rfl hl (by decide) rfl (fun ls hl => ?_)
      refine lv_iinc (v := nI (q + 1 + 1)) (lv' := [(3, .int (nI (q + 1 + 1))), (2, .int (nI ((rcA g n k i q) ||| (soO g n k (rcA g n k i q) n)))), (0, .ref (b 10)), (1, .int (nI i))]) hx hb dX1_reachedFrom_25 hl (k := 3) rfl (nI_1 (q + 1)) (by decide) rfl (fun ls hl => ?_)
      refine lv_goto (tgt := 6) hx hb dX1_reachedFrom_28 (by decide) ?_
      exact ih6 (by omega)   _ _ hP hD hS _ (lv_sub hl [2, 3, 1, 0] rfl)
  exact L6 0 (by omega)   _ _ hP hD hS _ (lv_sub hl [2, 3, 1, 0] rfl)

set_option maxHeartbeats 4000000 in
set_option maxRecDepth 100000 in
theorem c_X1_isLowestOfClosed (l : Launch) (D : va_G) (cY : Nat → ClassId) (sz : Nat) (b : Nat → Nat) (rr : Nat → Nat → Nat) (n : Nat) (k : Nat) (fW : Nat → Nat → Int32) (g : Nat → Nat → Nat) (i : Nat) (hn1 : 1 ≤ n) (hn6 : n ≤ 6) (hk1 : 1 ≤ k) (hk12 : k ≤ 12) (hW : ∀ i j, i < n → j < n → fW i j = nI (cnt (g i) j k)) (hi : i < n) : Met l yX1_isLowestOfClosed wsX1_isLowestOfClosed ({ frames := 2, cells := 0, slots := 0, locals := 80 }) (cP D cY [.ref (b 10), .int (nI i)] [sO b, cO b (nI n) (nI k), oQ (cY 2) (b 3) (rr 1) 6, gI (cY 0) (rr 1) 6 fW 6] sz) (qI (S := Unit) D cY (fun r uu => r = bI (lowB g n k i)) (fun uu => [sO b, cO b (nI n) (nI k), oQ (cY 2) (b 3) (rr 1) 6, gI (cY 0) (rr 1) 6 fW 6]) (va_A ([sO b, cO b (nI n) (nI k), oQ (cY 2) (b 3) (rr 1) 6, gI (cY 0) (rr 1) 6 fW 6] : List va_W).flatten sz)) 0 0 (va_A ([sO b, cO b (nI n) (nI k), oQ (cY 2) (b 3) (rr 1) 6, gI (cY 0) (rr 1) 6 fW 6] : List va_W).flatten sz) := by
  refine mtB (Qc := fun A => qI (S := Unit) D cY (fun r uu => r = bI (lowB g n k i)) (fun uu => [sO b, cO b (nI n) (nI k), oQ (cY 2) (b 3) (rr 1) 6, gI (cY 0) (rr 1) 6 fW 6]) A) (cc := cX1_isLowestOfClosed) (maxL := 4) (ret := (some .boolean)) (by decide) rfl (Nat.le_of_ble_eq_true rfl) ?_
  intro p e s m below meth c A ls hx hb hr hml hts hown hlocks hnm hsz hP hK hVK hD hS hA hl
  have hown : s.vm.findClass RX1 = some m.cls := hown
  have hl : lv_has ls 4 [(0, .ref (b 10)), (1, .int (nI i))] := hl
  have hP : va_P D vwCl ([sO b, cO b (nI n) (nI k), oQ (cY 2) (b 3) (rr 1) 6, gI (cY 0) (rr 1) 6 fW 6] : List va_W).flatten s.heap := hP
  have hD : va_D A ([sO b, cO b (nI n) (nI k), oQ (cY 2) (b 3) (rr 1) 6, gI (cY 0) (rr 1) 6 fW 6] : List va_W).flatten := hD
  have hr1 := rcA_lt (g := g) (k := k) hn6 hi (n - 1)
  refine lv_aload_n hx hb dX1_isLowestOfClosed_0 rfl (lv_at hl 0 rfl) ?_
  refine lv_iload_n hx hb dX1_isLowestOfClosed_1 rfl (lv_at hl 1 rfl) ?_
  refine ca_i (CL := [sO b, cO b (nI n) (nI k), oQ (cY 2) (b 3) (rr 1) 6, gI (cY 0) (rr 1) 6 fW 6]) (va_runV (As := [.int (nI i)]) (rest := []) ⟨hx, hb, hml, hown, hts⟩ (c_X1_reachedFrom l D cY s.heap.size b rr n k fW g i (by omega) (by omega) (by omega) (by omega) hW (by omega)) (cwV 1 hts gX1_isLowestOfClosed_X1_reachedFrom rfl rfl rfl (by decide +kernel) ⟨Nat.le_of_ble_eq_true rfl, Nat.le_of_ble_eq_true rfl⟩) (b_preV hVK hP hD [0, 1, 2, 3] rfl rfl 0 rfl rfl) rfl rfl hl.1 rfl (lv_room (Nat.le_of_ble_eq_true rfl)) dX1_isLowestOfClosed_2 ⟨Nat.le_refl _, Nat.le_refl _⟩) hP hD hS hA [0, 1, 2, 3] rfl rfl (fun _ => rfl) (fun r2 uu H locs hq hP hD hS => ?_)
  subst hq
  have hP : va_P D vwCl ([sO b, cO b (nI n) (nI k), oQ (cY 2) (b 3) (rr 1) 6, gI (cY 0) (rr 1) 6 fW 6] : List va_W).flatten H := hP
  have hD : va_D A ([sO b, cO b (nI n) (nI k), oQ (cY 2) (b 3) (rr 1) 6, gI (cY 0) (rr 1) 6 fW 6] : List va_W).flatten := hD
  refine lv_istore_n (lv' := [(2, .int (nI (rcA g n k i (n - 1)))), (0, .ref (b 10)), (1, .int (nI i))]) hx hb dX1_isLowestOfClosed_5 rfl hl (by decide) rfl (fun ls hl => ?_)
  refine lv_iconst (v := nI 0) hx hb dX1_isLowestOfClosed_6 (by decide) ?_
  refine lv_istore_n (lv' := [(3, .int (nI 0)), (2, .int (nI (rcA g n k i (n - 1)))), (0, .ref (b 10)), (1, .int (nI i))]) hx hb dX1_isLowestOfClosed_7 rfl hl (by decide) rfl (fun ls hl => ?_)
  have L8 : ∀ q : Nat, q ≤ n →  (∀ o, o < q → lwF g n k i o = true) → ∀ (H : Heap) (locs : List Loc), va_P D vwCl ([sO b, cO b (nI n) (nI k), oQ (cY 2) (b 3) (rr 1) 6, gI (cY 0) (rr 1) 6 fW 6] : List va_W).flatten H → va_D A ([sO b, cO b (nI n) (nI k), oQ (cY 2) (b 3) (rr 1) 6, gI (cY 0) (rr 1) 6 fW 6] : List va_W).flatten → va_S A s.heap H locs → ∀ (ls : Array Slot), lv_has ls 4 [(0, .ref (b 10)), (1, .int (nI i)), (2, .int (nI (rcA g n k i (n - 1)))), (3, .int (nI q))] → W p l e ({ frames := 2, cells := 0, slots := 0, locals := 80 }) s m ([.ref (b 10), .int (nI i)] : List Value).toArray below meth c H locs 0 0 (MQ below (qI (S := Unit) D cY (fun r uu => r = bI (lowB g n k i)) (fun uu => [sO b, cO b (nI n) (nI k), oQ (cY 2) (b 3) (rr 1) 6, gI (cY 0) (rr 1) 6 fW 6]) A) ([.ref (b 10), .int (nI i)] : List Value).toArray s 0 0 A) (F0 m 8 ls []) := by
    refine lpW n ?_
    intro q bdq ih8  hI H locs hP hD hS ls hl
    refine lv_iload_n hx hb dX1_isLowestOfClosed_8 rfl (lv_at hl 3 rfl) ?_
    refine lv_aload_n hx hb dX1_isLowestOfClosed_9 rfl (lv_at hl 0 rfl) ?_
    refine b_get (ci := 1) (v := .ref (b 1)) (C := RX1) (T := TX1) (N := 1) hx hb hts (by decide +kernel) hown hK hP 0 rfl rfl 0 (by decide) (hts (.fieldLink RX1 9 "ChanceHall$Classes" "chain" "LChanceHall$Chain;") (by decide +kernel)) (fun _ h9 => h9) rfl dX1_isLowestOfClosed_10 ?_
    refine b_get (ci := 0) (v := .int (nI n)) (C := RX0) (T := TX0) (N := 4) hx hb hts (by decide +kernel) hown hK hP 1 rfl rfl 0 (by decide) (hts (.fieldLink RX1 15 "ChanceHall$Chain" "states" "I") (by decide +kernel)) (fun _ h9 => h9) rfl dX1_isLowestOfClosed_13 ?_
    refine n_icmp_ge (tgt := 55) hx hb dX1_isLowestOfClosed_16 (by decide) (by omega) (by omega) (fun h16 => ?_) (fun h16 => ?_)
    · -- t
      refine lv_iconst (v := nI 1) hx hb dX1_isLowestOfClosed_55 (by decide) ?_
      refine eqi (x' := bI true) rfl ?_
      exact r_z hx hb hr hlocks hP hD hS () rfl (congrArg bI (allB_iff.mpr (fun o ho => hI o (by omega))).symm) dX1_isLowestOfClosed_56
    · -- f
      refine lv_iload_n hx hb dX1_isLowestOfClosed_19 rfl (lv_at hl 2 rfl) ?_
      refine lv_iconst (v := nI 1) hx hb dX1_isLowestOfClosed_20 (by decide) ?_
      refine lv_iload_n hx hb dX1_isLowestOfClosed_21 rfl (lv_at hl 3 rfl) ?_
      refine lv_ishl hx hb dX1_isLowestOfClosed_22 ?_
      refine eqi (x' := nI (2 ^ q)) (nI_shl1 (by omega)) ?_
      have han : rcA g n k i (n - 1) &&& 2 ^ q ≤ rcA g n k i (n - 1) := Nat.and_le_left
      refine lv_iand hx hb dX1_isLowestOfClosed_23 ?_
      refine eqi (x' := nI ((rcA g n k i (n - 1)) &&& (2 ^ q))) (nI_and _ _) ?_
      refine n_if_ne (tgt := 30) hx hb dX1_isLowestOfClosed_24 (by decide) (by omega) (fun h24 => ?_) (fun h24 => ?_)
      · -- t
        refine lv_iload_n hx hb dX1_isLowestOfClosed_30 rfl (lv_at hl 3 rfl) ?_
        refine lv_iload_n hx hb dX1_isLowestOfClosed_31 rfl (lv_at hl 1 rfl) ?_
        refine n_icmp_lt (tgt := 47) hx hb dX1_isLowestOfClosed_32 (by decide) (by omega) (by omega) (fun h32 => ?_) (fun h32 => ?_)
        · -- t
          have hB : lwF g n k i q = false := or_ff (dec_f h24) (by rw [decide_eq_true h32]; rfl)
          refine lv_iconst (v := nI 0) hx hb dX1_isLowestOfClosed_47 (by decide) ?_
          refine eqi (x' := bI false) rfl ?_
          exact r_z hx hb hr hlocks hP hD hS () rfl (congrArg bI (allB_f (by omega) hB).symm) dX1_isLowestOfClosed_48
        · -- f
          refine lv_aload_n hx hb dX1_isLowestOfClosed_35 rfl (lv_at hl 0 rfl) ?_
          refine lv_iload_n hx hb dX1_isLowestOfClosed_36 rfl (lv_at hl 3 rfl) ?_
          refine ca_i (CL := [sO b, cO b (nI n) (nI k), oQ (cY 2) (b 3) (rr 1) 6, gI (cY 0) (rr 1) 6 fW 6]) (va_runV (As := [.int (nI q)]) (rest := []) ⟨hx, hb, hml, hown, hts⟩ (c_X1_reachedFrom l D cY H.size b rr n k fW g q (by omega) (by omega) (by omega) (by omega) hW (by omega)) (cwV 1 hts gX1_isLowestOfClosed_X1_reachedFrom rfl rfl rfl (by decide +kernel) ⟨Nat.le_of_ble_eq_true rfl, Nat.le_of_ble_eq_true rfl⟩) (b_preV hVK hP hD [0, 1, 2, 3] rfl rfl 0 rfl rfl) rfl rfl hl.1 rfl (lv_room (Nat.le_of_ble_eq_true rfl)) dX1_isLowestOfClosed_37 ⟨Nat.le_refl _, Nat.le_refl _⟩) hP hD hS hA [0, 1, 2, 3] rfl rfl (fun _ => rfl) (fun r37 uu H locs hq hP hD hS => ?_)
          subst hq
          have hP : va_P D vwCl ([sO b, cO b (nI n) (nI k), oQ (cY 2) (b 3) (rr 1) 6, gI (cY 0) (rr 1) 6 fW 6] : List va_W).flatten H := hP
          have hD : va_D A ([sO b, cO b (nI n) (nI k), oQ (cY 2) (b 3) (rr 1) 6, gI (cY 0) (rr 1) 6 fW 6] : List va_W).flatten := hD
          refine lv_iconst (v := nI 1) hx hb dX1_isLowestOfClosed_40 (by decide) ?_
          refine lv_iload_n hx hb dX1_isLowestOfClosed_41 rfl (lv_at hl 1 rfl) ?_
          refine lv_ishl hx hb dX1_isLowestOfClosed_42 ?_
          refine eqi (x' := nI (2 ^ i)) (nI_shl1 (by omega)) ?_
          have hr2 := rcA_lt (g := g) (k := k) (i := q) hn6 (by omega) (n - 1)
          have han2 : rcA g n k q (n - 1) &&& 2 ^ i ≤ rcA g n k q (n - 1) := Nat.and_le_left
          refine lv_iand hx hb dX1_isLowestOfClosed_43 ?_
          refine eqi (x' := nI ((rcA g n k q (n - 1)) &&& (2 ^ i))) (nI_and _ _) ?_
          refine n_if_ne (tgt := 49) hx hb dX1_isLowestOfClosed_44 (by decide) (by omega) (fun h44 => ?_) (fun h44 => ?_)
          · -- t
            have hF : lwF g n k i q = true := or_2 (by rw [decide_eq_false (show ¬ q < i by omega), decide_eq_false h44]; rfl)
            refine lv_iinc (v := nI (q + 1)) (lv' := [(3, .int (nI (q + 1))), (0, .ref (b 10)), (1, .int (nI i)), (2, .int (nI (rcA g n k i (n - 1))))]) hx hb dX1_isLowestOfClosed_49 hl (k := 3) rfl (nI_1 q) (by decide) rfl (fun ls hl => ?_)
            refine lv_goto (tgt := 8) hx hb dX1_isLowestOfClosed_52 (by decide) ?_
            exact ih8 (by omega)  (fun o ho => by
  by_cases e : o = q
  · rw [e]; exact hF
  · exact hI o (by omega)) _ _ hP hD hS _ (lv_sub hl [1, 2, 3, 0] rfl)
          · -- f
            have hB : lwF g n k i q = false := or_ff (dec_f h24) (by rw [decide_eq_true h44]; exact Bool.and_false _)
            refine lv_iconst (v := nI 0) hx hb dX1_isLowestOfClosed_47 (by decide) ?_
            refine eqi (x' := bI false) rfl ?_
            exact r_z hx hb hr hlocks hP hD hS () rfl (congrArg bI (allB_f (by omega) hB).symm) dX1_isLowestOfClosed_48
      · -- f
        have hF : lwF g n k i q = true := or_1 (dec_t h24)
        refine lv_goto (tgt := 49) hx hb dX1_isLowestOfClosed_27 (by decide) ?_
        refine lv_iinc (v := nI (q + 1)) (lv' := [(3, .int (nI (q + 1))), (0, .ref (b 10)), (1, .int (nI i)), (2, .int (nI (rcA g n k i (n - 1))))]) hx hb dX1_isLowestOfClosed_49 hl (k := 3) rfl (nI_1 q) (by decide) rfl (fun ls hl => ?_)
        refine lv_goto (tgt := 8) hx hb dX1_isLowestOfClosed_52 (by decide) ?_
        exact ih8 (by omega)  (fun o ho => by
  by_cases e : o = q
  · rw [e]; exact hF
  · exact hI o (by omega)) _ _ hP hD hS _ (lv_sub hl [1, 2, 3, 0] rfl)
  exact L8 0 (by omega)  (fun o h => by omega) _ _ hP hD hS _ (lv_sub hl [2, 3, 1, 0] rfl)

set_option maxHeartbeats 4000000 in
set_option maxRecDepth 100000 in
theorem c_X1_countClosed (l : Launch) (D : va_G) (cY : Nat → ClassId) (sz : Nat) (b : Nat → Nat) (rr : Nat → Nat → Nat) (n : Nat) (k : Nat) (fW : Nat → Nat → Int32) (g : Nat → Nat → Nat) (hn1 : 1 ≤ n) (hn6 : n ≤ 6) (hk1 : 1 ≤ k) (hk12 : k ≤ 12) (hW : ∀ i j, i < n → j < n → fW i j = nI (cnt (g i) j k)) : Met l yX1_countClosed wsX1_countClosed ({ frames := 3, cells := 0, slots := 0, locals := 120 }) (cP D cY [.ref (b 10)] [sO b, cO b (nI n) (nI k), oQ (cY 2) (b 3) (rr 1) 6, gI (cY 0) (rr 1) 6 fW 6] sz) (qI (S := Unit) D cY (fun r uu => r = nI (nB (lowB g n k) n)) (fun uu => [sO b, cO b (nI n) (nI k), oQ (cY 2) (b 3) (rr 1) 6, gI (cY 0) (rr 1) 6 fW 6]) (va_A ([sO b, cO b (nI n) (nI k), oQ (cY 2) (b 3) (rr 1) 6, gI (cY 0) (rr 1) 6 fW 6] : List va_W).flatten sz)) 0 0 (va_A ([sO b, cO b (nI n) (nI k), oQ (cY 2) (b 3) (rr 1) 6, gI (cY 0) (rr 1) 6 fW 6] : List va_W).flatten sz) := by
  refine mtB (Qc := fun A => qI (S := Unit) D cY (fun r uu => r = nI (nB (lowB g n k) n)) (fun uu => [sO b, cO b (nI n) (nI k), oQ (cY 2) (b 3) (rr 1) 6, gI (cY 0) (rr 1) 6 fW 6]) A) (cc := cX1_countClosed) (maxL := 3) (ret := (some .int)) (by decide) rfl (Nat.le_of_ble_eq_true rfl) ?_
  intro p e s m below meth c A ls hx hb hr hml hts hown hlocks hnm hsz hP hK hVK hD hS hA hl
  have hown : s.vm.findClass RX1 = some m.cls := hown
  have hl : lv_has ls 3 [(0, .ref (b 10))] := hl
  have hP : va_P D vwCl ([sO b, cO b (nI n) (nI k), oQ (cY 2) (b 3) (rr 1) 6, gI (cY 0) (rr 1) 6 fW 6] : List va_W).flatten s.heap := hP
  have hD : va_D A ([sO b, cO b (nI n) (nI k), oQ (cY 2) (b 3) (rr 1) 6, gI (cY 0) (rr 1) 6 fW 6] : List va_W).flatten := hD
  refine lv_iconst (v := nI 0) hx hb dX1_countClosed_0 (by decide) ?_
  refine lv_istore_n (lv' := [(1, .int (nI 0)), (0, .ref (b 10))]) hx hb dX1_countClosed_1 rfl hl (by decide) rfl (fun ls hl => ?_)
  refine lv_iconst (v := nI 0) hx hb dX1_countClosed_2 (by decide) ?_
  refine lv_istore_n (lv' := [(2, .int (nI 0)), (1, .int (nI 0)), (0, .ref (b 10))]) hx hb dX1_countClosed_3 rfl hl (by decide) rfl (fun ls hl => ?_)
  have L4 : ∀ q : Nat, q ≤ n →  ∀ (H : Heap) (locs : List Loc), va_P D vwCl ([sO b, cO b (nI n) (nI k), oQ (cY 2) (b 3) (rr 1) 6, gI (cY 0) (rr 1) 6 fW 6] : List va_W).flatten H → va_D A ([sO b, cO b (nI n) (nI k), oQ (cY 2) (b 3) (rr 1) 6, gI (cY 0) (rr 1) 6 fW 6] : List va_W).flatten → va_S A s.heap H locs → ∀ (ls : Array Slot), lv_has ls 3 [(0, .ref (b 10)), (1, .int (nI (nB (lowB g n k) q))), (2, .int (nI q))] → W p l e ({ frames := 3, cells := 0, slots := 0, locals := 120 }) s m ([.ref (b 10)] : List Value).toArray below meth c H locs 0 0 (MQ below (qI (S := Unit) D cY (fun r uu => r = nI (nB (lowB g n k) n)) (fun uu => [sO b, cO b (nI n) (nI k), oQ (cY 2) (b 3) (rr 1) 6, gI (cY 0) (rr 1) 6 fW 6]) A) ([.ref (b 10)] : List Value).toArray s 0 0 A) (F0 m 4 ls []) := by
    refine lpW n ?_
    intro q bdq ih4   H locs hP hD hS ls hl
    refine lv_iload_n hx hb dX1_countClosed_4 rfl (lv_at hl 2 rfl) ?_
    refine lv_aload_n hx hb dX1_countClosed_5 rfl (lv_at hl 0 rfl) ?_
    refine b_get (ci := 1) (v := .ref (b 1)) (C := RX1) (T := TX1) (N := 1) hx hb hts (by decide +kernel) hown hK hP 0 rfl rfl 0 (by decide) (hts (.fieldLink RX1 9 "ChanceHall$Classes" "chain" "LChanceHall$Chain;") (by decide +kernel)) (fun _ h9 => h9) rfl dX1_countClosed_6 ?_
    refine b_get (ci := 0) (v := .int (nI n)) (C := RX0) (T := TX0) (N := 4) hx hb hts (by decide +kernel) hown hK hP 1 rfl rfl 0 (by decide) (hts (.fieldLink RX1 15 "ChanceHall$Chain" "states" "I") (by decide +kernel)) (fun _ h9 => h9) rfl dX1_countClosed_9 ?_
    refine n_icmp_ge (tgt := 32) hx hb dX1_countClosed_12 (by decide) (by omega) (by omega) (fun h12 => ?_) (fun h12 => ?_)
    · -- t
      refine lv_iload_n hx hb dX1_countClosed_32 rfl (lv_at hl 1 rfl) ?_
      exact r_i hx hb hr hlocks hP hD hS () rfl (by (have e : q = n := by omega); subst e; rfl) dX1_countClosed_33
    · -- f
      refine lv_aload_n hx hb dX1_countClosed_15 rfl (lv_at hl 0 rfl) ?_
      refine lv_iload_n hx hb dX1_countClosed_16 rfl (lv_at hl 2 rfl) ?_
      refine ca_i (CL := [sO b, cO b (nI n) (nI k), oQ (cY 2) (b 3) (rr 1) 6, gI (cY 0) (rr 1) 6 fW 6]) (va_runV (As := [.int (nI q)]) (rest := []) ⟨hx, hb, hml, hown, hts⟩ (c_X1_isLowestOfClosed l D cY H.size b rr n k fW g q (by omega) (by omega) (by omega) (by omega) hW (by omega)) (cwV 1 hts gX1_countClosed_X1_isLowestOfClosed rfl rfl rfl (by decide +kernel) ⟨Nat.le_of_ble_eq_true rfl, Nat.le_of_ble_eq_true rfl⟩) (b_preV hVK hP hD [0, 1, 2, 3] rfl rfl 0 rfl rfl) rfl rfl hl.1 rfl (lv_room (Nat.le_of_ble_eq_true rfl)) dX1_countClosed_17 ⟨Nat.le_refl _, Nat.le_refl _⟩) hP hD hS hA [0, 1, 2, 3] rfl rfl (fun _ => rfl) (fun r17 uu H locs hq hP hD hS => ?_)
      subst hq
      have hP : va_P D vwCl ([sO b, cO b (nI n) (nI k), oQ (cY 2) (b 3) (rr 1) 6, gI (cY 0) (rr 1) 6 fW 6] : List va_W).flatten H := hP
      have hD : va_D A ([sO b, cO b (nI n) (nI k), oQ (cY 2) (b 3) (rr 1) 6, gI (cY 0) (rr 1) 6 fW 6] : List va_W).flatten := hD
      refine b_if_eq (tgt := 26) hx hb dX1_countClosed_20 (by decide) (fun h20 => ?_) (fun h20 => ?_)
      · -- t
        have hB := nB_f h20
        refine lv_iinc (v := nI (q + 1)) (lv' := [(2, .int (nI (q + 1))), (0, .ref (b 10)), (1, .int (nI (nB (lowB g n k) q)))]) hx hb dX1_countClosed_26 hl (k := 2) rfl (nI_1 q) (by decide) rfl (fun ls hl => ?_)
        refine lv_goto (tgt := 4) hx hb dX1_countClosed_29 (by decide) ?_
        exact ih4 (by omega)   _ _ hP hD hS _ (lv_sub hl [1, 2, 0] (by rw [← hB]; rfl))
      · -- f
        have hB := nB_t h20
        refine lv_iinc (v := nI (nB (lowB g n k) q + 1)) (lv' := [(1, .int (nI (nB (lowB g n k) q + 1))), (0, .ref (b 10)), (2, .int (nI q))]) hx hb dX1_countClosed_23 hl (k := 1) rfl (nI_1 (nB (lowB g n k) q)) (by decide) rfl (fun ls hl => ?_)
        refine lv_iinc (v := nI (q + 1)) (lv' := [(2, .int (nI (q + 1))), (1, .int (nI (nB (lowB g n k) q + 1))), (0, .ref (b 10))]) hx hb dX1_countClosed_26 hl (k := 2) rfl (nI_1 q) (by decide) rfl (fun ls hl => ?_)
        refine lv_goto (tgt := 4) hx hb dX1_countClosed_29 (by decide) ?_
        exact ih4 (by omega)   _ _ hP hD hS _ (lv_sub hl [2, 1, 0] (by rw [← hB]; rfl))
  exact L4 0 (by omega)   _ _ hP hD hS _ (lv_sub hl [2, 1, 0] rfl)

set_option maxHeartbeats 4000000 in
set_option maxRecDepth 100000 in
theorem c_X1_dividesAll (l : Launch) (D : va_G) (cY : Nat → ClassId) (sz : Nat) (d : Nat) (N0 : Nat) (hd1 : 1 ≤ d) (hd2 : d ≤ 12) (hN : N0 < 8192) : Met l yX1_dividesAll wsX1_dividesAll ({ frames := 0, cells := 0, slots := 0, locals := 0 }) (cP D cY [.int (nI d), .int (nI N0)] [] sz) (qI (S := Unit) D cY (fun r uu => r = bI (dvA d N0)) (fun uu => []) (va_A ([] : List va_W).flatten sz)) 0 0 (va_A ([] : List va_W).flatten sz) := by
  refine mtB (Qc := fun A => qI (S := Unit) D cY (fun r uu => r = bI (dvA d N0)) (fun uu => []) A) (cc := cX1_dividesAll) (maxL := 3) (ret := (some .boolean)) (by decide) rfl (Nat.le_of_ble_eq_true rfl) ?_
  intro p e s m below meth c A ls hx hb hr hml hts hown hlocks hnm hsz hP hK hVK hD hS hA hl
  have hown : s.vm.findClass RX1 = some m.cls := hown
  have hl : lv_has ls 3 [(0, .int (nI d)), (1, .int (nI N0))] := hl
  have hP : va_P D vwCl ([] : List va_W).flatten s.heap := hP
  have hD : va_D A ([] : List va_W).flatten := hD
  refine lv_iload_n hx hb dX1_dividesAll_0 rfl (lv_at hl 0 rfl) ?_
  refine lv_iconst (v := nI 1) hx hb dX1_dividesAll_1 (by decide) ?_
  refine n_icmp_ge (tgt := 7) hx hb dX1_dividesAll_2 (by decide) (by omega) (by omega) (fun h2 => ?_) (fun h2 => ?_)
  · -- t
    refine lv_iconst (v := nI 1) hx hb dX1_dividesAll_7 (by decide) ?_
    refine lv_istore_n (lv' := [(2, .int (nI 1)), (0, .int (nI d)), (1, .int (nI N0))]) hx hb dX1_dividesAll_8 rfl hl (by decide) rfl (fun ls hl => ?_)
    have L9 : ∀ q : Nat, q ≤ 12 →  (∀ o, o < q → dvF d N0 o = true) → ∀ (H : Heap) (locs : List Loc), va_P D vwCl ([] : List va_W).flatten H → va_D A ([] : List va_W).flatten → va_S A s.heap H locs → ∀ (ls : Array Slot), lv_has ls 3 [(0, .int (nI d)), (1, .int (nI N0)), (2, .int (nI (q + 1)))] → W p l e ({ frames := 0, cells := 0, slots := 0, locals := 0 }) s m ([.int (nI d), .int (nI N0)] : List Value).toArray below meth c H locs 0 0 (MQ below (qI (S := Unit) D cY (fun r uu => r = bI (dvA d N0)) (fun uu => []) A) ([.int (nI d), .int (nI N0)] : List Value).toArray s 0 0 A) (F0 m 9 ls []) := by
      refine lpW 12 ?_
      intro q bdq ih9  hI H locs hP hD hS ls hl
      refine lv_iload_n hx hb dX1_dividesAll_9 rfl (lv_at hl 2 rfl) ?_
      refine lv_bipush (v := nI 12) hx hb dX1_dividesAll_10 (by decide) ?_
      refine n_icmp_gt (tgt := 37) hx hb dX1_dividesAll_12 (by decide) (by omega) (by omega) (fun h12 => ?_) (fun h12 => ?_)
      · -- t
        refine lv_iconst (v := nI 1) hx hb dX1_dividesAll_37 (by decide) ?_
        refine eqi (x' := bI true) rfl ?_
        exact r_z hx hb hr hlocks hP hD hS () rfl (congrArg bI (allB_iff.mpr (fun o ho => hI o (by omega))).symm) dX1_dividesAll_38
      · -- f
        refine lv_iload_n hx hb dX1_dividesAll_15 rfl (lv_at hl 1 rfl) ?_
        refine lv_iconst (v := nI 1) hx hb dX1_dividesAll_16 (by decide) ?_
        refine lv_iload_n hx hb dX1_dividesAll_17 rfl (lv_at hl 2 rfl) ?_
        refine lv_ishl hx hb dX1_dividesAll_18 ?_
        refine eqi (x' := nI (2 ^ (q + 1))) (nI_shl1 (by omega)) ?_
        refine lv_iand hx hb dX1_dividesAll_19 ?_
        refine eqi (x' := nI (N0 &&& (2 ^ (q + 1)))) (nI_and _ _) ?_
        have han : N0 &&& 2 ^ (q + 1) ≤ N0 := Nat.and_le_left
        refine n_if_eq (tgt := 31) hx hb dX1_dividesAll_20 (by decide) (by omega) (fun h20 => ?_) (fun h20 => ?_)
        · -- t
          have hF : dvF d N0 q = true := or_1 (dec_t h20)
          refine lv_iinc (v := nI (q + 1 + 1)) (lv' := [(2, .int (nI (q + 1 + 1))), (0, .int (nI d)), (1, .int (nI N0))]) hx hb dX1_dividesAll_31 hl (k := 2) rfl (nI_1 (q + 1)) (by decide) rfl (fun ls hl => ?_)
          refine lv_goto (tgt := 9) hx hb dX1_dividesAll_34 (by decide) ?_
          exact ih9 (by omega)  (fun o ho => by
  by_cases e : o = q
  · rw [e]; exact hF
  · exact hI o (by omega)) _ _ hP hD hS _ (lv_sub hl [1, 2, 0] rfl)
        · -- f
          refine lv_iload_n hx hb dX1_dividesAll_23 rfl (lv_at hl 2 rfl) ?_
          refine lv_iload_n hx hb dX1_dividesAll_24 rfl (lv_at hl 0 rfl) ?_
          refine lv_irem hx hb dX1_dividesAll_25 (nI_ne0 (by omega) (by omega)) ?_
          refine eqi (x' := nI ((q + 1) % d)) (pk_rem (by omega) (by omega) (by omega)) ?_
          have hmd : (q + 1) % d < d := Nat.mod_lt _ (by omega)
          refine n_if_eq (tgt := 31) hx hb dX1_dividesAll_26 (by decide) (by omega) (fun h26 => ?_) (fun h26 => ?_)
          · -- t
            have hF : dvF d N0 q = true := or_2 (dec_t h26)
            refine lv_iinc (v := nI (q + 1 + 1)) (lv' := [(2, .int (nI (q + 1 + 1))), (0, .int (nI d)), (1, .int (nI N0))]) hx hb dX1_dividesAll_31 hl (k := 2) rfl (nI_1 (q + 1)) (by decide) rfl (fun ls hl => ?_)
            refine lv_goto (tgt := 9) hx hb dX1_dividesAll_34 (by decide) ?_
            exact ih9 (by omega)  (fun o ho => by
  by_cases e : o = q
  · rw [e]; exact hF
  · exact hI o (by omega)) _ _ hP hD hS _ (lv_sub hl [1, 2, 0] rfl)
          · -- f
            have hB : dvF d N0 q = false := or_ff (dec_f h20) (dec_f h26)
            refine lv_iconst (v := nI 0) hx hb dX1_dividesAll_29 (by decide) ?_
            refine eqi (x' := bI false) rfl ?_
            exact r_z hx hb hr hlocks hP hD hS () rfl (congrArg bI (allB_f (by omega) hB).symm) dX1_dividesAll_30
    exact L9 0 (by omega)  (fun o h => by omega) _ _ hP hD hS _ (lv_sub hl [1, 2, 0] rfl)
  · -- f
    exact absurd h2 (by omega)

set_option maxHeartbeats 4000000 in
set_option maxRecDepth 100000 in
theorem c_X1_greatestDivisor (l : Launch) (D : va_G) (cY : Nat → ClassId) (sz : Nat) (N0 : Nat) (hN : N0 < 8192) : Met l yX1_greatestDivisor wsX1_greatestDivisor ({ frames := 1, cells := 0, slots := 0, locals := 40 }) (cP D cY [.int (nI N0)] [] sz) (qI (S := Unit) D cY (fun r uu => r = nI (gdD N0 12)) (fun uu => []) (va_A ([] : List va_W).flatten sz)) 0 0 (va_A ([] : List va_W).flatten sz) := by
  refine mtB (Qc := fun A => qI (S := Unit) D cY (fun r uu => r = nI (gdD N0 12)) (fun uu => []) A) (cc := cX1_greatestDivisor) (maxL := 2) (ret := (some .int)) (by decide) rfl (Nat.le_of_ble_eq_true rfl) ?_
  intro p e s m below meth c A ls hx hb hr hml hts hown hlocks hnm hsz hP hK hVK hD hS hA hl
  have hown : s.vm.findClass RX1 = some m.cls := hown
  have hl : lv_has ls 2 [(0, .int (nI N0))] := hl
  have hP : va_P D vwCl ([] : List va_W).flatten s.heap := hP
  have hD : va_D A ([] : List va_W).flatten := hD
  refine lv_bipush (v := nI 12) hx hb dX1_greatestDivisor_0 (by decide) ?_
  refine lv_istore_n (lv' := [(1, .int (nI 12)), (0, .int (nI N0))]) hx hb dX1_greatestDivisor_2 rfl hl (by decide) rfl (fun ls hl => ?_)
  have L3 : ∀ d : Nat,  (gdD N0 12 = gdD N0 d) → (d ≤ 12) → ∀ (H : Heap) (locs : List Loc), va_P D vwCl ([] : List va_W).flatten H → va_D A ([] : List va_W).flatten → va_S A s.heap H locs → ∀ (ls : Array Slot), lv_has ls 2 [(0, .int (nI N0)), (1, .int (nI d))] → W p l e ({ frames := 1, cells := 0, slots := 0, locals := 40 }) s m ([.int (nI N0)] : List Value).toArray below meth c H locs 0 0 (MQ below (qI (S := Unit) D cY (fun r uu => r = nI (gdD N0 12)) (fun uu => []) A) ([.int (nI N0)] : List Value).toArray s 0 0 A) (F0 m 3 ls []) := by
    refine lpSt ?_
    intro d ih3  hI hd H locs hP hD hS ls hl
    refine lv_iload_n hx hb dX1_greatestDivisor_3 rfl (lv_at hl 1 rfl) ?_
    refine lv_iconst (v := nI 1) hx hb dX1_greatestDivisor_4 (by decide) ?_
    refine n_icmp_le (tgt := 24) hx hb dX1_greatestDivisor_5 (by decide) (by omega) (by omega) (fun h5 => ?_) (fun h5 => ?_)
    · -- t
      refine lv_iconst (v := nI 1) hx hb dX1_greatestDivisor_24 (by decide) ?_
      exact r_i hx hb hr hlocks hP hD hS () rfl (by rw [hI, gdD_1 h5]) dX1_greatestDivisor_25
    · -- f
      refine lv_iload_n hx hb dX1_greatestDivisor_8 rfl (lv_at hl 1 rfl) ?_
      refine lv_iload_n hx hb dX1_greatestDivisor_9 rfl (lv_at hl 0 rfl) ?_
      refine ca_i (CL := []) (va_runS (As := [.int (nI d), .int (nI N0)]) (rest := []) ⟨hx, hb, hml, hown, hts⟩ (c_X1_dividesAll l D cY H.size d N0 (by omega) (by omega) (by omega)) (va_cwS 2 hts gX1_greatestDivisor_X1_dividesAll rfl rfl rfl (by decide +kernel) ⟨Nat.le_of_ble_eq_true rfl, Nat.le_of_ble_eq_true rfl⟩) (b_preS hVK hP hD [] rfl rfl) rfl rfl hl.1 rfl (lv_room (Nat.le_of_ble_eq_true rfl)) dX1_greatestDivisor_10 ⟨Nat.le_refl _, Nat.le_refl _⟩) hP hD hS hA [] rfl rfl (fun _ => rfl) (fun r10 uu H locs hq hP hD hS => ?_)
      subst hq
      have hP : va_P D vwCl ([] : List va_W).flatten H := hP
      have hD : va_D A ([] : List va_W).flatten := hD
      refine b_if_eq (tgt := 18) hx hb dX1_greatestDivisor_13 (by decide) (fun h13 => ?_) (fun h13 => ?_)
      · -- t
        refine lv_iinc (v := nI (d - 1)) (lv' := [(1, .int (nI (d - 1))), (0, .int (nI N0))]) hx hb dX1_greatestDivisor_18 hl (k := 1) rfl (sb_m1 (by omega)) (by decide) rfl (fun ls hl => ?_)
        refine lv_goto (tgt := 3) hx hb dX1_greatestDivisor_21 (by decide) ?_
        exact ih3 (d - 1) (by omega)  (by rw [hI, gdD_f h5 h13]) (by omega) _ _ hP hD hS _ (lv_sub hl [1, 0] rfl)
      · -- f
        refine lv_iload_n hx hb dX1_greatestDivisor_16 rfl (lv_at hl 1 rfl) ?_
        exact r_i hx hb hr hlocks hP hD hS () rfl (by rw [hI, gdD_t h5 h13]) dX1_greatestDivisor_17
  exact L3 12  rfl (by omega) _ _ hP hD hS _ (lv_sub hl [1, 0] rfl)

set_option maxHeartbeats 4000000 in
set_option maxRecDepth 100000 in
theorem c_X1_periodOf (l : Launch) (D : va_G) (cY : Nat → ClassId) (sz : Nat) (b : Nat → Nat) (rr : Nat → Nat → Nat) (n : Nat) (k : Nat) (fW : Nat → Nat → Int32) (g : Nat → Nat → Nat) (i : Nat) (hn1 : 1 ≤ n) (hn6 : n ≤ 6) (hk1 : 1 ≤ k) (hk12 : k ≤ 12) (hW : ∀ i j, i < n → j < n → fW i j = nI (cnt (g i) j k)) (hi : i < n) : Met l yX1_periodOf wsX1_periodOf ({ frames := 2, cells := 0, slots := 0, locals := 80 }) (cP D cY [.ref (b 10), .int (nI i)] [sO b, cO b (nI n) (nI k), oQ (cY 2) (b 3) (rr 1) 6, gI (cY 0) (rr 1) 6 fW 6] sz) (qI (S := Unit) D cY (fun r uu => r = nI (prC g n k i)) (fun uu => [sO b, cO b (nI n) (nI k), oQ (cY 2) (b 3) (rr 1) 6, gI (cY 0) (rr 1) 6 fW 6]) (va_A ([sO b, cO b (nI n) (nI k), oQ (cY 2) (b 3) (rr 1) 6, gI (cY 0) (rr 1) 6 fW 6] : List va_W).flatten sz)) 0 0 (va_A ([sO b, cO b (nI n) (nI k), oQ (cY 2) (b 3) (rr 1) 6, gI (cY 0) (rr 1) 6 fW 6] : List va_W).flatten sz) := by
  refine mtB (Qc := fun A => qI (S := Unit) D cY (fun r uu => r = nI (prC g n k i)) (fun uu => [sO b, cO b (nI n) (nI k), oQ (cY 2) (b 3) (rr 1) 6, gI (cY 0) (rr 1) 6 fW 6]) A) (cc := cX1_periodOf) (maxL := 5) (ret := (some .int)) (by decide) rfl (Nat.le_of_ble_eq_true rfl) ?_
  intro p e s m below meth c A ls hx hb hr hml hts hown hlocks hnm hsz hP hK hVK hD hS hA hl
  have hown : s.vm.findClass RX1 = some m.cls := hown
  have hl : lv_has ls 5 [(0, .ref (b 10)), (1, .int (nI i))] := hl
  have hP : va_P D vwCl ([sO b, cO b (nI n) (nI k), oQ (cY 2) (b 3) (rr 1) 6, gI (cY 0) (rr 1) 6 fW 6] : List va_W).flatten s.heap := hP
  have hD : va_D A ([sO b, cO b (nI n) (nI k), oQ (cY 2) (b 3) (rr 1) 6, gI (cY 0) (rr 1) 6 fW 6] : List va_W).flatten := hD
  refine lv_iconst (v := nI 1) hx hb dX1_periodOf_0 (by decide) ?_
  refine lv_iload_n hx hb dX1_periodOf_1 rfl (lv_at hl 1 rfl) ?_
  refine lv_ishl hx hb dX1_periodOf_2 ?_
  refine eqi (x' := nI (2 ^ i)) (nI_shl1 (by omega)) ?_
  refine lv_istore_n (lv' := [(2, .int (nI (2 ^ i))), (0, .ref (b 10)), (1, .int (nI i))]) hx hb dX1_periodOf_3 rfl hl (by decide) rfl (fun ls hl => ?_)
  refine lv_iconst (v := nI 0) hx hb dX1_periodOf_4 (by decide) ?_
  refine lv_istore_n (lv' := [(3, .int (nI 0)), (2, .int (nI (2 ^ i))), (0, .ref (b 10)), (1, .int (nI i))]) hx hb dX1_periodOf_5 rfl hl (by decide) rfl (fun ls hl => ?_)
  refine lv_iconst (v := nI 1) hx hb dX1_periodOf_6 (by decide) ?_
  refine lv_istore (lv' := [(4, .int (nI 1)), (3, .int (nI 0)), (2, .int (nI (2 ^ i))), (0, .ref (b 10)), (1, .int (nI i))]) hx hb dX1_periodOf_7 hl (by decide) rfl (fun ls hl => ?_)
  have L9 : ∀ q : Nat, q ≤ 12 →  ∀ (H : Heap) (locs : List Loc), va_P D vwCl ([sO b, cO b (nI n) (nI k), oQ (cY 2) (b 3) (rr 1) 6, gI (cY 0) (rr 1) 6 fW 6] : List va_W).flatten H → va_D A ([sO b, cO b (nI n) (nI k), oQ (cY 2) (b 3) (rr 1) 6, gI (cY 0) (rr 1) 6 fW 6] : List va_W).flatten → va_S A s.heap H locs → ∀ (ls : Array Slot), lv_has ls 5 [(0, .ref (b 10)), (1, .int (nI i)), (2, .int (nI (stA g n k i q))), (3, .int (nI (prB g n k i q))), (4, .int (nI (q + 1)))] → W p l e ({ frames := 2, cells := 0, slots := 0, locals := 80 }) s m ([.ref (b 10), .int (nI i)] : List Value).toArray below meth c H locs 0 0 (MQ below (qI (S := Unit) D cY (fun r uu => r = nI (prC g n k i)) (fun uu => [sO b, cO b (nI n) (nI k), oQ (cY 2) (b 3) (rr 1) 6, gI (cY 0) (rr 1) 6 fW 6]) A) ([.ref (b 10), .int (nI i)] : List Value).toArray s 0 0 A) (F0 m 9 ls []) := by
    refine lpW 12 ?_
    intro q bdq ih9   H locs hP hD hS ls hl
    refine lv_iload hx hb dX1_periodOf_9 (lv_at hl 4 rfl) ?_
    refine lv_bipush (v := nI 12) hx hb dX1_periodOf_11 (by decide) ?_
    refine n_icmp_gt (tgt := 43) hx hb dX1_periodOf_13 (by decide) (by omega) (by omega) (fun h13 => ?_) (fun h13 => ?_)
    · -- t
      have e9 : q = 12 := by omega
      have hpb : prB g n k i q < 8192 := prB_lt q (by omega)
      refine lv_iload_n hx hb dX1_periodOf_43 rfl (lv_at hl 3 rfl) ?_
      refine n_if_ne (tgt := 51) hx hb dX1_periodOf_44 (by decide) (by omega) (fun h44 => ?_) (fun h44 => ?_)
      · -- t
        refine lv_iload_n hx hb dX1_periodOf_51 rfl (lv_at hl 3 rfl) ?_
        refine ca_i (CL := []) (va_runS (As := [.int (nI (prB g n k i q))]) (rest := []) ⟨hx, hb, hml, hown, hts⟩ (c_X1_greatestDivisor l D cY H.size (prB g n k i q) hpb) (va_cwS 1 hts gX1_periodOf_X1_greatestDivisor rfl rfl rfl (by decide +kernel) ⟨Nat.le_of_ble_eq_true rfl, Nat.le_of_ble_eq_true rfl⟩) (b_preS hVK hP hD [] rfl rfl) rfl rfl hl.1 rfl (lv_room (Nat.le_of_ble_eq_true rfl)) dX1_periodOf_52 ⟨Nat.le_refl _, Nat.le_refl _⟩) hP hD hS hA [] rfl rfl (fun _ => rfl) (fun r52 uu H locs hq hP hD hS => ?_)
        subst hq
        have hP : va_P D vwCl ([sO b, cO b (nI n) (nI k), oQ (cY 2) (b 3) (rr 1) 6, gI (cY 0) (rr 1) 6 fW 6] : List va_W).flatten H := hP
        have hD : va_D A ([sO b, cO b (nI n) (nI k), oQ (cY 2) (b 3) (rr 1) 6, gI (cY 0) (rr 1) 6 fW 6] : List va_W).flatten := hD
        exact r_i hx hb hr hlocks hP hD hS () rfl (by rw [e9] at *; first | exact congrArg nI (if_pos h44).symm | exact congrArg nI (if_neg h44).symm) dX1_periodOf_55
      · -- f
        refine lv_iconst (v := nI 0) hx hb dX1_periodOf_47 (by decide) ?_
        refine lv_goto (tgt := 55) hx hb dX1_periodOf_48 (by decide) ?_
        exact r_i hx hb hr hlocks hP hD hS () rfl (by rw [e9] at *; first | exact congrArg nI (if_pos h44).symm | exact congrArg nI (if_neg h44).symm) dX1_periodOf_55
    · -- f
      refine lv_aload_n hx hb dX1_periodOf_16 rfl (lv_at hl 0 rfl) ?_
      refine lv_iload_n hx hb dX1_periodOf_17 rfl (lv_at hl 2 rfl) ?_
      refine ca_i (CL := [sO b, cO b (nI n) (nI k), oQ (cY 2) (b 3) (rr 1) 6, gI (cY 0) (rr 1) 6 fW 6]) (va_runV (As := [.int (nI (stA g n k i q))]) (rest := []) ⟨hx, hb, hml, hown, hts⟩ (c_X1_setOneStepOn l D cY H.size b rr n k fW g (stA g n k i q) (by omega) (by omega) (by omega) (by omega) hW (stA_lt hn6 hi q)) (cwV 1 hts gX1_periodOf_X1_setOneStepOn rfl rfl rfl (by decide +kernel) ⟨Nat.le_of_ble_eq_true rfl, Nat.le_of_ble_eq_true rfl⟩) (b_preV hVK hP hD [0, 1, 2, 3] rfl rfl 0 rfl rfl) rfl rfl hl.1 rfl (lv_room (Nat.le_of_ble_eq_true rfl)) dX1_periodOf_18 ⟨Nat.le_refl _, Nat.le_refl _⟩) hP hD hS hA [0, 1, 2, 3] rfl rfl (fun _ => rfl) (fun r18 uu H locs hq hP hD hS => ?_)
      subst hq
      have hP : va_P D vwCl ([sO b, cO b (nI n) (nI k), oQ (cY 2) (b 3) (rr 1) 6, gI (cY 0) (rr 1) 6 fW 6] : List va_W).flatten H := hP
      have hD : va_D A ([sO b, cO b (nI n) (nI k), oQ (cY 2) (b 3) (rr 1) 6, gI (cY 0) (rr 1) 6 fW 6] : List va_W).flatten := hD
      refine eqi (x' := nI (stA g n k i (q + 1))) (rfl) ?_
      refine lv_istore_n (lv' := [(2, .int (nI (stA g n k i (q + 1)))), (0, .ref (b 10)), (1, .int (nI i)), (3, .int (nI (prB g n k i q))), (4, .int (nI (q + 1)))]) hx hb dX1_periodOf_21 rfl hl (by decide) rfl (fun ls hl => ?_)
      refine lv_iload_n hx hb dX1_periodOf_22 rfl (lv_at hl 0 rfl) ?_
      refine lv_iconst (v := nI 1) hx hb dX1_periodOf_23 (by decide) ?_
      refine lv_iload_n hx hb dX1_periodOf_24 rfl (lv_at hl 2 rfl) ?_
      refine lv_ishl hx hb dX1_periodOf_25 ?_
      refine eqi (x' := nI (2 ^ i)) (nI_shl1 (by omega)) ?_
      have hsl := stA_lt (g := g) (k := k) hn6 hi (q + 1)
      have han : stA g n k i (q + 1) &&& 2 ^ i ≤ stA g n k i (q + 1) := Nat.and_le_left
      refine lv_iand hx hb dX1_periodOf_26 ?_
      refine eqi (x' := nI ((stA g n k i (q + 1)) &&& (2 ^ i))) (nI_and _ _) ?_
      refine n_if_eq (tgt := 37) hx hb dX1_periodOf_27 (by decide) (by omega) (fun h27 => ?_) (fun h27 => ?_)
      · -- t
        have hif : prB g n k i q = prB g n k i (q + 1) := (if_pos h27).symm
        refine lv_iinc (v := nI (q + 1 + 1)) (lv' := [(4, .int (nI (q + 1 + 1))), (2, .int (nI (stA g n k i (q + 1)))), (0, .ref (b 10)), (1, .int (nI i)), (3, .int (nI (prB g n k i q)))]) hx hb dX1_periodOf_37 hl (k := 4) rfl (nI_1 (q + 1)) (by decide) rfl (fun ls hl => ?_)
        refine lv_goto (tgt := 9) hx hb dX1_periodOf_40 (by decide) ?_
        exact ih9 (by omega)   _ _ hP hD hS _ (lv_sub hl [2, 3, 1, 4, 0] (by first | rfl | (rw [← hif]; rfl)))
      · -- f
        refine lv_iload_n hx hb dX1_periodOf_30 rfl (lv_at hl 3 rfl) ?_
        refine lv_iconst (v := nI 1) hx hb dX1_periodOf_31 (by decide) ?_
        refine lv_iload hx hb dX1_periodOf_32 (lv_at hl 4 rfl) ?_
        refine lv_ishl hx hb dX1_periodOf_34 ?_
        refine eqi (x' := nI (2 ^ (q + 1))) (nI_shl1 (by omega)) ?_
        refine lv_ior hx hb dX1_periodOf_35 ?_
        refine eqi (x' := nI ((prB g n k i q) ||| (2 ^ (q + 1)))) (nI_or _ _) ?_
        refine eqi (x' := nI (prB g n k i (q + 1))) (congrArg nI (if_neg h27).symm) ?_
        refine lv_istore_n (lv' := [(3, .int (nI (prB g n k i (q + 1)))), (2, .int (nI (stA g n k i (q + 1)))), (0, .ref (b 10)), (1, .int (nI i)), (4, .int (nI (q + 1)))]) hx hb dX1_periodOf_36 rfl hl (by decide) rfl (fun ls hl => ?_)
        refine lv_iinc (v := nI (q + 1 + 1)) (lv' := [(4, .int (nI (q + 1 + 1))), (3, .int (nI (prB g n k i (q + 1)))), (2, .int (nI (stA g n k i (q + 1)))), (0, .ref (b 10)), (1, .int (nI i))]) hx hb dX1_periodOf_37 hl (k := 4) rfl (nI_1 (q + 1)) (by decide) rfl (fun ls hl => ?_)
        refine lv_goto (tgt := 9) hx hb dX1_periodOf_40 (by decide) ?_
        exact ih9 (by omega)   _ _ hP hD hS _ (lv_sub hl [3, 4, 2, 1, 0] (by first | rfl | (rw [← hif]; rfl)))
  exact L9 0 (by omega)   _ _ hP hD hS _ (lv_sub hl [3, 4, 2, 1, 0] rfl)

set_option maxHeartbeats 4000000 in
set_option maxRecDepth 100000 in
theorem c_X7_listOthers (l : Launch) (D : va_G) (cY : Nat → ClassId) (sz : Nat) (b : Nat → Nat) (n : Nat) (k : Nat) (fOt : Nat → Int32) (r0 : Nat) (hn1 : 1 ≤ n) (hn6 : n ≤ 6) (hk1 : 1 ≤ k) (hk12 : k ≤ 12) (hr0 : r0 < n) : Met l yX7_listOthers wsX7_listOthers ({ frames := 0, cells := 0, slots := 0, locals := 0 }) (cP D cY [.ref (b 11), .int (nI r0)] [tO b, cO b (nI n) (nI k), [(b 13, .inl (cY 0, 6, .inl fOt))]] sz) (qV (S := (Nat → Int32)) D cY (fun uu => ∀ r, r < n - 1 → uu r = nI (ot r0 r)) (fun uu => [tO b, cO b (nI n) (nI k), [(b 13, .inl (cY 0, 6, .inl uu))]]) (va_A ([tO b, cO b (nI n) (nI k), [(b 13, .inl (cY 0, 6, .inl fOt))]] : List va_W).flatten sz)) 0 0 (va_A ([tO b, cO b (nI n) (nI k), [(b 13, .inl (cY 0, 6, .inl fOt))]] : List va_W).flatten sz) := by
  refine mtB (Qc := fun A => qV (S := (Nat → Int32)) D cY (fun uu => ∀ r, r < n - 1 → uu r = nI (ot r0 r)) (fun uu => [tO b, cO b (nI n) (nI k), [(b 13, .inl (cY 0, 6, .inl uu))]]) A) (cc := cX7_listOthers) (maxL := 3) (ret := none) (by decide) rfl (Nat.le_of_ble_eq_true rfl) ?_
  intro p e s m below meth c A ls hx hb hr hml hts hown hlocks hnm hsz hP hK hVK hD hS hA hl
  have hown : s.vm.findClass RX7 = some m.cls := hown
  have hl : lv_has ls 3 [(0, .ref (b 11)), (1, .int (nI r0))] := hl
  have hP : va_P D vwCl ([tO b, cO b (nI n) (nI k), [(b 13, .inl (cY 0, 6, .inl fOt))]] : List va_W).flatten s.heap := hP
  have hD : va_D A ([tO b, cO b (nI n) (nI k), [(b 13, .inl (cY 0, 6, .inl fOt))]] : List va_W).flatten := hD
  refine lv_iconst (v := nI 0) hx hb dX7_listOthers_0 (by decide) ?_
  refine lv_istore_n (lv' := [(2, .int (nI 0)), (0, .ref (b 11)), (1, .int (nI r0))]) hx hb dX7_listOthers_1 rfl hl (by decide) rfl (fun ls hl => ?_)
  have L2 : ∀ q : Nat, q ≤ n → ∀ (gO : Nat → Int32), (LI r0 q gO) → ∀ (H : Heap) (locs : List Loc), va_P D vwCl ([tO b, cO b (nI n) (nI k), [(b 13, .inl (cY 0, 6, .inl gO))]] : List va_W).flatten H → va_D A ([tO b, cO b (nI n) (nI k), [(b 13, .inl (cY 0, 6, .inl gO))]] : List va_W).flatten → va_S A s.heap H locs → ∀ (ls : Array Slot), lv_has ls 3 [(0, .ref (b 11)), (1, .int (nI r0)), (2, .int (nI q))] → W p l e ({ frames := 0, cells := 0, slots := 0, locals := 0 }) s m ([.ref (b 11), .int (nI r0)] : List Value).toArray below meth c H locs 0 0 (MQ below (qV (S := (Nat → Int32)) D cY (fun uu => ∀ r, r < n - 1 → uu r = nI (ot r0 r)) (fun uu => [tO b, cO b (nI n) (nI k), [(b 13, .inl (cY 0, 6, .inl uu))]]) A) ([.ref (b 11), .int (nI r0)] : List Value).toArray s 0 0 A) (F0 m 2 ls []) := by
    refine lpW n ?_
    intro q bdq ih2 gO hI H locs hP hD hS ls hl
    refine lv_iload_n hx hb dX7_listOthers_2 rfl (lv_at hl 2 rfl) ?_
    refine lv_aload_n hx hb dX7_listOthers_3 rfl (lv_at hl 0 rfl) ?_
    refine b_get (ci := 7) (v := .ref (b 1)) (C := RX7) (T := TX7) (N := 4) hx hb hts (by decide +kernel) hown hK hP 0 rfl rfl 0 (by decide) (hts (.fieldLink RX7 9 "ChanceHall$Trees" "chain" "LChanceHall$Chain;") (by decide +kernel)) (fun _ h9 => h9) rfl dX7_listOthers_4 ?_
    refine b_get (ci := 0) (v := .int (nI n)) (C := RX0) (T := TX0) (N := 4) hx hb hts (by decide +kernel) hown hK hP 1 rfl rfl 0 (by decide) (hts (.fieldLink RX7 26 "ChanceHall$Chain" "states" "I") (by decide +kernel)) (fun _ h9 => h9) rfl dX7_listOthers_7 ?_
    refine n_icmp_ge (tgt := 42) hx hb dX7_listOthers_10 (by decide) (by omega) (by omega) (fun h10 => ?_) (fun h10 => ?_)
    · -- t
      exact r_v hx hb hr hlocks hP hD hS gO rfl (fun r hr => (by (have e : q = n := by omega); rw [e] at hI; exact hI r (ot_lt hr hr0))) dX7_listOthers_42
    · -- f
      refine lv_iload_n hx hb dX7_listOthers_13 rfl (lv_at hl 2 rfl) ?_
      refine lv_iload_n hx hb dX7_listOthers_14 rfl (lv_at hl 1 rfl) ?_
      refine n_icmp_eq (tgt := 36) hx hb dX7_listOthers_15 (by decide) (by omega) (by omega) (fun h15 => ?_) (fun h15 => ?_)
      · -- t
        refine lv_iinc (v := nI (q + 1)) (lv' := [(2, .int (nI (q + 1))), (0, .ref (b 11)), (1, .int (nI r0))]) hx hb dX7_listOthers_36 hl (k := 2) rfl (nI_1 q) (by decide) rfl (fun ls hl => ?_)
        refine lv_goto (tgt := 2) hx hb dX7_listOthers_39 (by decide) ?_
        exact ih2 (by omega) gO (by first | (rw [h15] at hI ⊢; exact LI_r hI) | exact LI_1 hI h24 | exact LI_2 hI (by omega)) _ _ hP hD hS _ (lv_sub hl [1, 2, 0] rfl)
      · -- f
        refine lv_aload_n hx hb dX7_listOthers_18 rfl (lv_at hl 0 rfl) ?_
        refine b_get (ci := 7) (v := .ref (b 13)) (C := RX7) (T := TX7) (N := 4) hx hb hts (by decide +kernel) hown hK hP 0 rfl rfl 2 (by decide) (hts (.fieldLink RX7 19 "ChanceHall$Trees" "others" "[I") (by decide +kernel)) (fun _ h9 => h9) rfl dX7_listOthers_19 ?_
        refine lv_iload_n hx hb dX7_listOthers_22 rfl (lv_at hl 2 rfl) ?_
        refine lv_iload_n hx hb dX7_listOthers_23 rfl (lv_at hl 1 rfl) ?_
        refine n_icmp_ge (tgt := 31) hx hb dX7_listOthers_24 (by decide) (by omega) (by omega) (fun h24 => ?_) (fun h24 => ?_)
        · -- t
          refine lv_iload_n hx hb dX7_listOthers_31 rfl (lv_at hl 2 rfl) ?_
          refine lv_iconst (v := nI 1) hx hb dX7_listOthers_32 (by decide) ?_
          refine lv_isub hx hb dX7_listOthers_33 ?_
          refine eqi (x' := nI (q - 1)) (pk_sub (by omega)) ?_
          refine lv_iload_n hx hb dX7_listOthers_34 rfl (lv_at hl 2 rfl) ?_
          refine b_iast hx hb hK hP hD hS 2 0 rfl rfl (by omega) (by decide) dX7_listOthers_35 (fun H locs hP hD hS => ?_)
          have hP : va_P D vwCl ([tO b, cO b (nI n) (nI k), [(b 13, .inl (cY 0, 6, .inl (upd gO (q - 1) (nI q))))]] : List va_W).flatten H := hP
          have hD : va_D A ([tO b, cO b (nI n) (nI k), [(b 13, .inl (cY 0, 6, .inl (upd gO (q - 1) (nI q))))]] : List va_W).flatten := hD
          refine lv_iinc (v := nI (q + 1)) (lv' := [(2, .int (nI (q + 1))), (0, .ref (b 11)), (1, .int (nI r0))]) hx hb dX7_listOthers_36 hl (k := 2) rfl (nI_1 q) (by decide) rfl (fun ls hl => ?_)
          refine lv_goto (tgt := 2) hx hb dX7_listOthers_39 (by decide) ?_
          exact ih2 (by omega) (upd gO (q - 1) (nI q)) (by first | (rw [h15] at hI ⊢; exact LI_r hI) | exact LI_1 hI h24 | exact LI_2 hI (by omega)) _ _ hP hD hS _ (lv_sub hl [1, 2, 0] rfl)
        · -- f
          refine lv_iload_n hx hb dX7_listOthers_27 rfl (lv_at hl 2 rfl) ?_
          refine lv_goto (tgt := 34) hx hb dX7_listOthers_28 (by decide) ?_
          refine lv_iload_n hx hb dX7_listOthers_34 rfl (lv_at hl 2 rfl) ?_
          refine b_iast hx hb hK hP hD hS 2 0 rfl rfl (by omega) (by decide) dX7_listOthers_35 (fun H locs hP hD hS => ?_)
          have hP : va_P D vwCl ([tO b, cO b (nI n) (nI k), [(b 13, .inl (cY 0, 6, .inl (upd gO q (nI q))))]] : List va_W).flatten H := hP
          have hD : va_D A ([tO b, cO b (nI n) (nI k), [(b 13, .inl (cY 0, 6, .inl (upd gO q (nI q))))]] : List va_W).flatten := hD
          refine lv_iinc (v := nI (q + 1)) (lv' := [(2, .int (nI (q + 1))), (0, .ref (b 11)), (1, .int (nI r0))]) hx hb dX7_listOthers_36 hl (k := 2) rfl (nI_1 q) (by decide) rfl (fun ls hl => ?_)
          refine lv_goto (tgt := 2) hx hb dX7_listOthers_39 (by decide) ?_
          exact ih2 (by omega) (upd gO q (nI q)) (by first | (rw [h15] at hI ⊢; exact LI_r hI) | exact LI_1 hI h24 | exact LI_2 hI (by omega)) _ _ hP hD hS _ (lv_sub hl [1, 2, 0] rfl)
  exact L2 0 (by omega) fOt LI_0 _ _ hP hD hS _ (lv_sub hl [1, 2, 0] rfl)

set_option maxHeartbeats 4000000 in
set_option maxRecDepth 100000 in
theorem c_X7_entry (l : Launch) (D : va_G) (cY : Nat → ClassId) (sz : Nat) (b : Nat → Nat) (rr : Nat → Nat → Nat) (n : Nat) (k : Nat) (fW : Nat → Nat → Int32) (g : Nat → Nat → Nat) (u : Nat) (w : Nat) (hn1 : 1 ≤ n) (hn6 : n ≤ 6) (hk1 : 1 ≤ k) (hk12 : k ≤ 12) (hW : ∀ i j, i < n → j < n → fW i j = nI (cnt (g i) j k)) (hu : u < n) (hw : w < n) : Met l yX7_entry wsX7_entry ({ frames := 0, cells := 0, slots := 0, locals := 0 }) (cP D cY [.ref (b 11), .int (nI u), .int (nI w)] [tO b, cO b (nI n) (nI k), oQ (cY 2) (b 3) (rr 1) 6, gI (cY 0) (rr 1) 6 fW 6] sz) (qL (S := Unit) D cY (fun r uu => r = ENs g k u w) (fun uu => [tO b, cO b (nI n) (nI k), oQ (cY 2) (b 3) (rr 1) 6, gI (cY 0) (rr 1) 6 fW 6]) (va_A ([tO b, cO b (nI n) (nI k), oQ (cY 2) (b 3) (rr 1) 6, gI (cY 0) (rr 1) 6 fW 6] : List va_W).flatten sz)) 0 0 (va_A ([tO b, cO b (nI n) (nI k), oQ (cY 2) (b 3) (rr 1) 6, gI (cY 0) (rr 1) 6 fW 6] : List va_W).flatten sz) := by
  refine mtB (Qc := fun A => qL (S := Unit) D cY (fun r uu => r = ENs g k u w) (fun uu => [tO b, cO b (nI n) (nI k), oQ (cY 2) (b 3) (rr 1) 6, gI (cY 0) (rr 1) 6 fW 6]) A) (cc := cX7_entry) (maxL := 3) (ret := (some .long)) (by decide) rfl (Nat.le_of_ble_eq_true rfl) ?_
  intro p e s m below meth c A ls hx hb hr hml hts hown hlocks hnm hsz hP hK hVK hD hS hA hl
  have hown : s.vm.findClass RX7 = some m.cls := hown
  have hl : lv_has ls 3 [(0, .ref (b 11)), (1, .int (nI u)), (2, .int (nI w))] := hl
  have hP : va_P D vwCl ([tO b, cO b (nI n) (nI k), oQ (cY 2) (b 3) (rr 1) 6, gI (cY 0) (rr 1) 6 fW 6] : List va_W).flatten s.heap := hP
  have hD : va_D A ([tO b, cO b (nI n) (nI k), oQ (cY 2) (b 3) (rr 1) 6, gI (cY 0) (rr 1) 6 fW 6] : List va_W).flatten := hD
  refine lv_iload_n hx hb dX7_entry_0 rfl (lv_at hl 1 rfl) ?_
  refine lv_iload_n hx hb dX7_entry_1 rfl (lv_at hl 2 rfl) ?_
  refine n_icmp_ne (tgt := 28) hx hb dX7_entry_2 (by decide) (by omega) (by omega) (fun h2 => ?_) (fun h2 => ?_)
  · -- t
    refine lv_aload_n hx hb dX7_entry_28 rfl (lv_at hl 0 rfl) ?_
    refine b_get (ci := 7) (v := .ref (b 1)) (C := RX7) (T := TX7) (N := 4) hx hb hts (by decide +kernel) hown hK hP 0 rfl rfl 0 (by decide) (hts (.fieldLink RX7 9 "ChanceHall$Trees" "chain" "LChanceHall$Chain;") (by decide +kernel)) (fun _ h9 => h9) rfl dX7_entry_29 ?_
    refine b_get (ci := 0) (v := .ref (b 3)) (C := RX0) (T := TX0) (N := 4) hx hb hts (by decide +kernel) hown hK hP 1 rfl rfl 3 (by decide) (hts (.fieldLink RX7 59 "ChanceHall$Chain" "weights" "[[I") (by decide +kernel)) (fun _ h9 => h9) rfl dX7_entry_32 ?_
    refine lv_iload_n hx hb dX7_entry_35 rfl (lv_at hl 1 rfl) ?_
    refine g_aald hx hb hK hP 2 2 rfl rfl (by omega) (by decide) dX7_entry_36 ?_
    refine lv_iload_n hx hb dX7_entry_37 rfl (lv_at hl 2 rfl) ?_
    refine g_iald hx hb hK hP 3 0 rfl rfl (by omega) (by omega) (by decide) dX7_entry_38 ?_
    refine eqi (x' := nI (cnt (g u) w k)) (hW u w hu hw) ?_
    have hcl := cnt_le (g u) w k
    refine lv_ineg hx hb dX7_entry_39 ?_
    refine lv_i2l (v := -lN (cnt (g u) w k)) hx hb dX7_entry_40 (ng_l _ (by omega)) ?_
    exact r_l hx hb hr hlocks hP hD hS () rfl (by first | (subst h2; exact (if_pos rfl).symm) | exact (if_neg h2).symm) dX7_entry_41
  · -- f
    refine lv_aload_n hx hb dX7_entry_5 rfl (lv_at hl 0 rfl) ?_
    refine b_get (ci := 7) (v := .ref (b 1)) (C := RX7) (T := TX7) (N := 4) hx hb hts (by decide +kernel) hown hK hP 0 rfl rfl 0 (by decide) (hts (.fieldLink RX7 9 "ChanceHall$Trees" "chain" "LChanceHall$Chain;") (by decide +kernel)) (fun _ h9 => h9) rfl dX7_entry_6 ?_
    refine b_get (ci := 0) (v := .int (nI k)) (C := RX0) (T := TX0) (N := 4) hx hb hts (by decide +kernel) hown hK hP 1 rfl rfl 1 (by decide) (hts (.fieldLink RX7 56 "ChanceHall$Chain" "slots" "I") (by decide +kernel)) (fun _ h9 => h9) rfl dX7_entry_9 ?_
    refine lv_aload_n hx hb dX7_entry_12 rfl (lv_at hl 0 rfl) ?_
    refine b_get (ci := 7) (v := .ref (b 1)) (C := RX7) (T := TX7) (N := 4) hx hb hts (by decide +kernel) hown hK hP 0 rfl rfl 0 (by decide) (hts (.fieldLink RX7 9 "ChanceHall$Trees" "chain" "LChanceHall$Chain;") (by decide +kernel)) (fun _ h9 => h9) rfl dX7_entry_13 ?_
    refine b_get (ci := 0) (v := .ref (b 3)) (C := RX0) (T := TX0) (N := 4) hx hb hts (by decide +kernel) hown hK hP 1 rfl rfl 3 (by decide) (hts (.fieldLink RX7 59 "ChanceHall$Chain" "weights" "[[I") (by decide +kernel)) (fun _ h9 => h9) rfl dX7_entry_16 ?_
    refine lv_iload_n hx hb dX7_entry_19 rfl (lv_at hl 1 rfl) ?_
    refine g_aald hx hb hK hP 2 2 rfl rfl (by omega) (by decide) dX7_entry_20 ?_
    refine lv_iload_n hx hb dX7_entry_21 rfl (lv_at hl 1 rfl) ?_
    refine g_iald hx hb hK hP 3 0 rfl rfl (by omega) (by omega) (by decide) dX7_entry_22 ?_
    refine eqi (x' := nI (cnt (g u) u k)) (hW u u hu hu) ?_
    have hcl := cnt_le (g u) u k
    refine lv_isub hx hb dX7_entry_23 ?_
    refine eqi (x' := nI (k - (cnt (g u) u k))) (pk_sub (by omega)) ?_
    refine lv_i2l (v := lN (k - (cnt (g u) u k))) hx hb dX7_entry_24 (nI_l (by omega)) ?_
    refine lv_goto (tgt := 41) hx hb dX7_entry_25 (by decide) ?_
    exact r_l hx hb hr hlocks hP hD hS () rfl (by first | (subst h2; exact (if_pos rfl).symm) | exact (if_neg h2).symm) dX7_entry_41

set_option maxHeartbeats 4000000 in
set_option maxRecDepth 100000 in
theorem c_X7_minorOf (l : Launch) (D : va_G) (cY : Nat → ClassId) (sz : Nat) (b : Nat → Nat) (rr : Nat → Nat → Nat) (n : Nat) (k : Nat) (fW : Nat → Nat → Int32) (fOt : Nat → Int32) (fMi : Nat → Int64) (g : Nat → Nat → Nat) (r0 : Nat) (X : Nat) (hn1 : 1 ≤ n) (hn6 : n ≤ 6) (hk1 : 1 ≤ k) (hk12 : k ≤ 12) (hW : ∀ i j, i < n → j < n → fW i j = nI (cnt (g i) j k)) (hr0 : r0 < n) (hX0 : 0 < X) (hX1 : X < 2 ^ (n - 1)) (hO : ∀ r, r < n - 1 → fOt r = nI (ot r0 r)) (hM : MI (EN g k r0) (n - 1) X fMi) : Met l yX7_minorOf wsX7_minorOf ({ frames := 1, cells := 0, slots := 0, locals := 40 }) (cP D cY [.ref (b 11), .int (nI X), .int (nI (n - 1))] [tO b, cO b (nI n) (nI k), oQ (cY 2) (b 3) (rr 1) 6, gI (cY 0) (rr 1) 6 fW 6, [(b 13, .inl (cY 0, 6, .inl fOt))], [(b 14, .inl (cY 1, 32, .inr (.inl fMi)))]] sz) (qL (S := Unit) D cY (fun r uu => r = mv (EN g k r0) (n - 1) X) (fun uu => [tO b, cO b (nI n) (nI k), oQ (cY 2) (b 3) (rr 1) 6, gI (cY 0) (rr 1) 6 fW 6, [(b 13, .inl (cY 0, 6, .inl fOt))], [(b 14, .inl (cY 1, 32, .inr (.inl fMi)))]]) (va_A ([tO b, cO b (nI n) (nI k), oQ (cY 2) (b 3) (rr 1) 6, gI (cY 0) (rr 1) 6 fW 6, [(b 13, .inl (cY 0, 6, .inl fOt))], [(b 14, .inl (cY 1, 32, .inr (.inl fMi)))]] : List va_W).flatten sz)) 0 0 (va_A ([tO b, cO b (nI n) (nI k), oQ (cY 2) (b 3) (rr 1) 6, gI (cY 0) (rr 1) 6 fW 6, [(b 13, .inl (cY 0, 6, .inl fOt))], [(b 14, .inl (cY 1, 32, .inr (.inl fMi)))]] : List va_W).flatten sz) := by
  refine mtB (Qc := fun A => qL (S := Unit) D cY (fun r uu => r = mv (EN g k r0) (n - 1) X) (fun uu => [tO b, cO b (nI n) (nI k), oQ (cY 2) (b 3) (rr 1) 6, gI (cY 0) (rr 1) 6 fW 6, [(b 13, .inl (cY 0, 6, .inl fOt))], [(b 14, .inl (cY 1, 32, .inr (.inl fMi)))]]) A) (cc := cX7_minorOf) (maxL := 8) (ret := (some .long)) (by decide) rfl (Nat.le_of_ble_eq_true rfl) ?_
  intro p e s m below meth c A ls hx hb hr hml hts hown hlocks hnm hsz hP hK hVK hD hS hA hl
  have hown : s.vm.findClass RX7 = some m.cls := hown
  have hl : lv_has ls 8 [(0, .ref (b 11)), (1, .int (nI X)), (2, .int (nI (n - 1)))] := hl
  have hP : va_P D vwCl ([tO b, cO b (nI n) (nI k), oQ (cY 2) (b 3) (rr 1) 6, gI (cY 0) (rr 1) 6 fW 6, [(b 13, .inl (cY 0, 6, .inl fOt))], [(b 14, .inl (cY 1, 32, .inr (.inl fMi)))]] : List va_W).flatten s.heap := hP
  have hD : va_D A ([tO b, cO b (nI n) (nI k), oQ (cY 2) (b 3) (rr 1) 6, gI (cY 0) (rr 1) 6 fW 6, [(b 13, .inl (cY 0, 6, .inl fOt))], [(b 14, .inl (cY 1, 32, .inr (.inl fMi)))]] : List va_W).flatten := hD
  have h2M : 2 ^ (n - 1) ≤ 32 := Nat.le_trans (Nat.pow_le_pow_right (by decide) (show n - 1 ≤ 5 by omega)) (by decide)
  have hbp := bitsN_pos X (by omega) hX0
  have hbm := bitsN_M (n - 1) (by omega) X (by omega) hX1
  have hor := ot_lt (r := bitsN X 6 - 1) (n := n) (by omega) hr0
  refine lv_aload_n hx hb dX7_minorOf_0 rfl (lv_at hl 0 rfl) ?_
  refine b_get (ci := 7) (v := .ref (b 13)) (C := RX7) (T := TX7) (N := 4) hx hb hts (by decide +kernel) hown hK hP 0 rfl rfl 2 (by decide) (hts (.fieldLink RX7 19 "ChanceHall$Trees" "others" "[I") (by decide +kernel)) (fun _ h9 => h9) rfl dX7_minorOf_1 ?_
  refine lv_iload_n hx hb dX7_minorOf_4 rfl (lv_at hl 1 rfl) ?_
  refine ca_i (CL := []) (va_runS (As := [.int (nI X)]) (rest := [.ref (b 13)]) ⟨hx, hb, hml, hown, hts⟩ (c_J6_bitCount_0f7a4 l D cY s.heap.size X (by omega)) (va_cwS 1 hts gX7_minorOf_J6_bitCount_0f7a4 rfl rfl rfl (by decide +kernel) ⟨Nat.le_of_ble_eq_true rfl, Nat.le_of_ble_eq_true rfl⟩) (b_preS hVK hP hD [] rfl rfl) rfl rfl hl.1 rfl (lv_room (Nat.le_of_ble_eq_true rfl)) dX7_minorOf_5 ⟨Nat.le_refl _, Nat.le_refl _⟩) hP hD hS hA [] rfl rfl (fun _ => rfl) (fun r5 uu H locs hq hP hD hS => ?_)
  subst hq
  have hP : va_P D vwCl ([tO b, cO b (nI n) (nI k), oQ (cY 2) (b 3) (rr 1) 6, gI (cY 0) (rr 1) 6 fW 6, [(b 13, .inl (cY 0, 6, .inl fOt))], [(b 14, .inl (cY 1, 32, .inr (.inl fMi)))]] : List va_W).flatten H := hP
  have hD : va_D A ([tO b, cO b (nI n) (nI k), oQ (cY 2) (b 3) (rr 1) 6, gI (cY 0) (rr 1) 6 fW 6, [(b 13, .inl (cY 0, 6, .inl fOt))], [(b 14, .inl (cY 1, 32, .inr (.inl fMi)))]] : List va_W).flatten := hD
  refine lv_iconst (v := nI 1) hx hb dX7_minorOf_8 (by decide) ?_
  refine lv_isub hx hb dX7_minorOf_9 ?_
  refine eqi (x' := nI ((bitsN X 6) - 1)) (pk_sub (by omega)) ?_
  refine b_iald hx hb hK hP 4 0 rfl rfl (by omega) (by decide) dX7_minorOf_10 ?_
  refine eqi (x' := nI (ot r0 (bitsN X 6 - 1))) (hO _ (by omega)) ?_
  refine lv_istore_n (lv' := [(3, .int (nI (ot r0 (bitsN X 6 - 1)))), (0, .ref (b 11)), (1, .int (nI X)), (2, .int (nI (n - 1)))]) hx hb dX7_minorOf_11 rfl hl (by decide) rfl (fun ls hl => ?_)
  refine lv_lconst (v := lN 0) hx hb dX7_minorOf_12 (by decide) ?_
  refine lv_lstore (lv' := [(4, .long (lN 0)), (3, .int (nI (ot r0 (bitsN X 6 - 1)))), (0, .ref (b 11)), (1, .int (nI X)), (2, .int (nI (n - 1)))]) hx hb dX7_minorOf_13 hl (by decide) rfl (fun ls hl => ?_)
  refine lv_iconst (v := nI 1) hx hb dX7_minorOf_15 (by decide) ?_
  refine eqi (x' := sgI X (n - 1)) (sgI_M (n - 1) (by omega) X (by omega) hX1) ?_
  refine lv_istore (lv' := [(6, .int (sgI X (n - 1))), (4, .long (lN 0)), (3, .int (nI (ot r0 (bitsN X 6 - 1)))), (0, .ref (b 11)), (1, .int (nI X)), (2, .int (nI (n - 1)))]) hx hb dX7_minorOf_16 hl (by decide) rfl (fun ls hl => ?_)
  refine lv_iload_n hx hb dX7_minorOf_18 rfl (lv_at hl 5 rfl) ?_
  refine lv_iconst (v := nI 1) hx hb dX7_minorOf_19 (by decide) ?_
  refine lv_isub hx hb dX7_minorOf_20 ?_
  have hzz : nI (n - 1) - nI 1 = zI (n - 1) := rfl
  refine eqi (x' := zI (n - 1)) (rfl) ?_
  refine lv_istore (lv' := [(7, .int (zI (n - 1))), (6, .int (sgI X (n - 1))), (4, .long (lN 0)), (3, .int (nI (ot r0 (bitsN X 6 - 1)))), (0, .ref (b 11)), (1, .int (nI X)), (2, .int (nI (n - 1)))]) hx hb dX7_minorOf_21 hl (by decide) rfl (fun ls hl => ?_)
  have L23 : ∀ z : Nat,  (z ≤ n - 1) → ∀ (H : Heap) (locs : List Loc), va_P D vwCl ([tO b, cO b (nI n) (nI k), oQ (cY 2) (b 3) (rr 1) 6, gI (cY 0) (rr 1) 6 fW 6, [(b 13, .inl (cY 0, 6, .inl fOt))], [(b 14, .inl (cY 1, 32, .inr (.inl fMi)))]] : List va_W).flatten H → va_D A ([tO b, cO b (nI n) (nI k), oQ (cY 2) (b 3) (rr 1) 6, gI (cY 0) (rr 1) 6 fW 6, [(b 13, .inl (cY 0, 6, .inl fOt))], [(b 14, .inl (cY 1, 32, .inr (.inl fMi)))]] : List va_W).flatten → va_S A s.heap H locs → ∀ (ls : Array Slot), lv_has ls 8 [(0, .ref (b 11)), (1, .int (nI X)), (2, .int (nI (n - 1))), (3, .int (nI (ot r0 (bitsN X 6 - 1)))), (4, .long (mD (mtm (EN g k r0) (mv (EN g k r0) (n - 1)) X) (n - 1) (n - 1 - z))), (6, .int (sgI X z)), (7, .int (zI z))] → W p l e ({ frames := 1, cells := 0, slots := 0, locals := 40 }) s m ([.ref (b 11), .int (nI X), .int (nI (n - 1))] : List Value).toArray below meth c H locs 0 0 (MQ below (qL (S := Unit) D cY (fun r uu => r = mv (EN g k r0) (n - 1) X) (fun uu => [tO b, cO b (nI n) (nI k), oQ (cY 2) (b 3) (rr 1) 6, gI (cY 0) (rr 1) 6 fW 6, [(b 13, .inl (cY 0, 6, .inl fOt))], [(b 14, .inl (cY 1, 32, .inr (.inl fMi)))]]) A) ([.ref (b 11), .int (nI X), .int (nI (n - 1))] : List Value).toArray s 0 0 A) (F0 m 23 ls []) := by
    refine lpSt ?_
    intro z ih23  hz H locs hP hD hS ls hl
    refine lv_iload hx hb dX7_minorOf_23 (lv_at hl 6 rfl) ?_
    refine lv_if_lt (tgt := 83) hx hb dX7_minorOf_25 (by decide) (fun h25 => ?_) (fun h25 => ?_)
    · -- t
      have e25 : z = 0 := by
        apply Classical.byContradiction
        intro y
        exact zI_p z (by omega) (by omega) h25
      refine lv_lload hx hb dX7_minorOf_83 (lv_at hl 4 rfl) ?_
      exact r_l hx hb hr hlocks hP hD hS () rfl (by rw [e25, Nat.sub_zero, mD_M, ← mv_s hX0 (by omega) (by omega)]) dX7_minorOf_85
    · -- f
      have e25 : 1 ≤ z := by
        apply Classical.byContradiction
        intro y
        have y2 : z = 0 := by omega
        rw [y2] at h25
        exact h25 zI_0
      have ez : n - 1 - (z - 1) = (n - 1 - z) + 1 := by omega
      have ez2 : n - 1 - 1 - (n - 1 - z) = z - 1 := by omega
      refine lv_iload_n hx hb dX7_minorOf_28 rfl (lv_at hl 1 rfl) ?_
      refine lv_iconst (v := nI 1) hx hb dX7_minorOf_29 (by decide) ?_
      refine lv_iload hx hb dX7_minorOf_30 (lv_at hl 6 rfl) ?_
      refine eqi (x' := nI (z - 1)) (zI_n z (by omega) e25) ?_
      refine lv_ishl hx hb dX7_minorOf_32 ?_
      refine eqi (x' := nI (2 ^ (z - 1))) (nI_shl1 (by omega)) ?_
      refine lv_iand hx hb dX7_minorOf_33 ?_
      refine eqi (x' := nI (X &&& (2 ^ (z - 1)))) (nI_and _ _) ?_
      have han : X &&& 2 ^ (z - 1) ≤ X := Nat.and_le_left
      refine n_if_eq (tgt := 77) hx hb dX7_minorOf_34 (by decide) (by omega) (fun h34 => ?_) (fun h34 => ?_)
      · -- t
        have hbt := (and_b0 (z - 1) (by omega) X (by omega)).mp h34
        have hif2 : sgI X z = sgI X (z - 1) := sgI_f z (by omega) e25 X (by omega) hbt
        have hif1 : mD (mtm (EN g k r0) (mv (EN g k r0) (n - 1)) X) (n - 1) (n - 1 - z) = mD (mtm (EN g k r0) (mv (EN g k r0) (n - 1)) X) (n - 1) (n - 1 - (z - 1)) := by
          rw [ez]
          show _ = _ + mtm (EN g k r0) (mv (EN g k r0) (n - 1)) X (n - 1 - 1 - (n - 1 - z))
          rw [ez2, show mtm (EN g k r0) (mv (EN g k r0) (n - 1)) X (z - 1) = lN 0 from if_neg hbt]
          exact (Int64.add_zero _).symm
        refine lv_iinc (v := zI (z - 1)) (lv' := [(7, .int (zI (z - 1))), (0, .ref (b 11)), (1, .int (nI X)), (2, .int (nI (n - 1))), (3, .int (nI (ot r0 (bitsN X 6 - 1)))), (4, .long (mD (mtm (EN g k r0) (mv (EN g k r0) (n - 1)) X) (n - 1) (n - 1 - z))), (6, .int (sgI X z))]) hx hb dX7_minorOf_77 hl (k := 6) rfl (zI_s z (by omega) e25) (by decide) rfl (fun ls hl => ?_)
        refine lv_goto (tgt := 23) hx hb dX7_minorOf_80 (by decide) ?_
        exact ih23 (z - 1) (by omega)  (by omega) _ _ hP hD hS _ (lv_sub hl [1, 2, 3, 4, 5, 6, 0] (by first | rfl | (rw [← hif1, ← hif2]; rfl)))
      · -- f
        have hbt := (and_bt (z - 1) (by omega) X (by omega)).mp h34
        have hcl := clr_le (z - 1) (by omega) X (by omega) hbt
        have h2y : 0 < 2 ^ (z - 1) := Nat.two_pow_pos (z - 1)
        refine lv_lload hx hb dX7_minorOf_37 (lv_at hl 4 rfl) ?_
        refine lv_iload hx hb dX7_minorOf_39 (lv_at hl 5 rfl) ?_
        refine lv_i2l (v := ((sgI X z)).toInt64) hx hb dX7_minorOf_41 rfl ?_
        refine lv_aload_n hx hb dX7_minorOf_42 rfl (lv_at hl 0 rfl) ?_
        refine lv_iload_n hx hb dX7_minorOf_43 rfl (lv_at hl 3 rfl) ?_
        refine lv_aload_n hx hb dX7_minorOf_44 rfl (lv_at hl 0 rfl) ?_
        refine b_get (ci := 7) (v := .ref (b 13)) (C := RX7) (T := TX7) (N := 4) hx hb hts (by decide +kernel) hown hK hP 0 rfl rfl 2 (by decide) (hts (.fieldLink RX7 19 "ChanceHall$Trees" "others" "[I") (by decide +kernel)) (fun _ h9 => h9) rfl dX7_minorOf_45 ?_
        refine lv_iload hx hb dX7_minorOf_48 (lv_at hl 6 rfl) ?_
        refine eqi (x' := nI (z - 1)) (zI_n z (by omega) e25) ?_
        refine b_iald hx hb hK hP 4 0 rfl rfl (by omega) (by decide) dX7_minorOf_50 ?_
        refine eqi (x' := nI (ot r0 (z - 1))) (hO _ (by omega)) ?_
        have hoc := ot_lt (r := z - 1) (n := n) (by omega) hr0
        refine ca_l (CL := [tO b, cO b (nI n) (nI k), oQ (cY 2) (b 3) (rr 1) 6, gI (cY 0) (rr 1) 6 fW 6]) (va_runV (As := [.int (nI (ot r0 (bitsN X 6 - 1))), .int (nI (ot r0 (z - 1)))]) (rest := [.long (((sgI X z)).toInt64), .long (mD (mtm (EN g k r0) (mv (EN g k r0) (n - 1)) X) (n - 1) (n - 1 - z))]) ⟨hx, hb, hml, hown, hts⟩ (c_X7_entry l D cY H.size b rr n k fW g (ot r0 (bitsN X 6 - 1)) (ot r0 (z - 1)) (by omega) (by omega) (by omega) (by omega) hW (by omega) (by omega)) (cwV 2 hts gX7_minorOf_X7_entry rfl rfl rfl (by decide +kernel) ⟨Nat.le_of_ble_eq_true rfl, Nat.le_of_ble_eq_true rfl⟩) (b_preV hVK hP hD [0, 1, 2, 3] rfl rfl 0 rfl rfl) rfl rfl hl.1 rfl (lv_room (Nat.le_of_ble_eq_true rfl)) dX7_minorOf_51 ⟨Nat.le_refl _, Nat.le_refl _⟩) hP hD hS hA [0, 1, 2, 3] rfl rfl (fun _ => rfl) (fun r51 uu H locs hq hP hD hS => ?_)
        subst hq
        have hP : va_P D vwCl ([tO b, cO b (nI n) (nI k), oQ (cY 2) (b 3) (rr 1) 6, gI (cY 0) (rr 1) 6 fW 6, [(b 13, .inl (cY 0, 6, .inl fOt))], [(b 14, .inl (cY 1, 32, .inr (.inl fMi)))]] : List va_W).flatten H := hP
        have hD : va_D A ([tO b, cO b (nI n) (nI k), oQ (cY 2) (b 3) (rr 1) 6, gI (cY 0) (rr 1) 6 fW 6, [(b 13, .inl (cY 0, 6, .inl fOt))], [(b 14, .inl (cY 1, 32, .inr (.inl fMi)))]] : List va_W).flatten := hD
        refine lv_lmul hx hb dX7_minorOf_54 ?_
        refine lv_aload_n hx hb dX7_minorOf_55 rfl (lv_at hl 0 rfl) ?_
        refine b_get (ci := 7) (v := .ref (b 14)) (C := RX7) (T := TX7) (N := 4) hx hb hts (by decide +kernel) hown hK hP 0 rfl rfl 3 (by decide) (hts (.fieldLink RX7 23 "ChanceHall$Trees" "minors" "[J") (by decide +kernel)) (fun _ h9 => h9) rfl dX7_minorOf_56 ?_
        refine lv_iload_n hx hb dX7_minorOf_59 rfl (lv_at hl 1 rfl) ?_
        refine lv_iconst (v := nI 1) hx hb dX7_minorOf_60 (by decide) ?_
        refine lv_iload hx hb dX7_minorOf_61 (lv_at hl 6 rfl) ?_
        refine eqi (x' := nI (z - 1)) (zI_n z (by omega) e25) ?_
        refine lv_ishl hx hb dX7_minorOf_63 ?_
        refine eqi (x' := nI (2 ^ (z - 1))) (nI_shl1 (by omega)) ?_
        refine lv_iconst (v := (-1)) hx hb dX7_minorOf_64 (by decide) ?_
        refine lv_ixor hx hb dX7_minorOf_65 ?_
        refine lv_iand hx hb dX7_minorOf_66 ?_
        refine eqi (x' := nI (X - 2 ^ (z - 1))) (clr_b (z - 1) (by omega) X (by omega) hbt) ?_
        refine b_lald hx hb hK hP 5 1 rfl rfl (by omega) (by decide) dX7_minorOf_67 ?_
        refine eql (x' := mv (EN g k r0) (n - 1) (X - 2 ^ (z - 1))) (hM _ (by omega)) ?_
        refine lv_lmul hx hb dX7_minorOf_68 ?_
        refine eql (x' := mtm (EN g k r0) (mv (EN g k r0) (n - 1)) X (z - 1)) (mtm_sg e25 hbt rfl rfl) ?_
        refine lv_ladd hx hb dX7_minorOf_69 ?_
        refine eql (x' := mD (mtm (EN g k r0) (mv (EN g k r0) (n - 1)) X) (n - 1) (n - 1 - (z - 1))) (by rw [ez]; show _ = _ + mtm (EN g k r0) (mv (EN g k r0) (n - 1)) X (n - 1 - 1 - (n - 1 - z)); rw [ez2]) ?_
        refine lv_lstore (lv' := [(4, .long (mD (mtm (EN g k r0) (mv (EN g k r0) (n - 1)) X) (n - 1) (n - 1 - (z - 1)))), (0, .ref (b 11)), (1, .int (nI X)), (2, .int (nI (n - 1))), (3, .int (nI (ot r0 (bitsN X 6 - 1)))), (6, .int (sgI X z)), (7, .int (zI z))]) hx hb dX7_minorOf_70 hl (by decide) rfl (fun ls hl => ?_)
        refine lv_iload hx hb dX7_minorOf_72 (lv_at hl 5 rfl) ?_
        refine lv_ineg hx hb dX7_minorOf_74 ?_
        refine eqi (x' := sgI X (z - 1)) (sgI_t z (by omega) e25 X (by omega) hbt) ?_
        refine lv_istore (lv' := [(6, .int (sgI X (z - 1))), (4, .long (mD (mtm (EN g k r0) (mv (EN g k r0) (n - 1)) X) (n - 1) (n - 1 - (z - 1)))), (0, .ref (b 11)), (1, .int (nI X)), (2, .int (nI (n - 1))), (3, .int (nI (ot r0 (bitsN X 6 - 1)))), (7, .int (zI z))]) hx hb dX7_minorOf_75 hl (by decide) rfl (fun ls hl => ?_)
        refine lv_iinc (v := zI (z - 1)) (lv' := [(7, .int (zI (z - 1))), (6, .int (sgI X (z - 1))), (4, .long (mD (mtm (EN g k r0) (mv (EN g k r0) (n - 1)) X) (n - 1) (n - 1 - (z - 1)))), (0, .ref (b 11)), (1, .int (nI X)), (2, .int (nI (n - 1))), (3, .int (nI (ot r0 (bitsN X 6 - 1))))]) hx hb dX7_minorOf_77 hl (k := 6) rfl (zI_s z (by omega) e25) (by decide) rfl (fun ls hl => ?_)
        refine lv_goto (tgt := 23) hx hb dX7_minorOf_80 (by decide) ?_
        exact ih23 (z - 1) (by omega)  (by omega) _ _ hP hD hS _ (lv_sub hl [3, 4, 5, 6, 2, 1, 0] (by first | rfl | (rw [← hif1, ← hif2]; rfl)))
  exact L23 (n - 1)  (by omega) _ _ hP hD hS _ (lv_sub hl [4, 5, 6, 3, 2, 1, 0] (by rw [Nat.sub_self]; rfl))

set_option maxHeartbeats 4000000 in
set_option maxRecDepth 100000 in
theorem c_X7_restOf (l : Launch) (D : va_G) (cY : Nat → ClassId) (sz : Nat) (b : Nat → Nat) (rr : Nat → Nat → Nat) (n : Nat) (k : Nat) (fW : Nat → Nat → Int32) (fOt : Nat → Int32) (fMi : Nat → Int64) (g : Nat → Nat → Nat) (r0 : Nat) (hn1 : 1 ≤ n) (hn6 : n ≤ 6) (hk1 : 1 ≤ k) (hk12 : k ≤ 12) (hW : ∀ i j, i < n → j < n → fW i j = nI (cnt (g i) j k)) (hr0 : r0 < n) : Met l yX7_restOf wsX7_restOf ({ frames := 2, cells := 0, slots := 0, locals := 80 }) (cP D cY [.ref (b 11), .int (nI r0)] [tO b, cO b (nI n) (nI k), oQ (cY 2) (b 3) (rr 1) 6, gI (cY 0) (rr 1) 6 fW 6, [(b 13, .inl (cY 0, 6, .inl fOt))], [(b 14, .inl (cY 1, 32, .inr (.inl fMi)))]] sz) (qL (S := (Nat → Int32) × (Nat → Int64)) D cY (fun r uu => r = RV g n k r0) (fun uu => [tO b, cO b (nI n) (nI k), oQ (cY 2) (b 3) (rr 1) 6, gI (cY 0) (rr 1) 6 fW 6, [(b 13, .inl (cY 0, 6, .inl uu.1))], [(b 14, .inl (cY 1, 32, .inr (.inl uu.2)))]]) (va_A ([tO b, cO b (nI n) (nI k), oQ (cY 2) (b 3) (rr 1) 6, gI (cY 0) (rr 1) 6 fW 6, [(b 13, .inl (cY 0, 6, .inl fOt))], [(b 14, .inl (cY 1, 32, .inr (.inl fMi)))]] : List va_W).flatten sz)) 0 0 (va_A ([tO b, cO b (nI n) (nI k), oQ (cY 2) (b 3) (rr 1) 6, gI (cY 0) (rr 1) 6 fW 6, [(b 13, .inl (cY 0, 6, .inl fOt))], [(b 14, .inl (cY 1, 32, .inr (.inl fMi)))]] : List va_W).flatten sz) := by
  refine mtB (Qc := fun A => qL (S := (Nat → Int32) × (Nat → Int64)) D cY (fun r uu => r = RV g n k r0) (fun uu => [tO b, cO b (nI n) (nI k), oQ (cY 2) (b 3) (rr 1) 6, gI (cY 0) (rr 1) 6 fW 6, [(b 13, .inl (cY 0, 6, .inl uu.1))], [(b 14, .inl (cY 1, 32, .inr (.inl uu.2)))]]) A) (cc := cX7_restOf) (maxL := 4) (ret := (some .long)) (by decide) rfl (Nat.le_of_ble_eq_true rfl) ?_
  intro p e s m below meth c A ls hx hb hr hml hts hown hlocks hnm hsz hP hK hVK hD hS hA hl
  have hown : s.vm.findClass RX7 = some m.cls := hown
  have hl : lv_has ls 4 [(0, .ref (b 11)), (1, .int (nI r0))] := hl
  have hP : va_P D vwCl ([tO b, cO b (nI n) (nI k), oQ (cY 2) (b 3) (rr 1) 6, gI (cY 0) (rr 1) 6 fW 6, [(b 13, .inl (cY 0, 6, .inl fOt))], [(b 14, .inl (cY 1, 32, .inr (.inl fMi)))]] : List va_W).flatten s.heap := hP
  have hD : va_D A ([tO b, cO b (nI n) (nI k), oQ (cY 2) (b 3) (rr 1) 6, gI (cY 0) (rr 1) 6 fW 6, [(b 13, .inl (cY 0, 6, .inl fOt))], [(b 14, .inl (cY 1, 32, .inr (.inl fMi)))]] : List va_W).flatten := hD
  have h2M : 2 ^ (n - 1) ≤ 32 := Nat.le_trans (Nat.pow_le_pow_right (by decide) (show n - 1 ≤ 5 by omega)) (by decide)
  have h2m : 1 ≤ 2 ^ (n - 1) := Nat.one_le_two_pow
  refine lv_aload_n hx hb dX7_restOf_0 rfl (lv_at hl 0 rfl) ?_
  refine lv_iload_n hx hb dX7_restOf_1 rfl (lv_at hl 1 rfl) ?_
  refine ca_v (CL := [tO b, cO b (nI n) (nI k), [(b 13, .inl (cY 0, 6, .inl fOt))]]) (va_runV (As := [.int (nI r0)]) (rest := []) ⟨hx, hb, hml, hown, hts⟩ (c_X7_listOthers l D cY s.heap.size b n k fOt r0 (by omega) (by omega) (by omega) (by omega) (by omega)) (cwV 1 hts gX7_restOf_X7_listOthers rfl rfl rfl (by decide +kernel) ⟨Nat.le_of_ble_eq_true rfl, Nat.le_of_ble_eq_true rfl⟩) (b_preV hVK hP hD [0, 1, 4] rfl rfl 0 rfl rfl) rfl rfl hl.1 rfl (lv_room (Nat.le_of_ble_eq_true rfl)) dX7_restOf_2 ⟨Nat.le_refl _, Nat.le_refl _⟩) hP hD hS hA [0, 1, 4] rfl rfl (fun _ => rfl) (fun uu H locs hq hP hD hS => ?_)
  obtain ⟨fOt1_1, rfl⟩ : ∃ z, z = uu := ⟨_, rfl⟩
  try dsimp only at hq
  have q2 := hq
  have hP : va_P D vwCl ([tO b, cO b (nI n) (nI k), oQ (cY 2) (b 3) (rr 1) 6, gI (cY 0) (rr 1) 6 fW 6, [(b 13, .inl (cY 0, 6, .inl fOt1_1))], [(b 14, .inl (cY 1, 32, .inr (.inl fMi)))]] : List va_W).flatten H := hP
  have hD : va_D A ([tO b, cO b (nI n) (nI k), oQ (cY 2) (b 3) (rr 1) 6, gI (cY 0) (rr 1) 6 fW 6, [(b 13, .inl (cY 0, 6, .inl fOt1_1))], [(b 14, .inl (cY 1, 32, .inr (.inl fMi)))]] : List va_W).flatten := hD
  refine lv_aload_n hx hb dX7_restOf_5 rfl (lv_at hl 0 rfl) ?_
  refine b_get (ci := 7) (v := .ref (b 1)) (C := RX7) (T := TX7) (N := 4) hx hb hts (by decide +kernel) hown hK hP 0 rfl rfl 0 (by decide) (hts (.fieldLink RX7 9 "ChanceHall$Trees" "chain" "LChanceHall$Chain;") (by decide +kernel)) (fun _ h9 => h9) rfl dX7_restOf_6 ?_
  refine b_get (ci := 0) (v := .int (nI n)) (C := RX0) (T := TX0) (N := 4) hx hb hts (by decide +kernel) hown hK hP 1 rfl rfl 0 (by decide) (hts (.fieldLink RX7 26 "ChanceHall$Chain" "states" "I") (by decide +kernel)) (fun _ h9 => h9) rfl dX7_restOf_9 ?_
  refine lv_iconst (v := nI 1) hx hb dX7_restOf_12 (by decide) ?_
  refine lv_isub hx hb dX7_restOf_13 ?_
  refine eqi (x' := nI (n - 1)) (pk_sub (by omega)) ?_
  refine lv_istore_n (lv' := [(2, .int (nI (n - 1))), (0, .ref (b 11)), (1, .int (nI r0))]) hx hb dX7_restOf_14 rfl hl (by decide) rfl (fun ls hl => ?_)
  refine lv_aload_n hx hb dX7_restOf_15 rfl (lv_at hl 1 rfl) ?_
  refine b_get (ci := 7) (v := .ref (b 14)) (C := RX7) (T := TX7) (N := 4) hx hb hts (by decide +kernel) hown hK hP 0 rfl rfl 3 (by decide) (hts (.fieldLink RX7 23 "ChanceHall$Trees" "minors" "[J") (by decide +kernel)) (fun _ h9 => h9) rfl dX7_restOf_16 ?_
  refine lv_iconst (v := nI 0) hx hb dX7_restOf_19 (by decide) ?_
  refine lv_lconst (v := lN 1) hx hb dX7_restOf_20 (by decide) ?_
  refine b_last hx hb hK hP hD hS 5 1 rfl rfl (by omega) (by decide) dX7_restOf_21 (fun H locs hP hD hS => ?_)
  have hP : va_P D vwCl ([tO b, cO b (nI n) (nI k), oQ (cY 2) (b 3) (rr 1) 6, gI (cY 0) (rr 1) 6 fW 6, [(b 13, .inl (cY 0, 6, .inl fOt1_1))], [(b 14, .inl (cY 1, 32, .inr (.inl (vp_updL fMi 0 (lN 1)))))]] : List va_W).flatten H := hP
  have hD : va_D A ([tO b, cO b (nI n) (nI k), oQ (cY 2) (b 3) (rr 1) 6, gI (cY 0) (rr 1) 6 fW 6, [(b 13, .inl (cY 0, 6, .inl fOt1_1))], [(b 14, .inl (cY 1, 32, .inr (.inl (vp_updL fMi 0 (lN 1)))))]] : List va_W).flatten := hD
  refine lv_iconst (v := nI 1) hx hb dX7_restOf_22 (by decide) ?_
  refine lv_istore_n (lv' := [(3, .int (nI 1)), (2, .int (nI (n - 1))), (0, .ref (b 11)), (1, .int (nI r0))]) hx hb dX7_restOf_23 rfl hl (by decide) rfl (fun ls hl => ?_)
  have L24 : ∀ X : Nat, X ≤ 2 ^ (n - 1) → ∀ (gM : Nat → Int64), (MI (EN g k r0) (n - 1) X gM) → (1 ≤ X) → ∀ (H : Heap) (locs : List Loc), va_P D vwCl ([tO b, cO b (nI n) (nI k), oQ (cY 2) (b 3) (rr 1) 6, gI (cY 0) (rr 1) 6 fW 6, [(b 13, .inl (cY 0, 6, .inl fOt1_1))], [(b 14, .inl (cY 1, 32, .inr (.inl gM)))]] : List va_W).flatten H → va_D A ([tO b, cO b (nI n) (nI k), oQ (cY 2) (b 3) (rr 1) 6, gI (cY 0) (rr 1) 6 fW 6, [(b 13, .inl (cY 0, 6, .inl fOt1_1))], [(b 14, .inl (cY 1, 32, .inr (.inl gM)))]] : List va_W).flatten → va_S A s.heap H locs → ∀ (ls : Array Slot), lv_has ls 4 [(0, .ref (b 11)), (1, .int (nI r0)), (2, .int (nI (n - 1))), (3, .int (nI X))] → W p l e ({ frames := 2, cells := 0, slots := 0, locals := 80 }) s m ([.ref (b 11), .int (nI r0)] : List Value).toArray below meth c H locs 0 0 (MQ below (qL (S := (Nat → Int32) × (Nat → Int64)) D cY (fun r uu => r = RV g n k r0) (fun uu => [tO b, cO b (nI n) (nI k), oQ (cY 2) (b 3) (rr 1) 6, gI (cY 0) (rr 1) 6 fW 6, [(b 13, .inl (cY 0, 6, .inl uu.1))], [(b 14, .inl (cY 1, 32, .inr (.inl uu.2)))]]) A) ([.ref (b 11), .int (nI r0)] : List Value).toArray s 0 0 A) (F0 m 24 ls []) := by
    refine lpW (2 ^ (n - 1)) ?_
    intro X bdX ih24 gM hI hX1 H locs hP hD hS ls hl
    refine lv_iload_n hx hb dX7_restOf_24 rfl (lv_at hl 3 rfl) ?_
    refine lv_iconst (v := nI 1) hx hb dX7_restOf_25 (by decide) ?_
    refine lv_iload_n hx hb dX7_restOf_26 rfl (lv_at hl 2 rfl) ?_
    refine lv_ishl hx hb dX7_restOf_27 ?_
    refine eqi (x' := nI (2 ^ (n - 1))) (nI_shl1 (by omega)) ?_
    refine n_icmp_ge (tgt := 49) hx hb dX7_restOf_28 (by decide) (by omega) (by omega) (fun h28 => ?_) (fun h28 => ?_)
    · -- t
      refine lv_aload_n hx hb dX7_restOf_49 rfl (lv_at hl 0 rfl) ?_
      refine b_get (ci := 7) (v := .ref (b 14)) (C := RX7) (T := TX7) (N := 4) hx hb hts (by decide +kernel) hown hK hP 0 rfl rfl 3 (by decide) (hts (.fieldLink RX7 23 "ChanceHall$Trees" "minors" "[J") (by decide +kernel)) (fun _ h9 => h9) rfl dX7_restOf_50 ?_
      refine lv_iconst (v := nI 1) hx hb dX7_restOf_53 (by decide) ?_
      refine lv_iload_n hx hb dX7_restOf_54 rfl (lv_at hl 2 rfl) ?_
      refine lv_ishl hx hb dX7_restOf_55 ?_
      refine eqi (x' := nI (2 ^ (n - 1))) (nI_shl1 (by omega)) ?_
      refine lv_iconst (v := nI 1) hx hb dX7_restOf_56 (by decide) ?_
      refine lv_isub hx hb dX7_restOf_57 ?_
      refine eqi (x' := nI ((2 ^ (n - 1)) - 1)) (pk_sub (by omega)) ?_
      refine b_lald hx hb hK hP 5 1 rfl rfl (by omega) (by decide) dX7_restOf_58 ?_
      refine eql (x' := mv (EN g k r0) (n - 1) (2 ^ (n - 1) - 1)) (hI _ (by omega)) ?_
      exact r_l hx hb hr hlocks hP hD hS (fOt1_1, gM) rfl (rfl) dX7_restOf_59
    · -- f
      refine lv_aload_n hx hb dX7_restOf_31 rfl (lv_at hl 0 rfl) ?_
      refine b_get (ci := 7) (v := .ref (b 14)) (C := RX7) (T := TX7) (N := 4) hx hb hts (by decide +kernel) hown hK hP 0 rfl rfl 3 (by decide) (hts (.fieldLink RX7 23 "ChanceHall$Trees" "minors" "[J") (by decide +kernel)) (fun _ h9 => h9) rfl dX7_restOf_32 ?_
      refine lv_iload_n hx hb dX7_restOf_35 rfl (lv_at hl 3 rfl) ?_
      refine lv_aload_n hx hb dX7_restOf_36 rfl (lv_at hl 0 rfl) ?_
      refine lv_iload_n hx hb dX7_restOf_37 rfl (lv_at hl 3 rfl) ?_
      refine lv_iload_n hx hb dX7_restOf_38 rfl (lv_at hl 2 rfl) ?_
      refine ca_l (CL := [tO b, cO b (nI n) (nI k), oQ (cY 2) (b 3) (rr 1) 6, gI (cY 0) (rr 1) 6 fW 6, [(b 13, .inl (cY 0, 6, .inl fOt1_1))], [(b 14, .inl (cY 1, 32, .inr (.inl gM)))]]) (va_runV (As := [.int (nI X), .int (nI (n - 1))]) (rest := [.int (nI X), .ref (b 14)]) ⟨hx, hb, hml, hown, hts⟩ (c_X7_minorOf l D cY H.size b rr n k fW fOt1_1 gM g r0 X (by omega) (by omega) (by omega) (by omega) hW (by omega) (by omega) (by omega) q2 hI) (cwV 2 hts gX7_restOf_X7_minorOf rfl rfl rfl (by decide +kernel) ⟨Nat.le_of_ble_eq_true rfl, Nat.le_of_ble_eq_true rfl⟩) (b_preV hVK hP hD [0, 1, 2, 3, 4, 5] rfl rfl 0 rfl rfl) rfl rfl hl.1 rfl (lv_room (Nat.le_of_ble_eq_true rfl)) dX7_restOf_39 ⟨Nat.le_refl _, Nat.le_refl _⟩) hP hD hS hA [0, 1, 2, 3, 4, 5] rfl rfl (fun _ => rfl) (fun r39 uu H locs hq hP hD hS => ?_)
      subst hq
      have hP : va_P D vwCl ([tO b, cO b (nI n) (nI k), oQ (cY 2) (b 3) (rr 1) 6, gI (cY 0) (rr 1) 6 fW 6, [(b 13, .inl (cY 0, 6, .inl fOt1_1))], [(b 14, .inl (cY 1, 32, .inr (.inl gM)))]] : List va_W).flatten H := hP
      have hD : va_D A ([tO b, cO b (nI n) (nI k), oQ (cY 2) (b 3) (rr 1) 6, gI (cY 0) (rr 1) 6 fW 6, [(b 13, .inl (cY 0, 6, .inl fOt1_1))], [(b 14, .inl (cY 1, 32, .inr (.inl gM)))]] : List va_W).flatten := hD
      refine b_last hx hb hK hP hD hS 5 1 rfl rfl (by omega) (by decide) dX7_restOf_42 (fun H locs hP hD hS => ?_)
      have hP : va_P D vwCl ([tO b, cO b (nI n) (nI k), oQ (cY 2) (b 3) (rr 1) 6, gI (cY 0) (rr 1) 6 fW 6, [(b 13, .inl (cY 0, 6, .inl fOt1_1))], [(b 14, .inl (cY 1, 32, .inr (.inl (vp_updL gM X (mv (EN g k r0) (n - 1) X)))))]] : List va_W).flatten H := hP
      have hD : va_D A ([tO b, cO b (nI n) (nI k), oQ (cY 2) (b 3) (rr 1) 6, gI (cY 0) (rr 1) 6 fW 6, [(b 13, .inl (cY 0, 6, .inl fOt1_1))], [(b 14, .inl (cY 1, 32, .inr (.inl (vp_updL gM X (mv (EN g k r0) (n - 1) X)))))]] : List va_W).flatten := hD
      refine lv_iinc (v := nI (X + 1)) (lv' := [(3, .int (nI (X + 1))), (0, .ref (b 11)), (1, .int (nI r0)), (2, .int (nI (n - 1)))]) hx hb dX7_restOf_43 hl (k := 3) rfl (nI_1 X) (by decide) rfl (fun ls hl => ?_)
      refine lv_goto (tgt := 24) hx hb dX7_restOf_46 (by decide) ?_
      exact ih24 (by omega) (vp_updL gM X (mv (EN g k r0) (n - 1) X)) (fun j hj => by
  by_cases e : j = X
  · subst e; rw [pk_uLs]
  · rw [pk_uLn e]; exact hI j (by omega)) (by omega) _ _ hP hD hS _ (lv_sub hl [1, 2, 3, 0] rfl)
  exact L24 1 (by omega) (vp_updL fMi 0 (lN 1)) MI_1 (by omega) _ _ hP hD hS _ (lv_sub hl [2, 3, 1, 0] rfl)

set_option maxHeartbeats 4000000 in
set_option maxRecDepth 100000 in
theorem c_X7_countRests (l : Launch) (D : va_G) (cY : Nat → ClassId) (sz : Nat) (b : Nat → Nat) (rr : Nat → Nat → Nat) (n : Nat) (k : Nat) (fW : Nat → Nat → Int32) (fRs : Nat → Int64) (fOt : Nat → Int32) (fMi : Nat → Int64) (g : Nat → Nat → Nat) (hn1 : 1 ≤ n) (hn6 : n ≤ 6) (hk1 : 1 ≤ k) (hk12 : k ≤ 12) (hW : ∀ i j, i < n → j < n → fW i j = nI (cnt (g i) j k)) : Met l yX7_countRests wsX7_countRests ({ frames := 3, cells := 0, slots := 0, locals := 120 }) (cP D cY [.ref (b 11)] [tO b, cO b (nI n) (nI k), oQ (cY 2) (b 3) (rr 1) 6, gI (cY 0) (rr 1) 6 fW 6, [(b 12, .inl (cY 1, 6, .inr (.inl fRs)))], [(b 13, .inl (cY 0, 6, .inl fOt))], [(b 14, .inl (cY 1, 32, .inr (.inl fMi)))]] sz) (qV (S := (Nat → Int64) × (Nat → Int32) × (Nat → Int64)) D cY (fun uu => ∀ i, i < n → uu.1 i = RV g n k i) (fun uu => [tO b, cO b (nI n) (nI k), oQ (cY 2) (b 3) (rr 1) 6, gI (cY 0) (rr 1) 6 fW 6, [(b 12, .inl (cY 1, 6, .inr (.inl uu.1)))], [(b 13, .inl (cY 0, 6, .inl uu.2.1))], [(b 14, .inl (cY 1, 32, .inr (.inl uu.2.2)))]]) (va_A ([tO b, cO b (nI n) (nI k), oQ (cY 2) (b 3) (rr 1) 6, gI (cY 0) (rr 1) 6 fW 6, [(b 12, .inl (cY 1, 6, .inr (.inl fRs)))], [(b 13, .inl (cY 0, 6, .inl fOt))], [(b 14, .inl (cY 1, 32, .inr (.inl fMi)))]] : List va_W).flatten sz)) 0 0 (va_A ([tO b, cO b (nI n) (nI k), oQ (cY 2) (b 3) (rr 1) 6, gI (cY 0) (rr 1) 6 fW 6, [(b 12, .inl (cY 1, 6, .inr (.inl fRs)))], [(b 13, .inl (cY 0, 6, .inl fOt))], [(b 14, .inl (cY 1, 32, .inr (.inl fMi)))]] : List va_W).flatten sz) := by
  refine mtB (Qc := fun A => qV (S := (Nat → Int64) × (Nat → Int32) × (Nat → Int64)) D cY (fun uu => ∀ i, i < n → uu.1 i = RV g n k i) (fun uu => [tO b, cO b (nI n) (nI k), oQ (cY 2) (b 3) (rr 1) 6, gI (cY 0) (rr 1) 6 fW 6, [(b 12, .inl (cY 1, 6, .inr (.inl uu.1)))], [(b 13, .inl (cY 0, 6, .inl uu.2.1))], [(b 14, .inl (cY 1, 32, .inr (.inl uu.2.2)))]]) A) (cc := cX7_countRests) (maxL := 2) (ret := none) (by decide) rfl (Nat.le_of_ble_eq_true rfl) ?_
  intro p e s m below meth c A ls hx hb hr hml hts hown hlocks hnm hsz hP hK hVK hD hS hA hl
  have hown : s.vm.findClass RX7 = some m.cls := hown
  have hl : lv_has ls 2 [(0, .ref (b 11))] := hl
  have hP : va_P D vwCl ([tO b, cO b (nI n) (nI k), oQ (cY 2) (b 3) (rr 1) 6, gI (cY 0) (rr 1) 6 fW 6, [(b 12, .inl (cY 1, 6, .inr (.inl fRs)))], [(b 13, .inl (cY 0, 6, .inl fOt))], [(b 14, .inl (cY 1, 32, .inr (.inl fMi)))]] : List va_W).flatten s.heap := hP
  have hD : va_D A ([tO b, cO b (nI n) (nI k), oQ (cY 2) (b 3) (rr 1) 6, gI (cY 0) (rr 1) 6 fW 6, [(b 12, .inl (cY 1, 6, .inr (.inl fRs)))], [(b 13, .inl (cY 0, 6, .inl fOt))], [(b 14, .inl (cY 1, 32, .inr (.inl fMi)))]] : List va_W).flatten := hD
  refine lv_iconst (v := nI 0) hx hb dX7_countRests_0 (by decide) ?_
  refine lv_istore_n (lv' := [(1, .int (nI 0)), (0, .ref (b 11))]) hx hb dX7_countRests_1 rfl hl (by decide) rfl (fun ls hl => ?_)
  have L2 : ∀ q : Nat, q ≤ n → ∀ (gS : Nat → Int64) (gO : Nat → Int32) (gM : Nat → Int64), (PWI gS (RV g n k) q) → ∀ (H : Heap) (locs : List Loc), va_P D vwCl ([tO b, cO b (nI n) (nI k), oQ (cY 2) (b 3) (rr 1) 6, gI (cY 0) (rr 1) 6 fW 6, [(b 12, .inl (cY 1, 6, .inr (.inl gS)))], [(b 13, .inl (cY 0, 6, .inl gO))], [(b 14, .inl (cY 1, 32, .inr (.inl gM)))]] : List va_W).flatten H → va_D A ([tO b, cO b (nI n) (nI k), oQ (cY 2) (b 3) (rr 1) 6, gI (cY 0) (rr 1) 6 fW 6, [(b 12, .inl (cY 1, 6, .inr (.inl gS)))], [(b 13, .inl (cY 0, 6, .inl gO))], [(b 14, .inl (cY 1, 32, .inr (.inl gM)))]] : List va_W).flatten → va_S A s.heap H locs → ∀ (ls : Array Slot), lv_has ls 2 [(0, .ref (b 11)), (1, .int (nI q))] → W p l e ({ frames := 3, cells := 0, slots := 0, locals := 120 }) s m ([.ref (b 11)] : List Value).toArray below meth c H locs 0 0 (MQ below (qV (S := (Nat → Int64) × (Nat → Int32) × (Nat → Int64)) D cY (fun uu => ∀ i, i < n → uu.1 i = RV g n k i) (fun uu => [tO b, cO b (nI n) (nI k), oQ (cY 2) (b 3) (rr 1) 6, gI (cY 0) (rr 1) 6 fW 6, [(b 12, .inl (cY 1, 6, .inr (.inl uu.1)))], [(b 13, .inl (cY 0, 6, .inl uu.2.1))], [(b 14, .inl (cY 1, 32, .inr (.inl uu.2.2)))]]) A) ([.ref (b 11)] : List Value).toArray s 0 0 A) (F0 m 2 ls []) := by
    refine lpW n ?_
    intro q bdq ih2 gS gO gM hI H locs hP hD hS ls hl
    refine lv_iload_n hx hb dX7_countRests_2 rfl (lv_at hl 1 rfl) ?_
    refine lv_aload_n hx hb dX7_countRests_3 rfl (lv_at hl 0 rfl) ?_
    refine b_get (ci := 7) (v := .ref (b 1)) (C := RX7) (T := TX7) (N := 4) hx hb hts (by decide +kernel) hown hK hP 0 rfl rfl 0 (by decide) (hts (.fieldLink RX7 9 "ChanceHall$Trees" "chain" "LChanceHall$Chain;") (by decide +kernel)) (fun _ h9 => h9) rfl dX7_countRests_4 ?_
    refine b_get (ci := 0) (v := .int (nI n)) (C := RX0) (T := TX0) (N := 4) hx hb hts (by decide +kernel) hown hK hP 1 rfl rfl 0 (by decide) (hts (.fieldLink RX7 26 "ChanceHall$Chain" "states" "I") (by decide +kernel)) (fun _ h9 => h9) rfl dX7_countRests_7 ?_
    refine n_icmp_ge (tgt := 30) hx hb dX7_countRests_10 (by decide) (by omega) (by omega) (fun h10 => ?_) (fun h10 => ?_)
    · -- t
      exact r_v hx hb hr hlocks hP hD hS (gS, gO, gM) rfl (by (have e : q = n := by omega); rw [e] at hI; exact hI) dX7_countRests_30
    · -- f
      refine lv_aload_n hx hb dX7_countRests_13 rfl (lv_at hl 0 rfl) ?_
      refine b_get (ci := 7) (v := .ref (b 12)) (C := RX7) (T := TX7) (N := 4) hx hb hts (by decide +kernel) hown hK hP 0 rfl rfl 1 (by decide) (hts (.fieldLink RX7 15 "ChanceHall$Trees" "rests" "[J") (by decide +kernel)) (fun _ h9 => h9) rfl dX7_countRests_14 ?_
      refine lv_iload_n hx hb dX7_countRests_17 rfl (lv_at hl 1 rfl) ?_
      refine lv_aload_n hx hb dX7_countRests_18 rfl (lv_at hl 0 rfl) ?_
      refine lv_iload_n hx hb dX7_countRests_19 rfl (lv_at hl 1 rfl) ?_
      refine ca_l (CL := [tO b, cO b (nI n) (nI k), oQ (cY 2) (b 3) (rr 1) 6, gI (cY 0) (rr 1) 6 fW 6, [(b 13, .inl (cY 0, 6, .inl gO))], [(b 14, .inl (cY 1, 32, .inr (.inl gM)))]]) (va_runV (As := [.int (nI q)]) (rest := [.int (nI q), .ref (b 12)]) ⟨hx, hb, hml, hown, hts⟩ (c_X7_restOf l D cY H.size b rr n k fW gO gM g q (by omega) (by omega) (by omega) (by omega) hW (by omega)) (cwV 1 hts gX7_countRests_X7_restOf rfl rfl rfl (by decide +kernel) ⟨Nat.le_of_ble_eq_true rfl, Nat.le_of_ble_eq_true rfl⟩) (b_preV hVK hP hD [0, 1, 2, 3, 5, 6] rfl rfl 0 rfl rfl) rfl rfl hl.1 rfl (lv_room (Nat.le_of_ble_eq_true rfl)) dX7_countRests_20 ⟨Nat.le_refl _, Nat.le_refl _⟩) hP hD hS hA [0, 1, 2, 3, 5, 6] rfl rfl (fun _ => rfl) (fun r20 uu H locs hq hP hD hS => ?_)
      obtain ⟨fOt1_1, fMi1_2⟩ := uu
      try dsimp only at hq
      subst hq
      have hP : va_P D vwCl ([tO b, cO b (nI n) (nI k), oQ (cY 2) (b 3) (rr 1) 6, gI (cY 0) (rr 1) 6 fW 6, [(b 12, .inl (cY 1, 6, .inr (.inl gS)))], [(b 13, .inl (cY 0, 6, .inl fOt1_1))], [(b 14, .inl (cY 1, 32, .inr (.inl fMi1_2)))]] : List va_W).flatten H := hP
      have hD : va_D A ([tO b, cO b (nI n) (nI k), oQ (cY 2) (b 3) (rr 1) 6, gI (cY 0) (rr 1) 6 fW 6, [(b 12, .inl (cY 1, 6, .inr (.inl gS)))], [(b 13, .inl (cY 0, 6, .inl fOt1_1))], [(b 14, .inl (cY 1, 32, .inr (.inl fMi1_2)))]] : List va_W).flatten := hD
      refine b_last hx hb hK hP hD hS 4 1 rfl rfl (by omega) (by decide) dX7_countRests_23 (fun H locs hP hD hS => ?_)
      have hP : va_P D vwCl ([tO b, cO b (nI n) (nI k), oQ (cY 2) (b 3) (rr 1) 6, gI (cY 0) (rr 1) 6 fW 6, [(b 12, .inl (cY 1, 6, .inr (.inl (vp_updL gS q (RV g n k q)))))], [(b 13, .inl (cY 0, 6, .inl fOt1_1))], [(b 14, .inl (cY 1, 32, .inr (.inl fMi1_2)))]] : List va_W).flatten H := hP
      have hD : va_D A ([tO b, cO b (nI n) (nI k), oQ (cY 2) (b 3) (rr 1) 6, gI (cY 0) (rr 1) 6 fW 6, [(b 12, .inl (cY 1, 6, .inr (.inl (vp_updL gS q (RV g n k q)))))], [(b 13, .inl (cY 0, 6, .inl fOt1_1))], [(b 14, .inl (cY 1, 32, .inr (.inl fMi1_2)))]] : List va_W).flatten := hD
      refine lv_iinc (v := nI (q + 1)) (lv' := [(1, .int (nI (q + 1))), (0, .ref (b 11))]) hx hb dX7_countRests_24 hl (k := 1) rfl (nI_1 q) (by decide) rfl (fun ls hl => ?_)
      refine lv_goto (tgt := 2) hx hb dX7_countRests_27 (by decide) ?_
      exact ih2 (by omega) (vp_updL gS q (RV g n k q)) fOt1_1 fMi1_2 (PWI_s hI rfl) _ _ hP hD hS _ (lv_sub hl [1, 0] rfl)
  exact L2 0 (by omega) fRs fOt fMi PWI_0 _ _ hP hD hS _ (lv_sub hl [1, 0] rfl)

set_option maxHeartbeats 4000000 in
set_option maxRecDepth 100000 in
theorem c_X7_wholeRest (l : Launch) (D : va_G) (cY : Nat → ClassId) (sz : Nat) (b : Nat → Nat) (rr : Nat → Nat → Nat) (n : Nat) (k : Nat) (fW : Nat → Nat → Int32) (fRs : Nat → Int64) (fOt : Nat → Int32) (fMi : Nat → Int64) (g : Nat → Nat → Nat) (hn1 : 1 ≤ n) (hn6 : n ≤ 6) (hk1 : 1 ≤ k) (hk12 : k ≤ 12) (hW : ∀ i j, i < n → j < n → fW i j = nI (cnt (g i) j k)) : Met l yX7_wholeRest wsX7_wholeRest ({ frames := 4, cells := 0, slots := 0, locals := 160 }) (cP D cY [.ref (b 11)] [tO b, cO b (nI n) (nI k), oQ (cY 2) (b 3) (rr 1) 6, gI (cY 0) (rr 1) 6 fW 6, [(b 12, .inl (cY 1, 6, .inr (.inl fRs)))], [(b 13, .inl (cY 0, 6, .inl fOt))], [(b 14, .inl (cY 1, 32, .inr (.inl fMi)))]] sz) (qL (S := (Nat → Int64) × (Nat → Int32) × (Nat → Int64)) D cY (fun r uu => r = WR g n k ∧ ∀ i, i < n → uu.1 i = RV g n k i) (fun uu => [tO b, cO b (nI n) (nI k), oQ (cY 2) (b 3) (rr 1) 6, gI (cY 0) (rr 1) 6 fW 6, [(b 12, .inl (cY 1, 6, .inr (.inl uu.1)))], [(b 13, .inl (cY 0, 6, .inl uu.2.1))], [(b 14, .inl (cY 1, 32, .inr (.inl uu.2.2)))]]) (va_A ([tO b, cO b (nI n) (nI k), oQ (cY 2) (b 3) (rr 1) 6, gI (cY 0) (rr 1) 6 fW 6, [(b 12, .inl (cY 1, 6, .inr (.inl fRs)))], [(b 13, .inl (cY 0, 6, .inl fOt))], [(b 14, .inl (cY 1, 32, .inr (.inl fMi)))]] : List va_W).flatten sz)) 0 0 (va_A ([tO b, cO b (nI n) (nI k), oQ (cY 2) (b 3) (rr 1) 6, gI (cY 0) (rr 1) 6 fW 6, [(b 12, .inl (cY 1, 6, .inr (.inl fRs)))], [(b 13, .inl (cY 0, 6, .inl fOt))], [(b 14, .inl (cY 1, 32, .inr (.inl fMi)))]] : List va_W).flatten sz) := by
  refine mtB (Qc := fun A => qL (S := (Nat → Int64) × (Nat → Int32) × (Nat → Int64)) D cY (fun r uu => r = WR g n k ∧ ∀ i, i < n → uu.1 i = RV g n k i) (fun uu => [tO b, cO b (nI n) (nI k), oQ (cY 2) (b 3) (rr 1) 6, gI (cY 0) (rr 1) 6 fW 6, [(b 12, .inl (cY 1, 6, .inr (.inl uu.1)))], [(b 13, .inl (cY 0, 6, .inl uu.2.1))], [(b 14, .inl (cY 1, 32, .inr (.inl uu.2.2)))]]) A) (cc := cX7_wholeRest) (maxL := 4) (ret := (some .long)) (by decide) rfl (Nat.le_of_ble_eq_true rfl) ?_
  intro p e s m below meth c A ls hx hb hr hml hts hown hlocks hnm hsz hP hK hVK hD hS hA hl
  have hown : s.vm.findClass RX7 = some m.cls := hown
  have hl : lv_has ls 4 [(0, .ref (b 11))] := hl
  have hP : va_P D vwCl ([tO b, cO b (nI n) (nI k), oQ (cY 2) (b 3) (rr 1) 6, gI (cY 0) (rr 1) 6 fW 6, [(b 12, .inl (cY 1, 6, .inr (.inl fRs)))], [(b 13, .inl (cY 0, 6, .inl fOt))], [(b 14, .inl (cY 1, 32, .inr (.inl fMi)))]] : List va_W).flatten s.heap := hP
  have hD : va_D A ([tO b, cO b (nI n) (nI k), oQ (cY 2) (b 3) (rr 1) 6, gI (cY 0) (rr 1) 6 fW 6, [(b 12, .inl (cY 1, 6, .inr (.inl fRs)))], [(b 13, .inl (cY 0, 6, .inl fOt))], [(b 14, .inl (cY 1, 32, .inr (.inl fMi)))]] : List va_W).flatten := hD
  refine lv_aload_n hx hb dX7_wholeRest_0 rfl (lv_at hl 0 rfl) ?_
  refine ca_v (CL := [tO b, cO b (nI n) (nI k), oQ (cY 2) (b 3) (rr 1) 6, gI (cY 0) (rr 1) 6 fW 6, [(b 12, .inl (cY 1, 6, .inr (.inl fRs)))], [(b 13, .inl (cY 0, 6, .inl fOt))], [(b 14, .inl (cY 1, 32, .inr (.inl fMi)))]]) (va_runV (As := []) (rest := []) ⟨hx, hb, hml, hown, hts⟩ (c_X7_countRests l D cY s.heap.size b rr n k fW fRs fOt fMi g (by omega) (by omega) (by omega) (by omega) hW) (cwV 0 hts gX7_wholeRest_X7_countRests rfl rfl rfl (by decide +kernel) ⟨Nat.le_of_ble_eq_true rfl, Nat.le_of_ble_eq_true rfl⟩) (b_preV hVK hP hD [0, 1, 2, 3, 4, 5, 6] rfl rfl 0 rfl rfl) rfl rfl hl.1 rfl (lv_room (Nat.le_of_ble_eq_true rfl)) dX7_wholeRest_1 ⟨Nat.le_refl _, Nat.le_refl _⟩) hP hD hS hA [0, 1, 2, 3, 4, 5, 6] rfl rfl (fun _ => rfl) (fun uu H locs hq hP hD hS => ?_)
  obtain ⟨fRs1_1, fOt1_2, fMi1_3⟩ := uu
  try dsimp only at hq
  have q1 := hq
  have hP : va_P D vwCl ([tO b, cO b (nI n) (nI k), oQ (cY 2) (b 3) (rr 1) 6, gI (cY 0) (rr 1) 6 fW 6, [(b 12, .inl (cY 1, 6, .inr (.inl fRs1_1)))], [(b 13, .inl (cY 0, 6, .inl fOt1_2))], [(b 14, .inl (cY 1, 32, .inr (.inl fMi1_3)))]] : List va_W).flatten H := hP
  have hD : va_D A ([tO b, cO b (nI n) (nI k), oQ (cY 2) (b 3) (rr 1) 6, gI (cY 0) (rr 1) 6 fW 6, [(b 12, .inl (cY 1, 6, .inr (.inl fRs1_1)))], [(b 13, .inl (cY 0, 6, .inl fOt1_2))], [(b 14, .inl (cY 1, 32, .inr (.inl fMi1_3)))]] : List va_W).flatten := hD
  refine lv_lconst (v := lN 0) hx hb dX7_wholeRest_4 (by decide) ?_
  refine lv_lstore_n (lv' := [(1, .long (lN 0)), (0, .ref (b 11))]) hx hb dX7_wholeRest_5 rfl hl (by decide) rfl (fun ls hl => ?_)
  refine lv_iconst (v := nI 0) hx hb dX7_wholeRest_6 (by decide) ?_
  refine lv_istore_n (lv' := [(3, .int (nI 0)), (1, .long (lN 0)), (0, .ref (b 11))]) hx hb dX7_wholeRest_7 rfl hl (by decide) rfl (fun ls hl => ?_)
  have L8 : ∀ q : Nat, q ≤ n →  ∀ (H : Heap) (locs : List Loc), va_P D vwCl ([tO b, cO b (nI n) (nI k), oQ (cY 2) (b 3) (rr 1) 6, gI (cY 0) (rr 1) 6 fW 6, [(b 12, .inl (cY 1, 6, .inr (.inl fRs1_1)))], [(b 13, .inl (cY 0, 6, .inl fOt1_2))], [(b 14, .inl (cY 1, 32, .inr (.inl fMi1_3)))]] : List va_W).flatten H → va_D A ([tO b, cO b (nI n) (nI k), oQ (cY 2) (b 3) (rr 1) 6, gI (cY 0) (rr 1) 6 fW 6, [(b 12, .inl (cY 1, 6, .inr (.inl fRs1_1)))], [(b 13, .inl (cY 0, 6, .inl fOt1_2))], [(b 14, .inl (cY 1, 32, .inr (.inl fMi1_3)))]] : List va_W).flatten → va_S A s.heap H locs → ∀ (ls : Array Slot), lv_has ls 4 [(0, .ref (b 11)), (1, .long (sumL (RV g n k) q)), (3, .int (nI q))] → W p l e ({ frames := 4, cells := 0, slots := 0, locals := 160 }) s m ([.ref (b 11)] : List Value).toArray below meth c H locs 0 0 (MQ below (qL (S := (Nat → Int64) × (Nat → Int32) × (Nat → Int64)) D cY (fun r uu => r = WR g n k ∧ ∀ i, i < n → uu.1 i = RV g n k i) (fun uu => [tO b, cO b (nI n) (nI k), oQ (cY 2) (b 3) (rr 1) 6, gI (cY 0) (rr 1) 6 fW 6, [(b 12, .inl (cY 1, 6, .inr (.inl uu.1)))], [(b 13, .inl (cY 0, 6, .inl uu.2.1))], [(b 14, .inl (cY 1, 32, .inr (.inl uu.2.2)))]]) A) ([.ref (b 11)] : List Value).toArray s 0 0 A) (F0 m 8 ls []) := by
    refine lpW n ?_
    intro q bdq ih8   H locs hP hD hS ls hl
    refine lv_iload_n hx hb dX7_wholeRest_8 rfl (lv_at hl 2 rfl) ?_
    refine lv_aload_n hx hb dX7_wholeRest_9 rfl (lv_at hl 0 rfl) ?_
    refine b_get (ci := 7) (v := .ref (b 1)) (C := RX7) (T := TX7) (N := 4) hx hb hts (by decide +kernel) hown hK hP 0 rfl rfl 0 (by decide) (hts (.fieldLink RX7 9 "ChanceHall$Trees" "chain" "LChanceHall$Chain;") (by decide +kernel)) (fun _ h9 => h9) rfl dX7_wholeRest_10 ?_
    refine b_get (ci := 0) (v := .int (nI n)) (C := RX0) (T := TX0) (N := 4) hx hb hts (by decide +kernel) hown hK hP 1 rfl rfl 0 (by decide) (hts (.fieldLink RX7 26 "ChanceHall$Chain" "states" "I") (by decide +kernel)) (fun _ h9 => h9) rfl dX7_wholeRest_13 ?_
    refine n_icmp_ge (tgt := 34) hx hb dX7_wholeRest_16 (by decide) (by omega) (by omega) (fun h16 => ?_) (fun h16 => ?_)
    · -- t
      refine lv_lload_n hx hb dX7_wholeRest_34 rfl (lv_at hl 1 rfl) ?_
      exact r_l hx hb hr hlocks hP hD hS (fRs1_1, fOt1_2, fMi1_3) rfl (⟨by (have e : q = n := by omega); subst e; rfl, q1⟩) dX7_wholeRest_35
    · -- f
      refine lv_lload_n hx hb dX7_wholeRest_19 rfl (lv_at hl 1 rfl) ?_
      refine lv_aload_n hx hb dX7_wholeRest_20 rfl (lv_at hl 0 rfl) ?_
      refine b_get (ci := 7) (v := .ref (b 12)) (C := RX7) (T := TX7) (N := 4) hx hb hts (by decide +kernel) hown hK hP 0 rfl rfl 1 (by decide) (hts (.fieldLink RX7 15 "ChanceHall$Trees" "rests" "[J") (by decide +kernel)) (fun _ h9 => h9) rfl dX7_wholeRest_21 ?_
      refine lv_iload_n hx hb dX7_wholeRest_24 rfl (lv_at hl 2 rfl) ?_
      refine b_lald hx hb hK hP 4 1 rfl rfl (by omega) (by decide) dX7_wholeRest_25 ?_
      refine eql (x' := RV g n k q) (q1 q (by omega)) ?_
      refine lv_ladd hx hb dX7_wholeRest_26 ?_
      refine lv_lstore_n (lv' := [(1, .long ((sumL (RV g n k) q) + (RV g n k q))), (0, .ref (b 11)), (3, .int (nI q))]) hx hb dX7_wholeRest_27 rfl hl (by decide) rfl (fun ls hl => ?_)
      refine lv_iinc (v := nI (q + 1)) (lv' := [(3, .int (nI (q + 1))), (1, .long ((sumL (RV g n k) q) + (RV g n k q))), (0, .ref (b 11))]) hx hb dX7_wholeRest_28 hl (k := 2) rfl (nI_1 q) (by decide) rfl (fun ls hl => ?_)
      refine lv_goto (tgt := 8) hx hb dX7_wholeRest_31 (by decide) ?_
      exact ih8 (by omega)   _ _ hP hD hS _ (lv_sub hl [2, 1, 0] rfl)
  exact L8 0 (by omega)   _ _ hP hD hS _ (lv_sub hl [2, 1, 0] rfl)

set_option maxHeartbeats 4000000 in
set_option maxRecDepth 100000 in
theorem c_X7_countAhead (l : Launch) (D : va_G) (cY : Nat → ClassId) (sz : Nat) (b : Nat → Nat) (n : Nat) (k : Nat) (fRs : Nat → Int64) (g : Nat → Nat → Nat) (i : Nat) (hn1 : 1 ≤ n) (hn6 : n ≤ 6) (hk1 : 1 ≤ k) (hk12 : k ≤ 12) (hi : i < n) (hS2 : ∀ i, i < n → fRs i = RV g n k i) : Met l yX7_countAhead wsX7_countAhead ({ frames := 0, cells := 0, slots := 0, locals := 0 }) (cP D cY [.ref (b 11), .int (nI i)] [tO b, cO b (nI n) (nI k), [(b 12, .inl (cY 1, 6, .inr (.inl fRs)))]] sz) (qI (S := Unit) D cY (fun r uu => r = nI (plc (RV g n k) i n)) (fun uu => [tO b, cO b (nI n) (nI k), [(b 12, .inl (cY 1, 6, .inr (.inl fRs)))]]) (va_A ([tO b, cO b (nI n) (nI k), [(b 12, .inl (cY 1, 6, .inr (.inl fRs)))]] : List va_W).flatten sz)) 0 0 (va_A ([tO b, cO b (nI n) (nI k), [(b 12, .inl (cY 1, 6, .inr (.inl fRs)))]] : List va_W).flatten sz) := by
  refine mtB (Qc := fun A => qI (S := Unit) D cY (fun r uu => r = nI (plc (RV g n k) i n)) (fun uu => [tO b, cO b (nI n) (nI k), [(b 12, .inl (cY 1, 6, .inr (.inl fRs)))]]) A) (cc := cX7_countAhead) (maxL := 4) (ret := (some .int)) (by decide) rfl (Nat.le_of_ble_eq_true rfl) ?_
  intro p e s m below meth c A ls hx hb hr hml hts hown hlocks hnm hsz hP hK hVK hD hS hA hl
  have hown : s.vm.findClass RX7 = some m.cls := hown
  have hl : lv_has ls 4 [(0, .ref (b 11)), (1, .int (nI i))] := hl
  have hP : va_P D vwCl ([tO b, cO b (nI n) (nI k), [(b 12, .inl (cY 1, 6, .inr (.inl fRs)))]] : List va_W).flatten s.heap := hP
  have hD : va_D A ([tO b, cO b (nI n) (nI k), [(b 12, .inl (cY 1, 6, .inr (.inl fRs)))]] : List va_W).flatten := hD
  refine lv_iconst (v := nI 0) hx hb dX7_countAhead_0 (by decide) ?_
  refine lv_istore_n (lv' := [(2, .int (nI 0)), (0, .ref (b 11)), (1, .int (nI i))]) hx hb dX7_countAhead_1 rfl hl (by decide) rfl (fun ls hl => ?_)
  refine lv_iconst (v := nI 0) hx hb dX7_countAhead_2 (by decide) ?_
  refine lv_istore_n (lv' := [(3, .int (nI 0)), (2, .int (nI 0)), (0, .ref (b 11)), (1, .int (nI i))]) hx hb dX7_countAhead_3 rfl hl (by decide) rfl (fun ls hl => ?_)
  have L4 : ∀ q : Nat, q ≤ n →  ∀ (H : Heap) (locs : List Loc), va_P D vwCl ([tO b, cO b (nI n) (nI k), [(b 12, .inl (cY 1, 6, .inr (.inl fRs)))]] : List va_W).flatten H → va_D A ([tO b, cO b (nI n) (nI k), [(b 12, .inl (cY 1, 6, .inr (.inl fRs)))]] : List va_W).flatten → va_S A s.heap H locs → ∀ (ls : Array Slot), lv_has ls 4 [(0, .ref (b 11)), (1, .int (nI i)), (2, .int (nI (plc (RV g n k) i q))), (3, .int (nI q))] → W p l e ({ frames := 0, cells := 0, slots := 0, locals := 0 }) s m ([.ref (b 11), .int (nI i)] : List Value).toArray below meth c H locs 0 0 (MQ below (qI (S := Unit) D cY (fun r uu => r = nI (plc (RV g n k) i n)) (fun uu => [tO b, cO b (nI n) (nI k), [(b 12, .inl (cY 1, 6, .inr (.inl fRs)))]]) A) ([.ref (b 11), .int (nI i)] : List Value).toArray s 0 0 A) (F0 m 4 ls []) := by
    refine lpW n ?_
    intro q bdq ih4   H locs hP hD hS ls hl
    refine lv_iload_n hx hb dX7_countAhead_4 rfl (lv_at hl 3 rfl) ?_
    refine lv_aload_n hx hb dX7_countAhead_5 rfl (lv_at hl 0 rfl) ?_
    refine b_get (ci := 7) (v := .ref (b 1)) (C := RX7) (T := TX7) (N := 4) hx hb hts (by decide +kernel) hown hK hP 0 rfl rfl 0 (by decide) (hts (.fieldLink RX7 9 "ChanceHall$Trees" "chain" "LChanceHall$Chain;") (by decide +kernel)) (fun _ h9 => h9) rfl dX7_countAhead_6 ?_
    refine b_get (ci := 0) (v := .int (nI n)) (C := RX0) (T := TX0) (N := 4) hx hb hts (by decide +kernel) hown hK hP 1 rfl rfl 0 (by decide) (hts (.fieldLink RX7 26 "ChanceHall$Chain" "states" "I") (by decide +kernel)) (fun _ h9 => h9) rfl dX7_countAhead_9 ?_
    refine n_icmp_ge (tgt := 61) hx hb dX7_countAhead_12 (by decide) (by omega) (by omega) (fun h12 => ?_) (fun h12 => ?_)
    · -- t
      refine lv_iload_n hx hb dX7_countAhead_61 rfl (lv_at hl 2 rfl) ?_
      exact r_i hx hb hr hlocks hP hD hS () rfl (by (have e : q = n := by omega); subst e; rfl) dX7_countAhead_62
    · -- f
      refine lv_aload_n hx hb dX7_countAhead_15 rfl (lv_at hl 0 rfl) ?_
      refine b_get (ci := 7) (v := .ref (b 12)) (C := RX7) (T := TX7) (N := 4) hx hb hts (by decide +kernel) hown hK hP 0 rfl rfl 1 (by decide) (hts (.fieldLink RX7 15 "ChanceHall$Trees" "rests" "[J") (by decide +kernel)) (fun _ h9 => h9) rfl dX7_countAhead_16 ?_
      refine lv_iload_n hx hb dX7_countAhead_19 rfl (lv_at hl 3 rfl) ?_
      refine b_lald hx hb hK hP 2 1 rfl rfl (by omega) (by decide) dX7_countAhead_20 ?_
      refine eql (x' := RV g n k q) (hS2 q (by omega)) ?_
      refine lv_aload_n hx hb dX7_countAhead_21 rfl (lv_at hl 0 rfl) ?_
      refine b_get (ci := 7) (v := .ref (b 12)) (C := RX7) (T := TX7) (N := 4) hx hb hts (by decide +kernel) hown hK hP 0 rfl rfl 1 (by decide) (hts (.fieldLink RX7 15 "ChanceHall$Trees" "rests" "[J") (by decide +kernel)) (fun _ h9 => h9) rfl dX7_countAhead_22 ?_
      refine lv_iload_n hx hb dX7_countAhead_25 rfl (lv_at hl 1 rfl) ?_
      refine b_lald hx hb hK hP 2 1 rfl rfl (by omega) (by decide) dX7_countAhead_26 ?_
      refine eql (x' := RV g n k i) (hS2 i hi) ?_
      refine W.lcmp hx hb dX7_countAhead_27 ?_
      refine l_if_gt (tgt := 52) hx hb dX7_countAhead_28 (by decide) (fun h28 => ?_) (fun h28 => ?_)
      · -- t
        refine lv_iinc (v := nI (plc (RV g n k) i q + 1)) (lv' := [(2, .int (nI (plc (RV g n k) i q + 1))), (0, .ref (b 11)), (1, .int (nI i)), (3, .int (nI q))]) hx hb dX7_countAhead_52 hl (k := 2) rfl (nI_1 (plc (RV g n k) i q)) (by decide) rfl (fun ls hl => ?_)
        refine lv_iinc (v := nI (q + 1)) (lv' := [(3, .int (nI (q + 1))), (2, .int (nI (plc (RV g n k) i q + 1))), (0, .ref (b 11)), (1, .int (nI i))]) hx hb dX7_countAhead_55 hl (k := 3) rfl (nI_1 q) (by decide) rfl (fun ls hl => ?_)
        refine lv_goto (tgt := 4) hx hb dX7_countAhead_58 (by decide) ?_
        exact ih4 (by omega)   _ _ hP hD hS _ (lv_sub hl [2, 3, 1, 0] (by first | (rw [← plc_t (or_1 (dec_t h28))]; rfl) | (rw [← plc_t (or_2 (and_tt (dec_t h44) h49))]; rfl) | (rw [← plc_f (or_ff (dec_f h28) (and_f2 (by omega)))]; rfl) | (rw [← plc_f (or_ff (dec_f h28) (and_f1 (dec_f h44)))]; rfl)))
      · -- f
        refine lv_aload_n hx hb dX7_countAhead_31 rfl (lv_at hl 0 rfl) ?_
        refine b_get (ci := 7) (v := .ref (b 12)) (C := RX7) (T := TX7) (N := 4) hx hb hts (by decide +kernel) hown hK hP 0 rfl rfl 1 (by decide) (hts (.fieldLink RX7 15 "ChanceHall$Trees" "rests" "[J") (by decide +kernel)) (fun _ h9 => h9) rfl dX7_countAhead_32 ?_
        refine lv_iload_n hx hb dX7_countAhead_35 rfl (lv_at hl 3 rfl) ?_
        refine b_lald hx hb hK hP 2 1 rfl rfl (by omega) (by decide) dX7_countAhead_36 ?_
        refine eql (x' := RV g n k q) (hS2 q (by omega)) ?_
        refine lv_aload_n hx hb dX7_countAhead_37 rfl (lv_at hl 0 rfl) ?_
        refine b_get (ci := 7) (v := .ref (b 12)) (C := RX7) (T := TX7) (N := 4) hx hb hts (by decide +kernel) hown hK hP 0 rfl rfl 1 (by decide) (hts (.fieldLink RX7 15 "ChanceHall$Trees" "rests" "[J") (by decide +kernel)) (fun _ h9 => h9) rfl dX7_countAhead_38 ?_
        refine lv_iload_n hx hb dX7_countAhead_41 rfl (lv_at hl 1 rfl) ?_
        refine b_lald hx hb hK hP 2 1 rfl rfl (by omega) (by decide) dX7_countAhead_42 ?_
        refine eql (x' := RV g n k i) (hS2 i hi) ?_
        refine W.lcmp hx hb dX7_countAhead_43 ?_
        refine l_if_ne (tgt := 55) hx hb dX7_countAhead_44 (by decide) (fun h44 => ?_) (fun h44 => ?_)
        · -- t
          refine lv_iinc (v := nI (q + 1)) (lv' := [(3, .int (nI (q + 1))), (0, .ref (b 11)), (1, .int (nI i)), (2, .int (nI (plc (RV g n k) i q)))]) hx hb dX7_countAhead_55 hl (k := 3) rfl (nI_1 q) (by decide) rfl (fun ls hl => ?_)
          refine lv_goto (tgt := 4) hx hb dX7_countAhead_58 (by decide) ?_
          exact ih4 (by omega)   _ _ hP hD hS _ (lv_sub hl [1, 2, 3, 0] (by first | (rw [← plc_t (or_1 (dec_t h28))]; rfl) | (rw [← plc_t (or_2 (and_tt (dec_t h44) h49))]; rfl) | (rw [← plc_f (or_ff (dec_f h28) (and_f2 (by omega)))]; rfl) | (rw [← plc_f (or_ff (dec_f h28) (and_f1 (dec_f h44)))]; rfl)))
        · -- f
          refine lv_iload_n hx hb dX7_countAhead_47 rfl (lv_at hl 3 rfl) ?_
          refine lv_iload_n hx hb dX7_countAhead_48 rfl (lv_at hl 1 rfl) ?_
          refine n_icmp_ge (tgt := 55) hx hb dX7_countAhead_49 (by decide) (by omega) (by omega) (fun h49 => ?_) (fun h49 => ?_)
          · -- t
            refine lv_iinc (v := nI (q + 1)) (lv' := [(3, .int (nI (q + 1))), (0, .ref (b 11)), (1, .int (nI i)), (2, .int (nI (plc (RV g n k) i q)))]) hx hb dX7_countAhead_55 hl (k := 3) rfl (nI_1 q) (by decide) rfl (fun ls hl => ?_)
            refine lv_goto (tgt := 4) hx hb dX7_countAhead_58 (by decide) ?_
            exact ih4 (by omega)   _ _ hP hD hS _ (lv_sub hl [1, 2, 3, 0] (by first | (rw [← plc_t (or_1 (dec_t h28))]; rfl) | (rw [← plc_t (or_2 (and_tt (dec_t h44) h49))]; rfl) | (rw [← plc_f (or_ff (dec_f h28) (and_f2 (by omega)))]; rfl) | (rw [← plc_f (or_ff (dec_f h28) (and_f1 (dec_f h44)))]; rfl)))
          · -- f
            refine lv_iinc (v := nI (plc (RV g n k) i q + 1)) (lv' := [(2, .int (nI (plc (RV g n k) i q + 1))), (0, .ref (b 11)), (1, .int (nI i)), (3, .int (nI q))]) hx hb dX7_countAhead_52 hl (k := 2) rfl (nI_1 (plc (RV g n k) i q)) (by decide) rfl (fun ls hl => ?_)
            refine lv_iinc (v := nI (q + 1)) (lv' := [(3, .int (nI (q + 1))), (2, .int (nI (plc (RV g n k) i q + 1))), (0, .ref (b 11)), (1, .int (nI i))]) hx hb dX7_countAhead_55 hl (k := 3) rfl (nI_1 q) (by decide) rfl (fun ls hl => ?_)
            refine lv_goto (tgt := 4) hx hb dX7_countAhead_58 (by decide) ?_
            exact ih4 (by omega)   _ _ hP hD hS _ (lv_sub hl [2, 3, 1, 0] (by first | (rw [← plc_t (or_1 (dec_t h28))]; rfl) | (rw [← plc_t (or_2 (and_tt (dec_t h44) h49))]; rfl) | (rw [← plc_f (or_ff (dec_f h28) (and_f2 (by omega)))]; rfl) | (rw [← plc_f (or_ff (dec_f h28) (and_f1 (dec_f h44)))]; rfl)))
  exact L4 0 (by omega)   _ _ hP hD hS _ (lv_sub hl [2, 3, 1, 0] rfl)

set_option maxHeartbeats 4000000 in
set_option maxRecDepth 100000 in
theorem c_X7_isTheSameBackwards (l : Launch) (D : va_G) (cY : Nat → ClassId) (sz : Nat) (b : Nat → Nat) (rr : Nat → Nat → Nat) (n : Nat) (k : Nat) (fW : Nat → Nat → Int32) (fRs : Nat → Int64) (fOt : Nat → Int32) (fMi : Nat → Int64) (g : Nat → Nat → Nat) (hn1 : 1 ≤ n) (hn6 : n ≤ 6) (hk1 : 1 ≤ k) (hk12 : k ≤ 12) (hW : ∀ i j, i < n → j < n → fW i j = nI (cnt (g i) j k)) : Met l yX7_isTheSameBackwards wsX7_isTheSameBackwards ({ frames := 5, cells := 0, slots := 0, locals := 200 }) (cP D cY [.ref (b 11)] [tO b, cO b (nI n) (nI k), oQ (cY 2) (b 3) (rr 1) 6, gI (cY 0) (rr 1) 6 fW 6, [(b 12, .inl (cY 1, 6, .inr (.inl fRs)))], [(b 13, .inl (cY 0, 6, .inl fOt))], [(b 14, .inl (cY 1, 32, .inr (.inl fMi)))]] sz) (qI (S := (Nat → Int64) × (Nat → Int32) × (Nat → Int64)) D cY (fun r uu => r = bI (revA g n k)) (fun uu => [tO b, cO b (nI n) (nI k), oQ (cY 2) (b 3) (rr 1) 6, gI (cY 0) (rr 1) 6 fW 6, [(b 12, .inl (cY 1, 6, .inr (.inl uu.1)))], [(b 13, .inl (cY 0, 6, .inl uu.2.1))], [(b 14, .inl (cY 1, 32, .inr (.inl uu.2.2)))]]) (va_A ([tO b, cO b (nI n) (nI k), oQ (cY 2) (b 3) (rr 1) 6, gI (cY 0) (rr 1) 6 fW 6, [(b 12, .inl (cY 1, 6, .inr (.inl fRs)))], [(b 13, .inl (cY 0, 6, .inl fOt))], [(b 14, .inl (cY 1, 32, .inr (.inl fMi)))]] : List va_W).flatten sz)) 0 0 (va_A ([tO b, cO b (nI n) (nI k), oQ (cY 2) (b 3) (rr 1) 6, gI (cY 0) (rr 1) 6 fW 6, [(b 12, .inl (cY 1, 6, .inr (.inl fRs)))], [(b 13, .inl (cY 0, 6, .inl fOt))], [(b 14, .inl (cY 1, 32, .inr (.inl fMi)))]] : List va_W).flatten sz) := by
  refine mtB (Qc := fun A => qI (S := (Nat → Int64) × (Nat → Int32) × (Nat → Int64)) D cY (fun r uu => r = bI (revA g n k)) (fun uu => [tO b, cO b (nI n) (nI k), oQ (cY 2) (b 3) (rr 1) 6, gI (cY 0) (rr 1) 6 fW 6, [(b 12, .inl (cY 1, 6, .inr (.inl uu.1)))], [(b 13, .inl (cY 0, 6, .inl uu.2.1))], [(b 14, .inl (cY 1, 32, .inr (.inl uu.2.2)))]]) A) (cc := cX7_isTheSameBackwards) (maxL := 3) (ret := (some .boolean)) (by decide) rfl (Nat.le_of_ble_eq_true rfl) ?_
  intro p e s m below meth c A ls hx hb hr hml hts hown hlocks hnm hsz hP hK hVK hD hS hA hl
  have hown : s.vm.findClass RX7 = some m.cls := hown
  have hl : lv_has ls 3 [(0, .ref (b 11))] := hl
  have hP : va_P D vwCl ([tO b, cO b (nI n) (nI k), oQ (cY 2) (b 3) (rr 1) 6, gI (cY 0) (rr 1) 6 fW 6, [(b 12, .inl (cY 1, 6, .inr (.inl fRs)))], [(b 13, .inl (cY 0, 6, .inl fOt))], [(b 14, .inl (cY 1, 32, .inr (.inl fMi)))]] : List va_W).flatten s.heap := hP
  have hD : va_D A ([tO b, cO b (nI n) (nI k), oQ (cY 2) (b 3) (rr 1) 6, gI (cY 0) (rr 1) 6 fW 6, [(b 12, .inl (cY 1, 6, .inr (.inl fRs)))], [(b 13, .inl (cY 0, 6, .inl fOt))], [(b 14, .inl (cY 1, 32, .inr (.inl fMi)))]] : List va_W).flatten := hD
  refine lv_aload_n hx hb dX7_isTheSameBackwards_0 rfl (lv_at hl 0 rfl) ?_
  refine ca_l (CL := [tO b, cO b (nI n) (nI k), oQ (cY 2) (b 3) (rr 1) 6, gI (cY 0) (rr 1) 6 fW 6, [(b 12, .inl (cY 1, 6, .inr (.inl fRs)))], [(b 13, .inl (cY 0, 6, .inl fOt))], [(b 14, .inl (cY 1, 32, .inr (.inl fMi)))]]) (va_runV (As := []) (rest := []) ⟨hx, hb, hml, hown, hts⟩ (c_X7_wholeRest l D cY s.heap.size b rr n k fW fRs fOt fMi g (by omega) (by omega) (by omega) (by omega) hW) (cwV 0 hts gX7_isTheSameBackwards_X7_wholeRest rfl rfl rfl (by decide +kernel) ⟨Nat.le_of_ble_eq_true rfl, Nat.le_of_ble_eq_true rfl⟩) (b_preV hVK hP hD [0, 1, 2, 3, 4, 5, 6] rfl rfl 0 rfl rfl) rfl rfl hl.1 rfl (lv_room (Nat.le_of_ble_eq_true rfl)) dX7_isTheSameBackwards_1 ⟨Nat.le_refl _, Nat.le_refl _⟩) hP hD hS hA [0, 1, 2, 3, 4, 5, 6] rfl rfl (fun _ => rfl) (fun r1 uu H locs hq hP hD hS => ?_)
  obtain ⟨fRs1_1, fOt1_2, fMi1_3⟩ := uu
  try dsimp only at hq
  obtain ⟨rfl, q1⟩ := hq
  have hP : va_P D vwCl ([tO b, cO b (nI n) (nI k), oQ (cY 2) (b 3) (rr 1) 6, gI (cY 0) (rr 1) 6 fW 6, [(b 12, .inl (cY 1, 6, .inr (.inl fRs1_1)))], [(b 13, .inl (cY 0, 6, .inl fOt1_2))], [(b 14, .inl (cY 1, 32, .inr (.inl fMi1_3)))]] : List va_W).flatten H := hP
  have hD : va_D A ([tO b, cO b (nI n) (nI k), oQ (cY 2) (b 3) (rr 1) 6, gI (cY 0) (rr 1) 6 fW 6, [(b 12, .inl (cY 1, 6, .inr (.inl fRs1_1)))], [(b 13, .inl (cY 0, 6, .inl fOt1_2))], [(b 14, .inl (cY 1, 32, .inr (.inl fMi1_3)))]] : List va_W).flatten := hD
  refine lv_lconst (v := lN 0) hx hb dX7_isTheSameBackwards_4 (by decide) ?_
  refine W.lcmp hx hb dX7_isTheSameBackwards_5 ?_
  refine l_if_ne (tgt := 11) hx hb dX7_isTheSameBackwards_6 (by decide) (fun h6 => ?_) (fun h6 => ?_)
  · -- t
    refine lv_iconst (v := nI 0) hx hb dX7_isTheSameBackwards_11 (by decide) ?_
    refine lv_istore_n (lv' := [(1, .int (nI 0)), (0, .ref (b 11))]) hx hb dX7_isTheSameBackwards_12 rfl hl (by decide) rfl (fun ls hl => ?_)
    have L13 : ∀ u : Nat, u ≤ n →  (∀ o w, o < u → o < w → w < n → rvG g n k o w = true) → ∀ (H : Heap) (locs : List Loc), va_P D vwCl ([tO b, cO b (nI n) (nI k), oQ (cY 2) (b 3) (rr 1) 6, gI (cY 0) (rr 1) 6 fW 6, [(b 12, .inl (cY 1, 6, .inr (.inl fRs1_1)))], [(b 13, .inl (cY 0, 6, .inl fOt1_2))], [(b 14, .inl (cY 1, 32, .inr (.inl fMi1_3)))]] : List va_W).flatten H → va_D A ([tO b, cO b (nI n) (nI k), oQ (cY 2) (b 3) (rr 1) 6, gI (cY 0) (rr 1) 6 fW 6, [(b 12, .inl (cY 1, 6, .inr (.inl fRs1_1)))], [(b 13, .inl (cY 0, 6, .inl fOt1_2))], [(b 14, .inl (cY 1, 32, .inr (.inl fMi1_3)))]] : List va_W).flatten → va_S A s.heap H locs → ∀ (ls : Array Slot), lv_has ls 3 [(0, .ref (b 11)), (1, .int (nI u))] → W p l e ({ frames := 5, cells := 0, slots := 0, locals := 200 }) s m ([.ref (b 11)] : List Value).toArray below meth c H locs 0 0 (MQ below (qI (S := (Nat → Int64) × (Nat → Int32) × (Nat → Int64)) D cY (fun r uu => r = bI (revA g n k)) (fun uu => [tO b, cO b (nI n) (nI k), oQ (cY 2) (b 3) (rr 1) 6, gI (cY 0) (rr 1) 6 fW 6, [(b 12, .inl (cY 1, 6, .inr (.inl uu.1)))], [(b 13, .inl (cY 0, 6, .inl uu.2.1))], [(b 14, .inl (cY 1, 32, .inr (.inl uu.2.2)))]]) A) ([.ref (b 11)] : List Value).toArray s 0 0 A) (F0 m 13 ls []) := by
      refine lpW n ?_
      intro u bdu ih13  hI H locs hP hD hS ls hl
      refine lv_iload_n hx hb dX7_isTheSameBackwards_13 rfl (lv_at hl 1 rfl) ?_
      refine lv_aload_n hx hb dX7_isTheSameBackwards_14 rfl (lv_at hl 0 rfl) ?_
      refine b_get (ci := 7) (v := .ref (b 1)) (C := RX7) (T := TX7) (N := 4) hx hb hts (by decide +kernel) hown hK hP 0 rfl rfl 0 (by decide) (hts (.fieldLink RX7 9 "ChanceHall$Trees" "chain" "LChanceHall$Chain;") (by decide +kernel)) (fun _ h9 => h9) rfl dX7_isTheSameBackwards_15 ?_
      refine b_get (ci := 0) (v := .int (nI n)) (C := RX0) (T := TX0) (N := 4) hx hb hts (by decide +kernel) hown hK hP 1 rfl rfl 0 (by decide) (hts (.fieldLink RX7 26 "ChanceHall$Chain" "states" "I") (by decide +kernel)) (fun _ h9 => h9) rfl dX7_isTheSameBackwards_18 ?_
      refine n_icmp_ge (tgt := 95) hx hb dX7_isTheSameBackwards_21 (by decide) (by omega) (by omega) (fun h21 => ?_) (fun h21 => ?_)
      · -- t
        refine lv_iconst (v := nI 1) hx hb dX7_isTheSameBackwards_95 (by decide) ?_
        refine eqi (x' := bI true) rfl ?_
        exact r_z hx hb hr hlocks hP hD hS (fRs1_1, fOt1_2, fMi1_3) rfl (congrArg bI (revA_t h6 (fun o w h1 h2 => hI o w (by omega) h1 h2)).symm) dX7_isTheSameBackwards_96
      · -- f
        refine lv_iload_n hx hb dX7_isTheSameBackwards_24 rfl (lv_at hl 1 rfl) ?_
        refine lv_iconst (v := nI 1) hx hb dX7_isTheSameBackwards_25 (by decide) ?_
        refine lv_iadd hx hb dX7_isTheSameBackwards_26 ?_
        refine eqi (x' := nI (u + 1)) (nI_add _ _) ?_
        refine lv_istore_n (lv' := [(2, .int (nI (u + 1))), (0, .ref (b 11)), (1, .int (nI u))]) hx hb dX7_isTheSameBackwards_27 rfl hl (by decide) rfl (fun ls hl => ?_)
        have L28 : ∀ w : Nat, w ≤ n →  (∀ z, u < z → z < w → rvG g n k u z = true) → (u < w) → ∀ (H : Heap) (locs : List Loc), va_P D vwCl ([tO b, cO b (nI n) (nI k), oQ (cY 2) (b 3) (rr 1) 6, gI (cY 0) (rr 1) 6 fW 6, [(b 12, .inl (cY 1, 6, .inr (.inl fRs1_1)))], [(b 13, .inl (cY 0, 6, .inl fOt1_2))], [(b 14, .inl (cY 1, 32, .inr (.inl fMi1_3)))]] : List va_W).flatten H → va_D A ([tO b, cO b (nI n) (nI k), oQ (cY 2) (b 3) (rr 1) 6, gI (cY 0) (rr 1) 6 fW 6, [(b 12, .inl (cY 1, 6, .inr (.inl fRs1_1)))], [(b 13, .inl (cY 0, 6, .inl fOt1_2))], [(b 14, .inl (cY 1, 32, .inr (.inl fMi1_3)))]] : List va_W).flatten → va_S A s.heap H locs → ∀ (ls : Array Slot), lv_has ls 3 [(0, .ref (b 11)), (1, .int (nI u)), (2, .int (nI w))] → W p l e ({ frames := 5, cells := 0, slots := 0, locals := 200 }) s m ([.ref (b 11)] : List Value).toArray below meth c H locs 0 0 (MQ below (qI (S := (Nat → Int64) × (Nat → Int32) × (Nat → Int64)) D cY (fun r uu => r = bI (revA g n k)) (fun uu => [tO b, cO b (nI n) (nI k), oQ (cY 2) (b 3) (rr 1) 6, gI (cY 0) (rr 1) 6 fW 6, [(b 12, .inl (cY 1, 6, .inr (.inl uu.1)))], [(b 13, .inl (cY 0, 6, .inl uu.2.1))], [(b 14, .inl (cY 1, 32, .inr (.inl uu.2.2)))]]) A) ([.ref (b 11)] : List Value).toArray s 0 0 A) (F0 m 28 ls []) := by
          refine lpW n ?_
          intro w bdw ih28  hJ huw H locs hP hD hS ls hl
          refine lv_iload_n hx hb dX7_isTheSameBackwards_28 rfl (lv_at hl 2 rfl) ?_
          refine lv_aload_n hx hb dX7_isTheSameBackwards_29 rfl (lv_at hl 0 rfl) ?_
          refine b_get (ci := 7) (v := .ref (b 1)) (C := RX7) (T := TX7) (N := 4) hx hb hts (by decide +kernel) hown hK hP 0 rfl rfl 0 (by decide) (hts (.fieldLink RX7 9 "ChanceHall$Trees" "chain" "LChanceHall$Chain;") (by decide +kernel)) (fun _ h9 => h9) rfl dX7_isTheSameBackwards_30 ?_
          refine b_get (ci := 0) (v := .int (nI n)) (C := RX0) (T := TX0) (N := 4) hx hb hts (by decide +kernel) hown hK hP 1 rfl rfl 0 (by decide) (hts (.fieldLink RX7 26 "ChanceHall$Chain" "states" "I") (by decide +kernel)) (fun _ h9 => h9) rfl dX7_isTheSameBackwards_33 ?_
          refine n_icmp_ge (tgt := 89) hx hb dX7_isTheSameBackwards_36 (by decide) (by omega) (by omega) (fun h36 => ?_) (fun h36 => ?_)
          · -- t
            refine lv_iinc (v := nI (u + 1)) (lv' := [(1, .int (nI (u + 1))), (0, .ref (b 11)), (2, .int (nI w))]) hx hb dX7_isTheSameBackwards_89 hl (k := 1) rfl (nI_1 u) (by decide) rfl (fun ls hl => ?_)
            refine lv_goto (tgt := 13) hx hb dX7_isTheSameBackwards_92 (by decide) ?_
            exact ih13 (by omega)  (fun o w h1 h2 h3 => by
  by_cases e : o = u
  · subst e; exact hJ w h2 (by omega)
  · exact hI o w (by omega) h2 h3) _ _ hP hD hS _ (lv_sub hl [1, 0] rfl)
          · -- f
            refine lv_aload_n hx hb dX7_isTheSameBackwards_39 rfl (lv_at hl 0 rfl) ?_
            refine b_get (ci := 7) (v := .ref (b 12)) (C := RX7) (T := TX7) (N := 4) hx hb hts (by decide +kernel) hown hK hP 0 rfl rfl 1 (by decide) (hts (.fieldLink RX7 15 "ChanceHall$Trees" "rests" "[J") (by decide +kernel)) (fun _ h9 => h9) rfl dX7_isTheSameBackwards_40 ?_
            refine lv_iload_n hx hb dX7_isTheSameBackwards_43 rfl (lv_at hl 1 rfl) ?_
            refine b_lald hx hb hK hP 4 1 rfl rfl (by omega) (by decide) dX7_isTheSameBackwards_44 ?_
            refine eql (x' := RV g n k u) (q1 u (by omega)) ?_
            refine lv_aload_n hx hb dX7_isTheSameBackwards_45 rfl (lv_at hl 0 rfl) ?_
            refine b_get (ci := 7) (v := .ref (b 1)) (C := RX7) (T := TX7) (N := 4) hx hb hts (by decide +kernel) hown hK hP 0 rfl rfl 0 (by decide) (hts (.fieldLink RX7 9 "ChanceHall$Trees" "chain" "LChanceHall$Chain;") (by decide +kernel)) (fun _ h9 => h9) rfl dX7_isTheSameBackwards_46 ?_
            refine b_get (ci := 0) (v := .ref (b 3)) (C := RX0) (T := TX0) (N := 4) hx hb hts (by decide +kernel) hown hK hP 1 rfl rfl 3 (by decide) (hts (.fieldLink RX7 59 "ChanceHall$Chain" "weights" "[[I") (by decide +kernel)) (fun _ h9 => h9) rfl dX7_isTheSameBackwards_49 ?_
            refine lv_iload_n hx hb dX7_isTheSameBackwards_52 rfl (lv_at hl 1 rfl) ?_
            refine g_aald hx hb hK hP 2 2 rfl rfl (by omega) (by decide) dX7_isTheSameBackwards_53 ?_
            refine lv_iload_n hx hb dX7_isTheSameBackwards_54 rfl (lv_at hl 2 rfl) ?_
            refine g_iald hx hb hK hP 3 0 rfl rfl (by omega) (by omega) (by decide) dX7_isTheSameBackwards_55 ?_
            refine eqi (x' := nI (cnt (g u) w k)) (hW u w (by omega) (by omega)) ?_
            have hc1 := cnt_le (g u) w k
            refine lv_i2l (v := lN (cnt (g u) w k)) hx hb dX7_isTheSameBackwards_56 (nI_l (by omega)) ?_
            refine lv_lmul hx hb dX7_isTheSameBackwards_57 ?_
            refine lv_aload_n hx hb dX7_isTheSameBackwards_58 rfl (lv_at hl 0 rfl) ?_
            refine b_get (ci := 7) (v := .ref (b 12)) (C := RX7) (T := TX7) (N := 4) hx hb hts (by decide +kernel) hown hK hP 0 rfl rfl 1 (by decide) (hts (.fieldLink RX7 15 "ChanceHall$Trees" "rests" "[J") (by decide +kernel)) (fun _ h9 => h9) rfl dX7_isTheSameBackwards_59 ?_
            refine lv_iload_n hx hb dX7_isTheSameBackwards_62 rfl (lv_at hl 2 rfl) ?_
            refine b_lald hx hb hK hP 4 1 rfl rfl (by omega) (by decide) dX7_isTheSameBackwards_63 ?_
            refine eql (x' := RV g n k w) (q1 w (by omega)) ?_
            refine lv_aload_n hx hb dX7_isTheSameBackwards_64 rfl (lv_at hl 0 rfl) ?_
            refine b_get (ci := 7) (v := .ref (b 1)) (C := RX7) (T := TX7) (N := 4) hx hb hts (by decide +kernel) hown hK hP 0 rfl rfl 0 (by decide) (hts (.fieldLink RX7 9 "ChanceHall$Trees" "chain" "LChanceHall$Chain;") (by decide +kernel)) (fun _ h9 => h9) rfl dX7_isTheSameBackwards_65 ?_
            refine b_get (ci := 0) (v := .ref (b 3)) (C := RX0) (T := TX0) (N := 4) hx hb hts (by decide +kernel) hown hK hP 1 rfl rfl 3 (by decide) (hts (.fieldLink RX7 59 "ChanceHall$Chain" "weights" "[[I") (by decide +kernel)) (fun _ h9 => h9) rfl dX7_isTheSameBackwards_68 ?_
            refine lv_iload_n hx hb dX7_isTheSameBackwards_71 rfl (lv_at hl 2 rfl) ?_
            refine g_aald hx hb hK hP 2 2 rfl rfl (by omega) (by decide) dX7_isTheSameBackwards_72 ?_
            refine lv_iload_n hx hb dX7_isTheSameBackwards_73 rfl (lv_at hl 1 rfl) ?_
            refine g_iald hx hb hK hP 3 0 rfl rfl (by omega) (by omega) (by decide) dX7_isTheSameBackwards_74 ?_
            refine eqi (x' := nI (cnt (g w) u k)) (hW w u (by omega) (by omega)) ?_
            have hc2 := cnt_le (g w) u k
            refine lv_i2l (v := lN (cnt (g w) u k)) hx hb dX7_isTheSameBackwards_75 (nI_l (by omega)) ?_
            refine lv_lmul hx hb dX7_isTheSameBackwards_76 ?_
            refine W.lcmp hx hb dX7_isTheSameBackwards_77 ?_
            refine l_if_eq (tgt := 83) hx hb dX7_isTheSameBackwards_78 (by decide) (fun h78 => ?_) (fun h78 => ?_)
            · -- t
              refine lv_iinc (v := nI (w + 1)) (lv' := [(2, .int (nI (w + 1))), (0, .ref (b 11)), (1, .int (nI u))]) hx hb dX7_isTheSameBackwards_83 hl (k := 2) rfl (nI_1 w) (by decide) rfl (fun ls hl => ?_)
              refine lv_goto (tgt := 28) hx hb dX7_isTheSameBackwards_86 (by decide) ?_
              exact ih28 (by omega)  (fun z h1 h2 => by
  by_cases e : z = w
  · subst e; exact dec_t h78
  · exact hJ z h1 (by omega)) (by omega) _ _ hP hD hS _ (lv_sub hl [1, 2, 0] rfl)
            · -- f
              refine lv_iconst (v := nI 0) hx hb dX7_isTheSameBackwards_81 (by decide) ?_
              refine eqi (x' := bI false) rfl ?_
              exact r_z hx hb hr hlocks hP hD hS (fRs1_1, fOt1_2, fMi1_3) rfl (congrArg bI (revA_f huw (by omega) (dec_f h78)).symm) dX7_isTheSameBackwards_82
        exact L28 (u + 1) (by omega)  (fun z h1 h2 => by omega) (by omega) _ _ hP hD hS _ (lv_sub hl [1, 2, 0] rfl)
    exact L13 0 (by omega)  (fun o w h => by omega) _ _ hP hD hS _ (lv_sub hl [1, 0] rfl)
  · -- f
    refine lv_iconst (v := nI 0) hx hb dX7_isTheSameBackwards_9 (by decide) ?_
    refine eqi (x' := bI false) rfl ?_
    exact r_z hx hb hr hlocks hP hD hS (fRs1_1, fOt1_2, fMi1_3) rfl (congrArg bI (revA_0 h6).symm) dX7_isTheSameBackwards_10

