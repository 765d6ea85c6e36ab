set_option maxHeartbeats 4000000 in
set_option maxRecDepth 100000 in
theorem c_X9_begin_ok (l : Launch) (D : va_G) (cY : Nat → ClassId) (sz : Nat) (a : Nat → Nat) (n : Nat) (k : Nat) (th : Int32) (fto : Nat → Int32) (fpay : Nat → Int32) (fcol : Nat → Int32) (n2 : Nat) (k2 : Nat) (h1 : 1 ≤ n2) (h2 : n2 ≤ 6) (h3 : 1 ≤ k2) (h4 : k2 ≤ 12) : Met l yX9_begin wsX9_begin ({ frames := 1, cells := 0, slots := 0, locals := 40 }) (cP D cY [.ref (a 0), .int (nI n2), .int (nI k2)] [mO a (nI n) (nI k) th, [(a 1, .inl (cY 0, 72, .inl fto))], [(a 2, .inl (cY 0, 6, .inl fpay))], [(a 3, .inl (cY 0, 6, .inl fcol))]] sz) (qV (S := (Nat → Int32) × (Nat → Int32) × (Nat → Int32)) D cY (fun u => (∀ i j, i < 6 → j < 12 → u.1 (12 * i + j) = nI i) ∧ (∀ j, j < 6 → u.2.1 j = nI 0) ∧ ∀ j, j < 6 → u.2.2 j = nI 0) (fun u => [mO a (nI n2) (nI k2) (nI 0), [(a 1, .inl (cY 0, 72, .inl u.1))], [(a 2, .inl (cY 0, 6, .inl u.2.1))], [(a 3, .inl (cY 0, 6, .inl u.2.2))]]) (va_A ([mO a (nI n) (nI k) th, [(a 1, .inl (cY 0, 72, .inl fto))], [(a 2, .inl (cY 0, 6, .inl fpay))], [(a 3, .inl (cY 0, 6, .inl fcol))]] : List va_W).flatten sz)) 0 0 (va_A ([mO a (nI n) (nI k) th, [(a 1, .inl (cY 0, 72, .inl fto))], [(a 2, .inl (cY 0, 6, .inl fpay))], [(a 3, .inl (cY 0, 6, .inl fcol))]] : List va_W).flatten sz) := by
  refine mtB (Qc := fun A => qV (S := (Nat → Int32) × (Nat → Int32) × (Nat → Int32)) D cY (fun u => (∀ i j, i < 6 → j < 12 → u.1 (12 * i + j) = nI i) ∧ (∀ j, j < 6 → u.2.1 j = nI 0) ∧ ∀ j, j < 6 → u.2.2 j = nI 0) (fun u => [mO a (nI n2) (nI k2) (nI 0), [(a 1, .inl (cY 0, 72, .inl u.1))], [(a 2, .inl (cY 0, 6, .inl u.2.1))], [(a 3, .inl (cY 0, 6, .inl u.2.2))]]) A) (cc := cX9_begin) (maxL := 5) (ret := none) (by decide) rfl (Nat.le_of_ble_eq_true rfl) ?_
  intro p e s m below meth c A ls hx hb hr hml hts hown hlocks hnm hsz hP hK hVK hD hS hA hl
  have hown : s.vm.findClass RX9 = some m.cls := hown
  have hl : lv_has ls 5 [(0, .ref (a 0)), (1, .int (nI n2)), (2, .int (nI k2))] := hl
  have hP : va_P D vwCl ([mO a (nI n) (nI k) th, [(a 1, .inl (cY 0, 72, .inl fto))], [(a 2, .inl (cY 0, 6, .inl fpay))], [(a 3, .inl (cY 0, 6, .inl fcol))]] : List va_W).flatten s.heap := hP
  have hD : va_D A ([mO a (nI n) (nI k) th, [(a 1, .inl (cY 0, 72, .inl fto))], [(a 2, .inl (cY 0, 6, .inl fpay))], [(a 3, .inl (cY 0, 6, .inl fcol))]] : List va_W).flatten := hD
  have hAa : inR (nI n2) (nI 1) (nI 6) = true := inR_t (by omega) (by omega) (by omega)
  have hB : inR (nI k2) (nI 1) (nI 12) = true := inR_t (by omega) (by omega) (by omega)
  refine lv_aload_n hx hb dX9_begin_0 rfl (lv_at hl 0 rfl) ?_
  refine lv_iload_n hx hb dX9_begin_1 rfl (lv_at hl 1 rfl) ?_
  refine lv_iconst (v := nI 1) hx hb dX9_begin_2 (by decide) ?_
  refine lv_bipush (v := nI 6) hx hb dX9_begin_3 (by decide) ?_
  refine ca_i (CL := []) (va_runS (As := [.int (nI n2), .int (nI 1), .int (nI 6)]) (rest := [.ref (a 0)]) ⟨hx, hb, hml, hown, hts⟩ (c_X9_isIn l D cY s.heap.size (nI n2) (nI 1) (nI 6)) (va_cwS 3 hts gX9_begin_X9_isIn rfl rfl rfl (by decide +kernel) ⟨Nat.le_of_ble_eq_true rfl, Nat.le_of_ble_eq_true rfl⟩) (b_preS hVK hP hD [] rfl rfl) rfl rfl hl.1 rfl (lv_room (Nat.le_of_ble_eq_true rfl)) dX9_begin_5 ⟨Nat.le_refl _, Nat.le_refl _⟩) hP hD hS hA [] rfl rfl (fun _ => rfl) (fun r5 uu H locs hq hP hD hS => ?_)
  subst hq
  have hP : va_P D vwCl ([mO a (nI n) (nI k) th, [(a 1, .inl (cY 0, 72, .inl fto))], [(a 2, .inl (cY 0, 6, .inl fpay))], [(a 3, .inl (cY 0, 6, .inl fcol))]] : List va_W).flatten H := hP
  have hD : va_D A ([mO a (nI n) (nI k) th, [(a 1, .inl (cY 0, 72, .inl fto))], [(a 2, .inl (cY 0, 6, .inl fpay))], [(a 3, .inl (cY 0, 6, .inl fcol))]] : List va_W).flatten := hD
  refine b_if_eq (tgt := 25) hx hb dX9_begin_8 (by decide) (fun h8 => ?_) (fun h8 => ?_)
  · -- t
    exact absurd (h8.symm.trans hAa) (by decide)
  · -- f
    refine lv_iload_n hx hb dX9_begin_11 rfl (lv_at hl 2 rfl) ?_
    refine lv_iconst (v := nI 1) hx hb dX9_begin_12 (by decide) ?_
    refine lv_bipush (v := nI 12) hx hb dX9_begin_13 (by decide) ?_
    refine ca_i (CL := []) (va_runS (As := [.int (nI k2), .int (nI 1), .int (nI 12)]) (rest := [.ref (a 0)]) ⟨hx, hb, hml, hown, hts⟩ (c_X9_isIn l D cY H.size (nI k2) (nI 1) (nI 12)) (va_cwS 3 hts gX9_begin_X9_isIn rfl rfl rfl (by decide +kernel) ⟨Nat.le_of_ble_eq_true rfl, Nat.le_of_ble_eq_true rfl⟩) (b_preS hVK hP hD [] rfl rfl) rfl rfl hl.1 rfl (lv_room (Nat.le_of_ble_eq_true rfl)) dX9_begin_15 ⟨Nat.le_refl _, Nat.le_refl _⟩) hP hD hS hA [] rfl rfl (fun _ => rfl) (fun r15 uu H locs hq hP hD hS => ?_)
    subst hq
    have hP : va_P D vwCl ([mO a (nI n) (nI k) th, [(a 1, .inl (cY 0, 72, .inl fto))], [(a 2, .inl (cY 0, 6, .inl fpay))], [(a 3, .inl (cY 0, 6, .inl fcol))]] : List va_W).flatten H := hP
    have hD : va_D A ([mO a (nI n) (nI k) th, [(a 1, .inl (cY 0, 72, .inl fto))], [(a 2, .inl (cY 0, 6, .inl fpay))], [(a 3, .inl (cY 0, 6, .inl fcol))]] : List va_W).flatten := hD
    refine b_if_eq (tgt := 25) hx hb dX9_begin_18 (by decide) (fun h18 => ?_) (fun h18 => ?_)
    · -- t
      exact absurd (h18.symm.trans hB) (by decide)
    · -- f
      refine lv_iconst (v := nI 0) hx hb dX9_begin_21 (by decide) ?_
      refine lv_goto (tgt := 26) hx hb dX9_begin_22 (by decide) ?_
      refine ca_i (CL := [mO a (nI n) (nI k) th]) (va_runV (As := [.int (nI 0)]) (rest := []) ⟨hx, hb, hml, hown, hts⟩ (c_X9_can l D cY H.size a n k th 0 (by omega)) (cwV 1 hts gX9_begin_X9_can rfl rfl rfl (by decide +kernel) ⟨Nat.le_of_ble_eq_true rfl, Nat.le_of_ble_eq_true rfl⟩) (b_preV hVK hP hD [0] rfl rfl 0 rfl rfl) rfl rfl hl.1 rfl (lv_room (Nat.le_of_ble_eq_true rfl)) dX9_begin_26 ⟨Nat.le_refl _, Nat.le_refl _⟩) hP hD hS hA [0] rfl rfl (fun _ => rfl) (fun r26 uu H locs hq hP hD hS => ?_)
      subst hq
      have hP : va_P D vwCl ([mO a (nI n) (nI k) (nI 0), [(a 1, .inl (cY 0, 72, .inl fto))], [(a 2, .inl (cY 0, 6, .inl fpay))], [(a 3, .inl (cY 0, 6, .inl fcol))]] : List va_W).flatten H := hP
      have hD : va_D A ([mO a (nI n) (nI k) (nI 0), [(a 1, .inl (cY 0, 72, .inl fto))], [(a 2, .inl (cY 0, 6, .inl fpay))], [(a 3, .inl (cY 0, 6, .inl fcol))]] : List va_W).flatten := hD
      refine b_if_eq (tgt := 99) hx hb dX9_begin_29 (by decide) (fun h29 => ?_) (fun h29 => ?_)
      · -- t
        exact absurd h29 (by decide)
      · -- f
        refine lv_aload_n hx hb dX9_begin_32 rfl (lv_at hl 0 rfl) ?_
        refine lv_iload_n hx hb dX9_begin_33 rfl (lv_at hl 1 rfl) ?_
        refine b_put (ci := 9) (v := .int (nI n2)) (ty := .int) (C := RX9) (T := TX9) (N := 13) hx hb hts (by decide +kernel) tyX9 tyX9_ok nmX9 hown hK hP hD hS 0 rfl rfl 0 (by decide) (hts (.fieldLink RX9 7 "ChanceHallModel" "states" "I") (by decide +kernel)) (fun _ h9 => h9) rfl (by decide +kernel) rfl rfl (Nat.le_of_ble_eq_true rfl) dX9_begin_34 (fun H locs hP hD hS => ?_)
        have hP : va_P D vwCl ([mO a (nI n2) (nI k) (nI 0), [(a 1, .inl (cY 0, 72, .inl fto))], [(a 2, .inl (cY 0, 6, .inl fpay))], [(a 3, .inl (cY 0, 6, .inl fcol))]] : List va_W).flatten H := hP
        have hD : va_D A ([mO a (nI n2) (nI k) (nI 0), [(a 1, .inl (cY 0, 72, .inl fto))], [(a 2, .inl (cY 0, 6, .inl fpay))], [(a 3, .inl (cY 0, 6, .inl fcol))]] : List va_W).flatten := hD
        refine lv_aload_n hx hb dX9_begin_37 rfl (lv_at hl 0 rfl) ?_
        refine lv_iload_n hx hb dX9_begin_38 rfl (lv_at hl 2 rfl) ?_
        refine b_put (ci := 9) (v := .int (nI k2)) (ty := .int) (C := RX9) (T := TX9) (N := 13) hx hb hts (by decide +kernel) tyX9 tyX9_ok nmX9 hown hK hP hD hS 0 rfl rfl 1 (by decide) (hts (.fieldLink RX9 13 "ChanceHallModel" "slots" "I") (by decide +kernel)) (fun _ h9 => h9) rfl (by decide +kernel) rfl rfl (Nat.le_of_ble_eq_true rfl) dX9_begin_39 (fun H locs hP hD hS => ?_)
        have hP : va_P D vwCl ([mO a (nI n2) (nI k2) (nI 0), [(a 1, .inl (cY 0, 72, .inl fto))], [(a 2, .inl (cY 0, 6, .inl fpay))], [(a 3, .inl (cY 0, 6, .inl fcol))]] : List va_W).flatten H := hP
        have hD : va_D A ([mO a (nI n2) (nI k2) (nI 0), [(a 1, .inl (cY 0, 72, .inl fto))], [(a 2, .inl (cY 0, 6, .inl fpay))], [(a 3, .inl (cY 0, 6, .inl fcol))]] : List va_W).flatten := hD
        refine lv_iconst (v := nI 0) hx hb dX9_begin_42 (by decide) ?_
        refine lv_istore_n (lv' := [(3, .int (nI 0)), (0, .ref (a 0)), (1, .int (nI n2)), (2, .int (nI k2))]) hx hb dX9_begin_43 rfl hl (by decide) rfl (fun ls hl => ?_)
        have L44 : ∀ u : Nat, u ≤ 6 → ∀ (gT : Nat → Int32) (gP : Nat → Int32) (gC : Nat → Int32), (TI gT u 0) → (ZI gP u) → (ZI gC u) → ∀ (H : Heap) (locs : List Loc), va_P D vwCl ([mO a (nI n2) (nI k2) (nI 0), [(a 1, .inl (cY 0, 72, .inl gT))], [(a 2, .inl (cY 0, 6, .inl gP))], [(a 3, .inl (cY 0, 6, .inl gC))]] : List va_W).flatten H → va_D A ([mO a (nI n2) (nI k2) (nI 0), [(a 1, .inl (cY 0, 72, .inl gT))], [(a 2, .inl (cY 0, 6, .inl gP))], [(a 3, .inl (cY 0, 6, .inl gC))]] : List va_W).flatten → va_S A s.heap H locs → ∀ (ls : Array Slot), lv_has ls 5 [(0, .ref (a 0)), (1, .int (nI n2)), (2, .int (nI k2)), (3, .int (nI u))] → W p l e ({ frames := 1, cells := 0, slots := 0, locals := 40 }) s m ([.ref (a 0), .int (nI n2), .int (nI k2)] : List Value).toArray below meth c H locs 0 0 (MQ below (qV (S := (Nat → Int32) × (Nat → Int32) × (Nat → Int32)) D cY (fun u => (∀ i j, i < 6 → j < 12 → u.1 (12 * i + j) = nI i) ∧ (∀ j, j < 6 → u.2.1 j = nI 0) ∧ ∀ j, j < 6 → u.2.2 j = nI 0) (fun u => [mO a (nI n2) (nI k2) (nI 0), [(a 1, .inl (cY 0, 72, .inl u.1))], [(a 2, .inl (cY 0, 6, .inl u.2.1))], [(a 3, .inl (cY 0, 6, .inl u.2.2))]]) A) ([.ref (a 0), .int (nI n2), .int (nI k2)] : List Value).toArray s 0 0 A) (F0 m 44 ls []) := by
          refine lpW 6 ?_
          intro u bdu ih44 gT gP gC hI hP0 hC0 H locs hP hD hS ls hl
          refine lv_iload_n hx hb dX9_begin_44 rfl (lv_at hl 3 rfl) ?_
          refine lv_bipush (v := nI 6) hx hb dX9_begin_45 (by decide) ?_
          refine n_icmp_ge (tgt := 99) hx hb dX9_begin_47 (by decide) (by omega) (by omega) (fun h47 => ?_) (fun h47 => ?_)
          · -- t
            exact r_v hx hb hr hlocks hP hD hS (gT, gP, gC) rfl (by (have e : u = 6 := by omega); subst e; exact ⟨fun i j hi hj => hI.1 i j hi hj, hP0, hC0⟩) dX9_begin_99
          · -- f
            refine lv_aload_n hx hb dX9_begin_50 rfl (lv_at hl 0 rfl) ?_
            refine b_get (ci := 9) (v := .ref (a 2)) (C := RX9) (T := TX9) (N := 13) hx hb hts (by decide +kernel) hown hK hP 0 rfl rfl 3 (by decide) (hts (.fieldLink RX9 20 "ChanceHallModel" "pay" "[I") (by decide +kernel)) (fun _ h9 => h9) rfl dX9_begin_51 ?_
            refine lv_iload_n hx hb dX9_begin_54 rfl (lv_at hl 3 rfl) ?_
            refine lv_iconst (v := nI 0) hx hb dX9_begin_55 (by decide) ?_
            refine b_iast hx hb hK hP hD hS 2 0 rfl rfl (by omega) (by decide) dX9_begin_56 (fun H locs hP hD hS => ?_)
            have hP : va_P D vwCl ([mO a (nI n2) (nI k2) (nI 0), [(a 1, .inl (cY 0, 72, .inl gT))], [(a 2, .inl (cY 0, 6, .inl (upd gP u (nI 0))))], [(a 3, .inl (cY 0, 6, .inl gC))]] : List va_W).flatten H := hP
            have hD : va_D A ([mO a (nI n2) (nI k2) (nI 0), [(a 1, .inl (cY 0, 72, .inl gT))], [(a 2, .inl (cY 0, 6, .inl (upd gP u (nI 0))))], [(a 3, .inl (cY 0, 6, .inl gC))]] : List va_W).flatten := hD
            refine lv_aload_n hx hb dX9_begin_57 rfl (lv_at hl 0 rfl) ?_
            refine b_get (ci := 9) (v := .ref (a 3)) (C := RX9) (T := TX9) (N := 13) hx hb hts (by decide +kernel) hown hK hP 0 rfl rfl 4 (by decide) (hts (.fieldLink RX9 23 "ChanceHallModel" "colour" "[I") (by decide +kernel)) (fun _ h9 => h9) rfl dX9_begin_58 ?_
            refine lv_iload_n hx hb dX9_begin_61 rfl (lv_at hl 3 rfl) ?_
            refine lv_iconst (v := nI 0) hx hb dX9_begin_62 (by decide) ?_
            refine b_iast hx hb hK hP hD hS 3 0 rfl rfl (by omega) (by decide) dX9_begin_63 (fun H locs hP hD hS => ?_)
            have hP : va_P D vwCl ([mO a (nI n2) (nI k2) (nI 0), [(a 1, .inl (cY 0, 72, .inl gT))], [(a 2, .inl (cY 0, 6, .inl (upd gP u (nI 0))))], [(a 3, .inl (cY 0, 6, .inl (upd gC u (nI 0))))]] : List va_W).flatten H := hP
            have hD : va_D A ([mO a (nI n2) (nI k2) (nI 0), [(a 1, .inl (cY 0, 72, .inl gT))], [(a 2, .inl (cY 0, 6, .inl (upd gP u (nI 0))))], [(a 3, .inl (cY 0, 6, .inl (upd gC u (nI 0))))]] : List va_W).flatten := hD
            refine lv_iconst (v := nI 0) hx hb dX9_begin_64 (by decide) ?_
            refine lv_istore (lv' := [(4, .int (nI 0)), (0, .ref (a 0)), (1, .int (nI n2)), (2, .int (nI k2)), (3, .int (nI u))]) hx hb dX9_begin_65 hl (by decide) rfl (fun ls hl => ?_)
            have L67 : ∀ w : Nat, w ≤ 12 → ∀ (gT2 : Nat → Int32), (TI gT2 u w) → ∀ (H : Heap) (locs : List Loc), va_P D vwCl ([mO a (nI n2) (nI k2) (nI 0), [(a 1, .inl (cY 0, 72, .inl gT2))], [(a 2, .inl (cY 0, 6, .inl (upd gP u (nI 0))))], [(a 3, .inl (cY 0, 6, .inl (upd gC u (nI 0))))]] : List va_W).flatten H → va_D A ([mO a (nI n2) (nI k2) (nI 0), [(a 1, .inl (cY 0, 72, .inl gT2))], [(a 2, .inl (cY 0, 6, .inl (upd gP u (nI 0))))], [(a 3, .inl (cY 0, 6, .inl (upd gC u (nI 0))))]] : List va_W).flatten → va_S A s.heap H locs → ∀ (ls : Array Slot), lv_has ls 5 [(0, .ref (a 0)), (1, .int (nI n2)), (2, .int (nI k2)), (3, .int (nI u)), (4, .int (nI w))] → W p l e ({ frames := 1, cells := 0, slots := 0, locals := 40 }) s m ([.ref (a 0), .int (nI n2), .int (nI k2)] : List Value).toArray below meth c H locs 0 0 (MQ below (qV (S := (Nat → Int32) × (Nat → Int32) × (Nat → Int32)) D cY (fun u => (∀ i j, i < 6 → j < 12 → u.1 (12 * i + j) = nI i) ∧ (∀ j, j < 6 → u.2.1 j = nI 0) ∧ ∀ j, j < 6 → u.2.2 j = nI 0) (fun u => [mO a (nI n2) (nI k2) (nI 0), [(a 1, .inl (cY 0, 72, .inl u.1))], [(a 2, .inl (cY 0, 6, .inl u.2.1))], [(a 3, .inl (cY 0, 6, .inl u.2.2))]]) A) ([.ref (a 0), .int (nI n2), .int (nI k2)] : List Value).toArray s 0 0 A) (F0 m 67 ls []) := by
              refine lpW 12 ?_
              intro w bdw ih67 gT2 hJ H locs hP hD hS ls hl
              refine lv_iload hx hb dX9_begin_67 (lv_at hl 4 rfl) ?_
              refine lv_bipush (v := nI 12) hx hb dX9_begin_69 (by decide) ?_
              refine n_icmp_ge (tgt := 93) hx hb dX9_begin_71 (by decide) (by omega) (by omega) (fun h71 => ?_) (fun h71 => ?_)
              · -- t
                refine lv_iinc (v := nI (u + 1)) (lv' := [(3, .int (nI (u + 1))), (0, .ref (a 0)), (1, .int (nI n2)), (2, .int (nI k2)), (4, .int (nI w))]) hx hb dX9_begin_93 hl (k := 3) rfl (nI_1 u) (by decide) rfl (fun ls hl => ?_)
                refine lv_goto (tgt := 44) hx hb dX9_begin_96 (by decide) ?_
                exact ih44 (by omega) gT2 (upd gP u (nI 0)) (upd gC u (nI 0)) (TI_n (by (have e : w = 12 := by omega); rw [← e]; exact hJ)) (ZI_s hP0) (ZI_s hC0) _ _ hP hD hS _ (lv_sub hl [1, 2, 3, 0] rfl)
              · -- f
                refine lv_aload_n hx hb dX9_begin_74 rfl (lv_at hl 0 rfl) ?_
                refine b_get (ci := 9) (v := .ref (a 1)) (C := RX9) (T := TX9) (N := 13) hx hb hts (by decide +kernel) hown hK hP 0 rfl rfl 2 (by decide) (hts (.fieldLink RX9 16 "ChanceHallModel" "to" "[I") (by decide +kernel)) (fun _ h9 => h9) rfl dX9_begin_75 ?_
                refine lv_bipush (v := nI 12) hx hb dX9_begin_78 (by decide) ?_
                refine lv_iload_n hx hb dX9_begin_80 rfl (lv_at hl 3 rfl) ?_
                refine lv_imul hx hb dX9_begin_81 ?_
                refine eqi (x' := nI (12 * u)) (pk_mul _ _) ?_
                refine lv_iload hx hb dX9_begin_82 (lv_at hl 4 rfl) ?_
                refine lv_iadd hx hb dX9_begin_84 ?_
                refine eqi (x' := nI (12 * u + w)) (nI_add _ _) ?_
                refine lv_iload_n hx hb dX9_begin_85 rfl (lv_at hl 3 rfl) ?_
                refine b_iast hx hb hK hP hD hS 1 0 rfl rfl (by omega) (by decide) dX9_begin_86 (fun H locs hP hD hS => ?_)
                have hP : va_P D vwCl ([mO a (nI n2) (nI k2) (nI 0), [(a 1, .inl (cY 0, 72, .inl (upd gT2 (12 * u + w) (nI u))))], [(a 2, .inl (cY 0, 6, .inl (upd gP u (nI 0))))], [(a 3, .inl (cY 0, 6, .inl (upd gC u (nI 0))))]] : List va_W).flatten H := hP
                have hD : va_D A ([mO a (nI n2) (nI k2) (nI 0), [(a 1, .inl (cY 0, 72, .inl (upd gT2 (12 * u + w) (nI u))))], [(a 2, .inl (cY 0, 6, .inl (upd gP u (nI 0))))], [(a 3, .inl (cY 0, 6, .inl (upd gC u (nI 0))))]] : List va_W).flatten := hD
                refine lv_iinc (v := nI (w + 1)) (lv' := [(4, .int (nI (w + 1))), (0, .ref (a 0)), (1, .int (nI n2)), (2, .int (nI k2)), (3, .int (nI u))]) hx hb dX9_begin_87 hl (k := 4) rfl (nI_1 w) (by decide) rfl (fun ls hl => ?_)
                refine lv_goto (tgt := 67) hx hb dX9_begin_90 (by decide) ?_
                exact ih67 (by omega) (upd gT2 (12 * u + w) (nI u)) (TI_s (by omega) hJ) _ _ hP hD hS _ (lv_sub hl [1, 2, 3, 4, 0] rfl)
            exact L67 0 (by omega) gT hI _ _ hP hD hS _ (lv_sub hl [1, 2, 3, 4, 0] rfl)
        exact L44 0 (by omega) fto fpay fcol TI_0 ZI_0 ZI_0 _ _ hP hD hS _ (lv_sub hl [1, 2, 3, 0] rfl)

set_option maxHeartbeats 4000000 in
set_option maxRecDepth 100000 in
theorem c_X9_begin_bad (l : Launch) (D : va_G) (cY : Nat → ClassId) (sz : Nat) (a : Nat → Nat) (n : Nat) (k : Nat) (th : Int32) (x : Int32) (y : Int32) (hbad : (inR x (nI 1) (nI 6) && inR y (nI 1) (nI 12)) = false) : Met l yX9_begin wsX9_begin ({ frames := 1, cells := 0, slots := 0, locals := 40 }) (cP D cY [.ref (a 0), .int x, .int y] [mO a (nI n) (nI k) th] sz) (qV (S := Unit) D cY (fun u => True) (fun u => [mO a (nI n) (nI k) (nI 1)]) (va_A ([mO a (nI n) (nI k) th] : List va_W).flatten sz)) 0 0 (va_A ([mO a (nI n) (nI k) th] : List va_W).flatten sz) := by
  refine mtB (Qc := fun A => qV (S := Unit) D cY (fun u => True) (fun u => [mO a (nI n) (nI k) (nI 1)]) A) (cc := cX9_begin) (maxL := 5) (ret := none) (by decide) rfl (Nat.le_of_ble_eq_true rfl) ?_
  intro p e s m below meth c A ls hx hb hr hml hts hown hlocks hnm hsz hP hK hVK hD hS hA hl
  have hown : s.vm.findClass RX9 = some m.cls := hown
  have hl : lv_has ls 5 [(0, .ref (a 0)), (1, .int x), (2, .int y)] := hl
  have hP : va_P D vwCl ([mO a (nI n) (nI k) th] : List va_W).flatten s.heap := hP
  have hD : va_D A ([mO a (nI n) (nI k) th] : List va_W).flatten := hD
  refine lv_aload_n hx hb dX9_begin_0 rfl (lv_at hl 0 rfl) ?_
  refine lv_iload_n hx hb dX9_begin_1 rfl (lv_at hl 1 rfl) ?_
  refine lv_iconst (v := nI 1) hx hb dX9_begin_2 (by decide) ?_
  refine lv_bipush (v := nI 6) hx hb dX9_begin_3 (by decide) ?_
  refine ca_i (CL := []) (va_runS (As := [.int x, .int (nI 1), .int (nI 6)]) (rest := [.ref (a 0)]) ⟨hx, hb, hml, hown, hts⟩ (c_X9_isIn l D cY s.heap.size x (nI 1) (nI 6)) (va_cwS 3 hts gX9_begin_X9_isIn rfl rfl rfl (by decide +kernel) ⟨Nat.le_of_ble_eq_true rfl, Nat.le_of_ble_eq_true rfl⟩) (b_preS hVK hP hD [] rfl rfl) rfl rfl hl.1 rfl (lv_room (Nat.le_of_ble_eq_true rfl)) dX9_begin_5 ⟨Nat.le_refl _, Nat.le_refl _⟩) hP hD hS hA [] rfl rfl (fun _ => rfl) (fun r5 uu H locs hq hP hD hS => ?_)
  subst hq
  have hP : va_P D vwCl ([mO a (nI n) (nI k) th] : List va_W).flatten H := hP
  have hD : va_D A ([mO a (nI n) (nI k) th] : List va_W).flatten := hD
  refine b_if_eq (tgt := 25) hx hb dX9_begin_8 (by decide) (fun h8 => ?_) (fun h8 => ?_)
  · -- t
    refine lv_iconst (v := nI 1) hx hb dX9_begin_25 (by decide) ?_
    refine ca_i (CL := [mO a (nI n) (nI k) th]) (va_runV (As := [.int (nI 1)]) (rest := []) ⟨hx, hb, hml, hown, hts⟩ (c_X9_can l D cY H.size a n k th 1 (by omega)) (cwV 1 hts gX9_begin_X9_can rfl rfl rfl (by decide +kernel) ⟨Nat.le_of_ble_eq_true rfl, Nat.le_of_ble_eq_true rfl⟩) (b_preV hVK hP hD [0] rfl rfl 0 rfl rfl) rfl rfl hl.1 rfl (lv_room (Nat.le_of_ble_eq_true rfl)) dX9_begin_26 ⟨Nat.le_refl _, Nat.le_refl _⟩) hP hD hS hA [0] rfl rfl (fun _ => rfl) (fun r26 uu H locs hq hP hD hS => ?_)
    subst hq
    have hP : va_P D vwCl ([mO a (nI n) (nI k) (nI 1)] : List va_W).flatten H := hP
    have hD : va_D A ([mO a (nI n) (nI k) (nI 1)] : List va_W).flatten := hD
    refine b_if_eq (tgt := 99) hx hb dX9_begin_29 (by decide) (fun h29 => ?_) (fun h29 => ?_)
    · -- t
      exact r_v hx hb hr hlocks hP hD hS () rfl (trivial) dX9_begin_99
    · -- f
      exact absurd h29 (by decide)
  · -- f
    refine lv_iload_n hx hb dX9_begin_11 rfl (lv_at hl 2 rfl) ?_
    refine lv_iconst (v := nI 1) hx hb dX9_begin_12 (by decide) ?_
    refine lv_bipush (v := nI 12) hx hb dX9_begin_13 (by decide) ?_
    refine ca_i (CL := []) (va_runS (As := [.int y, .int (nI 1), .int (nI 12)]) (rest := [.ref (a 0)]) ⟨hx, hb, hml, hown, hts⟩ (c_X9_isIn l D cY H.size y (nI 1) (nI 12)) (va_cwS 3 hts gX9_begin_X9_isIn rfl rfl rfl (by decide +kernel) ⟨Nat.le_of_ble_eq_true rfl, Nat.le_of_ble_eq_true rfl⟩) (b_preS hVK hP hD [] rfl rfl) rfl rfl hl.1 rfl (lv_room (Nat.le_of_ble_eq_true rfl)) dX9_begin_15 ⟨Nat.le_refl _, Nat.le_refl _⟩) hP hD hS hA [] rfl rfl (fun _ => rfl) (fun r15 uu H locs hq hP hD hS => ?_)
    subst hq
    have hP : va_P D vwCl ([mO a (nI n) (nI k) th] : List va_W).flatten H := hP
    have hD : va_D A ([mO a (nI n) (nI k) th] : List va_W).flatten := hD
    refine b_if_eq (tgt := 25) hx hb dX9_begin_18 (by decide) (fun h18 => ?_) (fun h18 => ?_)
    · -- t
      refine lv_iconst (v := nI 1) hx hb dX9_begin_25 (by decide) ?_
      refine ca_i (CL := [mO a (nI n) (nI k) th]) (va_runV (As := [.int (nI 1)]) (rest := []) ⟨hx, hb, hml, hown, hts⟩ (c_X9_can l D cY H.size a n k th 1 (by omega)) (cwV 1 hts gX9_begin_X9_can rfl rfl rfl (by decide +kernel) ⟨Nat.le_of_ble_eq_true rfl, Nat.le_of_ble_eq_true rfl⟩) (b_preV hVK hP hD [0] rfl rfl 0 rfl rfl) rfl rfl hl.1 rfl (lv_room (Nat.le_of_ble_eq_true rfl)) dX9_begin_26 ⟨Nat.le_refl _, Nat.le_refl _⟩) hP hD hS hA [0] rfl rfl (fun _ => rfl) (fun r26 uu H locs hq hP hD hS => ?_)
      subst hq
      have hP : va_P D vwCl ([mO a (nI n) (nI k) (nI 1)] : List va_W).flatten H := hP
      have hD : va_D A ([mO a (nI n) (nI k) (nI 1)] : List va_W).flatten := hD
      refine b_if_eq (tgt := 99) hx hb dX9_begin_29 (by decide) (fun h29 => ?_) (fun h29 => ?_)
      · -- t
        exact r_v hx hb hr hlocks hP hD hS () rfl (trivial) dX9_begin_99
      · -- f
        exact absurd h29 (by decide)
    · -- f
      exact (b2 hbad h8 h18).elim

set_option maxHeartbeats 4000000 in
set_option maxRecDepth 100000 in
theorem c_X9_lead_ok (l : Launch) (D : va_G) (cY : Nat → ClassId) (sz : Nat) (a : Nat → Nat) (n : Nat) (k : Nat) (th : Int32) (fto : Nat → Int32) (g : Nat → Nat → Nat) (i : Nat) (j : Nat) (b : Nat) (hn1 : 1 ≤ n) (hn6 : n ≤ 6) (hk1 : 1 ≤ k) (hk12 : k ≤ 12) (hG : ∀ i j, i < n → j < k → fto (12 * i + j) = nI (g i j)) (hgn : ∀ i j, i < n → j < k → g i j < n) (hi : i < n) (hj : j < k) (hb6 : b < n) : Met l yX9_lead wsX9_lead ({ frames := 2, cells := 0, slots := 0, locals := 80 }) (cP D cY [.ref (a 0), .int (nI i), .int (nI j), .int (nI b)] [mO a (nI n) (nI k) th, [(a 1, .inl (cY 0, 72, .inl fto))]] sz) (qI (S := Unit) D cY (fun r u => r = nI (g i j)) (fun u => [mO a (nI n) (nI k) (nI 0), [(a 1, .inl (cY 0, 72, .inl (upd fto (12 * i + j) (nI b))))]]) (va_A ([mO a (nI n) (nI k) th, [(a 1, .inl (cY 0, 72, .inl fto))]] : List va_W).flatten sz)) 0 0 (va_A ([mO a (nI n) (nI k) th, [(a 1, .inl (cY 0, 72, .inl fto))]] : List va_W).flatten sz) := by
  refine mtB (Qc := fun A => qI (S := Unit) D cY (fun r u => r = nI (g i j)) (fun u => [mO a (nI n) (nI k) (nI 0), [(a 1, .inl (cY 0, 72, .inl (upd fto (12 * i + j) (nI b))))]]) A) (cc := cX9_lead) (maxL := 5) (ret := (some .int)) (by decide) rfl (Nat.le_of_ble_eq_true rfl) ?_
  intro p e s m below meth c A ls hx hb hr hml hts hown hlocks hnm hsz hP hK hVK hD hS hA hl
  have hown : s.vm.findClass RX9 = some m.cls := hown
  have hl : lv_has ls 5 [(0, .ref (a 0)), (1, .int (nI i)), (2, .int (nI j)), (3, .int (nI b))] := hl
  have hP : va_P D vwCl ([mO a (nI n) (nI k) th, [(a 1, .inl (cY 0, 72, .inl fto))]] : List va_W).flatten s.heap := hP
  have hD : va_D A ([mO a (nI n) (nI k) th, [(a 1, .inl (cY 0, 72, .inl fto))]] : List va_W).flatten := hD
  have hAa : inR (nI i) (nI 0) (nI (n - 1)) = true := inR_t (by omega) (by omega) (by omega)
  have hB : inR (nI b) (nI 0) (nI (n - 1)) = true := inR_t (by omega) (by omega) (by omega)
  have hC1 : inR (nI j) (nI 0) (nI (k - 1)) = true := inR_t (by omega) (by omega) (by omega)
  refine lv_aload_n hx hb dX9_lead_0 rfl (lv_at hl 0 rfl) ?_
  refine lv_aload_n hx hb dX9_lead_1 rfl (lv_at hl 0 rfl) ?_
  refine lv_iload_n hx hb dX9_lead_2 rfl (lv_at hl 1 rfl) ?_
  refine ca_i (CL := [mO a (nI n) (nI k) th]) (va_runV (As := [.int (nI i)]) (rest := [.ref (a 0)]) ⟨hx, hb, hml, hown, hts⟩ (c_X9_isState l D cY s.heap.size a n k th (nI i) (by omega)) (cwV 1 hts gX9_lead_X9_isState rfl rfl rfl (by decide +kernel) ⟨Nat.le_of_ble_eq_true rfl, Nat.le_of_ble_eq_true rfl⟩) (b_preV hVK hP hD [0] rfl rfl 0 rfl rfl) rfl rfl hl.1 rfl (lv_room (Nat.le_of_ble_eq_true rfl)) dX9_lead_3 ⟨Nat.le_refl _, Nat.le_refl _⟩) hP hD hS hA [0] rfl rfl (fun _ => rfl) (fun r3 uu H locs hq hP hD hS => ?_)
  subst hq
  have hP : va_P D vwCl ([mO a (nI n) (nI k) th, [(a 1, .inl (cY 0, 72, .inl fto))]] : List va_W).flatten H := hP
  have hD : va_D A ([mO a (nI n) (nI k) th, [(a 1, .inl (cY 0, 72, .inl fto))]] : List va_W).flatten := hD
  refine b_if_eq (tgt := 29) hx hb dX9_lead_6 (by decide) (fun h6 => ?_) (fun h6 => ?_)
  · -- t
    exact absurd (h6.symm.trans hAa) (by decide)
  · -- f
    refine lv_aload_n hx hb dX9_lead_9 rfl (lv_at hl 0 rfl) ?_
    refine lv_iload_n hx hb dX9_lead_10 rfl (lv_at hl 3 rfl) ?_
    refine ca_i (CL := [mO a (nI n) (nI k) th]) (va_runV (As := [.int (nI b)]) (rest := [.ref (a 0)]) ⟨hx, hb, hml, hown, hts⟩ (c_X9_isState l D cY H.size a n k th (nI b) (by omega)) (cwV 1 hts gX9_lead_X9_isState rfl rfl rfl (by decide +kernel) ⟨Nat.le_of_ble_eq_true rfl, Nat.le_of_ble_eq_true rfl⟩) (b_preV hVK hP hD [0] rfl rfl 0 rfl rfl) rfl rfl hl.1 rfl (lv_room (Nat.le_of_ble_eq_true rfl)) dX9_lead_11 ⟨Nat.le_refl _, Nat.le_refl _⟩) hP hD hS hA [0] rfl rfl (fun _ => rfl) (fun r11 uu H locs hq hP hD hS => ?_)
    subst hq
    have hP : va_P D vwCl ([mO a (nI n) (nI k) th, [(a 1, .inl (cY 0, 72, .inl fto))]] : List va_W).flatten H := hP
    have hD : va_D A ([mO a (nI n) (nI k) th, [(a 1, .inl (cY 0, 72, .inl fto))]] : List va_W).flatten := hD
    refine b_if_eq (tgt := 29) hx hb dX9_lead_14 (by decide) (fun h14 => ?_) (fun h14 => ?_)
    · -- t
      exact absurd (h14.symm.trans hB) (by decide)
    · -- f
      refine lv_aload_n hx hb dX9_lead_17 rfl (lv_at hl 0 rfl) ?_
      refine lv_iload_n hx hb dX9_lead_18 rfl (lv_at hl 2 rfl) ?_
      refine ca_i (CL := [mO a (nI n) (nI k) th]) (va_runV (As := [.int (nI j)]) (rest := [.ref (a 0)]) ⟨hx, hb, hml, hown, hts⟩ (c_X9_isSlot l D cY H.size a n k th (nI j) (by omega)) (cwV 1 hts gX9_lead_X9_isSlot rfl rfl rfl (by decide +kernel) ⟨Nat.le_of_ble_eq_true rfl, Nat.le_of_ble_eq_true rfl⟩) (b_preV hVK hP hD [0] rfl rfl 0 rfl rfl) rfl rfl hl.1 rfl (lv_room (Nat.le_of_ble_eq_true rfl)) dX9_lead_19 ⟨Nat.le_refl _, Nat.le_refl _⟩) hP hD hS hA [0] rfl rfl (fun _ => rfl) (fun r19 uu H locs hq hP hD hS => ?_)
      subst hq
      have hP : va_P D vwCl ([mO a (nI n) (nI k) th, [(a 1, .inl (cY 0, 72, .inl fto))]] : List va_W).flatten H := hP
      have hD : va_D A ([mO a (nI n) (nI k) th, [(a 1, .inl (cY 0, 72, .inl fto))]] : List va_W).flatten := hD
      refine b_if_eq (tgt := 29) hx hb dX9_lead_22 (by decide) (fun h22 => ?_) (fun h22 => ?_)
      · -- t
        exact absurd (h22.symm.trans hC1) (by decide)
      · -- f
        refine lv_iconst (v := nI 0) hx hb dX9_lead_25 (by decide) ?_
        refine lv_goto (tgt := 30) hx hb dX9_lead_26 (by decide) ?_
        refine ca_i (CL := [mO a (nI n) (nI k) th]) (va_runV (As := [.int (nI 0)]) (rest := []) ⟨hx, hb, hml, hown, hts⟩ (c_X9_can l D cY H.size a n k th 0 (by omega)) (cwV 1 hts gX9_lead_X9_can rfl rfl rfl (by decide +kernel) ⟨Nat.le_of_ble_eq_true rfl, Nat.le_of_ble_eq_true rfl⟩) (b_preV hVK hP hD [0] rfl rfl 0 rfl rfl) rfl rfl hl.1 rfl (lv_room (Nat.le_of_ble_eq_true rfl)) dX9_lead_30 ⟨Nat.le_refl _, Nat.le_refl _⟩) hP hD hS hA [0] rfl rfl (fun _ => rfl) (fun r30 uu H locs hq hP hD hS => ?_)
        subst hq
        have hP : va_P D vwCl ([mO a (nI n) (nI k) (nI 0), [(a 1, .inl (cY 0, 72, .inl fto))]] : List va_W).flatten H := hP
        have hD : va_D A ([mO a (nI n) (nI k) (nI 0), [(a 1, .inl (cY 0, 72, .inl fto))]] : List va_W).flatten := hD
        refine b_if_ne (tgt := 38) hx hb dX9_lead_33 (by decide) (fun h33 => ?_) (fun h33 => ?_)
        · -- t
          refine lv_aload_n hx hb dX9_lead_38 rfl (lv_at hl 0 rfl) ?_
          refine lv_iload_n hx hb dX9_lead_39 rfl (lv_at hl 1 rfl) ?_
          refine lv_iload_n hx hb dX9_lead_40 rfl (lv_at hl 2 rfl) ?_
          refine ca_i (CL := [mO a (nI n) (nI k) (nI 0), [(a 1, .inl (cY 0, 72, .inl fto))]]) (va_runV (As := [.int (nI i), .int (nI j)]) (rest := []) ⟨hx, hb, hml, hown, hts⟩ (c_X9_goes l D cY H.size a n k (nI 0) fto g i j (by omega) (by omega) (by omega) (by omega) hG (by omega) (by omega)) (cwV 2 hts gX9_lead_X9_goes rfl rfl rfl (by decide +kernel) ⟨Nat.le_of_ble_eq_true rfl, Nat.le_of_ble_eq_true rfl⟩) (b_preV hVK hP hD [0, 1] rfl rfl 0 rfl rfl) rfl rfl hl.1 rfl (lv_room (Nat.le_of_ble_eq_true rfl)) dX9_lead_41 ⟨Nat.le_refl _, Nat.le_refl _⟩) hP hD hS hA [0, 1] rfl rfl (fun _ => rfl) (fun r41 uu H locs hq hP hD hS => ?_)
          subst hq
          have hP : va_P D vwCl ([mO a (nI n) (nI k) (nI 0), [(a 1, .inl (cY 0, 72, .inl fto))]] : List va_W).flatten H := hP
          have hD : va_D A ([mO a (nI n) (nI k) (nI 0), [(a 1, .inl (cY 0, 72, .inl fto))]] : List va_W).flatten := hD
          refine lv_istore (lv' := [(4, .int (nI (g i j))), (0, .ref (a 0)), (1, .int (nI i)), (2, .int (nI j)), (3, .int (nI b))]) hx hb dX9_lead_44 hl (by decide) rfl (fun ls hl => ?_)
          refine lv_aload_n hx hb dX9_lead_46 rfl (lv_at hl 1 rfl) ?_
          refine b_get (ci := 9) (v := .ref (a 1)) (C := RX9) (T := TX9) (N := 13) hx hb hts (by decide +kernel) hown hK hP 0 rfl rfl 2 (by decide) (hts (.fieldLink RX9 16 "ChanceHallModel" "to" "[I") (by decide +kernel)) (fun _ h9 => h9) rfl dX9_lead_47 ?_
          refine lv_bipush (v := nI 12) hx hb dX9_lead_50 (by decide) ?_
          refine lv_iload_n hx hb dX9_lead_52 rfl (lv_at hl 2 rfl) ?_
          refine lv_imul hx hb dX9_lead_53 ?_
          refine eqi (x' := nI (12 * i)) (pk_mul _ _) ?_
          refine lv_iload_n hx hb dX9_lead_54 rfl (lv_at hl 3 rfl) ?_
          refine lv_iadd hx hb dX9_lead_55 ?_
          refine eqi (x' := nI (12 * i + j)) (nI_add _ _) ?_
          refine lv_iload_n hx hb dX9_lead_56 rfl (lv_at hl 4 rfl) ?_
          refine b_iast hx hb hK hP hD hS 1 0 rfl rfl (by omega) (by decide) dX9_lead_57 (fun H locs hP hD hS => ?_)
          have hP : va_P D vwCl ([mO a (nI n) (nI k) (nI 0), [(a 1, .inl (cY 0, 72, .inl (upd fto (12 * i + j) (nI b))))]] : List va_W).flatten H := hP
          have hD : va_D A ([mO a (nI n) (nI k) (nI 0), [(a 1, .inl (cY 0, 72, .inl (upd fto (12 * i + j) (nI b))))]] : List va_W).flatten := hD
          refine lv_iload hx hb dX9_lead_58 (lv_at hl 0 rfl) ?_
          exact r_i hx hb hr hlocks hP hD hS () rfl (rfl) dX9_lead_60
        · -- f
          exact absurd h33 (by decide)

set_option maxHeartbeats 4000000 in
set_option maxRecDepth 100000 in
theorem c_X9_lead_bad (l : Launch) (D : va_G) (cY : Nat → ClassId) (sz : Nat) (a : Nat → Nat) (n : Nat) (k : Nat) (th : Int32) (x : Int32) (y : Int32) (z : Int32) (hn1 : 1 ≤ n) (hn6 : n ≤ 6) (hk1 : 1 ≤ k) (hk12 : k ≤ 12) (hbad : (inR x (nI 0) (nI (n - 1)) && inR z (nI 0) (nI (n - 1)) && inR y (nI 0) (nI (k - 1))) = false) : Met l yX9_lead wsX9_lead ({ frames := 2, cells := 0, slots := 0, locals := 80 }) (cP D cY [.ref (a 0), .int x, .int y, .int z] [mO a (nI n) (nI k) th] sz) (qI (S := Unit) D cY (fun r u => r = nI 0) (fun u => [mO a (nI n) (nI k) (nI 1)]) (va_A ([mO a (nI n) (nI k) th] : List va_W).flatten sz)) 0 0 (va_A ([mO a (nI n) (nI k) th] : List va_W).flatten sz) := by
  refine mtB (Qc := fun A => qI (S := Unit) D cY (fun r u => r = nI 0) (fun u => [mO a (nI n) (nI k) (nI 1)]) A) (cc := cX9_lead) (maxL := 5) (ret := (some .int)) (by decide) rfl (Nat.le_of_ble_eq_true rfl) ?_
  intro p e s m below meth c A ls hx hb hr hml hts hown hlocks hnm hsz hP hK hVK hD hS hA hl
  have hown : s.vm.findClass RX9 = some m.cls := hown
  have hl : lv_has ls 5 [(0, .ref (a 0)), (1, .int x), (2, .int y), (3, .int z)] := hl
  have hP : va_P D vwCl ([mO a (nI n) (nI k) th] : List va_W).flatten s.heap := hP
  have hD : va_D A ([mO a (nI n) (nI k) th] : List va_W).flatten := hD
  refine lv_aload_n hx hb dX9_lead_0 rfl (lv_at hl 0 rfl) ?_
  refine lv_aload_n hx hb dX9_lead_1 rfl (lv_at hl 0 rfl) ?_
  refine lv_iload_n hx hb dX9_lead_2 rfl (lv_at hl 1 rfl) ?_
  refine ca_i (CL := [mO a (nI n) (nI k) th]) (va_runV (As := [.int x]) (rest := [.ref (a 0)]) ⟨hx, hb, hml, hown, hts⟩ (c_X9_isState l D cY s.heap.size a n k th x (by omega)) (cwV 1 hts gX9_lead_X9_isState rfl rfl rfl (by decide +kernel) ⟨Nat.le_of_ble_eq_true rfl, Nat.le_of_ble_eq_true rfl⟩) (b_preV hVK hP hD [0] rfl rfl 0 rfl rfl) rfl rfl hl.1 rfl (lv_room (Nat.le_of_ble_eq_true rfl)) dX9_lead_3 ⟨Nat.le_refl _, Nat.le_refl _⟩) hP hD hS hA [0] rfl rfl (fun _ => rfl) (fun r3 uu H locs hq hP hD hS => ?_)
  subst hq
  have hP : va_P D vwCl ([mO a (nI n) (nI k) th] : List va_W).flatten H := hP
  have hD : va_D A ([mO a (nI n) (nI k) th] : List va_W).flatten := hD
  refine b_if_eq (tgt := 29) hx hb dX9_lead_6 (by decide) (fun h6 => ?_) (fun h6 => ?_)
  · -- t
    refine lv_iconst (v := nI 1) hx hb dX9_lead_29 (by decide) ?_
    refine ca_i (CL := [mO a (nI n) (nI k) th]) (va_runV (As := [.int (nI 1)]) (rest := []) ⟨hx, hb, hml, hown, hts⟩ (c_X9_can l D cY H.size a n k th 1 (by omega)) (cwV 1 hts gX9_lead_X9_can rfl rfl rfl (by decide +kernel) ⟨Nat.le_of_ble_eq_true rfl, Nat.le_of_ble_eq_true rfl⟩) (b_preV hVK hP hD [0] rfl rfl 0 rfl rfl) rfl rfl hl.1 rfl (lv_room (Nat.le_of_ble_eq_true rfl)) dX9_lead_30 ⟨Nat.le_refl _, Nat.le_refl _⟩) hP hD hS hA [0] rfl rfl (fun _ => rfl) (fun r30 uu H locs hq hP hD hS => ?_)
    subst hq
    have hP : va_P D vwCl ([mO a (nI n) (nI k) (nI 1)] : List va_W).flatten H := hP
    have hD : va_D A ([mO a (nI n) (nI k) (nI 1)] : List va_W).flatten := hD
    refine b_if_ne (tgt := 38) hx hb dX9_lead_33 (by decide) (fun h33 => ?_) (fun h33 => ?_)
    · -- t
      exact absurd h33 (by decide)
    · -- f
      refine lv_iconst (v := nI 0) hx hb dX9_lead_36 (by decide) ?_
      exact r_i hx hb hr hlocks hP hD hS () rfl (rfl) dX9_lead_37
  · -- f
    refine lv_aload_n hx hb dX9_lead_9 rfl (lv_at hl 0 rfl) ?_
    refine lv_iload_n hx hb dX9_lead_10 rfl (lv_at hl 3 rfl) ?_
    refine ca_i (CL := [mO a (nI n) (nI k) th]) (va_runV (As := [.int z]) (rest := [.ref (a 0)]) ⟨hx, hb, hml, hown, hts⟩ (c_X9_isState l D cY H.size a n k th z (by omega)) (cwV 1 hts gX9_lead_X9_isState rfl rfl rfl (by decide +kernel) ⟨Nat.le_of_ble_eq_true rfl, Nat.le_of_ble_eq_true rfl⟩) (b_preV hVK hP hD [0] rfl rfl 0 rfl rfl) rfl rfl hl.1 rfl (lv_room (Nat.le_of_ble_eq_true rfl)) dX9_lead_11 ⟨Nat.le_refl _, Nat.le_refl _⟩) hP hD hS hA [0] rfl rfl (fun _ => rfl) (fun r11 uu H locs hq hP hD hS => ?_)
    subst hq
    have hP : va_P D vwCl ([mO a (nI n) (nI k) th] : List va_W).flatten H := hP
    have hD : va_D A ([mO a (nI n) (nI k) th] : List va_W).flatten := hD
    refine b_if_eq (tgt := 29) hx hb dX9_lead_14 (by decide) (fun h14 => ?_) (fun h14 => ?_)
    · -- t
      refine lv_iconst (v := nI 1) hx hb dX9_lead_29 (by decide) ?_
      refine ca_i (CL := [mO a (nI n) (nI k) th]) (va_runV (As := [.int (nI 1)]) (rest := []) ⟨hx, hb, hml, hown, hts⟩ (c_X9_can l D cY H.size a n k th 1 (by omega)) (cwV 1 hts gX9_lead_X9_can rfl rfl rfl (by decide +kernel) ⟨Nat.le_of_ble_eq_true rfl, Nat.le_of_ble_eq_true rfl⟩) (b_preV hVK hP hD [0] rfl rfl 0 rfl rfl) rfl rfl hl.1 rfl (lv_room (Nat.le_of_ble_eq_true rfl)) dX9_lead_30 ⟨Nat.le_refl _, Nat.le_refl _⟩) hP hD hS hA [0] rfl rfl (fun _ => rfl) (fun r30 uu H locs hq hP hD hS => ?_)
      subst hq
      have hP : va_P D vwCl ([mO a (nI n) (nI k) (nI 1)] : List va_W).flatten H := hP
      have hD : va_D A ([mO a (nI n) (nI k) (nI 1)] : List va_W).flatten := hD
      refine b_if_ne (tgt := 38) hx hb dX9_lead_33 (by decide) (fun h33 => ?_) (fun h33 => ?_)
      · -- t
        exact absurd h33 (by decide)
      · -- f
        refine lv_iconst (v := nI 0) hx hb dX9_lead_36 (by decide) ?_
        exact r_i hx hb hr hlocks hP hD hS () rfl (rfl) dX9_lead_37
    · -- f
      refine lv_aload_n hx hb dX9_lead_17 rfl (lv_at hl 0 rfl) ?_
      refine lv_iload_n hx hb dX9_lead_18 rfl (lv_at hl 2 rfl) ?_
      refine ca_i (CL := [mO a (nI n) (nI k) th]) (va_runV (As := [.int y]) (rest := [.ref (a 0)]) ⟨hx, hb, hml, hown, hts⟩ (c_X9_isSlot l D cY H.size a n k th y (by omega)) (cwV 1 hts gX9_lead_X9_isSlot rfl rfl rfl (by decide +kernel) ⟨Nat.le_of_ble_eq_true rfl, Nat.le_of_ble_eq_true rfl⟩) (b_preV hVK hP hD [0] rfl rfl 0 rfl rfl) rfl rfl hl.1 rfl (lv_room (Nat.le_of_ble_eq_true rfl)) dX9_lead_19 ⟨Nat.le_refl _, Nat.le_refl _⟩) hP hD hS hA [0] rfl rfl (fun _ => rfl) (fun r19 uu H locs hq hP hD hS => ?_)
      subst hq
      have hP : va_P D vwCl ([mO a (nI n) (nI k) th] : List va_W).flatten H := hP
      have hD : va_D A ([mO a (nI n) (nI k) th] : List va_W).flatten := hD
      refine b_if_eq (tgt := 29) hx hb dX9_lead_22 (by decide) (fun h22 => ?_) (fun h22 => ?_)
      · -- t
        refine lv_iconst (v := nI 1) hx hb dX9_lead_29 (by decide) ?_
        refine ca_i (CL := [mO a (nI n) (nI k) th]) (va_runV (As := [.int (nI 1)]) (rest := []) ⟨hx, hb, hml, hown, hts⟩ (c_X9_can l D cY H.size a n k th 1 (by omega)) (cwV 1 hts gX9_lead_X9_can rfl rfl rfl (by decide +kernel) ⟨Nat.le_of_ble_eq_true rfl, Nat.le_of_ble_eq_true rfl⟩) (b_preV hVK hP hD [0] rfl rfl 0 rfl rfl) rfl rfl hl.1 rfl (lv_room (Nat.le_of_ble_eq_true rfl)) dX9_lead_30 ⟨Nat.le_refl _, Nat.le_refl _⟩) hP hD hS hA [0] rfl rfl (fun _ => rfl) (fun r30 uu H locs hq hP hD hS => ?_)
        subst hq
        have hP : va_P D vwCl ([mO a (nI n) (nI k) (nI 1)] : List va_W).flatten H := hP
        have hD : va_D A ([mO a (nI n) (nI k) (nI 1)] : List va_W).flatten := hD
        refine b_if_ne (tgt := 38) hx hb dX9_lead_33 (by decide) (fun h33 => ?_) (fun h33 => ?_)
        · -- t
          exact absurd h33 (by decide)
        · -- f
          refine lv_iconst (v := nI 0) hx hb dX9_lead_36 (by decide) ?_
          exact r_i hx hb hr hlocks hP hD hS () rfl (rfl) dX9_lead_37
      · -- f
        exact (b3 hbad h6 h14 h22).elim

set_option maxHeartbeats 4000000 in
set_option maxRecDepth 100000 in
theorem c_X9_swap_ok (l : Launch) (D : va_G) (cY : Nat → ClassId) (sz : Nat) (a : Nat → Nat) (n : Nat) (k : Nat) (th : Int32) (fto : Nat → Int32) (g : Nat → Nat → Nat) (i : Nat) (j : Nat) (b : Nat) (hn1 : 1 ≤ n) (hn6 : n ≤ 6) (hk1 : 1 ≤ k) (hk12 : k ≤ 12) (hG : ∀ i j, i < n → j < k → fto (12 * i + j) = nI (g i j)) (hgn : ∀ i j, i < n → j < k → g i j < n) (hi : i < n) (hj : j < k) (hb6 : b < k) : Met l yX9_swap wsX9_swap ({ frames := 2, cells := 0, slots := 0, locals := 80 }) (cP D cY [.ref (a 0), .int (nI i), .int (nI j), .int (nI b)] [mO a (nI n) (nI k) th, [(a 1, .inl (cY 0, 72, .inl fto))]] sz) (qV (S := Unit) D cY (fun u => True) (fun u => [mO a (nI n) (nI k) (nI 0), [(a 1, .inl (cY 0, 72, .inl (upd (upd fto (12 * i + j) (nI (g i b))) (12 * i + b) (nI (g i j)))))]]) (va_A ([mO a (nI n) (nI k) th, [(a 1, .inl (cY 0, 72, .inl fto))]] : List va_W).flatten sz)) 0 0 (va_A ([mO a (nI n) (nI k) th, [(a 1, .inl (cY 0, 72, .inl fto))]] : List va_W).flatten sz) := by
  refine mtB (Qc := fun A => qV (S := Unit) D cY (fun u => True) (fun u => [mO a (nI n) (nI k) (nI 0), [(a 1, .inl (cY 0, 72, .inl (upd (upd fto (12 * i + j) (nI (g i b))) (12 * i + b) (nI (g i j)))))]]) A) (cc := cX9_swap) (maxL := 5) (ret := none) (by decide) rfl (Nat.le_of_ble_eq_true rfl) ?_
  intro p e s m below meth c A ls hx hb hr hml hts hown hlocks hnm hsz hP hK hVK hD hS hA hl
  have hown : s.vm.findClass RX9 = some m.cls := hown
  have hl : lv_has ls 5 [(0, .ref (a 0)), (1, .int (nI i)), (2, .int (nI j)), (3, .int (nI b))] := hl
  have hP : va_P D vwCl ([mO a (nI n) (nI k) th, [(a 1, .inl (cY 0, 72, .inl fto))]] : List va_W).flatten s.heap := hP
  have hD : va_D A ([mO a (nI n) (nI k) th, [(a 1, .inl (cY 0, 72, .inl fto))]] : List va_W).flatten := hD
  have hAa : inR (nI i) (nI 0) (nI (n - 1)) = true := inR_t (by omega) (by omega) (by omega)
  have hB : inR (nI j) (nI 0) (nI (k - 1)) = true := inR_t (by omega) (by omega) (by omega)
  have hC1 : inR (nI b) (nI 0) (nI (k - 1)) = true := inR_t (by omega) (by omega) (by omega)
  refine lv_aload_n hx hb dX9_swap_0 rfl (lv_at hl 0 rfl) ?_
  refine lv_aload_n hx hb dX9_swap_1 rfl (lv_at hl 0 rfl) ?_
  refine lv_iload_n hx hb dX9_swap_2 rfl (lv_at hl 1 rfl) ?_
  refine ca_i (CL := [mO a (nI n) (nI k) th]) (va_runV (As := [.int (nI i)]) (rest := [.ref (a 0)]) ⟨hx, hb, hml, hown, hts⟩ (c_X9_isState l D cY s.heap.size a n k th (nI i) (by omega)) (cwV 1 hts gX9_swap_X9_isState rfl rfl rfl (by decide +kernel) ⟨Nat.le_of_ble_eq_true rfl, Nat.le_of_ble_eq_true rfl⟩) (b_preV hVK hP hD [0] rfl rfl 0 rfl rfl) rfl rfl hl.1 rfl (lv_room (Nat.le_of_ble_eq_true rfl)) dX9_swap_3 ⟨Nat.le_refl _, Nat.le_refl _⟩) hP hD hS hA [0] rfl rfl (fun _ => rfl) (fun r3 uu H locs hq hP hD hS => ?_)
  subst hq
  have hP : va_P D vwCl ([mO a (nI n) (nI k) th, [(a 1, .inl (cY 0, 72, .inl fto))]] : List va_W).flatten H := hP
  have hD : va_D A ([mO a (nI n) (nI k) th, [(a 1, .inl (cY 0, 72, .inl fto))]] : List va_W).flatten := hD
  refine b_if_eq (tgt := 29) hx hb dX9_swap_6 (by decide) (fun h6 => ?_) (fun h6 => ?_)
  · -- t
    exact absurd (h6.symm.trans hAa) (by decide)
  · -- f
    refine lv_aload_n hx hb dX9_swap_9 rfl (lv_at hl 0 rfl) ?_
    refine lv_iload_n hx hb dX9_swap_10 rfl (lv_at hl 2 rfl) ?_
    refine ca_i (CL := [mO a (nI n) (nI k) th]) (va_runV (As := [.int (nI j)]) (rest := [.ref (a 0)]) ⟨hx, hb, hml, hown, hts⟩ (c_X9_isSlot l D cY H.size a n k th (nI j) (by omega)) (cwV 1 hts gX9_swap_X9_isSlot rfl rfl rfl (by decide +kernel) ⟨Nat.le_of_ble_eq_true rfl, Nat.le_of_ble_eq_true rfl⟩) (b_preV hVK hP hD [0] rfl rfl 0 rfl rfl) rfl rfl hl.1 rfl (lv_room (Nat.le_of_ble_eq_true rfl)) dX9_swap_11 ⟨Nat.le_refl _, Nat.le_refl _⟩) hP hD hS hA [0] rfl rfl (fun _ => rfl) (fun r11 uu H locs hq hP hD hS => ?_)
    subst hq
    have hP : va_P D vwCl ([mO a (nI n) (nI k) th, [(a 1, .inl (cY 0, 72, .inl fto))]] : List va_W).flatten H := hP
    have hD : va_D A ([mO a (nI n) (nI k) th, [(a 1, .inl (cY 0, 72, .inl fto))]] : List va_W).flatten := hD
    refine b_if_eq (tgt := 29) hx hb dX9_swap_14 (by decide) (fun h14 => ?_) (fun h14 => ?_)
    · -- t
      exact absurd (h14.symm.trans hB) (by decide)
    · -- f
      refine lv_aload_n hx hb dX9_swap_17 rfl (lv_at hl 0 rfl) ?_
      refine lv_iload_n hx hb dX9_swap_18 rfl (lv_at hl 3 rfl) ?_
      refine ca_i (CL := [mO a (nI n) (nI k) th]) (va_runV (As := [.int (nI b)]) (rest := [.ref (a 0)]) ⟨hx, hb, hml, hown, hts⟩ (c_X9_isSlot l D cY H.size a n k th (nI b) (by omega)) (cwV 1 hts gX9_swap_X9_isSlot rfl rfl rfl (by decide +kernel) ⟨Nat.le_of_ble_eq_true rfl, Nat.le_of_ble_eq_true rfl⟩) (b_preV hVK hP hD [0] rfl rfl 0 rfl rfl) rfl rfl hl.1 rfl (lv_room (Nat.le_of_ble_eq_true rfl)) dX9_swap_19 ⟨Nat.le_refl _, Nat.le_refl _⟩) hP hD hS hA [0] rfl rfl (fun _ => rfl) (fun r19 uu H locs hq hP hD hS => ?_)
      subst hq
      have hP : va_P D vwCl ([mO a (nI n) (nI k) th, [(a 1, .inl (cY 0, 72, .inl fto))]] : List va_W).flatten H := hP
      have hD : va_D A ([mO a (nI n) (nI k) th, [(a 1, .inl (cY 0, 72, .inl fto))]] : List va_W).flatten := hD
      refine b_if_eq (tgt := 29) hx hb dX9_swap_22 (by decide) (fun h22 => ?_) (fun h22 => ?_)
      · -- t
        exact absurd (h22.symm.trans hC1) (by decide)
      · -- f
        refine lv_iconst (v := nI 0) hx hb dX9_swap_25 (by decide) ?_
        refine lv_goto (tgt := 30) hx hb dX9_swap_26 (by decide) ?_
        refine ca_i (CL := [mO a (nI n) (nI k) th]) (va_runV (As := [.int (nI 0)]) (rest := []) ⟨hx, hb, hml, hown, hts⟩ (c_X9_can l D cY H.size a n k th 0 (by omega)) (cwV 1 hts gX9_swap_X9_can rfl rfl rfl (by decide +kernel) ⟨Nat.le_of_ble_eq_true rfl, Nat.le_of_ble_eq_true rfl⟩) (b_preV hVK hP hD [0] rfl rfl 0 rfl rfl) rfl rfl hl.1 rfl (lv_room (Nat.le_of_ble_eq_true rfl)) dX9_swap_30 ⟨Nat.le_refl _, Nat.le_refl _⟩) hP hD hS hA [0] rfl rfl (fun _ => rfl) (fun r30 uu H locs hq hP hD hS => ?_)
        subst hq
        have hP : va_P D vwCl ([mO a (nI n) (nI k) (nI 0), [(a 1, .inl (cY 0, 72, .inl fto))]] : List va_W).flatten H := hP
        have hD : va_D A ([mO a (nI n) (nI k) (nI 0), [(a 1, .inl (cY 0, 72, .inl fto))]] : List va_W).flatten := hD
        refine b_if_eq (tgt := 74) hx hb dX9_swap_33 (by decide) (fun h33 => ?_) (fun h33 => ?_)
        · -- t
          exact absurd h33 (by decide)
        · -- f
          refine lv_aload_n hx hb dX9_swap_36 rfl (lv_at hl 0 rfl) ?_
          refine lv_iload_n hx hb dX9_swap_37 rfl (lv_at hl 1 rfl) ?_
          refine lv_iload_n hx hb dX9_swap_38 rfl (lv_at hl 2 rfl) ?_
          refine ca_i (CL := [mO a (nI n) (nI k) (nI 0), [(a 1, .inl (cY 0, 72, .inl fto))]]) (va_runV (As := [.int (nI i), .int (nI j)]) (rest := []) ⟨hx, hb, hml, hown, hts⟩ (c_X9_goes l D cY H.size a n k (nI 0) fto g i j (by omega) (by omega) (by omega) (by omega) hG (by omega) (by omega)) (cwV 2 hts gX9_swap_X9_goes rfl rfl rfl (by decide +kernel) ⟨Nat.le_of_ble_eq_true rfl, Nat.le_of_ble_eq_true rfl⟩) (b_preV hVK hP hD [0, 1] rfl rfl 0 rfl rfl) rfl rfl hl.1 rfl (lv_room (Nat.le_of_ble_eq_true rfl)) dX9_swap_39 ⟨Nat.le_refl _, Nat.le_refl _⟩) hP hD hS hA [0, 1] rfl rfl (fun _ => rfl) (fun r39 uu H locs hq hP hD hS => ?_)
          subst hq
          have hP : va_P D vwCl ([mO a (nI n) (nI k) (nI 0), [(a 1, .inl (cY 0, 72, .inl fto))]] : List va_W).flatten H := hP
          have hD : va_D A ([mO a (nI n) (nI k) (nI 0), [(a 1, .inl (cY 0, 72, .inl fto))]] : List va_W).flatten := hD
          refine lv_istore (lv' := [(4, .int (nI (g i j))), (0, .ref (a 0)), (1, .int (nI i)), (2, .int (nI j)), (3, .int (nI b))]) hx hb dX9_swap_42 hl (by decide) rfl (fun ls hl => ?_)
          refine lv_aload_n hx hb dX9_swap_44 rfl (lv_at hl 1 rfl) ?_
          refine b_get (ci := 9) (v := .ref (a 1)) (C := RX9) (T := TX9) (N := 13) hx hb hts (by decide +kernel) hown hK hP 0 rfl rfl 2 (by decide) (hts (.fieldLink RX9 16 "ChanceHallModel" "to" "[I") (by decide +kernel)) (fun _ h9 => h9) rfl dX9_swap_45 ?_
          refine lv_bipush (v := nI 12) hx hb dX9_swap_48 (by decide) ?_
          refine lv_iload_n hx hb dX9_swap_50 rfl (lv_at hl 2 rfl) ?_
          refine lv_imul hx hb dX9_swap_51 ?_
          refine eqi (x' := nI (12 * i)) (pk_mul _ _) ?_
          refine lv_iload_n hx hb dX9_swap_52 rfl (lv_at hl 3 rfl) ?_
          refine lv_iadd hx hb dX9_swap_53 ?_
          refine eqi (x' := nI (12 * i + j)) (nI_add _ _) ?_
          refine lv_aload_n hx hb dX9_swap_54 rfl (lv_at hl 1 rfl) ?_
          refine lv_iload_n hx hb dX9_swap_55 rfl (lv_at hl 2 rfl) ?_
          refine lv_iload_n hx hb dX9_swap_56 rfl (lv_at hl 4 rfl) ?_
          refine ca_i (CL := [mO a (nI n) (nI k) (nI 0), [(a 1, .inl (cY 0, 72, .inl fto))]]) (va_runV (As := [.int (nI i), .int (nI b)]) (rest := [.int (nI (12 * i + j)), .ref (a 1)]) ⟨hx, hb, hml, hown, hts⟩ (c_X9_goes l D cY H.size a n k (nI 0) fto g i b (by omega) (by omega) (by omega) (by omega) hG (by omega) (by omega)) (cwV 2 hts gX9_swap_X9_goes rfl rfl rfl (by decide +kernel) ⟨Nat.le_of_ble_eq_true rfl, Nat.le_of_ble_eq_true rfl⟩) (b_preV hVK hP hD [0, 1] rfl rfl 0 rfl rfl) rfl rfl hl.1 rfl (lv_room (Nat.le_of_ble_eq_true rfl)) dX9_swap_57 ⟨Nat.le_refl _, Nat.le_refl _⟩) hP hD hS hA [0, 1] rfl rfl (fun _ => rfl) (fun r57 uu H locs hq hP hD hS => ?_)
          subst hq
          have hP : va_P D vwCl ([mO a (nI n) (nI k) (nI 0), [(a 1, .inl (cY 0, 72, .inl fto))]] : List va_W).flatten H := hP
          have hD : va_D A ([mO a (nI n) (nI k) (nI 0), [(a 1, .inl (cY 0, 72, .inl fto))]] : List va_W).flatten := hD
          refine b_iast hx hb hK hP hD hS 1 0 rfl rfl (by omega) (by decide) dX9_swap_60 (fun H locs hP hD hS => ?_)
          have hP : va_P D vwCl ([mO a (nI n) (nI k) (nI 0), [(a 1, .inl (cY 0, 72, .inl (upd fto (12 * i + j) (nI (g i b)))))]] : List va_W).flatten H := hP
          have hD : va_D A ([mO a (nI n) (nI k) (nI 0), [(a 1, .inl (cY 0, 72, .inl (upd fto (12 * i + j) (nI (g i b)))))]] : List va_W).flatten := hD
          refine lv_aload_n hx hb dX9_swap_61 rfl (lv_at hl 1 rfl) ?_
          refine b_get (ci := 9) (v := .ref (a 1)) (C := RX9) (T := TX9) (N := 13) hx hb hts (by decide +kernel) hown hK hP 0 rfl rfl 2 (by decide) (hts (.fieldLink RX9 16 "ChanceHallModel" "to" "[I") (by decide +kernel)) (fun _ h9 => h9) rfl dX9_swap_62 ?_
          refine lv_bipush (v := nI 12) hx hb dX9_swap_65 (by decide) ?_
          refine lv_iload_n hx hb dX9_swap_67 rfl (lv_at hl 2 rfl) ?_
          refine lv_imul hx hb dX9_swap_68 ?_
          refine eqi (x' := nI (12 * i)) (pk_mul _ _) ?_
          refine lv_iload_n hx hb dX9_swap_69 rfl (lv_at hl 4 rfl) ?_
          refine lv_iadd hx hb dX9_swap_70 ?_
          refine eqi (x' := nI (12 * i + b)) (nI_add _ _) ?_
          refine lv_iload hx hb dX9_swap_71 (lv_at hl 0 rfl) ?_
          refine b_iast hx hb hK hP hD hS 1 0 rfl rfl (by omega) (by decide) dX9_swap_73 (fun H locs hP hD hS => ?_)
          have hP : va_P D vwCl ([mO a (nI n) (nI k) (nI 0), [(a 1, .inl (cY 0, 72, .inl (upd (upd fto (12 * i + j) (nI (g i b))) (12 * i + b) (nI (g i j)))))]] : List va_W).flatten H := hP
          have hD : va_D A ([mO a (nI n) (nI k) (nI 0), [(a 1, .inl (cY 0, 72, .inl (upd (upd fto (12 * i + j) (nI (g i b))) (12 * i + b) (nI (g i j)))))]] : List va_W).flatten := hD
          exact r_v hx hb hr hlocks hP hD hS () rfl (trivial) dX9_swap_74

set_option maxHeartbeats 4000000 in
set_option maxRecDepth 100000 in
theorem c_X9_swap_bad (l : Launch) (D : va_G) (cY : Nat → ClassId) (sz : Nat) (a : Nat → Nat) (n : Nat) (k : Nat) (th : Int32) (x : Int32) (y : Int32) (z : Int32) (hn1 : 1 ≤ n) (hn6 : n ≤ 6) (hk1 : 1 ≤ k) (hk12 : k ≤ 12) (hbad : (inR x (nI 0) (nI (n - 1)) && inR y (nI 0) (nI (k - 1)) && inR z (nI 0) (nI (k - 1))) = false) : Met l yX9_swap wsX9_swap ({ frames := 2, cells := 0, slots := 0, locals := 80 }) (cP D cY [.ref (a 0), .int x, .int y, .int z] [mO a (nI n) (nI k) th] sz) (qV (S := Unit) D cY (fun u => True) (fun u => [mO a (nI n) (nI k) (nI 1)]) (va_A ([mO a (nI n) (nI k) th] : List va_W).flatten sz)) 0 0 (va_A ([mO a (nI n) (nI k) th] : List va_W).flatten sz) := by
  refine mtB (Qc := fun A => qV (S := Unit) D cY (fun u => True) (fun u => [mO a (nI n) (nI k) (nI 1)]) A) (cc := cX9_swap) (maxL := 5) (ret := none) (by decide) rfl (Nat.le_of_ble_eq_true rfl) ?_
  intro p e s m below meth c A ls hx hb hr hml hts hown hlocks hnm hsz hP hK hVK hD hS hA hl
  have hown : s.vm.findClass RX9 = some m.cls := hown
  have hl : lv_has ls 5 [(0, .ref (a 0)), (1, .int x), (2, .int y), (3, .int z)] := hl
  have hP : va_P D vwCl ([mO a (nI n) (nI k) th] : List va_W).flatten s.heap := hP
  have hD : va_D A ([mO a (nI n) (nI k) th] : List va_W).flatten := hD
  refine lv_aload_n hx hb dX9_swap_0 rfl (lv_at hl 0 rfl) ?_
  refine lv_aload_n hx hb dX9_swap_1 rfl (lv_at hl 0 rfl) ?_
  refine lv_iload_n hx hb dX9_swap_2 rfl (lv_at hl 1 rfl) ?_
  refine ca_i (CL := [mO a (nI n) (nI k) th]) (va_runV (As := [.int x]) (rest := [.ref (a 0)]) ⟨hx, hb, hml, hown, hts⟩ (c_X9_isState l D cY s.heap.size a n k th x (by omega)) (cwV 1 hts gX9_swap_X9_isState rfl rfl rfl (by decide +kernel) ⟨Nat.le_of_ble_eq_true rfl, Nat.le_of_ble_eq_true rfl⟩) (b_preV hVK hP hD [0] rfl rfl 0 rfl rfl) rfl rfl hl.1 rfl (lv_room (Nat.le_of_ble_eq_true rfl)) dX9_swap_3 ⟨Nat.le_refl _, Nat.le_refl _⟩) hP hD hS hA [0] rfl rfl (fun _ => rfl) (fun r3 uu H locs hq hP hD hS => ?_)
  subst hq
  have hP : va_P D vwCl ([mO a (nI n) (nI k) th] : List va_W).flatten H := hP
  have hD : va_D A ([mO a (nI n) (nI k) th] : List va_W).flatten := hD
  refine b_if_eq (tgt := 29) hx hb dX9_swap_6 (by decide) (fun h6 => ?_) (fun h6 => ?_)
  · -- t
    refine lv_iconst (v := nI 1) hx hb dX9_swap_29 (by decide) ?_
    refine ca_i (CL := [mO a (nI n) (nI k) th]) (va_runV (As := [.int (nI 1)]) (rest := []) ⟨hx, hb, hml, hown, hts⟩ (c_X9_can l D cY H.size a n k th 1 (by omega)) (cwV 1 hts gX9_swap_X9_can rfl rfl rfl (by decide +kernel) ⟨Nat.le_of_ble_eq_true rfl, Nat.le_of_ble_eq_true rfl⟩) (b_preV hVK hP hD [0] rfl rfl 0 rfl rfl) rfl rfl hl.1 rfl (lv_room (Nat.le_of_ble_eq_true rfl)) dX9_swap_30 ⟨Nat.le_refl _, Nat.le_refl _⟩) hP hD hS hA [0] rfl rfl (fun _ => rfl) (fun r30 uu H locs hq hP hD hS => ?_)
    subst hq
    have hP : va_P D vwCl ([mO a (nI n) (nI k) (nI 1)] : List va_W).flatten H := hP
    have hD : va_D A ([mO a (nI n) (nI k) (nI 1)] : List va_W).flatten := hD
    refine b_if_eq (tgt := 74) hx hb dX9_swap_33 (by decide) (fun h33 => ?_) (fun h33 => ?_)
    · -- t
      exact r_v hx hb hr hlocks hP hD hS () rfl (trivial) dX9_swap_74
    · -- f
      exact absurd h33 (by decide)
  · -- f
    refine lv_aload_n hx hb dX9_swap_9 rfl (lv_at hl 0 rfl) ?_
    refine lv_iload_n hx hb dX9_swap_10 rfl (lv_at hl 2 rfl) ?_
    refine ca_i (CL := [mO a (nI n) (nI k) th]) (va_runV (As := [.int y]) (rest := [.ref (a 0)]) ⟨hx, hb, hml, hown, hts⟩ (c_X9_isSlot l D cY H.size a n k th y (by omega)) (cwV 1 hts gX9_swap_X9_isSlot rfl rfl rfl (by decide +kernel) ⟨Nat.le_of_ble_eq_true rfl, Nat.le_of_ble_eq_true rfl⟩) (b_preV hVK hP hD [0] rfl rfl 0 rfl rfl) rfl rfl hl.1 rfl (lv_room (Nat.le_of_ble_eq_true rfl)) dX9_swap_11 ⟨Nat.le_refl _, Nat.le_refl _⟩) hP hD hS hA [0] rfl rfl (fun _ => rfl) (fun r11 uu H locs hq hP hD hS => ?_)
    subst hq
    have hP : va_P D vwCl ([mO a (nI n) (nI k) th] : List va_W).flatten H := hP
    have hD : va_D A ([mO a (nI n) (nI k) th] : List va_W).flatten := hD
    refine b_if_eq (tgt := 29) hx hb dX9_swap_14 (by decide) (fun h14 => ?_) (fun h14 => ?_)
    · -- t
      refine lv_iconst (v := nI 1) hx hb dX9_swap_29 (by decide) ?_
      refine ca_i (CL := [mO a (nI n) (nI k) th]) (va_runV (As := [.int (nI 1)]) (rest := []) ⟨hx, hb, hml, hown, hts⟩ (c_X9_can l D cY H.size a n k th 1 (by omega)) (cwV 1 hts gX9_swap_X9_can rfl rfl rfl (by decide +kernel) ⟨Nat.le_of_ble_eq_true rfl, Nat.le_of_ble_eq_true rfl⟩) (b_preV hVK hP hD [0] rfl rfl 0 rfl rfl) rfl rfl hl.1 rfl (lv_room (Nat.le_of_ble_eq_true rfl)) dX9_swap_30 ⟨Nat.le_refl _, Nat.le_refl _⟩) hP hD hS hA [0] rfl rfl (fun _ => rfl) (fun r30 uu H locs hq hP hD hS => ?_)
      subst hq
      have hP : va_P D vwCl ([mO a (nI n) (nI k) (nI 1)] : List va_W).flatten H := hP
      have hD : va_D A ([mO a (nI n) (nI k) (nI 1)] : List va_W).flatten := hD
      refine b_if_eq (tgt := 74) hx hb dX9_swap_33 (by decide) (fun h33 => ?_) (fun h33 => ?_)
      · -- t
        exact r_v hx hb hr hlocks hP hD hS () rfl (trivial) dX9_swap_74
      · -- f
        exact absurd h33 (by decide)
    · -- f
      refine lv_aload_n hx hb dX9_swap_17 rfl (lv_at hl 0 rfl) ?_
      refine lv_iload_n hx hb dX9_swap_18 rfl (lv_at hl 3 rfl) ?_
      refine ca_i (CL := [mO a (nI n) (nI k) th]) (va_runV (As := [.int z]) (rest := [.ref (a 0)]) ⟨hx, hb, hml, hown, hts⟩ (c_X9_isSlot l D cY H.size a n k th z (by omega)) (cwV 1 hts gX9_swap_X9_isSlot rfl rfl rfl (by decide +kernel) ⟨Nat.le_of_ble_eq_true rfl, Nat.le_of_ble_eq_true rfl⟩) (b_preV hVK hP hD [0] rfl rfl 0 rfl rfl) rfl rfl hl.1 rfl (lv_room (Nat.le_of_ble_eq_true rfl)) dX9_swap_19 ⟨Nat.le_refl _, Nat.le_refl _⟩) hP hD hS hA [0] rfl rfl (fun _ => rfl) (fun r19 uu H locs hq hP hD hS => ?_)
      subst hq
      have hP : va_P D vwCl ([mO a (nI n) (nI k) th] : List va_W).flatten H := hP
      have hD : va_D A ([mO a (nI n) (nI k) th] : List va_W).flatten := hD
      refine b_if_eq (tgt := 29) hx hb dX9_swap_22 (by decide) (fun h22 => ?_) (fun h22 => ?_)
      · -- t
        refine lv_iconst (v := nI 1) hx hb dX9_swap_29 (by decide) ?_
        refine ca_i (CL := [mO a (nI n) (nI k) th]) (va_runV (As := [.int (nI 1)]) (rest := []) ⟨hx, hb, hml, hown, hts⟩ (c_X9_can l D cY H.size a n k th 1 (by omega)) (cwV 1 hts gX9_swap_X9_can rfl rfl rfl (by decide +kernel) ⟨Nat.le_of_ble_eq_true rfl, Nat.le_of_ble_eq_true rfl⟩) (b_preV hVK hP hD [0] rfl rfl 0 rfl rfl) rfl rfl hl.1 rfl (lv_room (Nat.le_of_ble_eq_true rfl)) dX9_swap_30 ⟨Nat.le_refl _, Nat.le_refl _⟩) hP hD hS hA [0] rfl rfl (fun _ => rfl) (fun r30 uu H locs hq hP hD hS => ?_)
        subst hq
        have hP : va_P D vwCl ([mO a (nI n) (nI k) (nI 1)] : List va_W).flatten H := hP
        have hD : va_D A ([mO a (nI n) (nI k) (nI 1)] : List va_W).flatten := hD
        refine b_if_eq (tgt := 74) hx hb dX9_swap_33 (by decide) (fun h33 => ?_) (fun h33 => ?_)
        · -- t
          exact r_v hx hb hr hlocks hP hD hS () rfl (trivial) dX9_swap_74
        · -- f
          exact absurd h33 (by decide)
      · -- f
        exact (b3 hbad h6 h14 h22).elim

set_option maxHeartbeats 4000000 in
set_option maxRecDepth 100000 in
theorem c_X9_pay_ok (l : Launch) (D : va_G) (cY : Nat → ClassId) (sz : Nat) (a : Nat → Nat) (n : Nat) (k : Nat) (th : Int32) (fpay : Nat → Int32) (i : Nat) (v0 : Int32) (hn1 : 1 ≤ n) (hn6 : n ≤ 6) (hk1 : 1 ≤ k) (hk12 : k ≤ 12) (hi : i < n) (hv : inR v0 (-100000) (nI 100000) = true) : Met l yX9_pay wsX9_pay ({ frames := 2, cells := 0, slots := 0, locals := 80 }) (cP D cY [.ref (a 0), .int (nI i), .int v0] [mO a (nI n) (nI k) th, [(a 2, .inl (cY 0, 6, .inl fpay))]] sz) (qI (S := Unit) D cY (fun r u => r = fpay i) (fun u => [mO a (nI n) (nI k) (nI 0), [(a 2, .inl (cY 0, 6, .inl (upd fpay i v0)))]]) (va_A ([mO a (nI n) (nI k) th, [(a 2, .inl (cY 0, 6, .inl fpay))]] : List va_W).flatten sz)) 0 0 (va_A ([mO a (nI n) (nI k) th, [(a 2, .inl (cY 0, 6, .inl fpay))]] : List va_W).flatten sz) := by
  refine mtB (Qc := fun A => qI (S := Unit) D cY (fun r u => r = fpay i) (fun u => [mO a (nI n) (nI k) (nI 0), [(a 2, .inl (cY 0, 6, .inl (upd fpay i v0)))]]) A) (cc := cX9_pay) (maxL := 4) (ret := (some .int)) (by decide) rfl (Nat.le_of_ble_eq_true rfl) ?_
  intro p e s m below meth c A ls hx hb hr hml hts hown hlocks hnm hsz hP hK hVK hD hS hA hl
  have hown : s.vm.findClass RX9 = some m.cls := hown
  have hl : lv_has ls 4 [(0, .ref (a 0)), (1, .int (nI i)), (2, .int v0)] := hl
  have hP : va_P D vwCl ([mO a (nI n) (nI k) th, [(a 2, .inl (cY 0, 6, .inl fpay))]] : List va_W).flatten s.heap := hP
  have hD : va_D A ([mO a (nI n) (nI k) th, [(a 2, .inl (cY 0, 6, .inl fpay))]] : List va_W).flatten := hD
  have hAa : inR (nI i) (nI 0) (nI (n - 1)) = true := inR_t (by omega) (by omega) (by omega)
  refine lv_aload_n hx hb dX9_pay_0 rfl (lv_at hl 0 rfl) ?_
  refine lv_aload_n hx hb dX9_pay_1 rfl (lv_at hl 0 rfl) ?_
  refine lv_iload_n hx hb dX9_pay_2 rfl (lv_at hl 1 rfl) ?_
  refine ca_i (CL := [mO a (nI n) (nI k) th]) (va_runV (As := [.int (nI i)]) (rest := [.ref (a 0)]) ⟨hx, hb, hml, hown, hts⟩ (c_X9_isState l D cY s.heap.size a n k th (nI i) (by omega)) (cwV 1 hts gX9_pay_X9_isState rfl rfl rfl (by decide +kernel) ⟨Nat.le_of_ble_eq_true rfl, Nat.le_of_ble_eq_true rfl⟩) (b_preV hVK hP hD [0] rfl rfl 0 rfl rfl) rfl rfl hl.1 rfl (lv_room (Nat.le_of_ble_eq_true rfl)) dX9_pay_3 ⟨Nat.le_refl _, Nat.le_refl _⟩) hP hD hS hA [0] rfl rfl (fun _ => rfl) (fun r3 uu H locs hq hP hD hS => ?_)
  subst hq
  have hP : va_P D vwCl ([mO a (nI n) (nI k) th, [(a 2, .inl (cY 0, 6, .inl fpay))]] : List va_W).flatten H := hP
  have hD : va_D A ([mO a (nI n) (nI k) th, [(a 2, .inl (cY 0, 6, .inl fpay))]] : List va_W).flatten := hD
  refine b_if_ne (tgt := 13) hx hb dX9_pay_6 (by decide) (fun h6 => ?_) (fun h6 => ?_)
  · -- t
    refine lv_iload_n hx hb dX9_pay_13 rfl (lv_at hl 2 rfl) ?_
    refine lv_ldc (v := (-100000)) hx hb hown (hts (.constant RX9 69 (-100000)) (by decide +kernel)) dX9_pay_14 ?_
    refine lv_ldc (v := 100000) hx hb hown (hts (.constant RX9 70 100000) (by decide +kernel)) dX9_pay_16 ?_
    refine eqi (x' := nI 100000) (by decide) ?_
    refine ca_i (CL := []) (va_runS (As := [.int v0, .int (-100000), .int (nI 100000)]) (rest := [.ref (a 0)]) ⟨hx, hb, hml, hown, hts⟩ (c_X9_isIn l D cY H.size v0 (-100000) (nI 100000)) (va_cwS 3 hts gX9_pay_X9_isIn rfl rfl rfl (by decide +kernel) ⟨Nat.le_of_ble_eq_true rfl, Nat.le_of_ble_eq_true rfl⟩) (b_preS hVK hP hD [] rfl rfl) rfl rfl hl.1 rfl (lv_room (Nat.le_of_ble_eq_true rfl)) dX9_pay_18 ⟨Nat.le_refl _, Nat.le_refl _⟩) hP hD hS hA [] rfl rfl (fun _ => rfl) (fun r18 uu H locs hq hP hD hS => ?_)
    subst hq
    have hP : va_P D vwCl ([mO a (nI n) (nI k) th, [(a 2, .inl (cY 0, 6, .inl fpay))]] : List va_W).flatten H := hP
    have hD : va_D A ([mO a (nI n) (nI k) th, [(a 2, .inl (cY 0, 6, .inl fpay))]] : List va_W).flatten := hD
    refine b_if_eq (tgt := 28) hx hb dX9_pay_21 (by decide) (fun h21 => ?_) (fun h21 => ?_)
    · -- t
      exact absurd (h21.symm.trans hv) (by decide)
    · -- f
      refine lv_iconst (v := nI 0) hx hb dX9_pay_24 (by decide) ?_
      refine lv_goto (tgt := 29) hx hb dX9_pay_25 (by decide) ?_
      refine ca_i (CL := [mO a (nI n) (nI k) th]) (va_runV (As := [.int (nI 0)]) (rest := []) ⟨hx, hb, hml, hown, hts⟩ (c_X9_can l D cY H.size a n k th 0 (by omega)) (cwV 1 hts gX9_pay_X9_can rfl rfl rfl (by decide +kernel) ⟨Nat.le_of_ble_eq_true rfl, Nat.le_of_ble_eq_true rfl⟩) (b_preV hVK hP hD [0] rfl rfl 0 rfl rfl) rfl rfl hl.1 rfl (lv_room (Nat.le_of_ble_eq_true rfl)) dX9_pay_29 ⟨Nat.le_refl _, Nat.le_refl _⟩) hP hD hS hA [0] rfl rfl (fun _ => rfl) (fun r29 uu H locs hq hP hD hS => ?_)
      subst hq
      have hP : va_P D vwCl ([mO a (nI n) (nI k) (nI 0), [(a 2, .inl (cY 0, 6, .inl fpay))]] : List va_W).flatten H := hP
      have hD : va_D A ([mO a (nI n) (nI k) (nI 0), [(a 2, .inl (cY 0, 6, .inl fpay))]] : List va_W).flatten := hD
      refine b_if_ne (tgt := 37) hx hb dX9_pay_32 (by decide) (fun h32 => ?_) (fun h32 => ?_)
      · -- t
        refine lv_aload_n hx hb dX9_pay_37 rfl (lv_at hl 0 rfl) ?_
        refine b_get (ci := 9) (v := .ref (a 2)) (C := RX9) (T := TX9) (N := 13) hx hb hts (by decide +kernel) hown hK hP 0 rfl rfl 3 (by decide) (hts (.fieldLink RX9 20 "ChanceHallModel" "pay" "[I") (by decide +kernel)) (fun _ h9 => h9) rfl dX9_pay_38 ?_
        refine lv_iload_n hx hb dX9_pay_41 rfl (lv_at hl 1 rfl) ?_
        refine b_iald hx hb hK hP 1 0 rfl rfl (by omega) (by decide) dX9_pay_42 ?_
        refine lv_istore_n (lv' := [(3, .int (fpay i)), (0, .ref (a 0)), (1, .int (nI i)), (2, .int v0)]) hx hb dX9_pay_43 rfl hl (by decide) rfl (fun ls hl => ?_)
        refine lv_aload_n hx hb dX9_pay_44 rfl (lv_at hl 1 rfl) ?_
        refine b_get (ci := 9) (v := .ref (a 2)) (C := RX9) (T := TX9) (N := 13) hx hb hts (by decide +kernel) hown hK hP 0 rfl rfl 3 (by decide) (hts (.fieldLink RX9 20 "ChanceHallModel" "pay" "[I") (by decide +kernel)) (fun _ h9 => h9) rfl dX9_pay_45 ?_
        refine lv_iload_n hx hb dX9_pay_48 rfl (lv_at hl 2 rfl) ?_
        refine lv_iload_n hx hb dX9_pay_49 rfl (lv_at hl 3 rfl) ?_
        refine b_iast hx hb hK hP hD hS 1 0 rfl rfl (by omega) (by decide) dX9_pay_50 (fun H locs hP hD hS => ?_)
        have hP : va_P D vwCl ([mO a (nI n) (nI k) (nI 0), [(a 2, .inl (cY 0, 6, .inl (upd fpay i v0)))]] : List va_W).flatten H := hP
        have hD : va_D A ([mO a (nI n) (nI k) (nI 0), [(a 2, .inl (cY 0, 6, .inl (upd fpay i v0)))]] : List va_W).flatten := hD
        refine lv_iload_n hx hb dX9_pay_51 rfl (lv_at hl 0 rfl) ?_
        exact r_i hx hb hr hlocks hP hD hS () rfl (rfl) dX9_pay_52
      · -- f
        exact absurd h32 (by decide)
  · -- f
    exact absurd (h6.symm.trans hAa) (by decide)

set_option maxHeartbeats 4000000 in
set_option maxRecDepth 100000 in
theorem c_X9_pay_b1 (l : Launch) (D : va_G) (cY : Nat → ClassId) (sz : Nat) (a : Nat → Nat) (n : Nat) (k : Nat) (th : Int32) (x : Int32) (v0 : Int32) (hn1 : 1 ≤ n) (hn6 : n ≤ 6) (hk1 : 1 ≤ k) (hk12 : k ≤ 12) (hbad : inR x (nI 0) (nI (n - 1)) = false) : Met l yX9_pay wsX9_pay ({ frames := 2, cells := 0, slots := 0, locals := 80 }) (cP D cY [.ref (a 0), .int x, .int v0] [mO a (nI n) (nI k) th] sz) (qI (S := Unit) D cY (fun r u => r = nI 0) (fun u => [mO a (nI n) (nI k) (nI 1)]) (va_A ([mO a (nI n) (nI k) th] : List va_W).flatten sz)) 0 0 (va_A ([mO a (nI n) (nI k) th] : List va_W).flatten sz) := by
  refine mtB (Qc := fun A => qI (S := Unit) D cY (fun r u => r = nI 0) (fun u => [mO a (nI n) (nI k) (nI 1)]) A) (cc := cX9_pay) (maxL := 4) (ret := (some .int)) (by decide) rfl (Nat.le_of_ble_eq_true rfl) ?_
  intro p e s m below meth c A ls hx hb hr hml hts hown hlocks hnm hsz hP hK hVK hD hS hA hl
  have hown : s.vm.findClass RX9 = some m.cls := hown
  have hl : lv_has ls 4 [(0, .ref (a 0)), (1, .int x), (2, .int v0)] := hl
  have hP : va_P D vwCl ([mO a (nI n) (nI k) th] : List va_W).flatten s.heap := hP
  have hD : va_D A ([mO a (nI n) (nI k) th] : List va_W).flatten := hD
  refine lv_aload_n hx hb dX9_pay_0 rfl (lv_at hl 0 rfl) ?_
  refine lv_aload_n hx hb dX9_pay_1 rfl (lv_at hl 0 rfl) ?_
  refine lv_iload_n hx hb dX9_pay_2 rfl (lv_at hl 1 rfl) ?_
  refine ca_i (CL := [mO a (nI n) (nI k) th]) (va_runV (As := [.int x]) (rest := [.ref (a 0)]) ⟨hx, hb, hml, hown, hts⟩ (c_X9_isState l D cY s.heap.size a n k th x (by omega)) (cwV 1 hts gX9_pay_X9_isState rfl rfl rfl (by decide +kernel) ⟨Nat.le_of_ble_eq_true rfl, Nat.le_of_ble_eq_true rfl⟩) (b_preV hVK hP hD [0] rfl rfl 0 rfl rfl) rfl rfl hl.1 rfl (lv_room (Nat.le_of_ble_eq_true rfl)) dX9_pay_3 ⟨Nat.le_refl _, Nat.le_refl _⟩) hP hD hS hA [0] rfl rfl (fun _ => rfl) (fun r3 uu H locs hq hP hD hS => ?_)
  subst hq
  have hP : va_P D vwCl ([mO a (nI n) (nI k) th] : List va_W).flatten H := hP
  have hD : va_D A ([mO a (nI n) (nI k) th] : List va_W).flatten := hD
  refine b_if_ne (tgt := 13) hx hb dX9_pay_6 (by decide) (fun h6 => ?_) (fun h6 => ?_)
  · -- t
    exact absurd (h6.symm.trans hbad) (by decide)
  · -- f
    refine lv_iconst (v := nI 1) hx hb dX9_pay_9 (by decide) ?_
    refine lv_goto (tgt := 29) hx hb dX9_pay_10 (by decide) ?_
    refine ca_i (CL := [mO a (nI n) (nI k) th]) (va_runV (As := [.int (nI 1)]) (rest := []) ⟨hx, hb, hml, hown, hts⟩ (c_X9_can l D cY H.size a n k th 1 (by omega)) (cwV 1 hts gX9_pay_X9_can rfl rfl rfl (by decide +kernel) ⟨Nat.le_of_ble_eq_true rfl, Nat.le_of_ble_eq_true rfl⟩) (b_preV hVK hP hD [0] rfl rfl 0 rfl rfl) rfl rfl hl.1 rfl (lv_room (Nat.le_of_ble_eq_true rfl)) dX9_pay_29 ⟨Nat.le_refl _, Nat.le_refl _⟩) hP hD hS hA [0] rfl rfl (fun _ => rfl) (fun r29 uu H locs hq hP hD hS => ?_)
    subst hq
    have hP : va_P D vwCl ([mO a (nI n) (nI k) (nI 1)] : List va_W).flatten H := hP
    have hD : va_D A ([mO a (nI n) (nI k) (nI 1)] : List va_W).flatten := hD
    refine b_if_ne (tgt := 37) hx hb dX9_pay_32 (by decide) (fun h32 => ?_) (fun h32 => ?_)
    · -- t
      exact absurd h32 (by decide)
    · -- f
      refine lv_iconst (v := nI 0) hx hb dX9_pay_35 (by decide) ?_
      exact r_i hx hb hr hlocks hP hD hS () rfl (rfl) dX9_pay_36

set_option maxHeartbeats 4000000 in
set_option maxRecDepth 100000 in
theorem c_X9_pay_b2 (l : Launch) (D : va_G) (cY : Nat → ClassId) (sz : Nat) (a : Nat → Nat) (n : Nat) (k : Nat) (th : Int32) (x : Int32) (v0 : Int32) (hn1 : 1 ≤ n) (hn6 : n ≤ 6) (hk1 : 1 ≤ k) (hk12 : k ≤ 12) (hAa : inR x (nI 0) (nI (n - 1)) = true) (hbad : inR v0 (-100000) (nI 100000) = false) : Met l yX9_pay wsX9_pay ({ frames := 2, cells := 0, slots := 0, locals := 80 }) (cP D cY [.ref (a 0), .int x, .int v0] [mO a (nI n) (nI k) th] sz) (qI (S := Unit) D cY (fun r u => r = nI 0) (fun u => [mO a (nI n) (nI k) (nI 2)]) (va_A ([mO a (nI n) (nI k) th] : List va_W).flatten sz)) 0 0 (va_A ([mO a (nI n) (nI k) th] : List va_W).flatten sz) := by
  refine mtB (Qc := fun A => qI (S := Unit) D cY (fun r u => r = nI 0) (fun u => [mO a (nI n) (nI k) (nI 2)]) A) (cc := cX9_pay) (maxL := 4) (ret := (some .int)) (by decide) rfl (Nat.le_of_ble_eq_true rfl) ?_
  intro p e s m below meth c A ls hx hb hr hml hts hown hlocks hnm hsz hP hK hVK hD hS hA hl
  have hown : s.vm.findClass RX9 = some m.cls := hown
  have hl : lv_has ls 4 [(0, .ref (a 0)), (1, .int x), (2, .int v0)] := hl
  have hP : va_P D vwCl ([mO a (nI n) (nI k) th] : List va_W).flatten s.heap := hP
  have hD : va_D A ([mO a (nI n) (nI k) th] : List va_W).flatten := hD
  refine lv_aload_n hx hb dX9_pay_0 rfl (lv_at hl 0 rfl) ?_
  refine lv_aload_n hx hb dX9_pay_1 rfl (lv_at hl 0 rfl) ?_
  refine lv_iload_n hx hb dX9_pay_2 rfl (lv_at hl 1 rfl) ?_
  refine ca_i (CL := [mO a (nI n) (nI k) th]) (va_runV (As := [.int x]) (rest := [.ref (a 0)]) ⟨hx, hb, hml, hown, hts⟩ (c_X9_isState l D cY s.heap.size a n k th x (by omega)) (cwV 1 hts gX9_pay_X9_isState rfl rfl rfl (by decide +kernel) ⟨Nat.le_of_ble_eq_true rfl, Nat.le_of_ble_eq_true rfl⟩) (b_preV hVK hP hD [0] rfl rfl 0 rfl rfl) rfl rfl hl.1 rfl (lv_room (Nat.le_of_ble_eq_true rfl)) dX9_pay_3 ⟨Nat.le_refl _, Nat.le_refl _⟩) hP hD hS hA [0] rfl rfl (fun _ => rfl) (fun r3 uu H locs hq hP hD hS => ?_)
  subst hq
  have hP : va_P D vwCl ([mO a (nI n) (nI k) th] : List va_W).flatten H := hP
  have hD : va_D A ([mO a (nI n) (nI k) th] : List va_W).flatten := hD
  refine b_if_ne (tgt := 13) hx hb dX9_pay_6 (by decide) (fun h6 => ?_) (fun h6 => ?_)
  · -- t
    refine lv_iload_n hx hb dX9_pay_13 rfl (lv_at hl 2 rfl) ?_
    refine lv_ldc (v := (-100000)) hx hb hown (hts (.constant RX9 69 (-100000)) (by decide +kernel)) dX9_pay_14 ?_
    refine lv_ldc (v := 100000) hx hb hown (hts (.constant RX9 70 100000) (by decide +kernel)) dX9_pay_16 ?_
    refine eqi (x' := nI 100000) (by decide) ?_
    refine ca_i (CL := []) (va_runS (As := [.int v0, .int (-100000), .int (nI 100000)]) (rest := [.ref (a 0)]) ⟨hx, hb, hml, hown, hts⟩ (c_X9_isIn l D cY H.size v0 (-100000) (nI 100000)) (va_cwS 3 hts gX9_pay_X9_isIn rfl rfl rfl (by decide +kernel) ⟨Nat.le_of_ble_eq_true rfl, Nat.le_of_ble_eq_true rfl⟩) (b_preS hVK hP hD [] rfl rfl) rfl rfl hl.1 rfl (lv_room (Nat.le_of_ble_eq_true rfl)) dX9_pay_18 ⟨Nat.le_refl _, Nat.le_refl _⟩) hP hD hS hA [] rfl rfl (fun _ => rfl) (fun r18 uu H locs hq hP hD hS => ?_)
    subst hq
    have hP : va_P D vwCl ([mO a (nI n) (nI k) th] : List va_W).flatten H := hP
    have hD : va_D A ([mO a (nI n) (nI k) th] : List va_W).flatten := hD
    refine b_if_eq (tgt := 28) hx hb dX9_pay_21 (by decide) (fun h21 => ?_) (fun h21 => ?_)
    · -- t
      refine lv_iconst (v := nI 2) hx hb dX9_pay_28 (by decide) ?_
      refine ca_i (CL := [mO a (nI n) (nI k) th]) (va_runV (As := [.int (nI 2)]) (rest := []) ⟨hx, hb, hml, hown, hts⟩ (c_X9_can l D cY H.size a n k th 2 (by omega)) (cwV 1 hts gX9_pay_X9_can rfl rfl rfl (by decide +kernel) ⟨Nat.le_of_ble_eq_true rfl, Nat.le_of_ble_eq_true rfl⟩) (b_preV hVK hP hD [0] rfl rfl 0 rfl rfl) rfl rfl hl.1 rfl (lv_room (Nat.le_of_ble_eq_true rfl)) dX9_pay_29 ⟨Nat.le_refl _, Nat.le_refl _⟩) hP hD hS hA [0] rfl rfl (fun _ => rfl) (fun r29 uu H locs hq hP hD hS => ?_)
      subst hq
      have hP : va_P D vwCl ([mO a (nI n) (nI k) (nI 2)] : List va_W).flatten H := hP
      have hD : va_D A ([mO a (nI n) (nI k) (nI 2)] : List va_W).flatten := hD
      refine b_if_ne (tgt := 37) hx hb dX9_pay_32 (by decide) (fun h32 => ?_) (fun h32 => ?_)
      · -- t
        exact absurd h32 (by decide)
      · -- f
        refine lv_iconst (v := nI 0) hx hb dX9_pay_35 (by decide) ?_
        exact r_i hx hb hr hlocks hP hD hS () rfl (rfl) dX9_pay_36
    · -- f
      exact absurd (h21.symm.trans hbad) (by decide)
  · -- f
    exact absurd (h6.symm.trans hAa) (by decide)

set_option maxHeartbeats 4000000 in
set_option maxRecDepth 100000 in
theorem c_X9_colour_ok (l : Launch) (D : va_G) (cY : Nat → ClassId) (sz : Nat) (a : Nat → Nat) (n : Nat) (k : Nat) (th : Int32) (fcol : Nat → Int32) (i : Nat) (v0 : Int32) (hn1 : 1 ≤ n) (hn6 : n ≤ 6) (hk1 : 1 ≤ k) (hk12 : k ≤ 12) (hi : i < n) (hv : inR v0 (nI 0) (nI 5) = true) : Met l yX9_colour wsX9_colour ({ frames := 2, cells := 0, slots := 0, locals := 80 }) (cP D cY [.ref (a 0), .int (nI i), .int v0] [mO a (nI n) (nI k) th, [(a 3, .inl (cY 0, 6, .inl fcol))]] sz) (qI (S := Unit) D cY (fun r u => r = fcol i) (fun u => [mO a (nI n) (nI k) (nI 0), [(a 3, .inl (cY 0, 6, .inl (upd fcol i v0)))]]) (va_A ([mO a (nI n) (nI k) th, [(a 3, .inl (cY 0, 6, .inl fcol))]] : List va_W).flatten sz)) 0 0 (va_A ([mO a (nI n) (nI k) th, [(a 3, .inl (cY 0, 6, .inl fcol))]] : List va_W).flatten sz) := by
  refine mtB (Qc := fun A => qI (S := Unit) D cY (fun r u => r = fcol i) (fun u => [mO a (nI n) (nI k) (nI 0), [(a 3, .inl (cY 0, 6, .inl (upd fcol i v0)))]]) A) (cc := cX9_colour) (maxL := 4) (ret := (some .int)) (by decide) rfl (Nat.le_of_ble_eq_true rfl) ?_
  intro p e s m below meth c A ls hx hb hr hml hts hown hlocks hnm hsz hP hK hVK hD hS hA hl
  have hown : s.vm.findClass RX9 = some m.cls := hown
  have hl : lv_has ls 4 [(0, .ref (a 0)), (1, .int (nI i)), (2, .int v0)] := hl
  have hP : va_P D vwCl ([mO a (nI n) (nI k) th, [(a 3, .inl (cY 0, 6, .inl fcol))]] : List va_W).flatten s.heap := hP
  have hD : va_D A ([mO a (nI n) (nI k) th, [(a 3, .inl (cY 0, 6, .inl fcol))]] : List va_W).flatten := hD
  have hAa : inR (nI i) (nI 0) (nI (n - 1)) = true := inR_t (by omega) (by omega) (by omega)
  refine lv_aload_n hx hb dX9_colour_0 rfl (lv_at hl 0 rfl) ?_
  refine lv_aload_n hx hb dX9_colour_1 rfl (lv_at hl 0 rfl) ?_
  refine lv_iload_n hx hb dX9_colour_2 rfl (lv_at hl 1 rfl) ?_
  refine ca_i (CL := [mO a (nI n) (nI k) th]) (va_runV (As := [.int (nI i)]) (rest := [.ref (a 0)]) ⟨hx, hb, hml, hown, hts⟩ (c_X9_isState l D cY s.heap.size a n k th (nI i) (by omega)) (cwV 1 hts gX9_colour_X9_isState rfl rfl rfl (by decide +kernel) ⟨Nat.le_of_ble_eq_true rfl, Nat.le_of_ble_eq_true rfl⟩) (b_preV hVK hP hD [0] rfl rfl 0 rfl rfl) rfl rfl hl.1 rfl (lv_room (Nat.le_of_ble_eq_true rfl)) dX9_colour_3 ⟨Nat.le_refl _, Nat.le_refl _⟩) hP hD hS hA [0] rfl rfl (fun _ => rfl) (fun r3 uu H locs hq hP hD hS => ?_)
  subst hq
  have hP : va_P D vwCl ([mO a (nI n) (nI k) th, [(a 3, .inl (cY 0, 6, .inl fcol))]] : List va_W).flatten H := hP
  have hD : va_D A ([mO a (nI n) (nI k) th, [(a 3, .inl (cY 0, 6, .inl fcol))]] : List va_W).flatten := hD
  refine b_if_ne (tgt := 13) hx hb dX9_colour_6 (by decide) (fun h6 => ?_) (fun h6 => ?_)
  · -- t
    refine lv_iload_n hx hb dX9_colour_13 rfl (lv_at hl 2 rfl) ?_
    refine lv_iconst (v := nI 0) hx hb dX9_colour_14 (by decide) ?_
    refine lv_iconst (v := nI 5) hx hb dX9_colour_15 (by decide) ?_
    refine ca_i (CL := []) (va_runS (As := [.int v0, .int (nI 0), .int (nI 5)]) (rest := [.ref (a 0)]) ⟨hx, hb, hml, hown, hts⟩ (c_X9_isIn l D cY H.size v0 (nI 0) (nI 5)) (va_cwS 3 hts gX9_colour_X9_isIn rfl rfl rfl (by decide +kernel) ⟨Nat.le_of_ble_eq_true rfl, Nat.le_of_ble_eq_true rfl⟩) (b_preS hVK hP hD [] rfl rfl) rfl rfl hl.1 rfl (lv_room (Nat.le_of_ble_eq_true rfl)) dX9_colour_16 ⟨Nat.le_refl _, Nat.le_refl _⟩) hP hD hS hA [] rfl rfl (fun _ => rfl) (fun r16 uu H locs hq hP hD hS => ?_)
    subst hq
    have hP : va_P D vwCl ([mO a (nI n) (nI k) th, [(a 3, .inl (cY 0, 6, .inl fcol))]] : List va_W).flatten H := hP
    have hD : va_D A ([mO a (nI n) (nI k) th, [(a 3, .inl (cY 0, 6, .inl fcol))]] : List va_W).flatten := hD
    refine b_if_eq (tgt := 26) hx hb dX9_colour_19 (by decide) (fun h19 => ?_) (fun h19 => ?_)
    · -- t
      exact absurd (h19.symm.trans hv) (by decide)
    · -- f
      refine lv_iconst (v := nI 0) hx hb dX9_colour_22 (by decide) ?_
      refine lv_goto (tgt := 27) hx hb dX9_colour_23 (by decide) ?_
      refine ca_i (CL := [mO a (nI n) (nI k) th]) (va_runV (As := [.int (nI 0)]) (rest := []) ⟨hx, hb, hml, hown, hts⟩ (c_X9_can l D cY H.size a n k th 0 (by omega)) (cwV 1 hts gX9_colour_X9_can rfl rfl rfl (by decide +kernel) ⟨Nat.le_of_ble_eq_true rfl, Nat.le_of_ble_eq_true rfl⟩) (b_preV hVK hP hD [0] rfl rfl 0 rfl rfl) rfl rfl hl.1 rfl (lv_room (Nat.le_of_ble_eq_true rfl)) dX9_colour_27 ⟨Nat.le_refl _, Nat.le_refl _⟩) hP hD hS hA [0] rfl rfl (fun _ => rfl) (fun r27 uu H locs hq hP hD hS => ?_)
      subst hq
      have hP : va_P D vwCl ([mO a (nI n) (nI k) (nI 0), [(a 3, .inl (cY 0, 6, .inl fcol))]] : List va_W).flatten H := hP
      have hD : va_D A ([mO a (nI n) (nI k) (nI 0), [(a 3, .inl (cY 0, 6, .inl fcol))]] : List va_W).flatten := hD
      refine b_if_ne (tgt := 35) hx hb dX9_colour_30 (by decide) (fun h30 => ?_) (fun h30 => ?_)
      · -- t
        refine lv_aload_n hx hb dX9_colour_35 rfl (lv_at hl 0 rfl) ?_
        refine b_get (ci := 9) (v := .ref (a 3)) (C := RX9) (T := TX9) (N := 13) hx hb hts (by decide +kernel) hown hK hP 0 rfl rfl 4 (by decide) (hts (.fieldLink RX9 23 "ChanceHallModel" "colour" "[I") (by decide +kernel)) (fun _ h9 => h9) rfl dX9_colour_36 ?_
        refine lv_iload_n hx hb dX9_colour_39 rfl (lv_at hl 1 rfl) ?_
        refine b_iald hx hb hK hP 1 0 rfl rfl (by omega) (by decide) dX9_colour_40 ?_
        refine lv_istore_n (lv' := [(3, .int (fcol i)), (0, .ref (a 0)), (1, .int (nI i)), (2, .int v0)]) hx hb dX9_colour_41 rfl hl (by decide) rfl (fun ls hl => ?_)
        refine lv_aload_n hx hb dX9_colour_42 rfl (lv_at hl 1 rfl) ?_
        refine b_get (ci := 9) (v := .ref (a 3)) (C := RX9) (T := TX9) (N := 13) hx hb hts (by decide +kernel) hown hK hP 0 rfl rfl 4 (by decide) (hts (.fieldLink RX9 23 "ChanceHallModel" "colour" "[I") (by decide +kernel)) (fun _ h9 => h9) rfl dX9_colour_43 ?_
        refine lv_iload_n hx hb dX9_colour_46 rfl (lv_at hl 2 rfl) ?_
        refine lv_iload_n hx hb dX9_colour_47 rfl (lv_at hl 3 rfl) ?_
        refine b_iast hx hb hK hP hD hS 1 0 rfl rfl (by omega) (by decide) dX9_colour_48 (fun H locs hP hD hS => ?_)
        have hP : va_P D vwCl ([mO a (nI n) (nI k) (nI 0), [(a 3, .inl (cY 0, 6, .inl (upd fcol i v0)))]] : List va_W).flatten H := hP
        have hD : va_D A ([mO a (nI n) (nI k) (nI 0), [(a 3, .inl (cY 0, 6, .inl (upd fcol i v0)))]] : List va_W).flatten := hD
        refine lv_iload_n hx hb dX9_colour_49 rfl (lv_at hl 0 rfl) ?_
        exact r_i hx hb hr hlocks hP hD hS () rfl (rfl) dX9_colour_50
      · -- f
        exact absurd h30 (by decide)
  · -- f
    exact absurd (h6.symm.trans hAa) (by decide)

set_option maxHeartbeats 4000000 in
set_option maxRecDepth 100000 in
theorem c_X9_colour_b1 (l : Launch) (D : va_G) (cY : Nat → ClassId) (sz : Nat) (a : Nat → Nat) (n : Nat) (k : Nat) (th : Int32) (x : Int32) (v0 : Int32) (hn1 : 1 ≤ n) (hn6 : n ≤ 6) (hk1 : 1 ≤ k) (hk12 : k ≤ 12) (hbad : inR x (nI 0) (nI (n - 1)) = false) : Met l yX9_colour wsX9_colour ({ frames := 2, cells := 0, slots := 0, locals := 80 }) (cP D cY [.ref (a 0), .int x, .int v0] [mO a (nI n) (nI k) th] sz) (qI (S := Unit) D cY (fun r u => r = nI 0) (fun u => [mO a (nI n) (nI k) (nI 1)]) (va_A ([mO a (nI n) (nI k) th] : List va_W).flatten sz)) 0 0 (va_A ([mO a (nI n) (nI k) th] : List va_W).flatten sz) := by
  refine mtB (Qc := fun A => qI (S := Unit) D cY (fun r u => r = nI 0) (fun u => [mO a (nI n) (nI k) (nI 1)]) A) (cc := cX9_colour) (maxL := 4) (ret := (some .int)) (by decide) rfl (Nat.le_of_ble_eq_true rfl) ?_
  intro p e s m below meth c A ls hx hb hr hml hts hown hlocks hnm hsz hP hK hVK hD hS hA hl
  have hown : s.vm.findClass RX9 = some m.cls := hown
  have hl : lv_has ls 4 [(0, .ref (a 0)), (1, .int x), (2, .int v0)] := hl
  have hP : va_P D vwCl ([mO a (nI n) (nI k) th] : List va_W).flatten s.heap := hP
  have hD : va_D A ([mO a (nI n) (nI k) th] : List va_W).flatten := hD
  refine lv_aload_n hx hb dX9_colour_0 rfl (lv_at hl 0 rfl) ?_
  refine lv_aload_n hx hb dX9_colour_1 rfl (lv_at hl 0 rfl) ?_
  refine lv_iload_n hx hb dX9_colour_2 rfl (lv_at hl 1 rfl) ?_
  refine ca_i (CL := [mO a (nI n) (nI k) th]) (va_runV (As := [.int x]) (rest := [.ref (a 0)]) ⟨hx, hb, hml, hown, hts⟩ (c_X9_isState l D cY s.heap.size a n k th x (by omega)) (cwV 1 hts gX9_colour_X9_isState rfl rfl rfl (by decide +kernel) ⟨Nat.le_of_ble_eq_true rfl, Nat.le_of_ble_eq_true rfl⟩) (b_preV hVK hP hD [0] rfl rfl 0 rfl rfl) rfl rfl hl.1 rfl (lv_room (Nat.le_of_ble_eq_true rfl)) dX9_colour_3 ⟨Nat.le_refl _, Nat.le_refl _⟩) hP hD hS hA [0] rfl rfl (fun _ => rfl) (fun r3 uu H locs hq hP hD hS => ?_)
  subst hq
  have hP : va_P D vwCl ([mO a (nI n) (nI k) th] : List va_W).flatten H := hP
  have hD : va_D A ([mO a (nI n) (nI k) th] : List va_W).flatten := hD
  refine b_if_ne (tgt := 13) hx hb dX9_colour_6 (by decide) (fun h6 => ?_) (fun h6 => ?_)
  · -- t
    exact absurd (h6.symm.trans hbad) (by decide)
  · -- f
    refine lv_iconst (v := nI 1) hx hb dX9_colour_9 (by decide) ?_
    refine lv_goto (tgt := 27) hx hb dX9_colour_10 (by decide) ?_
    refine ca_i (CL := [mO a (nI n) (nI k) th]) (va_runV (As := [.int (nI 1)]) (rest := []) ⟨hx, hb, hml, hown, hts⟩ (c_X9_can l D cY H.size a n k th 1 (by omega)) (cwV 1 hts gX9_colour_X9_can rfl rfl rfl (by decide +kernel) ⟨Nat.le_of_ble_eq_true rfl, Nat.le_of_ble_eq_true rfl⟩) (b_preV hVK hP hD [0] rfl rfl 0 rfl rfl) rfl rfl hl.1 rfl (lv_room (Nat.le_of_ble_eq_true rfl)) dX9_colour_27 ⟨Nat.le_refl _, Nat.le_refl _⟩) hP hD hS hA [0] rfl rfl (fun _ => rfl) (fun r27 uu H locs hq hP hD hS => ?_)
    subst hq
    have hP : va_P D vwCl ([mO a (nI n) (nI k) (nI 1)] : List va_W).flatten H := hP
    have hD : va_D A ([mO a (nI n) (nI k) (nI 1)] : List va_W).flatten := hD
    refine b_if_ne (tgt := 35) hx hb dX9_colour_30 (by decide) (fun h30 => ?_) (fun h30 => ?_)
    · -- t
      exact absurd h30 (by decide)
    · -- f
      refine lv_iconst (v := nI 0) hx hb dX9_colour_33 (by decide) ?_
      exact r_i hx hb hr hlocks hP hD hS () rfl (rfl) dX9_colour_34

set_option maxHeartbeats 4000000 in
set_option maxRecDepth 100000 in
theorem c_X9_colour_b2 (l : Launch) (D : va_G) (cY : Nat → ClassId) (sz : Nat) (a : Nat → Nat) (n : Nat) (k : Nat) (th : Int32) (x : Int32) (v0 : Int32) (hn1 : 1 ≤ n) (hn6 : n ≤ 6) (hk1 : 1 ≤ k) (hk12 : k ≤ 12) (hAa : inR x (nI 0) (nI (n - 1)) = true) (hbad : inR v0 (nI 0) (nI 5) = false) : Met l yX9_colour wsX9_colour ({ frames := 2, cells := 0, slots := 0, locals := 80 }) (cP D cY [.ref (a 0), .int x, .int v0] [mO a (nI n) (nI k) th] sz) (qI (S := Unit) D cY (fun r u => r = nI 0) (fun u => [mO a (nI n) (nI k) (nI 2)]) (va_A ([mO a (nI n) (nI k) th] : List va_W).flatten sz)) 0 0 (va_A ([mO a (nI n) (nI k) th] : List va_W).flatten sz) := by
  refine mtB (Qc := fun A => qI (S := Unit) D cY (fun r u => r = nI 0) (fun u => [mO a (nI n) (nI k) (nI 2)]) A) (cc := cX9_colour) (maxL := 4) (ret := (some .int)) (by decide) rfl (Nat.le_of_ble_eq_true rfl) ?_
  intro p e s m below meth c A ls hx hb hr hml hts hown hlocks hnm hsz hP hK hVK hD hS hA hl
  have hown : s.vm.findClass RX9 = some m.cls := hown
  have hl : lv_has ls 4 [(0, .ref (a 0)), (1, .int x), (2, .int v0)] := hl
  have hP : va_P D vwCl ([mO a (nI n) (nI k) th] : List va_W).flatten s.heap := hP
  have hD : va_D A ([mO a (nI n) (nI k) th] : List va_W).flatten := hD
  refine lv_aload_n hx hb dX9_colour_0 rfl (lv_at hl 0 rfl) ?_
  refine lv_aload_n hx hb dX9_colour_1 rfl (lv_at hl 0 rfl) ?_
  refine lv_iload_n hx hb dX9_colour_2 rfl (lv_at hl 1 rfl) ?_
  refine ca_i (CL := [mO a (nI n) (nI k) th]) (va_runV (As := [.int x]) (rest := [.ref (a 0)]) ⟨hx, hb, hml, hown, hts⟩ (c_X9_isState l D cY s.heap.size a n k th x (by omega)) (cwV 1 hts gX9_colour_X9_isState rfl rfl rfl (by decide +kernel) ⟨Nat.le_of_ble_eq_true rfl, Nat.le_of_ble_eq_true rfl⟩) (b_preV hVK hP hD [0] rfl rfl 0 rfl rfl) rfl rfl hl.1 rfl (lv_room (Nat.le_of_ble_eq_true rfl)) dX9_colour_3 ⟨Nat.le_refl _, Nat.le_refl _⟩) hP hD hS hA [0] rfl rfl (fun _ => rfl) (fun r3 uu H locs hq hP hD hS => ?_)
  subst hq
  have hP : va_P D vwCl ([mO a (nI n) (nI k) th] : List va_W).flatten H := hP
  have hD : va_D A ([mO a (nI n) (nI k) th] : List va_W).flatten := hD
  refine b_if_ne (tgt := 13) hx hb dX9_colour_6 (by decide) (fun h6 => ?_) (fun h6 => ?_)
  · -- t
    refine lv_iload_n hx hb dX9_colour_13 rfl (lv_at hl 2 rfl) ?_
    refine lv_iconst (v := nI 0) hx hb dX9_colour_14 (by decide) ?_
    refine lv_iconst (v := nI 5) hx hb dX9_colour_15 (by decide) ?_
    refine ca_i (CL := []) (va_runS (As := [.int v0, .int (nI 0), .int (nI 5)]) (rest := [.ref (a 0)]) ⟨hx, hb, hml, hown, hts⟩ (c_X9_isIn l D cY H.size v0 (nI 0) (nI 5)) (va_cwS 3 hts gX9_colour_X9_isIn rfl rfl rfl (by decide +kernel) ⟨Nat.le_of_ble_eq_true rfl, Nat.le_of_ble_eq_true rfl⟩) (b_preS hVK hP hD [] rfl rfl) rfl rfl hl.1 rfl (lv_room (Nat.le_of_ble_eq_true rfl)) dX9_colour_16 ⟨Nat.le_refl _, Nat.le_refl _⟩) hP hD hS hA [] rfl rfl (fun _ => rfl) (fun r16 uu H locs hq hP hD hS => ?_)
    subst hq
    have hP : va_P D vwCl ([mO a (nI n) (nI k) th] : List va_W).flatten H := hP
    have hD : va_D A ([mO a (nI n) (nI k) th] : List va_W).flatten := hD
    refine b_if_eq (tgt := 26) hx hb dX9_colour_19 (by decide) (fun h19 => ?_) (fun h19 => ?_)
    · -- t
      refine lv_iconst (v := nI 2) hx hb dX9_colour_26 (by decide) ?_
      refine ca_i (CL := [mO a (nI n) (nI k) th]) (va_runV (As := [.int (nI 2)]) (rest := []) ⟨hx, hb, hml, hown, hts⟩ (c_X9_can l D cY H.size a n k th 2 (by omega)) (cwV 1 hts gX9_colour_X9_can rfl rfl rfl (by decide +kernel) ⟨Nat.le_of_ble_eq_true rfl, Nat.le_of_ble_eq_true rfl⟩) (b_preV hVK hP hD [0] rfl rfl 0 rfl rfl) rfl rfl hl.1 rfl (lv_room (Nat.le_of_ble_eq_true rfl)) dX9_colour_27 ⟨Nat.le_refl _, Nat.le_refl _⟩) hP hD hS hA [0] rfl rfl (fun _ => rfl) (fun r27 uu H locs hq hP hD hS => ?_)
      subst hq
      have hP : va_P D vwCl ([mO a (nI n) (nI k) (nI 2)] : List va_W).flatten H := hP
      have hD : va_D A ([mO a (nI n) (nI k) (nI 2)] : List va_W).flatten := hD
      refine b_if_ne (tgt := 35) hx hb dX9_colour_30 (by decide) (fun h30 => ?_) (fun h30 => ?_)
      · -- t
        exact absurd h30 (by decide)
      · -- f
        refine lv_iconst (v := nI 0) hx hb dX9_colour_33 (by decide) ?_
        exact r_i hx hb hr hlocks hP hD hS () rfl (rfl) dX9_colour_34
    · -- f
      exact absurd (h19.symm.trans hbad) (by decide)
  · -- f
    exact absurd (h6.symm.trans hAa) (by decide)

set_option maxHeartbeats 4000000 in
set_option maxRecDepth 100000 in
theorem c_X9_weight_ok (l : Launch) (D : va_G) (cY : Nat → ClassId) (sz : Nat) (a : Nat → Nat) (n : Nat) (k : Nat) (th : Int32) (fto : Nat → Int32) (g : Nat → Nat → Nat) (i : Nat) (b : Nat) (hn1 : 1 ≤ n) (hn6 : n ≤ 6) (hk1 : 1 ≤ k) (hk12 : k ≤ 12) (hG : ∀ i j, i < n → j < k → fto (12 * i + j) = nI (g i j)) (hgn : ∀ i j, i < n → j < k → g i j < n) (hi : i < n) (hb6 : b < n) : Met l yX9_weight wsX9_weight ({ frames := 2, cells := 0, slots := 0, locals := 80 }) (cP D cY [.ref (a 0), .int (nI i), .int (nI b)] [mO a (nI n) (nI k) th, [(a 1, .inl (cY 0, 72, .inl fto))]] sz) (qI (S := Unit) D cY (fun r u => r = nI (cnt (g i) b k)) (fun u => [mO a (nI n) (nI k) (nI 0), [(a 1, .inl (cY 0, 72, .inl fto))]]) (va_A ([mO a (nI n) (nI k) th, [(a 1, .inl (cY 0, 72, .inl fto))]] : List va_W).flatten sz)) 0 0 (va_A ([mO a (nI n) (nI k) th, [(a 1, .inl (cY 0, 72, .inl fto))]] : List va_W).flatten sz) := by
  refine mtB (Qc := fun A => qI (S := Unit) D cY (fun r u => r = nI (cnt (g i) b k)) (fun u => [mO a (nI n) (nI k) (nI 0), [(a 1, .inl (cY 0, 72, .inl fto))]]) A) (cc := cX9_weight) (maxL := 3) (ret := (some .int)) (by decide) rfl (Nat.le_of_ble_eq_true rfl) ?_
  intro p e s m below meth c A ls hx hb hr hml hts hown hlocks hnm hsz hP hK hVK hD hS hA hl
  have hown : s.vm.findClass RX9 = some m.cls := hown
  have hl : lv_has ls 3 [(0, .ref (a 0)), (1, .int (nI i)), (2, .int (nI b))] := hl
  have hP : va_P D vwCl ([mO a (nI n) (nI k) th, [(a 1, .inl (cY 0, 72, .inl fto))]] : List va_W).flatten s.heap := hP
  have hD : va_D A ([mO a (nI n) (nI k) th, [(a 1, .inl (cY 0, 72, .inl fto))]] : List va_W).flatten := hD
  have hAa : inR (nI i) (nI 0) (nI (n - 1)) = true := inR_t (by omega) (by omega) (by omega)
  have hB : inR (nI b) (nI 0) (nI (n - 1)) = true := inR_t (by omega) (by omega) (by omega)
  refine lv_aload_n hx hb dX9_weight_0 rfl (lv_at hl 0 rfl) ?_
  refine lv_aload_n hx hb dX9_weight_1 rfl (lv_at hl 0 rfl) ?_
  refine lv_iload_n hx hb dX9_weight_2 rfl (lv_at hl 1 rfl) ?_
  refine ca_i (CL := [mO a (nI n) (nI k) th]) (va_runV (As := [.int (nI i)]) (rest := [.ref (a 0)]) ⟨hx, hb, hml, hown, hts⟩ (c_X9_isState l D cY s.heap.size a n k th (nI i) (by omega)) (cwV 1 hts gX9_weight_X9_isState rfl rfl rfl (by decide +kernel) ⟨Nat.le_of_ble_eq_true rfl, Nat.le_of_ble_eq_true rfl⟩) (b_preV hVK hP hD [0] rfl rfl 0 rfl rfl) rfl rfl hl.1 rfl (lv_room (Nat.le_of_ble_eq_true rfl)) dX9_weight_3 ⟨Nat.le_refl _, Nat.le_refl _⟩) hP hD hS hA [0] rfl rfl (fun _ => rfl) (fun r3 uu H locs hq hP hD hS => ?_)
  subst hq
  have hP : va_P D vwCl ([mO a (nI n) (nI k) th, [(a 1, .inl (cY 0, 72, .inl fto))]] : List va_W).flatten H := hP
  have hD : va_D A ([mO a (nI n) (nI k) th, [(a 1, .inl (cY 0, 72, .inl fto))]] : List va_W).flatten := hD
  refine b_if_eq (tgt := 21) hx hb dX9_weight_6 (by decide) (fun h6 => ?_) (fun h6 => ?_)
  · -- t
    exact absurd (h6.symm.trans hAa) (by decide)
  · -- f
    refine lv_aload_n hx hb dX9_weight_9 rfl (lv_at hl 0 rfl) ?_
    refine lv_iload_n hx hb dX9_weight_10 rfl (lv_at hl 2 rfl) ?_
    refine ca_i (CL := [mO a (nI n) (nI k) th]) (va_runV (As := [.int (nI b)]) (rest := [.ref (a 0)]) ⟨hx, hb, hml, hown, hts⟩ (c_X9_isState l D cY H.size a n k th (nI b) (by omega)) (cwV 1 hts gX9_weight_X9_isState rfl rfl rfl (by decide +kernel) ⟨Nat.le_of_ble_eq_true rfl, Nat.le_of_ble_eq_true rfl⟩) (b_preV hVK hP hD [0] rfl rfl 0 rfl rfl) rfl rfl hl.1 rfl (lv_room (Nat.le_of_ble_eq_true rfl)) dX9_weight_11 ⟨Nat.le_refl _, Nat.le_refl _⟩) hP hD hS hA [0] rfl rfl (fun _ => rfl) (fun r11 uu H locs hq hP hD hS => ?_)
    subst hq
    have hP : va_P D vwCl ([mO a (nI n) (nI k) th, [(a 1, .inl (cY 0, 72, .inl fto))]] : List va_W).flatten H := hP
    have hD : va_D A ([mO a (nI n) (nI k) th, [(a 1, .inl (cY 0, 72, .inl fto))]] : List va_W).flatten := hD
    refine b_if_eq (tgt := 21) hx hb dX9_weight_14 (by decide) (fun h14 => ?_) (fun h14 => ?_)
    · -- t
      exact absurd (h14.symm.trans hB) (by decide)
    · -- f
      refine lv_iconst (v := nI 0) hx hb dX9_weight_17 (by decide) ?_
      refine lv_goto (tgt := 22) hx hb dX9_weight_18 (by decide) ?_
      refine ca_i (CL := [mO a (nI n) (nI k) th]) (va_runV (As := [.int (nI 0)]) (rest := []) ⟨hx, hb, hml, hown, hts⟩ (c_X9_can l D cY H.size a n k th 0 (by omega)) (cwV 1 hts gX9_weight_X9_can rfl rfl rfl (by decide +kernel) ⟨Nat.le_of_ble_eq_true rfl, Nat.le_of_ble_eq_true rfl⟩) (b_preV hVK hP hD [0] rfl rfl 0 rfl rfl) rfl rfl hl.1 rfl (lv_room (Nat.le_of_ble_eq_true rfl)) dX9_weight_22 ⟨Nat.le_refl _, Nat.le_refl _⟩) hP hD hS hA [0] rfl rfl (fun _ => rfl) (fun r22 uu H locs hq hP hD hS => ?_)
      subst hq
      have hP : va_P D vwCl ([mO a (nI n) (nI k) (nI 0), [(a 1, .inl (cY 0, 72, .inl fto))]] : List va_W).flatten H := hP
      have hD : va_D A ([mO a (nI n) (nI k) (nI 0), [(a 1, .inl (cY 0, 72, .inl fto))]] : List va_W).flatten := hD
      refine b_if_eq (tgt := 37) hx hb dX9_weight_25 (by decide) (fun h25 => ?_) (fun h25 => ?_)
      · -- t
        exact absurd h25 (by decide)
      · -- f
        refine lv_aload_n hx hb dX9_weight_28 rfl (lv_at hl 0 rfl) ?_
        refine lv_iload_n hx hb dX9_weight_29 rfl (lv_at hl 1 rfl) ?_
        refine lv_iload_n hx hb dX9_weight_30 rfl (lv_at hl 2 rfl) ?_
        refine ca_i (CL := [mO a (nI n) (nI k) (nI 0), [(a 1, .inl (cY 0, 72, .inl fto))]]) (va_runV (As := [.int (nI i), .int (nI b)]) (rest := []) ⟨hx, hb, hml, hown, hts⟩ (c_X9_weigh l D cY H.size a n k (nI 0) fto g i b (by omega) (by omega) (by omega) (by omega) hG hgn (by omega) (by omega)) (cwV 2 hts gX9_weight_X9_weigh rfl rfl rfl (by decide +kernel) ⟨Nat.le_of_ble_eq_true rfl, Nat.le_of_ble_eq_true rfl⟩) (b_preV hVK hP hD [0, 1] rfl rfl 0 rfl rfl) rfl rfl hl.1 rfl (lv_room (Nat.le_of_ble_eq_true rfl)) dX9_weight_31 ⟨Nat.le_refl _, Nat.le_refl _⟩) hP hD hS hA [0, 1] rfl rfl (fun _ => rfl) (fun r31 uu H locs hq hP hD hS => ?_)
        subst hq
        have hP : va_P D vwCl ([mO a (nI n) (nI k) (nI 0), [(a 1, .inl (cY 0, 72, .inl fto))]] : List va_W).flatten H := hP
        have hD : va_D A ([mO a (nI n) (nI k) (nI 0), [(a 1, .inl (cY 0, 72, .inl fto))]] : List va_W).flatten := hD
        refine lv_goto (tgt := 38) hx hb dX9_weight_34 (by decide) ?_
        exact r_i hx hb hr hlocks hP hD hS () rfl (rfl) dX9_weight_38

set_option maxHeartbeats 4000000 in
set_option maxRecDepth 100000 in
theorem c_X9_weight_bad (l : Launch) (D : va_G) (cY : Nat → ClassId) (sz : Nat) (a : Nat → Nat) (n : Nat) (k : Nat) (th : Int32) (x : Int32) (y : Int32) (hn1 : 1 ≤ n) (hn6 : n ≤ 6) (hk1 : 1 ≤ k) (hk12 : k ≤ 12) (hbad : (inR x (nI 0) (nI (n - 1)) && inR y (nI 0) (nI (n - 1))) = false) : Met l yX9_weight wsX9_weight ({ frames := 2, cells := 0, slots := 0, locals := 80 }) (cP D cY [.ref (a 0), .int x, .int y] [mO a (nI n) (nI k) th] sz) (qI (S := Unit) D cY (fun r u => r = nI 0) (fun u => [mO a (nI n) (nI k) (nI 1)]) (va_A ([mO a (nI n) (nI k) th] : List va_W).flatten sz)) 0 0 (va_A ([mO a (nI n) (nI k) th] : List va_W).flatten sz) := by
  refine mtB (Qc := fun A => qI (S := Unit) D cY (fun r u => r = nI 0) (fun u => [mO a (nI n) (nI k) (nI 1)]) A) (cc := cX9_weight) (maxL := 3) (ret := (some .int)) (by decide) rfl (Nat.le_of_ble_eq_true rfl) ?_
  intro p e s m below meth c A ls hx hb hr hml hts hown hlocks hnm hsz hP hK hVK hD hS hA hl
  have hown : s.vm.findClass RX9 = some m.cls := hown
  have hl : lv_has ls 3 [(0, .ref (a 0)), (1, .int x), (2, .int y)] := hl
  have hP : va_P D vwCl ([mO a (nI n) (nI k) th] : List va_W).flatten s.heap := hP
  have hD : va_D A ([mO a (nI n) (nI k) th] : List va_W).flatten := hD
  refine lv_aload_n hx hb dX9_weight_0 rfl (lv_at hl 0 rfl) ?_
  refine lv_aload_n hx hb dX9_weight_1 rfl (lv_at hl 0 rfl) ?_
  refine lv_iload_n hx hb dX9_weight_2 rfl (lv_at hl 1 rfl) ?_
  refine ca_i (CL := [mO a (nI n) (nI k) th]) (va_runV (As := [.int x]) (rest := [.ref (a 0)]) ⟨hx, hb, hml, hown, hts⟩ (c_X9_isState l D cY s.heap.size a n k th x (by omega)) (cwV 1 hts gX9_weight_X9_isState rfl rfl rfl (by decide +kernel) ⟨Nat.le_of_ble_eq_true rfl, Nat.le_of_ble_eq_true rfl⟩) (b_preV hVK hP hD [0] rfl rfl 0 rfl rfl) rfl rfl hl.1 rfl (lv_room (Nat.le_of_ble_eq_true rfl)) dX9_weight_3 ⟨Nat.le_refl _, Nat.le_refl _⟩) hP hD hS hA [0] rfl rfl (fun _ => rfl) (fun r3 uu H locs hq hP hD hS => ?_)
  subst hq
  have hP : va_P D vwCl ([mO a (nI n) (nI k) th] : List va_W).flatten H := hP
  have hD : va_D A ([mO a (nI n) (nI k) th] : List va_W).flatten := hD
  refine b_if_eq (tgt := 21) hx hb dX9_weight_6 (by decide) (fun h6 => ?_) (fun h6 => ?_)
  · -- t
    refine lv_iconst (v := nI 1) hx hb dX9_weight_21 (by decide) ?_
    refine ca_i (CL := [mO a (nI n) (nI k) th]) (va_runV (As := [.int (nI 1)]) (rest := []) ⟨hx, hb, hml, hown, hts⟩ (c_X9_can l D cY H.size a n k th 1 (by omega)) (cwV 1 hts gX9_weight_X9_can rfl rfl rfl (by decide +kernel) ⟨Nat.le_of_ble_eq_true rfl, Nat.le_of_ble_eq_true rfl⟩) (b_preV hVK hP hD [0] rfl rfl 0 rfl rfl) rfl rfl hl.1 rfl (lv_room (Nat.le_of_ble_eq_true rfl)) dX9_weight_22 ⟨Nat.le_refl _, Nat.le_refl _⟩) hP hD hS hA [0] rfl rfl (fun _ => rfl) (fun r22 uu H locs hq hP hD hS => ?_)
    subst hq
    have hP : va_P D vwCl ([mO a (nI n) (nI k) (nI 1)] : List va_W).flatten H := hP
    have hD : va_D A ([mO a (nI n) (nI k) (nI 1)] : List va_W).flatten := hD
    refine b_if_eq (tgt := 37) hx hb dX9_weight_25 (by decide) (fun h25 => ?_) (fun h25 => ?_)
    · -- t
      refine lv_iconst (v := nI 0) hx hb dX9_weight_37 (by decide) ?_
      exact r_i hx hb hr hlocks hP hD hS () rfl (rfl) dX9_weight_38
    · -- f
      exact absurd h25 (by decide)
  · -- f
    refine lv_aload_n hx hb dX9_weight_9 rfl (lv_at hl 0 rfl) ?_
    refine lv_iload_n hx hb dX9_weight_10 rfl (lv_at hl 2 rfl) ?_
    refine ca_i (CL := [mO a (nI n) (nI k) th]) (va_runV (As := [.int y]) (rest := [.ref (a 0)]) ⟨hx, hb, hml, hown, hts⟩ (c_X9_isState l D cY H.size a n k th y (by omega)) (cwV 1 hts gX9_weight_X9_isState rfl rfl rfl (by decide +kernel) ⟨Nat.le_of_ble_eq_true rfl, Nat.le_of_ble_eq_true rfl⟩) (b_preV hVK hP hD [0] rfl rfl 0 rfl rfl) rfl rfl hl.1 rfl (lv_room (Nat.le_of_ble_eq_true rfl)) dX9_weight_11 ⟨Nat.le_refl _, Nat.le_refl _⟩) hP hD hS hA [0] rfl rfl (fun _ => rfl) (fun r11 uu H locs hq hP hD hS => ?_)
    subst hq
    have hP : va_P D vwCl ([mO a (nI n) (nI k) th] : List va_W).flatten H := hP
    have hD : va_D A ([mO a (nI n) (nI k) th] : List va_W).flatten := hD
    refine b_if_eq (tgt := 21) hx hb dX9_weight_14 (by decide) (fun h14 => ?_) (fun h14 => ?_)
    · -- t
      refine lv_iconst (v := nI 1) hx hb dX9_weight_21 (by decide) ?_
      refine ca_i (CL := [mO a (nI n) (nI k) th]) (va_runV (As := [.int (nI 1)]) (rest := []) ⟨hx, hb, hml, hown, hts⟩ (c_X9_can l D cY H.size a n k th 1 (by omega)) (cwV 1 hts gX9_weight_X9_can rfl rfl rfl (by decide +kernel) ⟨Nat.le_of_ble_eq_true rfl, Nat.le_of_ble_eq_true rfl⟩) (b_preV hVK hP hD [0] rfl rfl 0 rfl rfl) rfl rfl hl.1 rfl (lv_room (Nat.le_of_ble_eq_true rfl)) dX9_weight_22 ⟨Nat.le_refl _, Nat.le_refl _⟩) hP hD hS hA [0] rfl rfl (fun _ => rfl) (fun r22 uu H locs hq hP hD hS => ?_)
      subst hq
      have hP : va_P D vwCl ([mO a (nI n) (nI k) (nI 1)] : List va_W).flatten H := hP
      have hD : va_D A ([mO a (nI n) (nI k) (nI 1)] : List va_W).flatten := hD
      refine b_if_eq (tgt := 37) hx hb dX9_weight_25 (by decide) (fun h25 => ?_) (fun h25 => ?_)
      · -- t
        refine lv_iconst (v := nI 0) hx hb dX9_weight_37 (by decide) ?_
        exact r_i hx hb hr hlocks hP hD hS () rfl (rfl) dX9_weight_38
      · -- f
        exact absurd h25 (by decide)
    · -- f
      exact (b2 hbad h6 h14).elim

set_option maxHeartbeats 4000000 in
set_option maxRecDepth 100000 in
theorem c_X9_words_ok (l : Launch) (D : va_G) (cY : Nat → ClassId) (sz : Nat) (a : Nat → Nat) (n : Nat) (k : Nat) (th : Int32) (t : Nat) (hn1 : 1 ≤ n) (hn6 : n ≤ 6) (hk1 : 1 ≤ k) (hk12 : k ≤ 12) (ht : t ≤ 12) : Met l yX9_words wsX9_words ({ frames := 2, cells := 0, slots := 0, locals := 80 }) (cP D cY [.ref (a 0), .int (nI t)] [mO a (nI n) (nI k) th] sz) (qL (S := Unit) D cY (fun r u => r = lN (k ^ t)) (fun u => [mO a (nI n) (nI k) (nI 0)]) (va_A ([mO a (nI n) (nI k) th] : List va_W).flatten sz)) 0 0 (va_A ([mO a (nI n) (nI k) th] : List va_W).flatten sz) := by
  refine mtB (Qc := fun A => qL (S := Unit) D cY (fun r u => r = lN (k ^ t)) (fun u => [mO a (nI n) (nI k) (nI 0)]) A) (cc := cX9_words) (maxL := 2) (ret := (some .long)) (by decide) rfl (Nat.le_of_ble_eq_true rfl) ?_
  intro p e s m below meth c A ls hx hb hr hml hts hown hlocks hnm hsz hP hK hVK hD hS hA hl
  have hown : s.vm.findClass RX9 = some m.cls := hown
  have hl : lv_has ls 2 [(0, .ref (a 0)), (1, .int (nI t))] := hl
  have hP : va_P D vwCl ([mO a (nI n) (nI k) th] : List va_W).flatten s.heap := hP
  have hD : va_D A ([mO a (nI n) (nI k) th] : List va_W).flatten := hD
  have hAa : inR (nI t) (nI 0) (nI 12) = true := inR_t (by omega) (by omega) (by omega)
  refine lv_aload_n hx hb dX9_words_0 rfl (lv_at hl 0 rfl) ?_
  refine lv_iload_n hx hb dX9_words_1 rfl (lv_at hl 1 rfl) ?_
  refine ca_i (CL := []) (va_runS (As := [.int (nI t)]) (rest := [.ref (a 0)]) ⟨hx, hb, hml, hown, hts⟩ (c_X9_areSteps l D cY s.heap.size (nI t)) (va_cwS 1 hts gX9_words_X9_areSteps rfl rfl rfl (by decide +kernel) ⟨Nat.le_of_ble_eq_true rfl, Nat.le_of_ble_eq_true rfl⟩) (b_preS hVK hP hD [] rfl rfl) rfl rfl hl.1 rfl (lv_room (Nat.le_of_ble_eq_true rfl)) dX9_words_2 ⟨Nat.le_refl _, Nat.le_refl _⟩) hP hD hS hA [] rfl rfl (fun _ => rfl) (fun r2 uu H locs hq hP hD hS => ?_)
  subst hq
  have hP : va_P D vwCl ([mO a (nI n) (nI k) th] : List va_W).flatten H := hP
  have hD : va_D A ([mO a (nI n) (nI k) th] : List va_W).flatten := hD
  refine b_if_eq (tgt := 12) hx hb dX9_words_5 (by decide) (fun h5 => ?_) (fun h5 => ?_)
  · -- t
    exact absurd (h5.symm.trans hAa) (by decide)
  · -- f
    refine lv_iconst (v := nI 0) hx hb dX9_words_8 (by decide) ?_
    refine lv_goto (tgt := 13) hx hb dX9_words_9 (by decide) ?_
    refine ca_i (CL := [mO a (nI n) (nI k) th]) (va_runV (As := [.int (nI 0)]) (rest := []) ⟨hx, hb, hml, hown, hts⟩ (c_X9_can l D cY H.size a n k th 0 (by omega)) (cwV 1 hts gX9_words_X9_can rfl rfl rfl (by decide +kernel) ⟨Nat.le_of_ble_eq_true rfl, Nat.le_of_ble_eq_true rfl⟩) (b_preV hVK hP hD [0] rfl rfl 0 rfl rfl) rfl rfl hl.1 rfl (lv_room (Nat.le_of_ble_eq_true rfl)) dX9_words_13 ⟨Nat.le_refl _, Nat.le_refl _⟩) hP hD hS hA [0] rfl rfl (fun _ => rfl) (fun r13 uu H locs hq hP hD hS => ?_)
    subst hq
    have hP : va_P D vwCl ([mO a (nI n) (nI k) (nI 0)] : List va_W).flatten H := hP
    have hD : va_D A ([mO a (nI n) (nI k) (nI 0)] : List va_W).flatten := hD
    refine b_if_eq (tgt := 27) hx hb dX9_words_16 (by decide) (fun h16 => ?_) (fun h16 => ?_)
    · -- t
      exact absurd h16 (by decide)
    · -- f
      refine lv_aload_n hx hb dX9_words_19 rfl (lv_at hl 0 rfl) ?_
      refine lv_iload_n hx hb dX9_words_20 rfl (lv_at hl 1 rfl) ?_
      refine ca_l (CL := [mO a (nI n) (nI k) (nI 0)]) (va_runV (As := [.int (nI t)]) (rest := []) ⟨hx, hb, hml, hown, hts⟩ (c_X9_power l D cY H.size a n k (nI 0) t (by omega) (by omega) (by omega) (by omega) (by omega)) (cwV 1 hts gX9_words_X9_power rfl rfl rfl (by decide +kernel) ⟨Nat.le_of_ble_eq_true rfl, Nat.le_of_ble_eq_true rfl⟩) (b_preV hVK hP hD [0] rfl rfl 0 rfl rfl) rfl rfl hl.1 rfl (lv_room (Nat.le_of_ble_eq_true rfl)) dX9_words_21 ⟨Nat.le_refl _, Nat.le_refl _⟩) hP hD hS hA [0] rfl rfl (fun _ => rfl) (fun r21 uu H locs hq hP hD hS => ?_)
      subst hq
      have hP : va_P D vwCl ([mO a (nI n) (nI k) (nI 0)] : List va_W).flatten H := hP
      have hD : va_D A ([mO a (nI n) (nI k) (nI 0)] : List va_W).flatten := hD
      refine lv_goto (tgt := 28) hx hb dX9_words_24 (by decide) ?_
      exact r_l hx hb hr hlocks hP hD hS () rfl (rfl) dX9_words_28

set_option maxHeartbeats 4000000 in
set_option maxRecDepth 100000 in
theorem c_X9_words_bad (l : Launch) (D : va_G) (cY : Nat → ClassId) (sz : Nat) (a : Nat → Nat) (n : Nat) (k : Nat) (th : Int32) (x : Int32) (hn1 : 1 ≤ n) (hn6 : n ≤ 6) (hk1 : 1 ≤ k) (hk12 : k ≤ 12) (hbad : inR x (nI 0) (nI 12) = false) : Met l yX9_words wsX9_words ({ frames := 2, cells := 0, slots := 0, locals := 80 }) (cP D cY [.ref (a 0), .int x] [mO a (nI n) (nI k) th] sz) (qL (S := Unit) D cY (fun r u => r = lN 0) (fun u => [mO a (nI n) (nI k) (nI 1)]) (va_A ([mO a (nI n) (nI k) th] : List va_W).flatten sz)) 0 0 (va_A ([mO a (nI n) (nI k) th] : List va_W).flatten sz) := by
  refine mtB (Qc := fun A => qL (S := Unit) D cY (fun r u => r = lN 0) (fun u => [mO a (nI n) (nI k) (nI 1)]) A) (cc := cX9_words) (maxL := 2) (ret := (some .long)) (by decide) rfl (Nat.le_of_ble_eq_true rfl) ?_
  intro p e s m below meth c A ls hx hb hr hml hts hown hlocks hnm hsz hP hK hVK hD hS hA hl
  have hown : s.vm.findClass RX9 = some m.cls := hown
  have hl : lv_has ls 2 [(0, .ref (a 0)), (1, .int x)] := hl
  have hP : va_P D vwCl ([mO a (nI n) (nI k) th] : List va_W).flatten s.heap := hP
  have hD : va_D A ([mO a (nI n) (nI k) th] : List va_W).flatten := hD
  refine lv_aload_n hx hb dX9_words_0 rfl (lv_at hl 0 rfl) ?_
  refine lv_iload_n hx hb dX9_words_1 rfl (lv_at hl 1 rfl) ?_
  refine ca_i (CL := []) (va_runS (As := [.int x]) (rest := [.ref (a 0)]) ⟨hx, hb, hml, hown, hts⟩ (c_X9_areSteps l D cY s.heap.size x) (va_cwS 1 hts gX9_words_X9_areSteps rfl rfl rfl (by decide +kernel) ⟨Nat.le_of_ble_eq_true rfl, Nat.le_of_ble_eq_true rfl⟩) (b_preS hVK hP hD [] rfl rfl) rfl rfl hl.1 rfl (lv_room (Nat.le_of_ble_eq_true rfl)) dX9_words_2 ⟨Nat.le_refl _, Nat.le_refl _⟩) hP hD hS hA [] rfl rfl (fun _ => rfl) (fun r2 uu H locs hq hP hD hS => ?_)
  subst hq
  have hP : va_P D vwCl ([mO a (nI n) (nI k) th] : List va_W).flatten H := hP
  have hD : va_D A ([mO a (nI n) (nI k) th] : List va_W).flatten := hD
  refine b_if_eq (tgt := 12) hx hb dX9_words_5 (by decide) (fun h5 => ?_) (fun h5 => ?_)
  · -- t
    refine lv_iconst (v := nI 1) hx hb dX9_words_12 (by decide) ?_
    refine ca_i (CL := [mO a (nI n) (nI k) th]) (va_runV (As := [.int (nI 1)]) (rest := []) ⟨hx, hb, hml, hown, hts⟩ (c_X9_can l D cY H.size a n k th 1 (by omega)) (cwV 1 hts gX9_words_X9_can rfl rfl rfl (by decide +kernel) ⟨Nat.le_of_ble_eq_true rfl, Nat.le_of_ble_eq_true rfl⟩) (b_preV hVK hP hD [0] rfl rfl 0 rfl rfl) rfl rfl hl.1 rfl (lv_room (Nat.le_of_ble_eq_true rfl)) dX9_words_13 ⟨Nat.le_refl _, Nat.le_refl _⟩) hP hD hS hA [0] rfl rfl (fun _ => rfl) (fun r13 uu H locs hq hP hD hS => ?_)
    subst hq
    have hP : va_P D vwCl ([mO a (nI n) (nI k) (nI 1)] : List va_W).flatten H := hP
    have hD : va_D A ([mO a (nI n) (nI k) (nI 1)] : List va_W).flatten := hD
    refine b_if_eq (tgt := 27) hx hb dX9_words_16 (by decide) (fun h16 => ?_) (fun h16 => ?_)
    · -- t
      refine lv_lconst (v := lN 0) hx hb dX9_words_27 (by decide) ?_
      exact r_l hx hb hr hlocks hP hD hS () rfl (rfl) dX9_words_28
    · -- f
      exact absurd h16 (by decide)
  · -- f
    exact absurd (h5.symm.trans hbad) (by decide)

set_option maxHeartbeats 4000000 in
set_option maxRecDepth 100000 in
theorem c_X9_lawFault_ok (l : Launch) (D : va_G) (cY : Nat → ClassId) (sz : Nat) (a : Nat → Nat) (n : Nat) (k : Nat) (th : Int32) (i : Nat) (t : Nat) (b : Nat) (w0 : Nat) (hn1 : 1 ≤ n) (hn6 : n ≤ 6) (hk1 : 1 ≤ k) (hk12 : k ≤ 12) (hi : i < n) (hb6 : b < n) (htw : t ≤ w0) (hw12 : w0 ≤ 12) : Met l yX9_lawFault wsX9_lawFault ({ frames := 2, cells := 0, slots := 0, locals := 80 }) (cP D cY [.ref (a 0), .int (nI i), .int (nI t), .int (nI b), .int (nI w0)] [mO a (nI n) (nI k) th] sz) (qI (S := Unit) D cY (fun r u => r = nI 0) (fun u => [mO a (nI n) (nI k) th]) (va_A ([mO a (nI n) (nI k) th] : List va_W).flatten sz)) 0 0 (va_A ([mO a (nI n) (nI k) th] : List va_W).flatten sz) := by
  refine mtB (Qc := fun A => qI (S := Unit) D cY (fun r u => r = nI 0) (fun u => [mO a (nI n) (nI k) th]) A) (cc := cX9_lawFault) (maxL := 5) (ret := (some .int)) (by decide) rfl (Nat.le_of_ble_eq_true rfl) ?_
  intro p e s m below meth c A ls hx hb hr hml hts hown hlocks hnm hsz hP hK hVK hD hS hA hl
  have hown : s.vm.findClass RX9 = some m.cls := hown
  have hl : lv_has ls 5 [(0, .ref (a 0)), (1, .int (nI i)), (2, .int (nI t)), (3, .int (nI b)), (4, .int (nI w0))] := hl
  have hP : va_P D vwCl ([mO a (nI n) (nI k) th] : List va_W).flatten s.heap := hP
  have hD : va_D A ([mO a (nI n) (nI k) th] : List va_W).flatten := hD
  have hAa : inR (nI i) (nI 0) (nI (n - 1)) = true := inR_t (by omega) (by omega) (by omega)
  have hB : inR (nI b) (nI 0) (nI (n - 1)) = true := inR_t (by omega) (by omega) (by omega)
  have hC1 : inR (nI t) (nI 0) (nI w0) = true := inR_t (by omega) (by omega) (by omega)
  refine lv_aload_n hx hb dX9_lawFault_0 rfl (lv_at hl 0 rfl) ?_
  refine lv_iload_n hx hb dX9_lawFault_1 rfl (lv_at hl 1 rfl) ?_
  refine ca_i (CL := [mO a (nI n) (nI k) th]) (va_runV (As := [.int (nI i)]) (rest := []) ⟨hx, hb, hml, hown, hts⟩ (c_X9_isState l D cY s.heap.size a n k th (nI i) (by omega)) (cwV 1 hts gX9_lawFault_X9_isState rfl rfl rfl (by decide +kernel) ⟨Nat.le_of_ble_eq_true rfl, Nat.le_of_ble_eq_true rfl⟩) (b_preV hVK hP hD [0] rfl rfl 0 rfl rfl) rfl rfl hl.1 rfl (lv_room (Nat.le_of_ble_eq_true rfl)) dX9_lawFault_2 ⟨Nat.le_refl _, Nat.le_refl _⟩) hP hD hS hA [0] rfl rfl (fun _ => rfl) (fun r2 uu H locs hq hP hD hS => ?_)
  subst hq
  have hP : va_P D vwCl ([mO a (nI n) (nI k) th] : List va_W).flatten H := hP
  have hD : va_D A ([mO a (nI n) (nI k) th] : List va_W).flatten := hD
  refine b_if_eq (tgt := 16) hx hb dX9_lawFault_5 (by decide) (fun h5 => ?_) (fun h5 => ?_)
  · -- t
    exact absurd (h5.symm.trans hAa) (by decide)
  · -- f
    refine lv_aload_n hx hb dX9_lawFault_8 rfl (lv_at hl 0 rfl) ?_
    refine lv_iload_n hx hb dX9_lawFault_9 rfl (lv_at hl 3 rfl) ?_
    refine ca_i (CL := [mO a (nI n) (nI k) th]) (va_runV (As := [.int (nI b)]) (rest := []) ⟨hx, hb, hml, hown, hts⟩ (c_X9_isState l D cY H.size a n k th (nI b) (by omega)) (cwV 1 hts gX9_lawFault_X9_isState rfl rfl rfl (by decide +kernel) ⟨Nat.le_of_ble_eq_true rfl, Nat.le_of_ble_eq_true rfl⟩) (b_preV hVK hP hD [0] rfl rfl 0 rfl rfl) rfl rfl hl.1 rfl (lv_room (Nat.le_of_ble_eq_true rfl)) dX9_lawFault_10 ⟨Nat.le_refl _, Nat.le_refl _⟩) hP hD hS hA [0] rfl rfl (fun _ => rfl) (fun r10 uu H locs hq hP hD hS => ?_)
    subst hq
    have hP : va_P D vwCl ([mO a (nI n) (nI k) th] : List va_W).flatten H := hP
    have hD : va_D A ([mO a (nI n) (nI k) th] : List va_W).flatten := hD
    refine b_if_ne (tgt := 20) hx hb dX9_lawFault_13 (by decide) (fun h13 => ?_) (fun h13 => ?_)
    · -- t
      refine lv_iload_n hx hb dX9_lawFault_20 rfl (lv_at hl 2 rfl) ?_
      refine lv_iconst (v := nI 0) hx hb dX9_lawFault_21 (by decide) ?_
      refine lv_iload hx hb dX9_lawFault_22 (lv_at hl 4 rfl) ?_
      refine ca_i (CL := []) (va_runS (As := [.int (nI t), .int (nI 0), .int (nI w0)]) (rest := []) ⟨hx, hb, hml, hown, hts⟩ (c_X9_isIn l D cY H.size (nI t) (nI 0) (nI w0)) (va_cwS 3 hts gX9_lawFault_X9_isIn rfl rfl rfl (by decide +kernel) ⟨Nat.le_of_ble_eq_true rfl, Nat.le_of_ble_eq_true rfl⟩) (b_preS hVK hP hD [] rfl rfl) rfl rfl hl.1 rfl (lv_room (Nat.le_of_ble_eq_true rfl)) dX9_lawFault_24 ⟨Nat.le_refl _, Nat.le_refl _⟩) hP hD hS hA [] rfl rfl (fun _ => rfl) (fun r24 uu H locs hq hP hD hS => ?_)
      subst hq
      have hP : va_P D vwCl ([mO a (nI n) (nI k) th] : List va_W).flatten H := hP
      have hD : va_D A ([mO a (nI n) (nI k) th] : List va_W).flatten := hD
      refine b_if_eq (tgt := 34) hx hb dX9_lawFault_27 (by decide) (fun h27 => ?_) (fun h27 => ?_)
      · -- t
        exact absurd (h27.symm.trans hC1) (by decide)
      · -- f
        refine lv_iconst (v := nI 0) hx hb dX9_lawFault_30 (by decide) ?_
        refine lv_goto (tgt := 35) hx hb dX9_lawFault_31 (by decide) ?_
        exact r_i hx hb hr hlocks hP hD hS () rfl (rfl) dX9_lawFault_35
    · -- f
      exact absurd (h13.symm.trans hB) (by decide)

set_option maxHeartbeats 4000000 in
set_option maxRecDepth 100000 in
theorem c_X9_lawFault_b1 (l : Launch) (D : va_G) (cY : Nat → ClassId) (sz : Nat) (a : Nat → Nat) (n : Nat) (k : Nat) (th : Int32) (x : Int32) (y : Int32) (z : Int32) (w0 : Nat) (hn1 : 1 ≤ n) (hn6 : n ≤ 6) (hk1 : 1 ≤ k) (hk12 : k ≤ 12) (hbad : (inR x (nI 0) (nI (n - 1)) && inR z (nI 0) (nI (n - 1))) = false) : Met l yX9_lawFault wsX9_lawFault ({ frames := 2, cells := 0, slots := 0, locals := 80 }) (cP D cY [.ref (a 0), .int x, .int y, .int z, .int (nI w0)] [mO a (nI n) (nI k) th] sz) (qI (S := Unit) D cY (fun r u => r = nI 1) (fun u => [mO a (nI n) (nI k) th]) (va_A ([mO a (nI n) (nI k) th] : List va_W).flatten sz)) 0 0 (va_A ([mO a (nI n) (nI k) th] : List va_W).flatten sz) := by
  refine mtB (Qc := fun A => qI (S := Unit) D cY (fun r u => r = nI 1) (fun u => [mO a (nI n) (nI k) th]) A) (cc := cX9_lawFault) (maxL := 5) (ret := (some .int)) (by decide) rfl (Nat.le_of_ble_eq_true rfl) ?_
  intro p e s m below meth c A ls hx hb hr hml hts hown hlocks hnm hsz hP hK hVK hD hS hA hl
  have hown : s.vm.findClass RX9 = some m.cls := hown
  have hl : lv_has ls 5 [(0, .ref (a 0)), (1, .int x), (2, .int y), (3, .int z), (4, .int (nI w0))] := hl
  have hP : va_P D vwCl ([mO a (nI n) (nI k) th] : List va_W).flatten s.heap := hP
  have hD : va_D A ([mO a (nI n) (nI k) th] : List va_W).flatten := hD
  refine lv_aload_n hx hb dX9_lawFault_0 rfl (lv_at hl 0 rfl) ?_
  refine lv_iload_n hx hb dX9_lawFault_1 rfl (lv_at hl 1 rfl) ?_
  refine ca_i (CL := [mO a (nI n) (nI k) th]) (va_runV (As := [.int x]) (rest := []) ⟨hx, hb, hml, hown, hts⟩ (c_X9_isState l D cY s.heap.size a n k th x (by omega)) (cwV 1 hts gX9_lawFault_X9_isState rfl rfl rfl (by decide +kernel) ⟨Nat.le_of_ble_eq_true rfl, Nat.le_of_ble_eq_true rfl⟩) (b_preV hVK hP hD [0] rfl rfl 0 rfl rfl) rfl rfl hl.1 rfl (lv_room (Nat.le_of_ble_eq_true rfl)) dX9_lawFault_2 ⟨Nat.le_refl _, Nat.le_refl _⟩) hP hD hS hA [0] rfl rfl (fun _ => rfl) (fun r2 uu H locs hq hP hD hS => ?_)
  subst hq
  have hP : va_P D vwCl ([mO a (nI n) (nI k) th] : List va_W).flatten H := hP
  have hD : va_D A ([mO a (nI n) (nI k) th] : List va_W).flatten := hD
  refine b_if_eq (tgt := 16) hx hb dX9_lawFault_5 (by decide) (fun h5 => ?_) (fun h5 => ?_)
  · -- t
    refine lv_iconst (v := nI 1) hx hb dX9_lawFault_16 (by decide) ?_
    refine lv_goto (tgt := 35) hx hb dX9_lawFault_17 (by decide) ?_
    exact r_i hx hb hr hlocks hP hD hS () rfl (rfl) dX9_lawFault_35
  · -- f
    refine lv_aload_n hx hb dX9_lawFault_8 rfl (lv_at hl 0 rfl) ?_
    refine lv_iload_n hx hb dX9_lawFault_9 rfl (lv_at hl 3 rfl) ?_
    refine ca_i (CL := [mO a (nI n) (nI k) th]) (va_runV (As := [.int z]) (rest := []) ⟨hx, hb, hml, hown, hts⟩ (c_X9_isState l D cY H.size a n k th z (by omega)) (cwV 1 hts gX9_lawFault_X9_isState rfl rfl rfl (by decide +kernel) ⟨Nat.le_of_ble_eq_true rfl, Nat.le_of_ble_eq_true rfl⟩) (b_preV hVK hP hD [0] rfl rfl 0 rfl rfl) rfl rfl hl.1 rfl (lv_room (Nat.le_of_ble_eq_true rfl)) dX9_lawFault_10 ⟨Nat.le_refl _, Nat.le_refl _⟩) hP hD hS hA [0] rfl rfl (fun _ => rfl) (fun r10 uu H locs hq hP hD hS => ?_)
    subst hq
    have hP : va_P D vwCl ([mO a (nI n) (nI k) th] : List va_W).flatten H := hP
    have hD : va_D A ([mO a (nI n) (nI k) th] : List va_W).flatten := hD
    refine b_if_ne (tgt := 20) hx hb dX9_lawFault_13 (by decide) (fun h13 => ?_) (fun h13 => ?_)
    · -- t
      exact (b2 hbad h5 h13).elim
    · -- f
      refine lv_iconst (v := nI 1) hx hb dX9_lawFault_16 (by decide) ?_
      refine lv_goto (tgt := 35) hx hb dX9_lawFault_17 (by decide) ?_
      exact r_i hx hb hr hlocks hP hD hS () rfl (rfl) dX9_lawFault_35

set_option maxHeartbeats 4000000 in
set_option maxRecDepth 100000 in
theorem c_X9_lawFault_b2 (l : Launch) (D : va_G) (cY : Nat → ClassId) (sz : Nat) (a : Nat → Nat) (n : Nat) (k : Nat) (th : Int32) (x : Int32) (y : Int32) (z : Int32) (w0 : Nat) (hn1 : 1 ≤ n) (hn6 : n ≤ 6) (hk1 : 1 ≤ k) (hk12 : k ≤ 12) (hAa : (inR x (nI 0) (nI (n - 1)) && inR z (nI 0) (nI (n - 1))) = true) (hbad : inR y (nI 0) (nI w0) = false) : Met l yX9_lawFault wsX9_lawFault ({ frames := 2, cells := 0, slots := 0, locals := 80 }) (cP D cY [.ref (a 0), .int x, .int y, .int z, .int (nI w0)] [mO a (nI n) (nI k) th] sz) (qI (S := Unit) D cY (fun r u => r = nI 2) (fun u => [mO a (nI n) (nI k) th]) (va_A ([mO a (nI n) (nI k) th] : List va_W).flatten sz)) 0 0 (va_A ([mO a (nI n) (nI k) th] : List va_W).flatten sz) := by
  refine mtB (Qc := fun A => qI (S := Unit) D cY (fun r u => r = nI 2) (fun u => [mO a (nI n) (nI k) th]) A) (cc := cX9_lawFault) (maxL := 5) (ret := (some .int)) (by decide) rfl (Nat.le_of_ble_eq_true rfl) ?_
  intro p e s m below meth c A ls hx hb hr hml hts hown hlocks hnm hsz hP hK hVK hD hS hA hl
  have hown : s.vm.findClass RX9 = some m.cls := hown
  have hl : lv_has ls 5 [(0, .ref (a 0)), (1, .int x), (2, .int y), (3, .int z), (4, .int (nI w0))] := hl
  have hP : va_P D vwCl ([mO a (nI n) (nI k) th] : List va_W).flatten s.heap := hP
  have hD : va_D A ([mO a (nI n) (nI k) th] : List va_W).flatten := hD
  refine lv_aload_n hx hb dX9_lawFault_0 rfl (lv_at hl 0 rfl) ?_
  refine lv_iload_n hx hb dX9_lawFault_1 rfl (lv_at hl 1 rfl) ?_
  refine ca_i (CL := [mO a (nI n) (nI k) th]) (va_runV (As := [.int x]) (rest := []) ⟨hx, hb, hml, hown, hts⟩ (c_X9_isState l D cY s.heap.size a n k th x (by omega)) (cwV 1 hts gX9_lawFault_X9_isState rfl rfl rfl (by decide +kernel) ⟨Nat.le_of_ble_eq_true rfl, Nat.le_of_ble_eq_true rfl⟩) (b_preV hVK hP hD [0] rfl rfl 0 rfl rfl) rfl rfl hl.1 rfl (lv_room (Nat.le_of_ble_eq_true rfl)) dX9_lawFault_2 ⟨Nat.le_refl _, Nat.le_refl _⟩) hP hD hS hA [0] rfl rfl (fun _ => rfl) (fun r2 uu H locs hq hP hD hS => ?_)
  subst hq
  have hP : va_P D vwCl ([mO a (nI n) (nI k) th] : List va_W).flatten H := hP
  have hD : va_D A ([mO a (nI n) (nI k) th] : List va_W).flatten := hD
  refine b_if_eq (tgt := 16) hx hb dX9_lawFault_5 (by decide) (fun h5 => ?_) (fun h5 => ?_)
  · -- t
    exact absurd (h5.symm.trans (a2_1 hAa)) (by decide)
  · -- f
    refine lv_aload_n hx hb dX9_lawFault_8 rfl (lv_at hl 0 rfl) ?_
    refine lv_iload_n hx hb dX9_lawFault_9 rfl (lv_at hl 3 rfl) ?_
    refine ca_i (CL := [mO a (nI n) (nI k) th]) (va_runV (As := [.int z]) (rest := []) ⟨hx, hb, hml, hown, hts⟩ (c_X9_isState l D cY H.size a n k th z (by omega)) (cwV 1 hts gX9_lawFault_X9_isState rfl rfl rfl (by decide +kernel) ⟨Nat.le_of_ble_eq_true rfl, Nat.le_of_ble_eq_true rfl⟩) (b_preV hVK hP hD [0] rfl rfl 0 rfl rfl) rfl rfl hl.1 rfl (lv_room (Nat.le_of_ble_eq_true rfl)) dX9_lawFault_10 ⟨Nat.le_refl _, Nat.le_refl _⟩) hP hD hS hA [0] rfl rfl (fun _ => rfl) (fun r10 uu H locs hq hP hD hS => ?_)
    subst hq
    have hP : va_P D vwCl ([mO a (nI n) (nI k) th] : List va_W).flatten H := hP
    have hD : va_D A ([mO a (nI n) (nI k) th] : List va_W).flatten := hD
    refine b_if_ne (tgt := 20) hx hb dX9_lawFault_13 (by decide) (fun h13 => ?_) (fun h13 => ?_)
    · -- t
      refine lv_iload_n hx hb dX9_lawFault_20 rfl (lv_at hl 2 rfl) ?_
      refine lv_iconst (v := nI 0) hx hb dX9_lawFault_21 (by decide) ?_
      refine lv_iload hx hb dX9_lawFault_22 (lv_at hl 4 rfl) ?_
      refine ca_i (CL := []) (va_runS (As := [.int y, .int (nI 0), .int (nI w0)]) (rest := []) ⟨hx, hb, hml, hown, hts⟩ (c_X9_isIn l D cY H.size y (nI 0) (nI w0)) (va_cwS 3 hts gX9_lawFault_X9_isIn rfl rfl rfl (by decide +kernel) ⟨Nat.le_of_ble_eq_true rfl, Nat.le_of_ble_eq_true rfl⟩) (b_preS hVK hP hD [] rfl rfl) rfl rfl hl.1 rfl (lv_room (Nat.le_of_ble_eq_true rfl)) dX9_lawFault_24 ⟨Nat.le_refl _, Nat.le_refl _⟩) hP hD hS hA [] rfl rfl (fun _ => rfl) (fun r24 uu H locs hq hP hD hS => ?_)
      subst hq
      have hP : va_P D vwCl ([mO a (nI n) (nI k) th] : List va_W).flatten H := hP
      have hD : va_D A ([mO a (nI n) (nI k) th] : List va_W).flatten := hD
      refine b_if_eq (tgt := 34) hx hb dX9_lawFault_27 (by decide) (fun h27 => ?_) (fun h27 => ?_)
      · -- t
        refine lv_iconst (v := nI 2) hx hb dX9_lawFault_34 (by decide) ?_
        exact r_i hx hb hr hlocks hP hD hS () rfl (rfl) dX9_lawFault_35
      · -- f
        exact absurd (h27.symm.trans hbad) (by decide)
    · -- f
      exact absurd (h13.symm.trans (a2_2 hAa)) (by decide)

set_option maxHeartbeats 4000000 in
set_option maxRecDepth 100000 in
theorem c_X9_law_ok (l : Launch) (D : va_G) (cY : Nat → ClassId) (sz : Nat) (a : Nat → Nat) (n : Nat) (k : Nat) (th : Int32) (fto : Nat → Int32) (fnow : Nat → Int64) (fthn : Nat → Int64) (g : Nat → Nat → Nat) (i : Nat) (t : Nat) (b : Nat) (hn1 : 1 ≤ n) (hn6 : n ≤ 6) (hk1 : 1 ≤ k) (hk12 : k ≤ 12) (hG : ∀ i j, i < n → j < k → fto (12 * i + j) = nI (g i j)) (hgn : ∀ i j, i < n → j < k → g i j < n) (hi : i < n) (hb6 : b < n) (ht0 : t ≤ 12) : Met l yX9_law wsX9_law ({ frames := 3, cells := 0, slots := 0, locals := 120 }) (cP D cY [.ref (a 0), .int (nI i), .int (nI t), .int (nI b)] [mO a (nI n) (nI k) th, [(a 1, .inl (cY 0, 72, .inl fto))], [(a 4, .inl (cY 1, 64, .inr (.inl fnow)))], [(a 5, .inl (cY 1, 64, .inr (.inl fthn)))]] sz) (qL (S := (Nat → Int64) × (Nat → Int64)) D cY (fun r u => r = lN (PL g n k i t b)) (fun u => [mO a (nI n) (nI k) (nI 0), [(a 1, .inl (cY 0, 72, .inl fto))], [(a 4, .inl (cY 1, 64, .inr (.inl u.1)))], [(a 5, .inl (cY 1, 64, .inr (.inl u.2)))]]) (va_A ([mO a (nI n) (nI k) th, [(a 1, .inl (cY 0, 72, .inl fto))], [(a 4, .inl (cY 1, 64, .inr (.inl fnow)))], [(a 5, .inl (cY 1, 64, .inr (.inl fthn)))]] : List va_W).flatten sz)) 0 0 (va_A ([mO a (nI n) (nI k) th, [(a 1, .inl (cY 0, 72, .inl fto))], [(a 4, .inl (cY 1, 64, .inr (.inl fnow)))], [(a 5, .inl (cY 1, 64, .inr (.inl fthn)))]] : List va_W).flatten sz) := by
  refine mtB (Qc := fun A => qL (S := (Nat → Int64) × (Nat → Int64)) D cY (fun r u => r = lN (PL g n k i t b)) (fun u => [mO a (nI n) (nI k) (nI 0), [(a 1, .inl (cY 0, 72, .inl fto))], [(a 4, .inl (cY 1, 64, .inr (.inl u.1)))], [(a 5, .inl (cY 1, 64, .inr (.inl u.2)))]]) A) (cc := cX9_law) (maxL := 4) (ret := (some .long)) (by decide) rfl (Nat.le_of_ble_eq_true rfl) ?_
  intro p e s m below meth c A ls hx hb hr hml hts hown hlocks hnm hsz hP hK hVK hD hS hA hl
  have hown : s.vm.findClass RX9 = some m.cls := hown
  have hl : lv_has ls 4 [(0, .ref (a 0)), (1, .int (nI i)), (2, .int (nI t)), (3, .int (nI b))] := hl
  have hP : va_P D vwCl ([mO a (nI n) (nI k) th, [(a 1, .inl (cY 0, 72, .inl fto))], [(a 4, .inl (cY 1, 64, .inr (.inl fnow)))], [(a 5, .inl (cY 1, 64, .inr (.inl fthn)))]] : List va_W).flatten s.heap := hP
  have hD : va_D A ([mO a (nI n) (nI k) th, [(a 1, .inl (cY 0, 72, .inl fto))], [(a 4, .inl (cY 1, 64, .inr (.inl fnow)))], [(a 5, .inl (cY 1, 64, .inr (.inl fthn)))]] : List va_W).flatten := hD
  refine lv_aload_n hx hb dX9_law_0 rfl (lv_at hl 0 rfl) ?_
  refine lv_aload_n hx hb dX9_law_1 rfl (lv_at hl 0 rfl) ?_
  refine lv_iload_n hx hb dX9_law_2 rfl (lv_at hl 1 rfl) ?_
  refine lv_iload_n hx hb dX9_law_3 rfl (lv_at hl 2 rfl) ?_
  refine lv_iload_n hx hb dX9_law_4 rfl (lv_at hl 3 rfl) ?_
  refine lv_bipush (v := nI 12) hx hb dX9_law_5 (by decide) ?_
  refine ca_i (CL := [mO a (nI n) (nI k) th]) (va_runV (As := [.int (nI i), .int (nI t), .int (nI b), .int (nI 12)]) (rest := [.ref (a 0)]) ⟨hx, hb, hml, hown, hts⟩ (c_X9_lawFault_ok l D cY s.heap.size a n k th i t b 12 (by omega) (by omega) (by omega) (by omega) (by omega) (by omega) (by omega) (by omega)) (cwV 4 hts gX9_law_X9_lawFault rfl rfl rfl (by decide +kernel) ⟨Nat.le_of_ble_eq_true rfl, Nat.le_of_ble_eq_true rfl⟩) (b_preV hVK hP hD [0] rfl rfl 0 rfl rfl) rfl rfl hl.1 rfl (lv_room (Nat.le_of_ble_eq_true rfl)) dX9_law_7 ⟨Nat.le_refl _, Nat.le_refl _⟩) hP hD hS hA [0] rfl rfl (fun _ => rfl) (fun r7 uu H locs hq hP hD hS => ?_)
  subst hq
  have hP : va_P D vwCl ([mO a (nI n) (nI k) th, [(a 1, .inl (cY 0, 72, .inl fto))], [(a 4, .inl (cY 1, 64, .inr (.inl fnow)))], [(a 5, .inl (cY 1, 64, .inr (.inl fthn)))]] : List va_W).flatten H := hP
  have hD : va_D A ([mO a (nI n) (nI k) th, [(a 1, .inl (cY 0, 72, .inl fto))], [(a 4, .inl (cY 1, 64, .inr (.inl fnow)))], [(a 5, .inl (cY 1, 64, .inr (.inl fthn)))]] : List va_W).flatten := hD
  refine ca_i (CL := [mO a (nI n) (nI k) th]) (va_runV (As := [.int (nI 0)]) (rest := []) ⟨hx, hb, hml, hown, hts⟩ (c_X9_can l D cY H.size a n k th 0 (by omega)) (cwV 1 hts gX9_law_X9_can rfl rfl rfl (by decide +kernel) ⟨Nat.le_of_ble_eq_true rfl, Nat.le_of_ble_eq_true rfl⟩) (b_preV hVK hP hD [0] rfl rfl 0 rfl rfl) rfl rfl hl.1 rfl (lv_room (Nat.le_of_ble_eq_true rfl)) dX9_law_10 ⟨Nat.le_refl _, Nat.le_refl _⟩) hP hD hS hA [0] rfl rfl (fun _ => rfl) (fun r10 uu H locs hq hP hD hS => ?_)
  subst hq
  have hP : va_P D vwCl ([mO a (nI n) (nI k) (nI 0), [(a 1, .inl (cY 0, 72, .inl fto))], [(a 4, .inl (cY 1, 64, .inr (.inl fnow)))], [(a 5, .inl (cY 1, 64, .inr (.inl fthn)))]] : List va_W).flatten H := hP
  have hD : va_D A ([mO a (nI n) (nI k) (nI 0), [(a 1, .inl (cY 0, 72, .inl fto))], [(a 4, .inl (cY 1, 64, .inr (.inl fnow)))], [(a 5, .inl (cY 1, 64, .inr (.inl fthn)))]] : List va_W).flatten := hD
  refine b_if_eq (tgt := 26) hx hb dX9_law_13 (by decide) (fun h13 => ?_) (fun h13 => ?_)
  · -- t
    exact absurd h13 (by decide)
  · -- f
    refine lv_aload_n hx hb dX9_law_16 rfl (lv_at hl 0 rfl) ?_
    refine lv_iload_n hx hb dX9_law_17 rfl (lv_at hl 1 rfl) ?_
    refine lv_iload_n hx hb dX9_law_18 rfl (lv_at hl 2 rfl) ?_
    refine lv_iload_n hx hb dX9_law_19 rfl (lv_at hl 3 rfl) ?_
    refine ca_l (CL := [mO a (nI n) (nI k) (nI 0), [(a 1, .inl (cY 0, 72, .inl fto))], [(a 4, .inl (cY 1, 64, .inr (.inl fnow)))], [(a 5, .inl (cY 1, 64, .inr (.inl fthn)))]]) (va_runV (As := [.int (nI i), .int (nI t), .int (nI b)]) (rest := []) ⟨hx, hb, hml, hown, hts⟩ (c_X9_lawOf l D cY H.size a n k (nI 0) fto fnow fthn g i t b (by omega) (by omega) (by omega) (by omega) hG hgn (by omega) (by omega) (by omega)) (cwV 3 hts gX9_law_X9_lawOf rfl rfl rfl (by decide +kernel) ⟨Nat.le_of_ble_eq_true rfl, Nat.le_of_ble_eq_true rfl⟩) (b_preV hVK hP hD [0, 1, 2, 3] rfl rfl 0 rfl rfl) rfl rfl hl.1 rfl (lv_room (Nat.le_of_ble_eq_true rfl)) dX9_law_20 ⟨Nat.le_refl _, Nat.le_refl _⟩) hP hD hS hA [0, 1, 2, 3] rfl rfl (fun _ => rfl) (fun r20 uu H locs hq hP hD hS => ?_)
    obtain ⟨fnow1_1, fthn1_2⟩ := uu
    try dsimp only at hq
    subst hq
    have hP : va_P D vwCl ([mO a (nI n) (nI k) (nI 0), [(a 1, .inl (cY 0, 72, .inl fto))], [(a 4, .inl (cY 1, 64, .inr (.inl fnow1_1)))], [(a 5, .inl (cY 1, 64, .inr (.inl fthn1_2)))]] : List va_W).flatten H := hP
    have hD : va_D A ([mO a (nI n) (nI k) (nI 0), [(a 1, .inl (cY 0, 72, .inl fto))], [(a 4, .inl (cY 1, 64, .inr (.inl fnow1_1)))], [(a 5, .inl (cY 1, 64, .inr (.inl fthn1_2)))]] : List va_W).flatten := hD
    refine lv_goto (tgt := 27) hx hb dX9_law_23 (by decide) ?_
    exact r_l hx hb hr hlocks hP hD hS (fnow1_1, fthn1_2) rfl (rfl) dX9_law_27

set_option maxHeartbeats 4000000 in
set_option maxRecDepth 100000 in
theorem c_X9_law_b1 (l : Launch) (D : va_G) (cY : Nat → ClassId) (sz : Nat) (a : Nat → Nat) (n : Nat) (k : Nat) (th : Int32) (x : Int32) (y : Int32) (z : Int32) (hn1 : 1 ≤ n) (hn6 : n ≤ 6) (hk1 : 1 ≤ k) (hk12 : k ≤ 12) (hbad : (inR x (nI 0) (nI (n - 1)) && inR z (nI 0) (nI (n - 1))) = false) : Met l yX9_law wsX9_law ({ frames := 3, cells := 0, slots := 0, locals := 120 }) (cP D cY [.ref (a 0), .int x, .int y, .int z] [mO a (nI n) (nI k) th] sz) (qL (S := Unit) D cY (fun r u => r = lN 0) (fun u => [mO a (nI n) (nI k) (nI 1)]) (va_A ([mO a (nI n) (nI k) th] : List va_W).flatten sz)) 0 0 (va_A ([mO a (nI n) (nI k) th] : List va_W).flatten sz) := by
  refine mtB (Qc := fun A => qL (S := Unit) D cY (fun r u => r = lN 0) (fun u => [mO a (nI n) (nI k) (nI 1)]) A) (cc := cX9_law) (maxL := 4) (ret := (some .long)) (by decide) rfl (Nat.le_of_ble_eq_true rfl) ?_
  intro p e s m below meth c A ls hx hb hr hml hts hown hlocks hnm hsz hP hK hVK hD hS hA hl
  have hown : s.vm.findClass RX9 = some m.cls := hown
  have hl : lv_has ls 4 [(0, .ref (a 0)), (1, .int x), (2, .int y), (3, .int z)] := hl
  have hP : va_P D vwCl ([mO a (nI n) (nI k) th] : List va_W).flatten s.heap := hP
  have hD : va_D A ([mO a (nI n) (nI k) th] : List va_W).flatten := hD
  refine lv_aload_n hx hb dX9_law_0 rfl (lv_at hl 0 rfl) ?_
  refine lv_aload_n hx hb dX9_law_1 rfl (lv_at hl 0 rfl) ?_
  refine lv_iload_n hx hb dX9_law_2 rfl (lv_at hl 1 rfl) ?_
  refine lv_iload_n hx hb dX9_law_3 rfl (lv_at hl 2 rfl) ?_
  refine lv_iload_n hx hb dX9_law_4 rfl (lv_at hl 3 rfl) ?_
  refine lv_bipush (v := nI 12) hx hb dX9_law_5 (by decide) ?_
  refine ca_i (CL := [mO a (nI n) (nI k) th]) (va_runV (As := [.int x, .int y, .int z, .int (nI 12)]) (rest := [.ref (a 0)]) ⟨hx, hb, hml, hown, hts⟩ (c_X9_lawFault_b1 l D cY s.heap.size a n k th x y z 12 (by omega) (by omega) (by omega) (by omega) hbad) (cwV 4 hts gX9_law_X9_lawFault rfl rfl rfl (by decide +kernel) ⟨Nat.le_of_ble_eq_true rfl, Nat.le_of_ble_eq_true rfl⟩) (b_preV hVK hP hD [0] rfl rfl 0 rfl rfl) rfl rfl hl.1 rfl (lv_room (Nat.le_of_ble_eq_true rfl)) dX9_law_7 ⟨Nat.le_refl _, Nat.le_refl _⟩) hP hD hS hA [0] rfl rfl (fun _ => rfl) (fun r7 uu H locs hq hP hD hS => ?_)
  subst hq
  have hP : va_P D vwCl ([mO a (nI n) (nI k) th] : List va_W).flatten H := hP
  have hD : va_D A ([mO a (nI n) (nI k) th] : List va_W).flatten := hD
  refine ca_i (CL := [mO a (nI n) (nI k) th]) (va_runV (As := [.int (nI 1)]) (rest := []) ⟨hx, hb, hml, hown, hts⟩ (c_X9_can l D cY H.size a n k th 1 (by omega)) (cwV 1 hts gX9_law_X9_can rfl rfl rfl (by decide +kernel) ⟨Nat.le_of_ble_eq_true rfl, Nat.le_of_ble_eq_true rfl⟩) (b_preV hVK hP hD [0] rfl rfl 0 rfl rfl) rfl rfl hl.1 rfl (lv_room (Nat.le_of_ble_eq_true rfl)) dX9_law_10 ⟨Nat.le_refl _, Nat.le_refl _⟩) hP hD hS hA [0] rfl rfl (fun _ => rfl) (fun r10 uu H locs hq hP hD hS => ?_)
  subst hq
  have hP : va_P D vwCl ([mO a (nI n) (nI k) (nI 1)] : List va_W).flatten H := hP
  have hD : va_D A ([mO a (nI n) (nI k) (nI 1)] : List va_W).flatten := hD
  refine b_if_eq (tgt := 26) hx hb dX9_law_13 (by decide) (fun h13 => ?_) (fun h13 => ?_)
  · -- t
    refine lv_lconst (v := lN 0) hx hb dX9_law_26 (by decide) ?_
    exact r_l hx hb hr hlocks hP hD hS () rfl (rfl) dX9_law_27
  · -- f
    exact absurd h13 (by decide)

set_option maxHeartbeats 4000000 in
set_option maxRecDepth 100000 in
theorem c_X9_law_b2 (l : Launch) (D : va_G) (cY : Nat → ClassId) (sz : Nat) (a : Nat → Nat) (n : Nat) (k : Nat) (th : Int32) (x : Int32) (y : Int32) (z : Int32) (hn1 : 1 ≤ n) (hn6 : n ≤ 6) (hk1 : 1 ≤ k) (hk12 : k ≤ 12) (hAa : (inR x (nI 0) (nI (n - 1)) && inR z (nI 0) (nI (n - 1))) = true) (hbad : inR y (nI 0) (nI 12) = false) : Met l yX9_law wsX9_law ({ frames := 3, cells := 0, slots := 0, locals := 120 }) (cP D cY [.ref (a 0), .int x, .int y, .int z] [mO a (nI n) (nI k) th] sz) (qL (S := Unit) D cY (fun r u => r = lN 0) (fun u => [mO a (nI n) (nI k) (nI 2)]) (va_A ([mO a (nI n) (nI k) th] : List va_W).flatten sz)) 0 0 (va_A ([mO a (nI n) (nI k) th] : List va_W).flatten sz) := by
  refine mtB (Qc := fun A => qL (S := Unit) D cY (fun r u => r = lN 0) (fun u => [mO a (nI n) (nI k) (nI 2)]) A) (cc := cX9_law) (maxL := 4) (ret := (some .long)) (by decide) rfl (Nat.le_of_ble_eq_true rfl) ?_
  intro p e s m below meth c A ls hx hb hr hml hts hown hlocks hnm hsz hP hK hVK hD hS hA hl
  have hown : s.vm.findClass RX9 = some m.cls := hown
  have hl : lv_has ls 4 [(0, .ref (a 0)), (1, .int x), (2, .int y), (3, .int z)] := hl
  have hP : va_P D vwCl ([mO a (nI n) (nI k) th] : List va_W).flatten s.heap := hP
  have hD : va_D A ([mO a (nI n) (nI k) th] : List va_W).flatten := hD
  refine lv_aload_n hx hb dX9_law_0 rfl (lv_at hl 0 rfl) ?_
  refine lv_aload_n hx hb dX9_law_1 rfl (lv_at hl 0 rfl) ?_
  refine lv_iload_n hx hb dX9_law_2 rfl (lv_at hl 1 rfl) ?_
  refine lv_iload_n hx hb dX9_law_3 rfl (lv_at hl 2 rfl) ?_
  refine lv_iload_n hx hb dX9_law_4 rfl (lv_at hl 3 rfl) ?_
  refine lv_bipush (v := nI 12) hx hb dX9_law_5 (by decide) ?_
  refine ca_i (CL := [mO a (nI n) (nI k) th]) (va_runV (As := [.int x, .int y, .int z, .int (nI 12)]) (rest := [.ref (a 0)]) ⟨hx, hb, hml, hown, hts⟩ (c_X9_lawFault_b2 l D cY s.heap.size a n k th x y z 12 (by omega) (by omega) (by omega) (by omega) hAa hbad) (cwV 4 hts gX9_law_X9_lawFault rfl rfl rfl (by decide +kernel) ⟨Nat.le_of_ble_eq_true rfl, Nat.le_of_ble_eq_true rfl⟩) (b_preV hVK hP hD [0] rfl rfl 0 rfl rfl) rfl rfl hl.1 rfl (lv_room (Nat.le_of_ble_eq_true rfl)) dX9_law_7 ⟨Nat.le_refl _, Nat.le_refl _⟩) hP hD hS hA [0] rfl rfl (fun _ => rfl) (fun r7 uu H locs hq hP hD hS => ?_)
  subst hq
  have hP : va_P D vwCl ([mO a (nI n) (nI k) th] : List va_W).flatten H := hP
  have hD : va_D A ([mO a (nI n) (nI k) th] : List va_W).flatten := hD
  refine ca_i (CL := [mO a (nI n) (nI k) th]) (va_runV (As := [.int (nI 2)]) (rest := []) ⟨hx, hb, hml, hown, hts⟩ (c_X9_can l D cY H.size a n k th 2 (by omega)) (cwV 1 hts gX9_law_X9_can rfl rfl rfl (by decide +kernel) ⟨Nat.le_of_ble_eq_true rfl, Nat.le_of_ble_eq_true rfl⟩) (b_preV hVK hP hD [0] rfl rfl 0 rfl rfl) rfl rfl hl.1 rfl (lv_room (Nat.le_of_ble_eq_true rfl)) dX9_law_10 ⟨Nat.le_refl _, Nat.le_refl _⟩) hP hD hS hA [0] rfl rfl (fun _ => rfl) (fun r10 uu H locs hq hP hD hS => ?_)
  subst hq
  have hP : va_P D vwCl ([mO a (nI n) (nI k) (nI 2)] : List va_W).flatten H := hP
  have hD : va_D A ([mO a (nI n) (nI k) (nI 2)] : List va_W).flatten := hD
  refine b_if_eq (tgt := 26) hx hb dX9_law_13 (by decide) (fun h13 => ?_) (fun h13 => ?_)
  · -- t
    refine lv_lconst (v := lN 0) hx hb dX9_law_26 (by decide) ?_
    exact r_l hx hb hr hlocks hP hD hS () rfl (rfl) dX9_law_27
  · -- f
    exact absurd h13 (by decide)

set_option maxHeartbeats 4000000 in
set_option maxRecDepth 100000 in
theorem c_X9_lawAnew_ok (l : Launch) (D : va_G) (cY : Nat → ClassId) (sz : Nat) (a : Nat → Nat) (n : Nat) (k : Nat) (th : Int32) (fto : Nat → Int32) (fnow : Nat → Int64) (fthn : Nat → Int64) (g : Nat → Nat → Nat) (i : Nat) (t : Nat) (b : Nat) (hn1 : 1 ≤ n) (hn6 : n ≤ 6) (hk1 : 1 ≤ k) (hk12 : k ≤ 12) (hG : ∀ i j, i < n → j < k → fto (12 * i + j) = nI (g i j)) (hgn : ∀ i j, i < n → j < k → g i j < n) (hi : i < n) (hb6 : b < n) (ht0 : t ≤ 4) : Met l yX9_lawAnew wsX9_lawAnew ({ frames := 3, cells := 0, slots := 0, locals := 120 }) (cP D cY [.ref (a 0), .int (nI i), .int (nI t), .int (nI b)] [mO a (nI n) (nI k) th, [(a 1, .inl (cY 0, 72, .inl fto))], [(a 4, .inl (cY 1, 64, .inr (.inl fnow)))], [(a 5, .inl (cY 1, 64, .inr (.inl fthn)))]] sz) (qL (S := (Nat → Int64) × (Nat → Int64)) D cY (fun r u => r = lN (PL g n k i t b)) (fun u => [mO a (nI n) (nI k) (nI 0), [(a 1, .inl (cY 0, 72, .inl fto))], [(a 4, .inl (cY 1, 64, .inr (.inl u.1)))], [(a 5, .inl (cY 1, 64, .inr (.inl u.2)))]]) (va_A ([mO a (nI n) (nI k) th, [(a 1, .inl (cY 0, 72, .inl fto))], [(a 4, .inl (cY 1, 64, .inr (.inl fnow)))], [(a 5, .inl (cY 1, 64, .inr (.inl fthn)))]] : List va_W).flatten sz)) 0 0 (va_A ([mO a (nI n) (nI k) th, [(a 1, .inl (cY 0, 72, .inl fto))], [(a 4, .inl (cY 1, 64, .inr (.inl fnow)))], [(a 5, .inl (cY 1, 64, .inr (.inl fthn)))]] : List va_W).flatten sz) := by
  refine mtB (Qc := fun A => qL (S := (Nat → Int64) × (Nat → Int64)) D cY (fun r u => r = lN (PL g n k i t b)) (fun u => [mO a (nI n) (nI k) (nI 0), [(a 1, .inl (cY 0, 72, .inl fto))], [(a 4, .inl (cY 1, 64, .inr (.inl u.1)))], [(a 5, .inl (cY 1, 64, .inr (.inl u.2)))]]) A) (cc := cX9_lawAnew) (maxL := 4) (ret := (some .long)) (by decide) rfl (Nat.le_of_ble_eq_true rfl) ?_
  intro p e s m below meth c A ls hx hb hr hml hts hown hlocks hnm hsz hP hK hVK hD hS hA hl
  have hown : s.vm.findClass RX9 = some m.cls := hown
  have hl : lv_has ls 4 [(0, .ref (a 0)), (1, .int (nI i)), (2, .int (nI t)), (3, .int (nI b))] := hl
  have hP : va_P D vwCl ([mO a (nI n) (nI k) th, [(a 1, .inl (cY 0, 72, .inl fto))], [(a 4, .inl (cY 1, 64, .inr (.inl fnow)))], [(a 5, .inl (cY 1, 64, .inr (.inl fthn)))]] : List va_W).flatten s.heap := hP
  have hD : va_D A ([mO a (nI n) (nI k) th, [(a 1, .inl (cY 0, 72, .inl fto))], [(a 4, .inl (cY 1, 64, .inr (.inl fnow)))], [(a 5, .inl (cY 1, 64, .inr (.inl fthn)))]] : List va_W).flatten := hD
  refine lv_aload_n hx hb dX9_lawAnew_0 rfl (lv_at hl 0 rfl) ?_
  refine lv_aload_n hx hb dX9_lawAnew_1 rfl (lv_at hl 0 rfl) ?_
  refine lv_iload_n hx hb dX9_lawAnew_2 rfl (lv_at hl 1 rfl) ?_
  refine lv_iload_n hx hb dX9_lawAnew_3 rfl (lv_at hl 2 rfl) ?_
  refine lv_iload_n hx hb dX9_lawAnew_4 rfl (lv_at hl 3 rfl) ?_
  refine lv_iconst (v := nI 4) hx hb dX9_lawAnew_5 (by decide) ?_
  refine ca_i (CL := [mO a (nI n) (nI k) th]) (va_runV (As := [.int (nI i), .int (nI t), .int (nI b), .int (nI 4)]) (rest := [.ref (a 0)]) ⟨hx, hb, hml, hown, hts⟩ (c_X9_lawFault_ok l D cY s.heap.size a n k th i t b 4 (by omega) (by omega) (by omega) (by omega) (by omega) (by omega) (by omega) (by omega)) (cwV 4 hts gX9_lawAnew_X9_lawFault rfl rfl rfl (by decide +kernel) ⟨Nat.le_of_ble_eq_true rfl, Nat.le_of_ble_eq_true rfl⟩) (b_preV hVK hP hD [0] rfl rfl 0 rfl rfl) rfl rfl hl.1 rfl (lv_room (Nat.le_of_ble_eq_true rfl)) dX9_lawAnew_6 ⟨Nat.le_refl _, Nat.le_refl _⟩) hP hD hS hA [0] rfl rfl (fun _ => rfl) (fun r6 uu H locs hq hP hD hS => ?_)
  subst hq
  have hP : va_P D vwCl ([mO a (nI n) (nI k) th, [(a 1, .inl (cY 0, 72, .inl fto))], [(a 4, .inl (cY 1, 64, .inr (.inl fnow)))], [(a 5, .inl (cY 1, 64, .inr (.inl fthn)))]] : List va_W).flatten H := hP
  have hD : va_D A ([mO a (nI n) (nI k) th, [(a 1, .inl (cY 0, 72, .inl fto))], [(a 4, .inl (cY 1, 64, .inr (.inl fnow)))], [(a 5, .inl (cY 1, 64, .inr (.inl fthn)))]] : List va_W).flatten := hD
  refine ca_i (CL := [mO a (nI n) (nI k) th]) (va_runV (As := [.int (nI 0)]) (rest := []) ⟨hx, hb, hml, hown, hts⟩ (c_X9_can l D cY H.size a n k th 0 (by omega)) (cwV 1 hts gX9_lawAnew_X9_can rfl rfl rfl (by decide +kernel) ⟨Nat.le_of_ble_eq_true rfl, Nat.le_of_ble_eq_true rfl⟩) (b_preV hVK hP hD [0] rfl rfl 0 rfl rfl) rfl rfl hl.1 rfl (lv_room (Nat.le_of_ble_eq_true rfl)) dX9_lawAnew_9 ⟨Nat.le_refl _, Nat.le_refl _⟩) hP hD hS hA [0] rfl rfl (fun _ => rfl) (fun r9 uu H locs hq hP hD hS => ?_)
  subst hq
  have hP : va_P D vwCl ([mO a (nI n) (nI k) (nI 0), [(a 1, .inl (cY 0, 72, .inl fto))], [(a 4, .inl (cY 1, 64, .inr (.inl fnow)))], [(a 5, .inl (cY 1, 64, .inr (.inl fthn)))]] : List va_W).flatten H := hP
  have hD : va_D A ([mO a (nI n) (nI k) (nI 0), [(a 1, .inl (cY 0, 72, .inl fto))], [(a 4, .inl (cY 1, 64, .inr (.inl fnow)))], [(a 5, .inl (cY 1, 64, .inr (.inl fthn)))]] : List va_W).flatten := hD
  refine b_if_eq (tgt := 25) hx hb dX9_lawAnew_12 (by decide) (fun h12 => ?_) (fun h12 => ?_)
  · -- t
    exact absurd h12 (by decide)
  · -- f
    refine lv_aload_n hx hb dX9_lawAnew_15 rfl (lv_at hl 0 rfl) ?_
    refine lv_iload_n hx hb dX9_lawAnew_16 rfl (lv_at hl 1 rfl) ?_
    refine lv_iload_n hx hb dX9_lawAnew_17 rfl (lv_at hl 2 rfl) ?_
    refine lv_iload_n hx hb dX9_lawAnew_18 rfl (lv_at hl 3 rfl) ?_
    refine ca_l (CL := [mO a (nI n) (nI k) (nI 0), [(a 1, .inl (cY 0, 72, .inl fto))], [(a 4, .inl (cY 1, 64, .inr (.inl fnow)))], [(a 5, .inl (cY 1, 64, .inr (.inl fthn)))]]) (va_runV (As := [.int (nI i), .int (nI t), .int (nI b)]) (rest := []) ⟨hx, hb, hml, hown, hts⟩ (c_X9_lawOf l D cY H.size a n k (nI 0) fto fnow fthn g i t b (by omega) (by omega) (by omega) (by omega) hG hgn (by omega) (by omega) (by omega)) (cwV 3 hts gX9_lawAnew_X9_lawOf rfl rfl rfl (by decide +kernel) ⟨Nat.le_of_ble_eq_true rfl, Nat.le_of_ble_eq_true rfl⟩) (b_preV hVK hP hD [0, 1, 2, 3] rfl rfl 0 rfl rfl) rfl rfl hl.1 rfl (lv_room (Nat.le_of_ble_eq_true rfl)) dX9_lawAnew_19 ⟨Nat.le_refl _, Nat.le_refl _⟩) hP hD hS hA [0, 1, 2, 3] rfl rfl (fun _ => rfl) (fun r19 uu H locs hq hP hD hS => ?_)
    obtain ⟨fnow1_1, fthn1_2⟩ := uu
    try dsimp only at hq
    subst hq
    have hP : va_P D vwCl ([mO a (nI n) (nI k) (nI 0), [(a 1, .inl (cY 0, 72, .inl fto))], [(a 4, .inl (cY 1, 64, .inr (.inl fnow1_1)))], [(a 5, .inl (cY 1, 64, .inr (.inl fthn1_2)))]] : List va_W).flatten H := hP
    have hD : va_D A ([mO a (nI n) (nI k) (nI 0), [(a 1, .inl (cY 0, 72, .inl fto))], [(a 4, .inl (cY 1, 64, .inr (.inl fnow1_1)))], [(a 5, .inl (cY 1, 64, .inr (.inl fthn1_2)))]] : List va_W).flatten := hD
    refine lv_goto (tgt := 26) hx hb dX9_lawAnew_22 (by decide) ?_
    exact r_l hx hb hr hlocks hP hD hS (fnow1_1, fthn1_2) rfl (rfl) dX9_lawAnew_26

set_option maxHeartbeats 4000000 in
set_option maxRecDepth 100000 in
theorem c_X9_lawAnew_b1 (l : Launch) (D : va_G) (cY : Nat → ClassId) (sz : Nat) (a : Nat → Nat) (n : Nat) (k : Nat) (th : Int32) (x : Int32) (y : Int32) (z : Int32) (hn1 : 1 ≤ n) (hn6 : n ≤ 6) (hk1 : 1 ≤ k) (hk12 : k ≤ 12) (hbad : (inR x (nI 0) (nI (n - 1)) && inR z (nI 0) (nI (n - 1))) = false) : Met l yX9_lawAnew wsX9_lawAnew ({ frames := 3, cells := 0, slots := 0, locals := 120 }) (cP D cY [.ref (a 0), .int x, .int y, .int z] [mO a (nI n) (nI k) th] sz) (qL (S := Unit) D cY (fun r u => r = lN 0) (fun u => [mO a (nI n) (nI k) (nI 1)]) (va_A ([mO a (nI n) (nI k) th] : List va_W).flatten sz)) 0 0 (va_A ([mO a (nI n) (nI k) th] : List va_W).flatten sz) := by
  refine mtB (Qc := fun A => qL (S := Unit) D cY (fun r u => r = lN 0) (fun u => [mO a (nI n) (nI k) (nI 1)]) A) (cc := cX9_lawAnew) (maxL := 4) (ret := (some .long)) (by decide) rfl (Nat.le_of_ble_eq_true rfl) ?_
  intro p e s m below meth c A ls hx hb hr hml hts hown hlocks hnm hsz hP hK hVK hD hS hA hl
  have hown : s.vm.findClass RX9 = some m.cls := hown
  have hl : lv_has ls 4 [(0, .ref (a 0)), (1, .int x), (2, .int y), (3, .int z)] := hl
  have hP : va_P D vwCl ([mO a (nI n) (nI k) th] : List va_W).flatten s.heap := hP
  have hD : va_D A ([mO a (nI n) (nI k) th] : List va_W).flatten := hD
  refine lv_aload_n hx hb dX9_lawAnew_0 rfl (lv_at hl 0 rfl) ?_
  refine lv_aload_n hx hb dX9_lawAnew_1 rfl (lv_at hl 0 rfl) ?_
  refine lv_iload_n hx hb dX9_lawAnew_2 rfl (lv_at hl 1 rfl) ?_
  refine lv_iload_n hx hb dX9_lawAnew_3 rfl (lv_at hl 2 rfl) ?_
  refine lv_iload_n hx hb dX9_lawAnew_4 rfl (lv_at hl 3 rfl) ?_
  refine lv_iconst (v := nI 4) hx hb dX9_lawAnew_5 (by decide) ?_
  refine ca_i (CL := [mO a (nI n) (nI k) th]) (va_runV (As := [.int x, .int y, .int z, .int (nI 4)]) (rest := [.ref (a 0)]) ⟨hx, hb, hml, hown, hts⟩ (c_X9_lawFault_b1 l D cY s.heap.size a n k th x y z 4 (by omega) (by omega) (by omega) (by omega) hbad) (cwV 4 hts gX9_lawAnew_X9_lawFault rfl rfl rfl (by decide +kernel) ⟨Nat.le_of_ble_eq_true rfl, Nat.le_of_ble_eq_true rfl⟩) (b_preV hVK hP hD [0] rfl rfl 0 rfl rfl) rfl rfl hl.1 rfl (lv_room (Nat.le_of_ble_eq_true rfl)) dX9_lawAnew_6 ⟨Nat.le_refl _, Nat.le_refl _⟩) hP hD hS hA [0] rfl rfl (fun _ => rfl) (fun r6 uu H locs hq hP hD hS => ?_)
  subst hq
  have hP : va_P D vwCl ([mO a (nI n) (nI k) th] : List va_W).flatten H := hP
  have hD : va_D A ([mO a (nI n) (nI k) th] : List va_W).flatten := hD
  refine ca_i (CL := [mO a (nI n) (nI k) th]) (va_runV (As := [.int (nI 1)]) (rest := []) ⟨hx, hb, hml, hown, hts⟩ (c_X9_can l D cY H.size a n k th 1 (by omega)) (cwV 1 hts gX9_lawAnew_X9_can rfl rfl rfl (by decide +kernel) ⟨Nat.le_of_ble_eq_true rfl, Nat.le_of_ble_eq_true rfl⟩) (b_preV hVK hP hD [0] rfl rfl 0 rfl rfl) rfl rfl hl.1 rfl (lv_room (Nat.le_of_ble_eq_true rfl)) dX9_lawAnew_9 ⟨Nat.le_refl _, Nat.le_refl _⟩) hP hD hS hA [0] rfl rfl (fun _ => rfl) (fun r9 uu H locs hq hP hD hS => ?_)
  subst hq
  have hP : va_P D vwCl ([mO a (nI n) (nI k) (nI 1)] : List va_W).flatten H := hP
  have hD : va_D A ([mO a (nI n) (nI k) (nI 1)] : List va_W).flatten := hD
  refine b_if_eq (tgt := 25) hx hb dX9_lawAnew_12 (by decide) (fun h12 => ?_) (fun h12 => ?_)
  · -- t
    refine lv_lconst (v := lN 0) hx hb dX9_lawAnew_25 (by decide) ?_
    exact r_l hx hb hr hlocks hP hD hS () rfl (rfl) dX9_lawAnew_26
  · -- f
    exact absurd h12 (by decide)

set_option maxHeartbeats 4000000 in
set_option maxRecDepth 100000 in
theorem c_X9_lawAnew_b2 (l : Launch) (D : va_G) (cY : Nat → ClassId) (sz : Nat) (a : Nat → Nat) (n : Nat) (k : Nat) (th : Int32) (x : Int32) (y : Int32) (z : Int32) (hn1 : 1 ≤ n) (hn6 : n ≤ 6) (hk1 : 1 ≤ k) (hk12 : k ≤ 12) (hAa : (inR x (nI 0) (nI (n - 1)) && inR z (nI 0) (nI (n - 1))) = true) (hbad : inR y (nI 0) (nI 4) = false) : Met l yX9_lawAnew wsX9_lawAnew ({ frames := 3, cells := 0, slots := 0, locals := 120 }) (cP D cY [.ref (a 0), .int x, .int y, .int z] [mO a (nI n) (nI k) th] sz) (qL (S := Unit) D cY (fun r u => r = lN 0) (fun u => [mO a (nI n) (nI k) (nI 2)]) (va_A ([mO a (nI n) (nI k) th] : List va_W).flatten sz)) 0 0 (va_A ([mO a (nI n) (nI k) th] : List va_W).flatten sz) := by
  refine mtB (Qc := fun A => qL (S := Unit) D cY (fun r u => r = lN 0) (fun u => [mO a (nI n) (nI k) (nI 2)]) A) (cc := cX9_lawAnew) (maxL := 4) (ret := (some .long)) (by decide) rfl (Nat.le_of_ble_eq_true rfl) ?_
  intro p e s m below meth c A ls hx hb hr hml hts hown hlocks hnm hsz hP hK hVK hD hS hA hl
  have hown : s.vm.findClass RX9 = some m.cls := hown
  have hl : lv_has ls 4 [(0, .ref (a 0)), (1, .int x), (2, .int y), (3, .int z)] := hl
  have hP : va_P D vwCl ([mO a (nI n) (nI k) th] : List va_W).flatten s.heap := hP
  have hD : va_D A ([mO a (nI n) (nI k) th] : List va_W).flatten := hD
  refine lv_aload_n hx hb dX9_lawAnew_0 rfl (lv_at hl 0 rfl) ?_
  refine lv_aload_n hx hb dX9_lawAnew_1 rfl (lv_at hl 0 rfl) ?_
  refine lv_iload_n hx hb dX9_lawAnew_2 rfl (lv_at hl 1 rfl) ?_
  refine lv_iload_n hx hb dX9_lawAnew_3 rfl (lv_at hl 2 rfl) ?_
  refine lv_iload_n hx hb dX9_lawAnew_4 rfl (lv_at hl 3 rfl) ?_
  refine lv_iconst (v := nI 4) hx hb dX9_lawAnew_5 (by decide) ?_
  refine ca_i (CL := [mO a (nI n) (nI k) th]) (va_runV (As := [.int x, .int y, .int z, .int (nI 4)]) (rest := [.ref (a 0)]) ⟨hx, hb, hml, hown, hts⟩ (c_X9_lawFault_b2 l D cY s.heap.size a n k th x y z 4 (by omega) (by omega) (by omega) (by omega) hAa hbad) (cwV 4 hts gX9_lawAnew_X9_lawFault rfl rfl rfl (by decide +kernel) ⟨Nat.le_of_ble_eq_true rfl, Nat.le_of_ble_eq_true rfl⟩) (b_preV hVK hP hD [0] rfl rfl 0 rfl rfl) rfl rfl hl.1 rfl (lv_room (Nat.le_of_ble_eq_true rfl)) dX9_lawAnew_6 ⟨Nat.le_refl _, Nat.le_refl _⟩) hP hD hS hA [0] rfl rfl (fun _ => rfl) (fun r6 uu H locs hq hP hD hS => ?_)
  subst hq
  have hP : va_P D vwCl ([mO a (nI n) (nI k) th] : List va_W).flatten H := hP
  have hD : va_D A ([mO a (nI n) (nI k) th] : List va_W).flatten := hD
  refine ca_i (CL := [mO a (nI n) (nI k) th]) (va_runV (As := [.int (nI 2)]) (rest := []) ⟨hx, hb, hml, hown, hts⟩ (c_X9_can l D cY H.size a n k th 2 (by omega)) (cwV 1 hts gX9_lawAnew_X9_can rfl rfl rfl (by decide +kernel) ⟨Nat.le_of_ble_eq_true rfl, Nat.le_of_ble_eq_true rfl⟩) (b_preV hVK hP hD [0] rfl rfl 0 rfl rfl) rfl rfl hl.1 rfl (lv_room (Nat.le_of_ble_eq_true rfl)) dX9_lawAnew_9 ⟨Nat.le_refl _, Nat.le_refl _⟩) hP hD hS hA [0] rfl rfl (fun _ => rfl) (fun r9 uu H locs hq hP hD hS => ?_)
  subst hq
  have hP : va_P D vwCl ([mO a (nI n) (nI k) (nI 2)] : List va_W).flatten H := hP
  have hD : va_D A ([mO a (nI n) (nI k) (nI 2)] : List va_W).flatten := hD
  refine b_if_eq (tgt := 25) hx hb dX9_lawAnew_12 (by decide) (fun h12 => ?_) (fun h12 => ?_)
  · -- t
    refine lv_lconst (v := lN 0) hx hb dX9_lawAnew_25 (by decide) ?_
    exact r_l hx hb hr hlocks hP hD hS () rfl (rfl) dX9_lawAnew_26
  · -- f
    exact absurd h12 (by decide)

set_option maxHeartbeats 4000000 in
set_option maxRecDepth 100000 in
theorem c_X9_distance_ok (l : Launch) (D : va_G) (cY : Nat → ClassId) (sz : Nat) (a : Nat → Nat) (n : Nat) (k : Nat) (th : Int32) (fto : Nat → Int32) (fnow : Nat → Int64) (fthn : Nat → Int64) (foth : Nat → Int64) (g : Nat → Nat → Nat) (i : Nat) (b : Nat) (t : Nat) (hn1 : 1 ≤ n) (hn6 : n ≤ 6) (hk1 : 1 ≤ k) (hk12 : k ≤ 12) (hG : ∀ i j, i < n → j < k → fto (12 * i + j) = nI (g i j)) (hgn : ∀ i j, i < n → j < k → g i j < n) (hi : i < n) (hb6 : b < n) (ht0 : t ≤ 12) : Met l yX9_distance wsX9_distance ({ frames := 3, cells := 0, slots := 0, locals := 120 }) (cP D cY [.ref (a 0), .int (nI i), .int (nI b), .int (nI t)] [mO a (nI n) (nI k) th, [(a 1, .inl (cY 0, 72, .inl fto))], [(a 4, .inl (cY 1, 64, .inr (.inl fnow)))], [(a 5, .inl (cY 1, 64, .inr (.inl fthn)))], [(a 6, .inl (cY 1, 6, .inr (.inl foth)))]] sz) (qL (S := (Nat → Int64) × (Nat → Int64) × (Nat → Int64)) D cY (fun r u => r = lN (dst (PL g n k i t) (PL g n k b t) n)) (fun u => [mO a (nI n) (nI k) (nI 0), [(a 1, .inl (cY 0, 72, .inl fto))], [(a 4, .inl (cY 1, 64, .inr (.inl u.1)))], [(a 5, .inl (cY 1, 64, .inr (.inl u.2.1)))], [(a 6, .inl (cY 1, 6, .inr (.inl u.2.2)))]]) (va_A ([mO a (nI n) (nI k) th, [(a 1, .inl (cY 0, 72, .inl fto))], [(a 4, .inl (cY 1, 64, .inr (.inl fnow)))], [(a 5, .inl (cY 1, 64, .inr (.inl fthn)))], [(a 6, .inl (cY 1, 6, .inr (.inl foth)))]] : List va_W).flatten sz)) 0 0 (va_A ([mO a (nI n) (nI k) th, [(a 1, .inl (cY 0, 72, .inl fto))], [(a 4, .inl (cY 1, 64, .inr (.inl fnow)))], [(a 5, .inl (cY 1, 64, .inr (.inl fthn)))], [(a 6, .inl (cY 1, 6, .inr (.inl foth)))]] : List va_W).flatten sz) := by
  refine mtB (Qc := fun A => qL (S := (Nat → Int64) × (Nat → Int64) × (Nat → Int64)) D cY (fun r u => r = lN (dst (PL g n k i t) (PL g n k b t) n)) (fun u => [mO a (nI n) (nI k) (nI 0), [(a 1, .inl (cY 0, 72, .inl fto))], [(a 4, .inl (cY 1, 64, .inr (.inl u.1)))], [(a 5, .inl (cY 1, 64, .inr (.inl u.2.1)))], [(a 6, .inl (cY 1, 6, .inr (.inl u.2.2)))]]) A) (cc := cX9_distance) (maxL := 4) (ret := (some .long)) (by decide) rfl (Nat.le_of_ble_eq_true rfl) ?_
  intro p e s m below meth c A ls hx hb hr hml hts hown hlocks hnm hsz hP hK hVK hD hS hA hl
  have hown : s.vm.findClass RX9 = some m.cls := hown
  have hl : lv_has ls 4 [(0, .ref (a 0)), (1, .int (nI i)), (2, .int (nI b)), (3, .int (nI t))] := hl
  have hP : va_P D vwCl ([mO a (nI n) (nI k) th, [(a 1, .inl (cY 0, 72, .inl fto))], [(a 4, .inl (cY 1, 64, .inr (.inl fnow)))], [(a 5, .inl (cY 1, 64, .inr (.inl fthn)))], [(a 6, .inl (cY 1, 6, .inr (.inl foth)))]] : List va_W).flatten s.heap := hP
  have hD : va_D A ([mO a (nI n) (nI k) th, [(a 1, .inl (cY 0, 72, .inl fto))], [(a 4, .inl (cY 1, 64, .inr (.inl fnow)))], [(a 5, .inl (cY 1, 64, .inr (.inl fthn)))], [(a 6, .inl (cY 1, 6, .inr (.inl foth)))]] : List va_W).flatten := hD
  refine lv_aload_n hx hb dX9_distance_0 rfl (lv_at hl 0 rfl) ?_
  refine lv_aload_n hx hb dX9_distance_1 rfl (lv_at hl 0 rfl) ?_
  refine lv_iload_n hx hb dX9_distance_2 rfl (lv_at hl 1 rfl) ?_
  refine lv_iload_n hx hb dX9_distance_3 rfl (lv_at hl 3 rfl) ?_
  refine lv_iload_n hx hb dX9_distance_4 rfl (lv_at hl 2 rfl) ?_
  refine lv_bipush (v := nI 12) hx hb dX9_distance_5 (by decide) ?_
  refine ca_i (CL := [mO a (nI n) (nI k) th]) (va_runV (As := [.int (nI i), .int (nI t), .int (nI b), .int (nI 12)]) (rest := [.ref (a 0)]) ⟨hx, hb, hml, hown, hts⟩ (c_X9_lawFault_ok l D cY s.heap.size a n k th i t b 12 (by omega) (by omega) (by omega) (by omega) (by omega) (by omega) (by omega) (by omega)) (cwV 4 hts gX9_distance_X9_lawFault rfl rfl rfl (by decide +kernel) ⟨Nat.le_of_ble_eq_true rfl, Nat.le_of_ble_eq_true rfl⟩) (b_preV hVK hP hD [0] rfl rfl 0 rfl rfl) rfl rfl hl.1 rfl (lv_room (Nat.le_of_ble_eq_true rfl)) dX9_distance_7 ⟨Nat.le_refl _, Nat.le_refl _⟩) hP hD hS hA [0] rfl rfl (fun _ => rfl) (fun r7 uu H locs hq hP hD hS => ?_)
  subst hq
  have hP : va_P D vwCl ([mO a (nI n) (nI k) th, [(a 1, .inl (cY 0, 72, .inl fto))], [(a 4, .inl (cY 1, 64, .inr (.inl fnow)))], [(a 5, .inl (cY 1, 64, .inr (.inl fthn)))], [(a 6, .inl (cY 1, 6, .inr (.inl foth)))]] : List va_W).flatten H := hP
  have hD : va_D A ([mO a (nI n) (nI k) th, [(a 1, .inl (cY 0, 72, .inl fto))], [(a 4, .inl (cY 1, 64, .inr (.inl fnow)))], [(a 5, .inl (cY 1, 64, .inr (.inl fthn)))], [(a 6, .inl (cY 1, 6, .inr (.inl foth)))]] : List va_W).flatten := hD
  refine ca_i (CL := [mO a (nI n) (nI k) th]) (va_runV (As := [.int (nI 0)]) (rest := []) ⟨hx, hb, hml, hown, hts⟩ (c_X9_can l D cY H.size a n k th 0 (by omega)) (cwV 1 hts gX9_distance_X9_can rfl rfl rfl (by decide +kernel) ⟨Nat.le_of_ble_eq_true rfl, Nat.le_of_ble_eq_true rfl⟩) (b_preV hVK hP hD [0] rfl rfl 0 rfl rfl) rfl rfl hl.1 rfl (lv_room (Nat.le_of_ble_eq_true rfl)) dX9_distance_10 ⟨Nat.le_refl _, Nat.le_refl _⟩) hP hD hS hA [0] rfl rfl (fun _ => rfl) (fun r10 uu H locs hq hP hD hS => ?_)
  subst hq
  have hP : va_P D vwCl ([mO a (nI n) (nI k) (nI 0), [(a 1, .inl (cY 0, 72, .inl fto))], [(a 4, .inl (cY 1, 64, .inr (.inl fnow)))], [(a 5, .inl (cY 1, 64, .inr (.inl fthn)))], [(a 6, .inl (cY 1, 6, .inr (.inl foth)))]] : List va_W).flatten H := hP
  have hD : va_D A ([mO a (nI n) (nI k) (nI 0), [(a 1, .inl (cY 0, 72, .inl fto))], [(a 4, .inl (cY 1, 64, .inr (.inl fnow)))], [(a 5, .inl (cY 1, 64, .inr (.inl fthn)))], [(a 6, .inl (cY 1, 6, .inr (.inl foth)))]] : List va_W).flatten := hD
  refine b_if_eq (tgt := 26) hx hb dX9_distance_13 (by decide) (fun h13 => ?_) (fun h13 => ?_)
  · -- t
    exact absurd h13 (by decide)
  · -- f
    refine lv_aload_n hx hb dX9_distance_16 rfl (lv_at hl 0 rfl) ?_
    refine lv_iload_n hx hb dX9_distance_17 rfl (lv_at hl 1 rfl) ?_
    refine lv_iload_n hx hb dX9_distance_18 rfl (lv_at hl 2 rfl) ?_
    refine lv_iload_n hx hb dX9_distance_19 rfl (lv_at hl 3 rfl) ?_
    refine ca_l (CL := [mO a (nI n) (nI k) (nI 0), [(a 1, .inl (cY 0, 72, .inl fto))], [(a 4, .inl (cY 1, 64, .inr (.inl fnow)))], [(a 5, .inl (cY 1, 64, .inr (.inl fthn)))], [(a 6, .inl (cY 1, 6, .inr (.inl foth)))]]) (va_runV (As := [.int (nI i), .int (nI b), .int (nI t)]) (rest := []) ⟨hx, hb, hml, hown, hts⟩ (c_X9_distanceOf l D cY H.size a n k (nI 0) fto fnow fthn foth g i b t (by omega) (by omega) (by omega) (by omega) hG hgn (by omega) (by omega) (by omega)) (cwV 3 hts gX9_distance_X9_distanceOf rfl rfl rfl (by decide +kernel) ⟨Nat.le_of_ble_eq_true rfl, Nat.le_of_ble_eq_true rfl⟩) (b_preV hVK hP hD [0, 1, 2, 3, 4] rfl rfl 0 rfl rfl) rfl rfl hl.1 rfl (lv_room (Nat.le_of_ble_eq_true rfl)) dX9_distance_20 ⟨Nat.le_refl _, Nat.le_refl _⟩) hP hD hS hA [0, 1, 2, 3, 4] rfl rfl (fun _ => rfl) (fun r20 uu H locs hq hP hD hS => ?_)
    obtain ⟨fnow1_1, fthn1_2, foth1_3⟩ := uu
    try dsimp only at hq
    subst hq
    have hP : va_P D vwCl ([mO a (nI n) (nI k) (nI 0), [(a 1, .inl (cY 0, 72, .inl fto))], [(a 4, .inl (cY 1, 64, .inr (.inl fnow1_1)))], [(a 5, .inl (cY 1, 64, .inr (.inl fthn1_2)))], [(a 6, .inl (cY 1, 6, .inr (.inl foth1_3)))]] : List va_W).flatten H := hP
    have hD : va_D A ([mO a (nI n) (nI k) (nI 0), [(a 1, .inl (cY 0, 72, .inl fto))], [(a 4, .inl (cY 1, 64, .inr (.inl fnow1_1)))], [(a 5, .inl (cY 1, 64, .inr (.inl fthn1_2)))], [(a 6, .inl (cY 1, 6, .inr (.inl foth1_3)))]] : List va_W).flatten := hD
    refine lv_goto (tgt := 27) hx hb dX9_distance_23 (by decide) ?_
    exact r_l hx hb hr hlocks hP hD hS (fnow1_1, fthn1_2, foth1_3) rfl (rfl) dX9_distance_27

set_option maxHeartbeats 4000000 in
set_option maxRecDepth 100000 in
theorem c_X9_distance_b1 (l : Launch) (D : va_G) (cY : Nat → ClassId) (sz : Nat) (a : Nat → Nat) (n : Nat) (k : Nat) (th : Int32) (x : Int32) (z : Int32) (y : Int32) (hn1 : 1 ≤ n) (hn6 : n ≤ 6) (hk1 : 1 ≤ k) (hk12 : k ≤ 12) (hbad : (inR x (nI 0) (nI (n - 1)) && inR z (nI 0) (nI (n - 1))) = false) : Met l yX9_distance wsX9_distance ({ frames := 3, cells := 0, slots := 0, locals := 120 }) (cP D cY [.ref (a 0), .int x, .int z, .int y] [mO a (nI n) (nI k) th] sz) (qL (S := Unit) D cY (fun r u => r = lN 0) (fun u => [mO a (nI n) (nI k) (nI 1)]) (va_A ([mO a (nI n) (nI k) th] : List va_W).flatten sz)) 0 0 (va_A ([mO a (nI n) (nI k) th] : List va_W).flatten sz) := by
  refine mtB (Qc := fun A => qL (S := Unit) D cY (fun r u => r = lN 0) (fun u => [mO a (nI n) (nI k) (nI 1)]) A) (cc := cX9_distance) (maxL := 4) (ret := (some .long)) (by decide) rfl (Nat.le_of_ble_eq_true rfl) ?_
  intro p e s m below meth c A ls hx hb hr hml hts hown hlocks hnm hsz hP hK hVK hD hS hA hl
  have hown : s.vm.findClass RX9 = some m.cls := hown
  have hl : lv_has ls 4 [(0, .ref (a 0)), (1, .int x), (2, .int z), (3, .int y)] := hl
  have hP : va_P D vwCl ([mO a (nI n) (nI k) th] : List va_W).flatten s.heap := hP
  have hD : va_D A ([mO a (nI n) (nI k) th] : List va_W).flatten := hD
  refine lv_aload_n hx hb dX9_distance_0 rfl (lv_at hl 0 rfl) ?_
  refine lv_aload_n hx hb dX9_distance_1 rfl (lv_at hl 0 rfl) ?_
  refine lv_iload_n hx hb dX9_distance_2 rfl (lv_at hl 1 rfl) ?_
  refine lv_iload_n hx hb dX9_distance_3 rfl (lv_at hl 3 rfl) ?_
  refine lv_iload_n hx hb dX9_distance_4 rfl (lv_at hl 2 rfl) ?_
  refine lv_bipush (v := nI 12) hx hb dX9_distance_5 (by decide) ?_
  refine ca_i (CL := [mO a (nI n) (nI k) th]) (va_runV (As := [.int x, .int y, .int z, .int (nI 12)]) (rest := [.ref (a 0)]) ⟨hx, hb, hml, hown, hts⟩ (c_X9_lawFault_b1 l D cY s.heap.size a n k th x y z 12 (by omega) (by omega) (by omega) (by omega) hbad) (cwV 4 hts gX9_distance_X9_lawFault rfl rfl rfl (by decide +kernel) ⟨Nat.le_of_ble_eq_true rfl, Nat.le_of_ble_eq_true rfl⟩) (b_preV hVK hP hD [0] rfl rfl 0 rfl rfl) rfl rfl hl.1 rfl (lv_room (Nat.le_of_ble_eq_true rfl)) dX9_distance_7 ⟨Nat.le_refl _, Nat.le_refl _⟩) hP hD hS hA [0] rfl rfl (fun _ => rfl) (fun r7 uu H locs hq hP hD hS => ?_)
  subst hq
  have hP : va_P D vwCl ([mO a (nI n) (nI k) th] : List va_W).flatten H := hP
  have hD : va_D A ([mO a (nI n) (nI k) th] : List va_W).flatten := hD
  refine ca_i (CL := [mO a (nI n) (nI k) th]) (va_runV (As := [.int (nI 1)]) (rest := []) ⟨hx, hb, hml, hown, hts⟩ (c_X9_can l D cY H.size a n k th 1 (by omega)) (cwV 1 hts gX9_distance_X9_can rfl rfl rfl (by decide +kernel) ⟨Nat.le_of_ble_eq_true rfl, Nat.le_of_ble_eq_true rfl⟩) (b_preV hVK hP hD [0] rfl rfl 0 rfl rfl) rfl rfl hl.1 rfl (lv_room (Nat.le_of_ble_eq_true rfl)) dX9_distance_10 ⟨Nat.le_refl _, Nat.le_refl _⟩) hP hD hS hA [0] rfl rfl (fun _ => rfl) (fun r10 uu H locs hq hP hD hS => ?_)
  subst hq
  have hP : va_P D vwCl ([mO a (nI n) (nI k) (nI 1)] : List va_W).flatten H := hP
  have hD : va_D A ([mO a (nI n) (nI k) (nI 1)] : List va_W).flatten := hD
  refine b_if_eq (tgt := 26) hx hb dX9_distance_13 (by decide) (fun h13 => ?_) (fun h13 => ?_)
  · -- t
    refine lv_lconst (v := lN 0) hx hb dX9_distance_26 (by decide) ?_
    exact r_l hx hb hr hlocks hP hD hS () rfl (rfl) dX9_distance_27
  · -- f
    exact absurd h13 (by decide)

set_option maxHeartbeats 4000000 in
set_option maxRecDepth 100000 in
theorem c_X9_distance_b2 (l : Launch) (D : va_G) (cY : Nat → ClassId) (sz : Nat) (a : Nat → Nat) (n : Nat) (k : Nat) (th : Int32) (x : Int32) (z : Int32) (y : Int32) (hn1 : 1 ≤ n) (hn6 : n ≤ 6) (hk1 : 1 ≤ k) (hk12 : k ≤ 12) (hAa : (inR x (nI 0) (nI (n - 1)) && inR z (nI 0) (nI (n - 1))) = true) (hbad : inR y (nI 0) (nI 12) = false) : Met l yX9_distance wsX9_distance ({ frames := 3, cells := 0, slots := 0, locals := 120 }) (cP D cY [.ref (a 0), .int x, .int z, .int y] [mO a (nI n) (nI k) th] sz) (qL (S := Unit) D cY (fun r u => r = lN 0) (fun u => [mO a (nI n) (nI k) (nI 2)]) (va_A ([mO a (nI n) (nI k) th] : List va_W).flatten sz)) 0 0 (va_A ([mO a (nI n) (nI k) th] : List va_W).flatten sz) := by
  refine mtB (Qc := fun A => qL (S := Unit) D cY (fun r u => r = lN 0) (fun u => [mO a (nI n) (nI k) (nI 2)]) A) (cc := cX9_distance) (maxL := 4) (ret := (some .long)) (by decide) rfl (Nat.le_of_ble_eq_true rfl) ?_
  intro p e s m below meth c A ls hx hb hr hml hts hown hlocks hnm hsz hP hK hVK hD hS hA hl
  have hown : s.vm.findClass RX9 = some m.cls := hown
  have hl : lv_has ls 4 [(0, .ref (a 0)), (1, .int x), (2, .int z), (3, .int y)] := hl
  have hP : va_P D vwCl ([mO a (nI n) (nI k) th] : List va_W).flatten s.heap := hP
  have hD : va_D A ([mO a (nI n) (nI k) th] : List va_W).flatten := hD
  refine lv_aload_n hx hb dX9_distance_0 rfl (lv_at hl 0 rfl) ?_
  refine lv_aload_n hx hb dX9_distance_1 rfl (lv_at hl 0 rfl) ?_
  refine lv_iload_n hx hb dX9_distance_2 rfl (lv_at hl 1 rfl) ?_
  refine lv_iload_n hx hb dX9_distance_3 rfl (lv_at hl 3 rfl) ?_
  refine lv_iload_n hx hb dX9_distance_4 rfl (lv_at hl 2 rfl) ?_
  refine lv_bipush (v := nI 12) hx hb dX9_distance_5 (by decide) ?_
  refine ca_i (CL := [mO a (nI n) (nI k) th]) (va_runV (As := [.int x, .int y, .int z, .int (nI 12)]) (rest := [.ref (a 0)]) ⟨hx, hb, hml, hown, hts⟩ (c_X9_lawFault_b2 l D cY s.heap.size a n k th x y z 12 (by omega) (by omega) (by omega) (by omega) hAa hbad) (cwV 4 hts gX9_distance_X9_lawFault rfl rfl rfl (by decide +kernel) ⟨Nat.le_of_ble_eq_true rfl, Nat.le_of_ble_eq_true rfl⟩) (b_preV hVK hP hD [0] rfl rfl 0 rfl rfl) rfl rfl hl.1 rfl (lv_room (Nat.le_of_ble_eq_true rfl)) dX9_distance_7 ⟨Nat.le_refl _, Nat.le_refl _⟩) hP hD hS hA [0] rfl rfl (fun _ => rfl) (fun r7 uu H locs hq hP hD hS => ?_)
  subst hq
  have hP : va_P D vwCl ([mO a (nI n) (nI k) th] : List va_W).flatten H := hP
  have hD : va_D A ([mO a (nI n) (nI k) th] : List va_W).flatten := hD
  refine ca_i (CL := [mO a (nI n) (nI k) th]) (va_runV (As := [.int (nI 2)]) (rest := []) ⟨hx, hb, hml, hown, hts⟩ (c_X9_can l D cY H.size a n k th 2 (by omega)) (cwV 1 hts gX9_distance_X9_can rfl rfl rfl (by decide +kernel) ⟨Nat.le_of_ble_eq_true rfl, Nat.le_of_ble_eq_true rfl⟩) (b_preV hVK hP hD [0] rfl rfl 0 rfl rfl) rfl rfl hl.1 rfl (lv_room (Nat.le_of_ble_eq_true rfl)) dX9_distance_10 ⟨Nat.le_refl _, Nat.le_refl _⟩) hP hD hS hA [0] rfl rfl (fun _ => rfl) (fun r10 uu H locs hq hP hD hS => ?_)
  subst hq
  have hP : va_P D vwCl ([mO a (nI n) (nI k) (nI 2)] : List va_W).flatten H := hP
  have hD : va_D A ([mO a (nI n) (nI k) (nI 2)] : List va_W).flatten := hD
  refine b_if_eq (tgt := 26) hx hb dX9_distance_13 (by decide) (fun h13 => ?_) (fun h13 => ?_)
  · -- t
    refine lv_lconst (v := lN 0) hx hb dX9_distance_26 (by decide) ?_
    exact r_l hx hb hr hlocks hP hD hS () rfl (rfl) dX9_distance_27
  · -- f
    exact absurd h13 (by decide)

set_option maxHeartbeats 4000000 in
set_option maxRecDepth 100000 in
theorem c_X9_apart_ok (l : Launch) (D : va_G) (cY : Nat → ClassId) (sz : Nat) (a : Nat → Nat) (n : Nat) (k : Nat) (th : Int32) (fto : Nat → Int32) (fnow : Nat → Int64) (fthn : Nat → Int64) (g : Nat → Nat → Nat) (i : Nat) (b : Nat) (t : Nat) (hn1 : 1 ≤ n) (hn6 : n ≤ 6) (hk1 : 1 ≤ k) (hk12 : k ≤ 12) (hG : ∀ i j, i < n → j < k → fto (12 * i + j) = nI (g i j)) (hgn : ∀ i j, i < n → j < k → g i j < n) (hi : i < n) (hb6 : b < n) (ht0 : t ≤ 12) : Met l yX9_apart wsX9_apart ({ frames := 3, cells := 0, slots := 0, locals := 120 }) (cP D cY [.ref (a 0), .int (nI i), .int (nI b), .int (nI t)] [mO a (nI n) (nI k) th, [(a 1, .inl (cY 0, 72, .inl fto))], [(a 4, .inl (cY 1, 64, .inr (.inl fnow)))], [(a 5, .inl (cY 1, 64, .inr (.inl fthn)))]] sz) (qL (S := (Nat → Int64) × (Nat → Int64)) D cY (fun r u => r = lN (sm (PL (pr g) 36 k (prs i b) t) 36)) (fun u => [mO a (nI n) (nI k) (nI 0), [(a 1, .inl (cY 0, 72, .inl fto))], [(a 4, .inl (cY 1, 64, .inr (.inl u.1)))], [(a 5, .inl (cY 1, 64, .inr (.inl u.2)))]]) (va_A ([mO a (nI n) (nI k) th, [(a 1, .inl (cY 0, 72, .inl fto))], [(a 4, .inl (cY 1, 64, .inr (.inl fnow)))], [(a 5, .inl (cY 1, 64, .inr (.inl fthn)))]] : List va_W).flatten sz)) 0 0 (va_A ([mO a (nI n) (nI k) th, [(a 1, .inl (cY 0, 72, .inl fto))], [(a 4, .inl (cY 1, 64, .inr (.inl fnow)))], [(a 5, .inl (cY 1, 64, .inr (.inl fthn)))]] : List va_W).flatten sz) := by
  refine mtB (Qc := fun A => qL (S := (Nat → Int64) × (Nat → Int64)) D cY (fun r u => r = lN (sm (PL (pr g) 36 k (prs i b) t) 36)) (fun u => [mO a (nI n) (nI k) (nI 0), [(a 1, .inl (cY 0, 72, .inl fto))], [(a 4, .inl (cY 1, 64, .inr (.inl u.1)))], [(a 5, .inl (cY 1, 64, .inr (.inl u.2)))]]) A) (cc := cX9_apart) (maxL := 4) (ret := (some .long)) (by decide) rfl (Nat.le_of_ble_eq_true rfl) ?_
  intro p e s m below meth c A ls hx hb hr hml hts hown hlocks hnm hsz hP hK hVK hD hS hA hl
  have hown : s.vm.findClass RX9 = some m.cls := hown
  have hl : lv_has ls 4 [(0, .ref (a 0)), (1, .int (nI i)), (2, .int (nI b)), (3, .int (nI t))] := hl
  have hP : va_P D vwCl ([mO a (nI n) (nI k) th, [(a 1, .inl (cY 0, 72, .inl fto))], [(a 4, .inl (cY 1, 64, .inr (.inl fnow)))], [(a 5, .inl (cY 1, 64, .inr (.inl fthn)))]] : List va_W).flatten s.heap := hP
  have hD : va_D A ([mO a (nI n) (nI k) th, [(a 1, .inl (cY 0, 72, .inl fto))], [(a 4, .inl (cY 1, 64, .inr (.inl fnow)))], [(a 5, .inl (cY 1, 64, .inr (.inl fthn)))]] : List va_W).flatten := hD
  refine lv_aload_n hx hb dX9_apart_0 rfl (lv_at hl 0 rfl) ?_
  refine lv_aload_n hx hb dX9_apart_1 rfl (lv_at hl 0 rfl) ?_
  refine lv_iload_n hx hb dX9_apart_2 rfl (lv_at hl 1 rfl) ?_
  refine lv_iload_n hx hb dX9_apart_3 rfl (lv_at hl 3 rfl) ?_
  refine lv_iload_n hx hb dX9_apart_4 rfl (lv_at hl 2 rfl) ?_
  refine lv_bipush (v := nI 12) hx hb dX9_apart_5 (by decide) ?_
  refine ca_i (CL := [mO a (nI n) (nI k) th]) (va_runV (As := [.int (nI i), .int (nI t), .int (nI b), .int (nI 12)]) (rest := [.ref (a 0)]) ⟨hx, hb, hml, hown, hts⟩ (c_X9_lawFault_ok l D cY s.heap.size a n k th i t b 12 (by omega) (by omega) (by omega) (by omega) (by omega) (by omega) (by omega) (by omega)) (cwV 4 hts gX9_apart_X9_lawFault rfl rfl rfl (by decide +kernel) ⟨Nat.le_of_ble_eq_true rfl, Nat.le_of_ble_eq_true rfl⟩) (b_preV hVK hP hD [0] rfl rfl 0 rfl rfl) rfl rfl hl.1 rfl (lv_room (Nat.le_of_ble_eq_true rfl)) dX9_apart_7 ⟨Nat.le_refl _, Nat.le_refl _⟩) hP hD hS hA [0] rfl rfl (fun _ => rfl) (fun r7 uu H locs hq hP hD hS => ?_)
  subst hq
  have hP : va_P D vwCl ([mO a (nI n) (nI k) th, [(a 1, .inl (cY 0, 72, .inl fto))], [(a 4, .inl (cY 1, 64, .inr (.inl fnow)))], [(a 5, .inl (cY 1, 64, .inr (.inl fthn)))]] : List va_W).flatten H := hP
  have hD : va_D A ([mO a (nI n) (nI k) th, [(a 1, .inl (cY 0, 72, .inl fto))], [(a 4, .inl (cY 1, 64, .inr (.inl fnow)))], [(a 5, .inl (cY 1, 64, .inr (.inl fthn)))]] : List va_W).flatten := hD
  refine ca_i (CL := [mO a (nI n) (nI k) th]) (va_runV (As := [.int (nI 0)]) (rest := []) ⟨hx, hb, hml, hown, hts⟩ (c_X9_can l D cY H.size a n k th 0 (by omega)) (cwV 1 hts gX9_apart_X9_can rfl rfl rfl (by decide +kernel) ⟨Nat.le_of_ble_eq_true rfl, Nat.le_of_ble_eq_true rfl⟩) (b_preV hVK hP hD [0] rfl rfl 0 rfl rfl) rfl rfl hl.1 rfl (lv_room (Nat.le_of_ble_eq_true rfl)) dX9_apart_10 ⟨Nat.le_refl _, Nat.le_refl _⟩) hP hD hS hA [0] rfl rfl (fun _ => rfl) (fun r10 uu H locs hq hP hD hS => ?_)
  subst hq
  have hP : va_P D vwCl ([mO a (nI n) (nI k) (nI 0), [(a 1, .inl (cY 0, 72, .inl fto))], [(a 4, .inl (cY 1, 64, .inr (.inl fnow)))], [(a 5, .inl (cY 1, 64, .inr (.inl fthn)))]] : List va_W).flatten H := hP
  have hD : va_D A ([mO a (nI n) (nI k) (nI 0), [(a 1, .inl (cY 0, 72, .inl fto))], [(a 4, .inl (cY 1, 64, .inr (.inl fnow)))], [(a 5, .inl (cY 1, 64, .inr (.inl fthn)))]] : List va_W).flatten := hD
  refine b_if_eq (tgt := 26) hx hb dX9_apart_13 (by decide) (fun h13 => ?_) (fun h13 => ?_)
  · -- t
    exact absurd h13 (by decide)
  · -- f
    refine lv_aload_n hx hb dX9_apart_16 rfl (lv_at hl 0 rfl) ?_
    refine lv_iload_n hx hb dX9_apart_17 rfl (lv_at hl 1 rfl) ?_
    refine lv_iload_n hx hb dX9_apart_18 rfl (lv_at hl 2 rfl) ?_
    refine lv_iload_n hx hb dX9_apart_19 rfl (lv_at hl 3 rfl) ?_
    refine ca_l (CL := [mO a (nI n) (nI k) (nI 0), [(a 1, .inl (cY 0, 72, .inl fto))], [(a 4, .inl (cY 1, 64, .inr (.inl fnow)))], [(a 5, .inl (cY 1, 64, .inr (.inl fthn)))]]) (va_runV (As := [.int (nI i), .int (nI b), .int (nI t)]) (rest := []) ⟨hx, hb, hml, hown, hts⟩ (c_X9_apartBy l D cY H.size a n k (nI 0) fto fnow fthn g i b t (by omega) (by omega) (by omega) (by omega) hG hgn (by omega) (by omega) (by omega)) (cwV 3 hts gX9_apart_X9_apartBy rfl rfl rfl (by decide +kernel) ⟨Nat.le_of_ble_eq_true rfl, Nat.le_of_ble_eq_true rfl⟩) (b_preV hVK hP hD [0, 1, 2, 3] rfl rfl 0 rfl rfl) rfl rfl hl.1 rfl (lv_room (Nat.le_of_ble_eq_true rfl)) dX9_apart_20 ⟨Nat.le_refl _, Nat.le_refl _⟩) hP hD hS hA [0, 1, 2, 3] rfl rfl (fun _ => rfl) (fun r20 uu H locs hq hP hD hS => ?_)
    obtain ⟨fnow1_1, fthn1_2⟩ := uu
    try dsimp only at hq
    subst hq
    have hP : va_P D vwCl ([mO a (nI n) (nI k) (nI 0), [(a 1, .inl (cY 0, 72, .inl fto))], [(a 4, .inl (cY 1, 64, .inr (.inl fnow1_1)))], [(a 5, .inl (cY 1, 64, .inr (.inl fthn1_2)))]] : List va_W).flatten H := hP
    have hD : va_D A ([mO a (nI n) (nI k) (nI 0), [(a 1, .inl (cY 0, 72, .inl fto))], [(a 4, .inl (cY 1, 64, .inr (.inl fnow1_1)))], [(a 5, .inl (cY 1, 64, .inr (.inl fthn1_2)))]] : List va_W).flatten := hD
    refine lv_goto (tgt := 27) hx hb dX9_apart_23 (by decide) ?_
    exact r_l hx hb hr hlocks hP hD hS (fnow1_1, fthn1_2) rfl (rfl) dX9_apart_27

set_option maxHeartbeats 4000000 in
set_option maxRecDepth 100000 in
theorem c_X9_apart_b1 (l : Launch) (D : va_G) (cY : Nat → ClassId) (sz : Nat) (a : Nat → Nat) (n : Nat) (k : Nat) (th : Int32) (x : Int32) (z : Int32) (y : Int32) (hn1 : 1 ≤ n) (hn6 : n ≤ 6) (hk1 : 1 ≤ k) (hk12 : k ≤ 12) (hbad : (inR x (nI 0) (nI (n - 1)) && inR z (nI 0) (nI (n - 1))) = false) : Met l yX9_apart wsX9_apart ({ frames := 3, cells := 0, slots := 0, locals := 120 }) (cP D cY [.ref (a 0), .int x, .int z, .int y] [mO a (nI n) (nI k) th] sz) (qL (S := Unit) D cY (fun r u => r = lN 0) (fun u => [mO a (nI n) (nI k) (nI 1)]) (va_A ([mO a (nI n) (nI k) th] : List va_W).flatten sz)) 0 0 (va_A ([mO a (nI n) (nI k) th] : List va_W).flatten sz) := by
  refine mtB (Qc := fun A => qL (S := Unit) D cY (fun r u => r = lN 0) (fun u => [mO a (nI n) (nI k) (nI 1)]) A) (cc := cX9_apart) (maxL := 4) (ret := (some .long)) (by decide) rfl (Nat.le_of_ble_eq_true rfl) ?_
  intro p e s m below meth c A ls hx hb hr hml hts hown hlocks hnm hsz hP hK hVK hD hS hA hl
  have hown : s.vm.findClass RX9 = some m.cls := hown
  have hl : lv_has ls 4 [(0, .ref (a 0)), (1, .int x), (2, .int z), (3, .int y)] := hl
  have hP : va_P D vwCl ([mO a (nI n) (nI k) th] : List va_W).flatten s.heap := hP
  have hD : va_D A ([mO a (nI n) (nI k) th] : List va_W).flatten := hD
  refine lv_aload_n hx hb dX9_apart_0 rfl (lv_at hl 0 rfl) ?_
  refine lv_aload_n hx hb dX9_apart_1 rfl (lv_at hl 0 rfl) ?_
  refine lv_iload_n hx hb dX9_apart_2 rfl (lv_at hl 1 rfl) ?_
  refine lv_iload_n hx hb dX9_apart_3 rfl (lv_at hl 3 rfl) ?_
  refine lv_iload_n hx hb dX9_apart_4 rfl (lv_at hl 2 rfl) ?_
  refine lv_bipush (v := nI 12) hx hb dX9_apart_5 (by decide) ?_
  refine ca_i (CL := [mO a (nI n) (nI k) th]) (va_runV (As := [.int x, .int y, .int z, .int (nI 12)]) (rest := [.ref (a 0)]) ⟨hx, hb, hml, hown, hts⟩ (c_X9_lawFault_b1 l D cY s.heap.size a n k th x y z 12 (by omega) (by omega) (by omega) (by omega) hbad) (cwV 4 hts gX9_apart_X9_lawFault rfl rfl rfl (by decide +kernel) ⟨Nat.le_of_ble_eq_true rfl, Nat.le_of_ble_eq_true rfl⟩) (b_preV hVK hP hD [0] rfl rfl 0 rfl rfl) rfl rfl hl.1 rfl (lv_room (Nat.le_of_ble_eq_true rfl)) dX9_apart_7 ⟨Nat.le_refl _, Nat.le_refl _⟩) hP hD hS hA [0] rfl rfl (fun _ => rfl) (fun r7 uu H locs hq hP hD hS => ?_)
  subst hq
  have hP : va_P D vwCl ([mO a (nI n) (nI k) th] : List va_W).flatten H := hP
  have hD : va_D A ([mO a (nI n) (nI k) th] : List va_W).flatten := hD
  refine ca_i (CL := [mO a (nI n) (nI k) th]) (va_runV (As := [.int (nI 1)]) (rest := []) ⟨hx, hb, hml, hown, hts⟩ (c_X9_can l D cY H.size a n k th 1 (by omega)) (cwV 1 hts gX9_apart_X9_can rfl rfl rfl (by decide +kernel) ⟨Nat.le_of_ble_eq_true rfl, Nat.le_of_ble_eq_true rfl⟩) (b_preV hVK hP hD [0] rfl rfl 0 rfl rfl) rfl rfl hl.1 rfl (lv_room (Nat.le_of_ble_eq_true rfl)) dX9_apart_10 ⟨Nat.le_refl _, Nat.le_refl _⟩) hP hD hS hA [0] rfl rfl (fun _ => rfl) (fun r10 uu H locs hq hP hD hS => ?_)
  subst hq
  have hP : va_P D vwCl ([mO a (nI n) (nI k) (nI 1)] : List va_W).flatten H := hP
  have hD : va_D A ([mO a (nI n) (nI k) (nI 1)] : List va_W).flatten := hD
  refine b_if_eq (tgt := 26) hx hb dX9_apart_13 (by decide) (fun h13 => ?_) (fun h13 => ?_)
  · -- t
    refine lv_lconst (v := lN 0) hx hb dX9_apart_26 (by decide) ?_
    exact r_l hx hb hr hlocks hP hD hS () rfl (rfl) dX9_apart_27
  · -- f
    exact absurd h13 (by decide)

set_option maxHeartbeats 4000000 in
set_option maxRecDepth 100000 in
theorem c_X9_apart_b2 (l : Launch) (D : va_G) (cY : Nat → ClassId) (sz : Nat) (a : Nat → Nat) (n : Nat) (k : Nat) (th : Int32) (x : Int32) (z : Int32) (y : Int32) (hn1 : 1 ≤ n) (hn6 : n ≤ 6) (hk1 : 1 ≤ k) (hk12 : k ≤ 12) (hAa : (inR x (nI 0) (nI (n - 1)) && inR z (nI 0) (nI (n - 1))) = true) (hbad : inR y (nI 0) (nI 12) = false) : Met l yX9_apart wsX9_apart ({ frames := 3, cells := 0, slots := 0, locals := 120 }) (cP D cY [.ref (a 0), .int x, .int z, .int y] [mO a (nI n) (nI k) th] sz) (qL (S := Unit) D cY (fun r u => r = lN 0) (fun u => [mO a (nI n) (nI k) (nI 2)]) (va_A ([mO a (nI n) (nI k) th] : List va_W).flatten sz)) 0 0 (va_A ([mO a (nI n) (nI k) th] : List va_W).flatten sz) := by
  refine mtB (Qc := fun A => qL (S := Unit) D cY (fun r u => r = lN 0) (fun u => [mO a (nI n) (nI k) (nI 2)]) A) (cc := cX9_apart) (maxL := 4) (ret := (some .long)) (by decide) rfl (Nat.le_of_ble_eq_true rfl) ?_
  intro p e s m below meth c A ls hx hb hr hml hts hown hlocks hnm hsz hP hK hVK hD hS hA hl
  have hown : s.vm.findClass RX9 = some m.cls := hown
  have hl : lv_has ls 4 [(0, .ref (a 0)), (1, .int x), (2, .int z), (3, .int y)] := hl
  have hP : va_P D vwCl ([mO a (nI n) (nI k) th] : List va_W).flatten s.heap := hP
  have hD : va_D A ([mO a (nI n) (nI k) th] : List va_W).flatten := hD
  refine lv_aload_n hx hb dX9_apart_0 rfl (lv_at hl 0 rfl) ?_
  refine lv_aload_n hx hb dX9_apart_1 rfl (lv_at hl 0 rfl) ?_
  refine lv_iload_n hx hb dX9_apart_2 rfl (lv_at hl 1 rfl) ?_
  refine lv_iload_n hx hb dX9_apart_3 rfl (lv_at hl 3 rfl) ?_
  refine lv_iload_n hx hb dX9_apart_4 rfl (lv_at hl 2 rfl) ?_
  refine lv_bipush (v := nI 12) hx hb dX9_apart_5 (by decide) ?_
  refine ca_i (CL := [mO a (nI n) (nI k) th]) (va_runV (As := [.int x, .int y, .int z, .int (nI 12)]) (rest := [.ref (a 0)]) ⟨hx, hb, hml, hown, hts⟩ (c_X9_lawFault_b2 l D cY s.heap.size a n k th x y z 12 (by omega) (by omega) (by omega) (by omega) hAa hbad) (cwV 4 hts gX9_apart_X9_lawFault rfl rfl rfl (by decide +kernel) ⟨Nat.le_of_ble_eq_true rfl, Nat.le_of_ble_eq_true rfl⟩) (b_preV hVK hP hD [0] rfl rfl 0 rfl rfl) rfl rfl hl.1 rfl (lv_room (Nat.le_of_ble_eq_true rfl)) dX9_apart_7 ⟨Nat.le_refl _, Nat.le_refl _⟩) hP hD hS hA [0] rfl rfl (fun _ => rfl) (fun r7 uu H locs hq hP hD hS => ?_)
  subst hq
  have hP : va_P D vwCl ([mO a (nI n) (nI k) th] : List va_W).flatten H := hP
  have hD : va_D A ([mO a (nI n) (nI k) th] : List va_W).flatten := hD
  refine ca_i (CL := [mO a (nI n) (nI k) th]) (va_runV (As := [.int (nI 2)]) (rest := []) ⟨hx, hb, hml, hown, hts⟩ (c_X9_can l D cY H.size a n k th 2 (by omega)) (cwV 1 hts gX9_apart_X9_can rfl rfl rfl (by decide +kernel) ⟨Nat.le_of_ble_eq_true rfl, Nat.le_of_ble_eq_true rfl⟩) (b_preV hVK hP hD [0] rfl rfl 0 rfl rfl) rfl rfl hl.1 rfl (lv_room (Nat.le_of_ble_eq_true rfl)) dX9_apart_10 ⟨Nat.le_refl _, Nat.le_refl _⟩) hP hD hS hA [0] rfl rfl (fun _ => rfl) (fun r10 uu H locs hq hP hD hS => ?_)
  subst hq
  have hP : va_P D vwCl ([mO a (nI n) (nI k) (nI 2)] : List va_W).flatten H := hP
  have hD : va_D A ([mO a (nI n) (nI k) (nI 2)] : List va_W).flatten := hD
  refine b_if_eq (tgt := 26) hx hb dX9_apart_13 (by decide) (fun h13 => ?_) (fun h13 => ?_)
  · -- t
    refine lv_lconst (v := lN 0) hx hb dX9_apart_26 (by decide) ?_
    exact r_l hx hb hr hlocks hP hD hS () rfl (rfl) dX9_apart_27
  · -- f
    exact absurd h13 (by decide)

set_option maxHeartbeats 4000000 in
set_option maxRecDepth 100000 in
theorem c_X9_hits_ok (l : Launch) (D : va_G) (cY : Nat → ClassId) (sz : Nat) (a : Nat → Nat) (n : Nat) (k : Nat) (th : Int32) (fto : Nat → Int32) (fnow : Nat → Int64) (fthn : Nat → Int64) (g : Nat → Nat → Nat) (i : Nat) (t : Nat) (b : Nat) (hn1 : 1 ≤ n) (hn6 : n ≤ 6) (hk1 : 1 ≤ k) (hk12 : k ≤ 12) (hG : ∀ i j, i < n → j < k → fto (12 * i + j) = nI (g i j)) (hgn : ∀ i j, i < n → j < k → g i j < n) (hi : i < n) (hb6 : b < n) (ht0 : t ≤ 12) : Met l yX9_hits wsX9_hits ({ frames := 3, cells := 0, slots := 0, locals := 120 }) (cP D cY [.ref (a 0), .int (nI i), .int (nI t), .int (nI b)] [mO a (nI n) (nI k) th, [(a 1, .inl (cY 0, 72, .inl fto))], [(a 4, .inl (cY 1, 64, .inr (.inl fnow)))], [(a 5, .inl (cY 1, 64, .inr (.inl fthn)))]] sz) (qL (S := (Nat → Int64) × (Nat → Int64)) D cY (fun r u => r = lN (HS g n k i b t (t + 1))) (fun u => [mO a (nI n) (nI k) (nI 0), [(a 1, .inl (cY 0, 72, .inl fto))], [(a 4, .inl (cY 1, 64, .inr (.inl u.1)))], [(a 5, .inl (cY 1, 64, .inr (.inl u.2)))]]) (va_A ([mO a (nI n) (nI k) th, [(a 1, .inl (cY 0, 72, .inl fto))], [(a 4, .inl (cY 1, 64, .inr (.inl fnow)))], [(a 5, .inl (cY 1, 64, .inr (.inl fthn)))]] : List va_W).flatten sz)) 0 0 (va_A ([mO a (nI n) (nI k) th, [(a 1, .inl (cY 0, 72, .inl fto))], [(a 4, .inl (cY 1, 64, .inr (.inl fnow)))], [(a 5, .inl (cY 1, 64, .inr (.inl fthn)))]] : List va_W).flatten sz) := by
  refine mtB (Qc := fun A => qL (S := (Nat → Int64) × (Nat → Int64)) D cY (fun r u => r = lN (HS g n k i b t (t + 1))) (fun u => [mO a (nI n) (nI k) (nI 0), [(a 1, .inl (cY 0, 72, .inl fto))], [(a 4, .inl (cY 1, 64, .inr (.inl u.1)))], [(a 5, .inl (cY 1, 64, .inr (.inl u.2)))]]) A) (cc := cX9_hits) (maxL := 4) (ret := (some .long)) (by decide) rfl (Nat.le_of_ble_eq_true rfl) ?_
  intro p e s m below meth c A ls hx hb hr hml hts hown hlocks hnm hsz hP hK hVK hD hS hA hl
  have hown : s.vm.findClass RX9 = some m.cls := hown
  have hl : lv_has ls 4 [(0, .ref (a 0)), (1, .int (nI i)), (2, .int (nI t)), (3, .int (nI b))] := hl
  have hP : va_P D vwCl ([mO a (nI n) (nI k) th, [(a 1, .inl (cY 0, 72, .inl fto))], [(a 4, .inl (cY 1, 64, .inr (.inl fnow)))], [(a 5, .inl (cY 1, 64, .inr (.inl fthn)))]] : List va_W).flatten s.heap := hP
  have hD : va_D A ([mO a (nI n) (nI k) th, [(a 1, .inl (cY 0, 72, .inl fto))], [(a 4, .inl (cY 1, 64, .inr (.inl fnow)))], [(a 5, .inl (cY 1, 64, .inr (.inl fthn)))]] : List va_W).flatten := hD
  refine lv_aload_n hx hb dX9_hits_0 rfl (lv_at hl 0 rfl) ?_
  refine lv_aload_n hx hb dX9_hits_1 rfl (lv_at hl 0 rfl) ?_
  refine lv_iload_n hx hb dX9_hits_2 rfl (lv_at hl 1 rfl) ?_
  refine lv_iload_n hx hb dX9_hits_3 rfl (lv_at hl 2 rfl) ?_
  refine lv_iload_n hx hb dX9_hits_4 rfl (lv_at hl 3 rfl) ?_
  refine lv_bipush (v := nI 12) hx hb dX9_hits_5 (by decide) ?_
  refine ca_i (CL := [mO a (nI n) (nI k) th]) (va_runV (As := [.int (nI i), .int (nI t), .int (nI b), .int (nI 12)]) (rest := [.ref (a 0)]) ⟨hx, hb, hml, hown, hts⟩ (c_X9_lawFault_ok l D cY s.heap.size a n k th i t b 12 (by omega) (by omega) (by omega) (by omega) (by omega) (by omega) (by omega) (by omega)) (cwV 4 hts gX9_hits_X9_lawFault rfl rfl rfl (by decide +kernel) ⟨Nat.le_of_ble_eq_true rfl, Nat.le_of_ble_eq_true rfl⟩) (b_preV hVK hP hD [0] rfl rfl 0 rfl rfl) rfl rfl hl.1 rfl (lv_room (Nat.le_of_ble_eq_true rfl)) dX9_hits_7 ⟨Nat.le_refl _, Nat.le_refl _⟩) hP hD hS hA [0] rfl rfl (fun _ => rfl) (fun r7 uu H locs hq hP hD hS => ?_)
  subst hq
  have hP : va_P D vwCl ([mO a (nI n) (nI k) th, [(a 1, .inl (cY 0, 72, .inl fto))], [(a 4, .inl (cY 1, 64, .inr (.inl fnow)))], [(a 5, .inl (cY 1, 64, .inr (.inl fthn)))]] : List va_W).flatten H := hP
  have hD : va_D A ([mO a (nI n) (nI k) th, [(a 1, .inl (cY 0, 72, .inl fto))], [(a 4, .inl (cY 1, 64, .inr (.inl fnow)))], [(a 5, .inl (cY 1, 64, .inr (.inl fthn)))]] : List va_W).flatten := hD
  refine ca_i (CL := [mO a (nI n) (nI k) th]) (va_runV (As := [.int (nI 0)]) (rest := []) ⟨hx, hb, hml, hown, hts⟩ (c_X9_can l D cY H.size a n k th 0 (by omega)) (cwV 1 hts gX9_hits_X9_can rfl rfl rfl (by decide +kernel) ⟨Nat.le_of_ble_eq_true rfl, Nat.le_of_ble_eq_true rfl⟩) (b_preV hVK hP hD [0] rfl rfl 0 rfl rfl) rfl rfl hl.1 rfl (lv_room (Nat.le_of_ble_eq_true rfl)) dX9_hits_10 ⟨Nat.le_refl _, Nat.le_refl _⟩) hP hD hS hA [0] rfl rfl (fun _ => rfl) (fun r10 uu H locs hq hP hD hS => ?_)
  subst hq
  have hP : va_P D vwCl ([mO a (nI n) (nI k) (nI 0), [(a 1, .inl (cY 0, 72, .inl fto))], [(a 4, .inl (cY 1, 64, .inr (.inl fnow)))], [(a 5, .inl (cY 1, 64, .inr (.inl fthn)))]] : List va_W).flatten H := hP
  have hD : va_D A ([mO a (nI n) (nI k) (nI 0), [(a 1, .inl (cY 0, 72, .inl fto))], [(a 4, .inl (cY 1, 64, .inr (.inl fnow)))], [(a 5, .inl (cY 1, 64, .inr (.inl fthn)))]] : List va_W).flatten := hD
  refine b_if_eq (tgt := 26) hx hb dX9_hits_13 (by decide) (fun h13 => ?_) (fun h13 => ?_)
  · -- t
    exact absurd h13 (by decide)
  · -- f
    refine lv_aload_n hx hb dX9_hits_16 rfl (lv_at hl 0 rfl) ?_
    refine lv_iload_n hx hb dX9_hits_17 rfl (lv_at hl 1 rfl) ?_
    refine lv_iload_n hx hb dX9_hits_18 rfl (lv_at hl 2 rfl) ?_
    refine lv_iload_n hx hb dX9_hits_19 rfl (lv_at hl 3 rfl) ?_
    refine ca_l (CL := [mO a (nI n) (nI k) (nI 0), [(a 1, .inl (cY 0, 72, .inl fto))], [(a 4, .inl (cY 1, 64, .inr (.inl fnow)))], [(a 5, .inl (cY 1, 64, .inr (.inl fthn)))]]) (va_runV (As := [.int (nI i), .int (nI t), .int (nI b)]) (rest := []) ⟨hx, hb, hml, hown, hts⟩ (c_X9_hitsBy l D cY H.size a n k (nI 0) fto fnow fthn g i t b (by omega) (by omega) (by omega) (by omega) hG hgn (by omega) (by omega) (by omega)) (cwV 3 hts gX9_hits_X9_hitsBy rfl rfl rfl (by decide +kernel) ⟨Nat.le_of_ble_eq_true rfl, Nat.le_of_ble_eq_true rfl⟩) (b_preV hVK hP hD [0, 1, 2, 3] rfl rfl 0 rfl rfl) rfl rfl hl.1 rfl (lv_room (Nat.le_of_ble_eq_true rfl)) dX9_hits_20 ⟨Nat.le_refl _, Nat.le_refl _⟩) hP hD hS hA [0, 1, 2, 3] rfl rfl (fun _ => rfl) (fun r20 uu H locs hq hP hD hS => ?_)
    obtain ⟨fnow1_1, fthn1_2⟩ := uu
    try dsimp only at hq
    subst hq
    have hP : va_P D vwCl ([mO a (nI n) (nI k) (nI 0), [(a 1, .inl (cY 0, 72, .inl fto))], [(a 4, .inl (cY 1, 64, .inr (.inl fnow1_1)))], [(a 5, .inl (cY 1, 64, .inr (.inl fthn1_2)))]] : List va_W).flatten H := hP
    have hD : va_D A ([mO a (nI n) (nI k) (nI 0), [(a 1, .inl (cY 0, 72, .inl fto))], [(a 4, .inl (cY 1, 64, .inr (.inl fnow1_1)))], [(a 5, .inl (cY 1, 64, .inr (.inl fthn1_2)))]] : List va_W).flatten := hD
    refine lv_goto (tgt := 27) hx hb dX9_hits_23 (by decide) ?_
    exact r_l hx hb hr hlocks hP hD hS (fnow1_1, fthn1_2) rfl (rfl) dX9_hits_27

set_option maxHeartbeats 4000000 in
set_option maxRecDepth 100000 in
theorem c_X9_hits_b1 (l : Launch) (D : va_G) (cY : Nat → ClassId) (sz : Nat) (a : Nat → Nat) (n : Nat) (k : Nat) (th : Int32) (x : Int32) (y : Int32) (z : Int32) (hn1 : 1 ≤ n) (hn6 : n ≤ 6) (hk1 : 1 ≤ k) (hk12 : k ≤ 12) (hbad : (inR x (nI 0) (nI (n - 1)) && inR z (nI 0) (nI (n - 1))) = false) : Met l yX9_hits wsX9_hits ({ frames := 3, cells := 0, slots := 0, locals := 120 }) (cP D cY [.ref (a 0), .int x, .int y, .int z] [mO a (nI n) (nI k) th] sz) (qL (S := Unit) D cY (fun r u => r = lN 0) (fun u => [mO a (nI n) (nI k) (nI 1)]) (va_A ([mO a (nI n) (nI k) th] : List va_W).flatten sz)) 0 0 (va_A ([mO a (nI n) (nI k) th] : List va_W).flatten sz) := by
  refine mtB (Qc := fun A => qL (S := Unit) D cY (fun r u => r = lN 0) (fun u => [mO a (nI n) (nI k) (nI 1)]) A) (cc := cX9_hits) (maxL := 4) (ret := (some .long)) (by decide) rfl (Nat.le_of_ble_eq_true rfl) ?_
  intro p e s m below meth c A ls hx hb hr hml hts hown hlocks hnm hsz hP hK hVK hD hS hA hl
  have hown : s.vm.findClass RX9 = some m.cls := hown
  have hl : lv_has ls 4 [(0, .ref (a 0)), (1, .int x), (2, .int y), (3, .int z)] := hl
  have hP : va_P D vwCl ([mO a (nI n) (nI k) th] : List va_W).flatten s.heap := hP
  have hD : va_D A ([mO a (nI n) (nI k) th] : List va_W).flatten := hD
  refine lv_aload_n hx hb dX9_hits_0 rfl (lv_at hl 0 rfl) ?_
  refine lv_aload_n hx hb dX9_hits_1 rfl (lv_at hl 0 rfl) ?_
  refine lv_iload_n hx hb dX9_hits_2 rfl (lv_at hl 1 rfl) ?_
  refine lv_iload_n hx hb dX9_hits_3 rfl (lv_at hl 2 rfl) ?_
  refine lv_iload_n hx hb dX9_hits_4 rfl (lv_at hl 3 rfl) ?_
  refine lv_bipush (v := nI 12) hx hb dX9_hits_5 (by decide) ?_
  refine ca_i (CL := [mO a (nI n) (nI k) th]) (va_runV (As := [.int x, .int y, .int z, .int (nI 12)]) (rest := [.ref (a 0)]) ⟨hx, hb, hml, hown, hts⟩ (c_X9_lawFault_b1 l D cY s.heap.size a n k th x y z 12 (by omega) (by omega) (by omega) (by omega) hbad) (cwV 4 hts gX9_hits_X9_lawFault rfl rfl rfl (by decide +kernel) ⟨Nat.le_of_ble_eq_true rfl, Nat.le_of_ble_eq_true rfl⟩) (b_preV hVK hP hD [0] rfl rfl 0 rfl rfl) rfl rfl hl.1 rfl (lv_room (Nat.le_of_ble_eq_true rfl)) dX9_hits_7 ⟨Nat.le_refl _, Nat.le_refl _⟩) hP hD hS hA [0] rfl rfl (fun _ => rfl) (fun r7 uu H locs hq hP hD hS => ?_)
  subst hq
  have hP : va_P D vwCl ([mO a (nI n) (nI k) th] : List va_W).flatten H := hP
  have hD : va_D A ([mO a (nI n) (nI k) th] : List va_W).flatten := hD
  refine ca_i (CL := [mO a (nI n) (nI k) th]) (va_runV (As := [.int (nI 1)]) (rest := []) ⟨hx, hb, hml, hown, hts⟩ (c_X9_can l D cY H.size a n k th 1 (by omega)) (cwV 1 hts gX9_hits_X9_can rfl rfl rfl (by decide +kernel) ⟨Nat.le_of_ble_eq_true rfl, Nat.le_of_ble_eq_true rfl⟩) (b_preV hVK hP hD [0] rfl rfl 0 rfl rfl) rfl rfl hl.1 rfl (lv_room (Nat.le_of_ble_eq_true rfl)) dX9_hits_10 ⟨Nat.le_refl _, Nat.le_refl _⟩) hP hD hS hA [0] rfl rfl (fun _ => rfl) (fun r10 uu H locs hq hP hD hS => ?_)
  subst hq
  have hP : va_P D vwCl ([mO a (nI n) (nI k) (nI 1)] : List va_W).flatten H := hP
  have hD : va_D A ([mO a (nI n) (nI k) (nI 1)] : List va_W).flatten := hD
  refine b_if_eq (tgt := 26) hx hb dX9_hits_13 (by decide) (fun h13 => ?_) (fun h13 => ?_)
  · -- t
    refine lv_lconst (v := lN 0) hx hb dX9_hits_26 (by decide) ?_
    exact r_l hx hb hr hlocks hP hD hS () rfl (rfl) dX9_hits_27
  · -- f
    exact absurd h13 (by decide)

set_option maxHeartbeats 4000000 in
set_option maxRecDepth 100000 in
theorem c_X9_hits_b2 (l : Launch) (D : va_G) (cY : Nat → ClassId) (sz : Nat) (a : Nat → Nat) (n : Nat) (k : Nat) (th : Int32) (x : Int32) (y : Int32) (z : Int32) (hn1 : 1 ≤ n) (hn6 : n ≤ 6) (hk1 : 1 ≤ k) (hk12 : k ≤ 12) (hAa : (inR x (nI 0) (nI (n - 1)) && inR z (nI 0) (nI (n - 1))) = true) (hbad : inR y (nI 0) (nI 12) = false) : Met l yX9_hits wsX9_hits ({ frames := 3, cells := 0, slots := 0, locals := 120 }) (cP D cY [.ref (a 0), .int x, .int y, .int z] [mO a (nI n) (nI k) th] sz) (qL (S := Unit) D cY (fun r u => r = lN 0) (fun u => [mO a (nI n) (nI k) (nI 2)]) (va_A ([mO a (nI n) (nI k) th] : List va_W).flatten sz)) 0 0 (va_A ([mO a (nI n) (nI k) th] : List va_W).flatten sz) := by
  refine mtB (Qc := fun A => qL (S := Unit) D cY (fun r u => r = lN 0) (fun u => [mO a (nI n) (nI k) (nI 2)]) A) (cc := cX9_hits) (maxL := 4) (ret := (some .long)) (by decide) rfl (Nat.le_of_ble_eq_true rfl) ?_
  intro p e s m below meth c A ls hx hb hr hml hts hown hlocks hnm hsz hP hK hVK hD hS hA hl
  have hown : s.vm.findClass RX9 = some m.cls := hown
  have hl : lv_has ls 4 [(0, .ref (a 0)), (1, .int x), (2, .int y), (3, .int z)] := hl
  have hP : va_P D vwCl ([mO a (nI n) (nI k) th] : List va_W).flatten s.heap := hP
  have hD : va_D A ([mO a (nI n) (nI k) th] : List va_W).flatten := hD
  refine lv_aload_n hx hb dX9_hits_0 rfl (lv_at hl 0 rfl) ?_
  refine lv_aload_n hx hb dX9_hits_1 rfl (lv_at hl 0 rfl) ?_
  refine lv_iload_n hx hb dX9_hits_2 rfl (lv_at hl 1 rfl) ?_
  refine lv_iload_n hx hb dX9_hits_3 rfl (lv_at hl 2 rfl) ?_
  refine lv_iload_n hx hb dX9_hits_4 rfl (lv_at hl 3 rfl) ?_
  refine lv_bipush (v := nI 12) hx hb dX9_hits_5 (by decide) ?_
  refine ca_i (CL := [mO a (nI n) (nI k) th]) (va_runV (As := [.int x, .int y, .int z, .int (nI 12)]) (rest := [.ref (a 0)]) ⟨hx, hb, hml, hown, hts⟩ (c_X9_lawFault_b2 l D cY s.heap.size a n k th x y z 12 (by omega) (by omega) (by omega) (by omega) hAa hbad) (cwV 4 hts gX9_hits_X9_lawFault rfl rfl rfl (by decide +kernel) ⟨Nat.le_of_ble_eq_true rfl, Nat.le_of_ble_eq_true rfl⟩) (b_preV hVK hP hD [0] rfl rfl 0 rfl rfl) rfl rfl hl.1 rfl (lv_room (Nat.le_of_ble_eq_true rfl)) dX9_hits_7 ⟨Nat.le_refl _, Nat.le_refl _⟩) hP hD hS hA [0] rfl rfl (fun _ => rfl) (fun r7 uu H locs hq hP hD hS => ?_)
  subst hq
  have hP : va_P D vwCl ([mO a (nI n) (nI k) th] : List va_W).flatten H := hP
  have hD : va_D A ([mO a (nI n) (nI k) th] : List va_W).flatten := hD
  refine ca_i (CL := [mO a (nI n) (nI k) th]) (va_runV (As := [.int (nI 2)]) (rest := []) ⟨hx, hb, hml, hown, hts⟩ (c_X9_can l D cY H.size a n k th 2 (by omega)) (cwV 1 hts gX9_hits_X9_can rfl rfl rfl (by decide +kernel) ⟨Nat.le_of_ble_eq_true rfl, Nat.le_of_ble_eq_true rfl⟩) (b_preV hVK hP hD [0] rfl rfl 0 rfl rfl) rfl rfl hl.1 rfl (lv_room (Nat.le_of_ble_eq_true rfl)) dX9_hits_10 ⟨Nat.le_refl _, Nat.le_refl _⟩) hP hD hS hA [0] rfl rfl (fun _ => rfl) (fun r10 uu H locs hq hP hD hS => ?_)
  subst hq
  have hP : va_P D vwCl ([mO a (nI n) (nI k) (nI 2)] : List va_W).flatten H := hP
  have hD : va_D A ([mO a (nI n) (nI k) (nI 2)] : List va_W).flatten := hD
  refine b_if_eq (tgt := 26) hx hb dX9_hits_13 (by decide) (fun h13 => ?_) (fun h13 => ?_)
  · -- t
    refine lv_lconst (v := lN 0) hx hb dX9_hits_26 (by decide) ?_
    exact r_l hx hb hr hlocks hP hD hS () rfl (rfl) dX9_hits_27
  · -- f
    exact absurd h13 (by decide)

set_option maxHeartbeats 4000000 in
set_option maxRecDepth 100000 in
theorem c_X9_reach_ok (l : Launch) (D : va_G) (cY : Nat → ClassId) (sz : Nat) (a : Nat → Nat) (n : Nat) (k : Nat) (th : Int32) (fto : Nat → Int32) (g : Nat → Nat → Nat) (i : Nat) (hn1 : 1 ≤ n) (hn6 : n ≤ 6) (hk1 : 1 ≤ k) (hk12 : k ≤ 12) (hG : ∀ i j, i < n → j < k → fto (12 * i + j) = nI (g i j)) (hgn : ∀ i j, i < n → j < k → g i j < n) (hi : i < n) : Met l yX9_reach wsX9_reach ({ frames := 4, cells := 0, slots := 0, locals := 160 }) (cP D cY [.ref (a 0), .int (nI i)] [mO a (nI n) (nI k) th, [(a 1, .inl (cY 0, 72, .inl fto))]] sz) (qI (S := Unit) D cY (fun r u => r = nI (rch g n k i n)) (fun u => [mO a (nI n) (nI k) (nI 0), [(a 1, .inl (cY 0, 72, .inl fto))]]) (va_A ([mO a (nI n) (nI k) th, [(a 1, .inl (cY 0, 72, .inl fto))]] : List va_W).flatten sz)) 0 0 (va_A ([mO a (nI n) (nI k) th, [(a 1, .inl (cY 0, 72, .inl fto))]] : List va_W).flatten sz) := by
  refine mtB (Qc := fun A => qI (S := Unit) D cY (fun r u => r = nI (rch g n k i n)) (fun u => [mO a (nI n) (nI k) (nI 0), [(a 1, .inl (cY 0, 72, .inl fto))]]) A) (cc := cX9_reach) (maxL := 2) (ret := (some .int)) (by decide) rfl (Nat.le_of_ble_eq_true rfl) ?_
  intro p e s m below meth c A ls hx hb hr hml hts hown hlocks hnm hsz hP hK hVK hD hS hA hl
  have hown : s.vm.findClass RX9 = some m.cls := hown
  have hl : lv_has ls 2 [(0, .ref (a 0)), (1, .int (nI i))] := hl
  have hP : va_P D vwCl ([mO a (nI n) (nI k) th, [(a 1, .inl (cY 0, 72, .inl fto))]] : List va_W).flatten s.heap := hP
  have hD : va_D A ([mO a (nI n) (nI k) th, [(a 1, .inl (cY 0, 72, .inl fto))]] : List va_W).flatten := hD
  have hAa : inR (nI i) (nI 0) (nI (n - 1)) = true := inR_t (by omega) (by omega) (by omega)
  refine lv_aload_n hx hb dX9_reach_0 rfl (lv_at hl 0 rfl) ?_
  refine lv_aload_n hx hb dX9_reach_1 rfl (lv_at hl 0 rfl) ?_
  refine lv_iload_n hx hb dX9_reach_2 rfl (lv_at hl 1 rfl) ?_
  refine ca_i (CL := [mO a (nI n) (nI k) th]) (va_runV (As := [.int (nI i)]) (rest := [.ref (a 0)]) ⟨hx, hb, hml, hown, hts⟩ (c_X9_isState l D cY s.heap.size a n k th (nI i) (by omega)) (cwV 1 hts gX9_reach_X9_isState rfl rfl rfl (by decide +kernel) ⟨Nat.le_of_ble_eq_true rfl, Nat.le_of_ble_eq_true rfl⟩) (b_preV hVK hP hD [0] rfl rfl 0 rfl rfl) rfl rfl hl.1 rfl (lv_room (Nat.le_of_ble_eq_true rfl)) dX9_reach_3 ⟨Nat.le_refl _, Nat.le_refl _⟩) hP hD hS hA [0] rfl rfl (fun _ => rfl) (fun r3 uu H locs hq hP hD hS => ?_)
  subst hq
  have hP : va_P D vwCl ([mO a (nI n) (nI k) th, [(a 1, .inl (cY 0, 72, .inl fto))]] : List va_W).flatten H := hP
  have hD : va_D A ([mO a (nI n) (nI k) th, [(a 1, .inl (cY 0, 72, .inl fto))]] : List va_W).flatten := hD
  refine b_if_eq (tgt := 13) hx hb dX9_reach_6 (by decide) (fun h6 => ?_) (fun h6 => ?_)
  · -- t
    exact absurd (h6.symm.trans hAa) (by decide)
  · -- f
    refine lv_iconst (v := nI 0) hx hb dX9_reach_9 (by decide) ?_
    refine lv_goto (tgt := 14) hx hb dX9_reach_10 (by decide) ?_
    refine ca_i (CL := [mO a (nI n) (nI k) th]) (va_runV (As := [.int (nI 0)]) (rest := []) ⟨hx, hb, hml, hown, hts⟩ (c_X9_can l D cY H.size a n k th 0 (by omega)) (cwV 1 hts gX9_reach_X9_can rfl rfl rfl (by decide +kernel) ⟨Nat.le_of_ble_eq_true rfl, Nat.le_of_ble_eq_true rfl⟩) (b_preV hVK hP hD [0] rfl rfl 0 rfl rfl) rfl rfl hl.1 rfl (lv_room (Nat.le_of_ble_eq_true rfl)) dX9_reach_14 ⟨Nat.le_refl _, Nat.le_refl _⟩) hP hD hS hA [0] rfl rfl (fun _ => rfl) (fun r14 uu H locs hq hP hD hS => ?_)
    subst hq
    have hP : va_P D vwCl ([mO a (nI n) (nI k) (nI 0), [(a 1, .inl (cY 0, 72, .inl fto))]] : List va_W).flatten H := hP
    have hD : va_D A ([mO a (nI n) (nI k) (nI 0), [(a 1, .inl (cY 0, 72, .inl fto))]] : List va_W).flatten := hD
    refine b_if_eq (tgt := 28) hx hb dX9_reach_17 (by decide) (fun h17 => ?_) (fun h17 => ?_)
    · -- t
      exact absurd h17 (by decide)
    · -- f
      refine lv_aload_n hx hb dX9_reach_20 rfl (lv_at hl 0 rfl) ?_
      refine lv_iload_n hx hb dX9_reach_21 rfl (lv_at hl 1 rfl) ?_
      refine ca_i (CL := [mO a (nI n) (nI k) (nI 0), [(a 1, .inl (cY 0, 72, .inl fto))]]) (va_runV (As := [.int (nI i)]) (rest := []) ⟨hx, hb, hml, hown, hts⟩ (c_X9_reached l D cY H.size a n k (nI 0) fto g i (by omega) (by omega) (by omega) (by omega) hG hgn (by omega)) (cwV 1 hts gX9_reach_X9_reached rfl rfl rfl (by decide +kernel) ⟨Nat.le_of_ble_eq_true rfl, Nat.le_of_ble_eq_true rfl⟩) (b_preV hVK hP hD [0, 1] rfl rfl 0 rfl rfl) rfl rfl hl.1 rfl (lv_room (Nat.le_of_ble_eq_true rfl)) dX9_reach_22 ⟨Nat.le_refl _, Nat.le_refl _⟩) hP hD hS hA [0, 1] rfl rfl (fun _ => rfl) (fun r22 uu H locs hq hP hD hS => ?_)
      subst hq
      have hP : va_P D vwCl ([mO a (nI n) (nI k) (nI 0), [(a 1, .inl (cY 0, 72, .inl fto))]] : List va_W).flatten H := hP
      have hD : va_D A ([mO a (nI n) (nI k) (nI 0), [(a 1, .inl (cY 0, 72, .inl fto))]] : List va_W).flatten := hD
      refine lv_goto (tgt := 29) hx hb dX9_reach_25 (by decide) ?_
      exact r_i hx hb hr hlocks hP hD hS () rfl (rfl) dX9_reach_29

set_option maxHeartbeats 4000000 in
set_option maxRecDepth 100000 in
theorem c_X9_reach_bad (l : Launch) (D : va_G) (cY : Nat → ClassId) (sz : Nat) (a : Nat → Nat) (n : Nat) (k : Nat) (th : Int32) (x : Int32) (hn1 : 1 ≤ n) (hn6 : n ≤ 6) (hk1 : 1 ≤ k) (hk12 : k ≤ 12) (hbad : inR x (nI 0) (nI (n - 1)) = false) : Met l yX9_reach wsX9_reach ({ frames := 4, cells := 0, slots := 0, locals := 160 }) (cP D cY [.ref (a 0), .int x] [mO a (nI n) (nI k) th] sz) (qI (S := Unit) D cY (fun r u => r = nI 0) (fun u => [mO a (nI n) (nI k) (nI 1)]) (va_A ([mO a (nI n) (nI k) th] : List va_W).flatten sz)) 0 0 (va_A ([mO a (nI n) (nI k) th] : List va_W).flatten sz) := by
  refine mtB (Qc := fun A => qI (S := Unit) D cY (fun r u => r = nI 0) (fun u => [mO a (nI n) (nI k) (nI 1)]) A) (cc := cX9_reach) (maxL := 2) (ret := (some .int)) (by decide) rfl (Nat.le_of_ble_eq_true rfl) ?_
  intro p e s m below meth c A ls hx hb hr hml hts hown hlocks hnm hsz hP hK hVK hD hS hA hl
  have hown : s.vm.findClass RX9 = some m.cls := hown
  have hl : lv_has ls 2 [(0, .ref (a 0)), (1, .int x)] := hl
  have hP : va_P D vwCl ([mO a (nI n) (nI k) th] : List va_W).flatten s.heap := hP
  have hD : va_D A ([mO a (nI n) (nI k) th] : List va_W).flatten := hD
  refine lv_aload_n hx hb dX9_reach_0 rfl (lv_at hl 0 rfl) ?_
  refine lv_aload_n hx hb dX9_reach_1 rfl (lv_at hl 0 rfl) ?_
  refine lv_iload_n hx hb dX9_reach_2 rfl (lv_at hl 1 rfl) ?_
  refine ca_i (CL := [mO a (nI n) (nI k) th]) (va_runV (As := [.int x]) (rest := [.ref (a 0)]) ⟨hx, hb, hml, hown, hts⟩ (c_X9_isState l D cY s.heap.size a n k th x (by omega)) (cwV 1 hts gX9_reach_X9_isState rfl rfl rfl (by decide +kernel) ⟨Nat.le_of_ble_eq_true rfl, Nat.le_of_ble_eq_true rfl⟩) (b_preV hVK hP hD [0] rfl rfl 0 rfl rfl) rfl rfl hl.1 rfl (lv_room (Nat.le_of_ble_eq_true rfl)) dX9_reach_3 ⟨Nat.le_refl _, Nat.le_refl _⟩) hP hD hS hA [0] rfl rfl (fun _ => rfl) (fun r3 uu H locs hq hP hD hS => ?_)
  subst hq
  have hP : va_P D vwCl ([mO a (nI n) (nI k) th] : List va_W).flatten H := hP
  have hD : va_D A ([mO a (nI n) (nI k) th] : List va_W).flatten := hD
  refine b_if_eq (tgt := 13) hx hb dX9_reach_6 (by decide) (fun h6 => ?_) (fun h6 => ?_)
  · -- t
    refine lv_iconst (v := nI 1) hx hb dX9_reach_13 (by decide) ?_
    refine ca_i (CL := [mO a (nI n) (nI k) th]) (va_runV (As := [.int (nI 1)]) (rest := []) ⟨hx, hb, hml, hown, hts⟩ (c_X9_can l D cY H.size a n k th 1 (by omega)) (cwV 1 hts gX9_reach_X9_can rfl rfl rfl (by decide +kernel) ⟨Nat.le_of_ble_eq_true rfl, Nat.le_of_ble_eq_true rfl⟩) (b_preV hVK hP hD [0] rfl rfl 0 rfl rfl) rfl rfl hl.1 rfl (lv_room (Nat.le_of_ble_eq_true rfl)) dX9_reach_14 ⟨Nat.le_refl _, Nat.le_refl _⟩) hP hD hS hA [0] rfl rfl (fun _ => rfl) (fun r14 uu H locs hq hP hD hS => ?_)
    subst hq
    have hP : va_P D vwCl ([mO a (nI n) (nI k) (nI 1)] : List va_W).flatten H := hP
    have hD : va_D A ([mO a (nI n) (nI k) (nI 1)] : List va_W).flatten := hD
    refine b_if_eq (tgt := 28) hx hb dX9_reach_17 (by decide) (fun h17 => ?_) (fun h17 => ?_)
    · -- t
      refine lv_iconst (v := nI 0) hx hb dX9_reach_28 (by decide) ?_
      exact r_i hx hb hr hlocks hP hD hS () rfl (rfl) dX9_reach_29
    · -- f
      exact absurd h17 (by decide)
  · -- f
    exact absurd (h6.symm.trans hbad) (by decide)

set_option maxHeartbeats 4000000 in
set_option maxRecDepth 100000 in
theorem c_X9_period_bad (l : Launch) (D : va_G) (cY : Nat → ClassId) (sz : Nat) (a : Nat → Nat) (n : Nat) (k : Nat) (th : Int32) (x : Int32) (hn1 : 1 ≤ n) (hn6 : n ≤ 6) (hk1 : 1 ≤ k) (hk12 : k ≤ 12) (hbad : inR x (nI 0) (nI (n - 1)) = false) : Met l yX9_period wsX9_period ({ frames := 3, cells := 0, slots := 0, locals := 120 }) (cP D cY [.ref (a 0), .int x] [mO a (nI n) (nI k) th] sz) (qI (S := Unit) D cY (fun r u => r = nI 0) (fun u => [mO a (nI n) (nI k) (nI 1)]) (va_A ([mO a (nI n) (nI k) th] : List va_W).flatten sz)) 0 0 (va_A ([mO a (nI n) (nI k) th] : List va_W).flatten sz) := by
  refine mtB (Qc := fun A => qI (S := Unit) D cY (fun r u => r = nI 0) (fun u => [mO a (nI n) (nI k) (nI 1)]) A) (cc := cX9_period) (maxL := 5) (ret := (some .int)) (by decide) rfl (Nat.le_of_ble_eq_true rfl) ?_
  intro p e s m below meth c A ls hx hb hr hml hts hown hlocks hnm hsz hP hK hVK hD hS hA hl
  have hown : s.vm.findClass RX9 = some m.cls := hown
  have hl : lv_has ls 5 [(0, .ref (a 0)), (1, .int x)] := hl
  have hP : va_P D vwCl ([mO a (nI n) (nI k) th] : List va_W).flatten s.heap := hP
  have hD : va_D A ([mO a (nI n) (nI k) th] : List va_W).flatten := hD
  refine lv_aload_n hx hb dX9_period_0 rfl (lv_at hl 0 rfl) ?_
  refine lv_aload_n hx hb dX9_period_1 rfl (lv_at hl 0 rfl) ?_
  refine lv_iload_n hx hb dX9_period_2 rfl (lv_at hl 1 rfl) ?_
  refine ca_i (CL := [mO a (nI n) (nI k) th]) (va_runV (As := [.int x]) (rest := [.ref (a 0)]) ⟨hx, hb, hml, hown, hts⟩ (c_X9_isState l D cY s.heap.size a n k th x (by omega)) (cwV 1 hts gX9_period_X9_isState rfl rfl rfl (by decide +kernel) ⟨Nat.le_of_ble_eq_true rfl, Nat.le_of_ble_eq_true rfl⟩) (b_preV hVK hP hD [0] rfl rfl 0 rfl rfl) rfl rfl hl.1 rfl (lv_room (Nat.le_of_ble_eq_true rfl)) dX9_period_3 ⟨Nat.le_refl _, Nat.le_refl _⟩) hP hD hS hA [0] rfl rfl (fun _ => rfl) (fun r3 uu H locs hq hP hD hS => ?_)
  subst hq
  have hP : va_P D vwCl ([mO a (nI n) (nI k) th] : List va_W).flatten H := hP
  have hD : va_D A ([mO a (nI n) (nI k) th] : List va_W).flatten := hD
  refine b_if_eq (tgt := 13) hx hb dX9_period_6 (by decide) (fun h6 => ?_) (fun h6 => ?_)
  · -- t
    refine lv_iconst (v := nI 1) hx hb dX9_period_13 (by decide) ?_
    refine ca_i (CL := [mO a (nI n) (nI k) th]) (va_runV (As := [.int (nI 1)]) (rest := []) ⟨hx, hb, hml, hown, hts⟩ (c_X9_can l D cY H.size a n k th 1 (by omega)) (cwV 1 hts gX9_period_X9_can rfl rfl rfl (by decide +kernel) ⟨Nat.le_of_ble_eq_true rfl, Nat.le_of_ble_eq_true rfl⟩) (b_preV hVK hP hD [0] rfl rfl 0 rfl rfl) rfl rfl hl.1 rfl (lv_room (Nat.le_of_ble_eq_true rfl)) dX9_period_14 ⟨Nat.le_refl _, Nat.le_refl _⟩) hP hD hS hA [0] rfl rfl (fun _ => rfl) (fun r14 uu H locs hq hP hD hS => ?_)
    subst hq
    have hP : va_P D vwCl ([mO a (nI n) (nI k) (nI 1)] : List va_W).flatten H := hP
    have hD : va_D A ([mO a (nI n) (nI k) (nI 1)] : List va_W).flatten := hD
    refine b_if_ne (tgt := 22) hx hb dX9_period_17 (by decide) (fun h17 => ?_) (fun h17 => ?_)
    · -- t
      exact absurd h17 (by decide)
    · -- f
      refine lv_iconst (v := nI 0) hx hb dX9_period_20 (by decide) ?_
      exact r_i hx hb hr hlocks hP hD hS () rfl (rfl) dX9_period_21
  · -- f
    exact absurd (h6.symm.trans hbad) (by decide)

set_option maxHeartbeats 4000000 in
set_option maxRecDepth 100000 in
theorem c_X9_drift_ok (l : Launch) (D : va_G) (cY : Nat → ClassId) (sz : Nat) (a : Nat → Nat) (n : Nat) (k : Nat) (th : Int32) (fto : Nat → Int32) (fpay : Nat → Int32) (g : Nat → Nat → Nat) (i : Nat) (hn1 : 1 ≤ n) (hn6 : n ≤ 6) (hk1 : 1 ≤ k) (hk12 : k ≤ 12) (hG : ∀ i j, i < n → j < k → fto (12 * i + j) = nI (g i j)) (hgn : ∀ i j, i < n → j < k → g i j < n) (hi : i < n) : Met l yX9_drift wsX9_drift ({ frames := 2, cells := 0, slots := 0, locals := 80 }) (cP D cY [.ref (a 0), .int (nI i)] [mO a (nI n) (nI k) th, [(a 1, .inl (cY 0, 72, .inl fto))], [(a 2, .inl (cY 0, 6, .inl fpay))]] sz) (qL (S := Unit) D cY (fun r u => r = DV fpay g k i) (fun u => [mO a (nI n) (nI k) (nI 0), [(a 1, .inl (cY 0, 72, .inl fto))], [(a 2, .inl (cY 0, 6, .inl fpay))]]) (va_A ([mO a (nI n) (nI k) th, [(a 1, .inl (cY 0, 72, .inl fto))], [(a 2, .inl (cY 0, 6, .inl fpay))]] : List va_W).flatten sz)) 0 0 (va_A ([mO a (nI n) (nI k) th, [(a 1, .inl (cY 0, 72, .inl fto))], [(a 2, .inl (cY 0, 6, .inl fpay))]] : List va_W).flatten sz) := by
  refine mtB (Qc := fun A => qL (S := Unit) D cY (fun r u => r = DV fpay g k i) (fun u => [mO a (nI n) (nI k) (nI 0), [(a 1, .inl (cY 0, 72, .inl fto))], [(a 2, .inl (cY 0, 6, .inl fpay))]]) A) (cc := cX9_drift) (maxL := 2) (ret := (some .long)) (by decide) rfl (Nat.le_of_ble_eq_true rfl) ?_
  intro p e s m below meth c A ls hx hb hr hml hts hown hlocks hnm hsz hP hK hVK hD hS hA hl
  have hown : s.vm.findClass RX9 = some m.cls := hown
  have hl : lv_has ls 2 [(0, .ref (a 0)), (1, .int (nI i))] := hl
  have hP : va_P D vwCl ([mO a (nI n) (nI k) th, [(a 1, .inl (cY 0, 72, .inl fto))], [(a 2, .inl (cY 0, 6, .inl fpay))]] : List va_W).flatten s.heap := hP
  have hD : va_D A ([mO a (nI n) (nI k) th, [(a 1, .inl (cY 0, 72, .inl fto))], [(a 2, .inl (cY 0, 6, .inl fpay))]] : List va_W).flatten := hD
  have hAa : inR (nI i) (nI 0) (nI (n - 1)) = true := inR_t (by omega) (by omega) (by omega)
  refine lv_aload_n hx hb dX9_drift_0 rfl (lv_at hl 0 rfl) ?_
  refine lv_aload_n hx hb dX9_drift_1 rfl (lv_at hl 0 rfl) ?_
  refine lv_iload_n hx hb dX9_drift_2 rfl (lv_at hl 1 rfl) ?_
  refine ca_i (CL := [mO a (nI n) (nI k) th]) (va_runV (As := [.int (nI i)]) (rest := [.ref (a 0)]) ⟨hx, hb, hml, hown, hts⟩ (c_X9_isState l D cY s.heap.size a n k th (nI i) (by omega)) (cwV 1 hts gX9_drift_X9_isState rfl rfl rfl (by decide +kernel) ⟨Nat.le_of_ble_eq_true rfl, Nat.le_of_ble_eq_true rfl⟩) (b_preV hVK hP hD [0] rfl rfl 0 rfl rfl) rfl rfl hl.1 rfl (lv_room (Nat.le_of_ble_eq_true rfl)) dX9_drift_3 ⟨Nat.le_refl _, Nat.le_refl _⟩) hP hD hS hA [0] rfl rfl (fun _ => rfl) (fun r3 uu H locs hq hP hD hS => ?_)
  subst hq
  have hP : va_P D vwCl ([mO a (nI n) (nI k) th, [(a 1, .inl (cY 0, 72, .inl fto))], [(a 2, .inl (cY 0, 6, .inl fpay))]] : List va_W).flatten H := hP
  have hD : va_D A ([mO a (nI n) (nI k) th, [(a 1, .inl (cY 0, 72, .inl fto))], [(a 2, .inl (cY 0, 6, .inl fpay))]] : List va_W).flatten := hD
  refine b_if_eq (tgt := 13) hx hb dX9_drift_6 (by decide) (fun h6 => ?_) (fun h6 => ?_)
  · -- t
    exact absurd (h6.symm.trans hAa) (by decide)
  · -- f
    refine lv_iconst (v := nI 0) hx hb dX9_drift_9 (by decide) ?_
    refine lv_goto (tgt := 14) hx hb dX9_drift_10 (by decide) ?_
    refine ca_i (CL := [mO a (nI n) (nI k) th]) (va_runV (As := [.int (nI 0)]) (rest := []) ⟨hx, hb, hml, hown, hts⟩ (c_X9_can l D cY H.size a n k th 0 (by omega)) (cwV 1 hts gX9_drift_X9_can rfl rfl rfl (by decide +kernel) ⟨Nat.le_of_ble_eq_true rfl, Nat.le_of_ble_eq_true rfl⟩) (b_preV hVK hP hD [0] rfl rfl 0 rfl rfl) rfl rfl hl.1 rfl (lv_room (Nat.le_of_ble_eq_true rfl)) dX9_drift_14 ⟨Nat.le_refl _, Nat.le_refl _⟩) hP hD hS hA [0] rfl rfl (fun _ => rfl) (fun r14 uu H locs hq hP hD hS => ?_)
    subst hq
    have hP : va_P D vwCl ([mO a (nI n) (nI k) (nI 0), [(a 1, .inl (cY 0, 72, .inl fto))], [(a 2, .inl (cY 0, 6, .inl fpay))]] : List va_W).flatten H := hP
    have hD : va_D A ([mO a (nI n) (nI k) (nI 0), [(a 1, .inl (cY 0, 72, .inl fto))], [(a 2, .inl (cY 0, 6, .inl fpay))]] : List va_W).flatten := hD
    refine b_if_eq (tgt := 28) hx hb dX9_drift_17 (by decide) (fun h17 => ?_) (fun h17 => ?_)
    · -- t
      exact absurd h17 (by decide)
    · -- f
      refine lv_aload_n hx hb dX9_drift_20 rfl (lv_at hl 0 rfl) ?_
      refine lv_iload_n hx hb dX9_drift_21 rfl (lv_at hl 1 rfl) ?_
      refine ca_l (CL := [mO a (nI n) (nI k) (nI 0), [(a 1, .inl (cY 0, 72, .inl fto))], [(a 2, .inl (cY 0, 6, .inl fpay))]]) (va_runV (As := [.int (nI i)]) (rest := []) ⟨hx, hb, hml, hown, hts⟩ (c_X9_driftOf l D cY H.size a n k (nI 0) fto fpay g i (by omega) (by omega) (by omega) (by omega) hG hgn (by omega)) (cwV 1 hts gX9_drift_X9_driftOf rfl rfl rfl (by decide +kernel) ⟨Nat.le_of_ble_eq_true rfl, Nat.le_of_ble_eq_true rfl⟩) (b_preV hVK hP hD [0, 1, 2] rfl rfl 0 rfl rfl) rfl rfl hl.1 rfl (lv_room (Nat.le_of_ble_eq_true rfl)) dX9_drift_22 ⟨Nat.le_refl _, Nat.le_refl _⟩) hP hD hS hA [0, 1, 2] rfl rfl (fun _ => rfl) (fun r22 uu H locs hq hP hD hS => ?_)
      subst hq
      have hP : va_P D vwCl ([mO a (nI n) (nI k) (nI 0), [(a 1, .inl (cY 0, 72, .inl fto))], [(a 2, .inl (cY 0, 6, .inl fpay))]] : List va_W).flatten H := hP
      have hD : va_D A ([mO a (nI n) (nI k) (nI 0), [(a 1, .inl (cY 0, 72, .inl fto))], [(a 2, .inl (cY 0, 6, .inl fpay))]] : List va_W).flatten := hD
      refine lv_goto (tgt := 29) hx hb dX9_drift_25 (by decide) ?_
      exact r_l hx hb hr hlocks hP hD hS () rfl (rfl) dX9_drift_29

set_option maxHeartbeats 4000000 in
set_option maxRecDepth 100000 in
theorem c_X9_drift_bad (l : Launch) (D : va_G) (cY : Nat → ClassId) (sz : Nat) (a : Nat → Nat) (n : Nat) (k : Nat) (th : Int32) (x : Int32) (hn1 : 1 ≤ n) (hn6 : n ≤ 6) (hk1 : 1 ≤ k) (hk12 : k ≤ 12) (hbad : inR x (nI 0) (nI (n - 1)) = false) : Met l yX9_drift wsX9_drift ({ frames := 2, cells := 0, slots := 0, locals := 80 }) (cP D cY [.ref (a 0), .int x] [mO a (nI n) (nI k) th] sz) (qL (S := Unit) D cY (fun r u => r = lN 0) (fun u => [mO a (nI n) (nI k) (nI 1)]) (va_A ([mO a (nI n) (nI k) th] : List va_W).flatten sz)) 0 0 (va_A ([mO a (nI n) (nI k) th] : List va_W).flatten sz) := by
  refine mtB (Qc := fun A => qL (S := Unit) D cY (fun r u => r = lN 0) (fun u => [mO a (nI n) (nI k) (nI 1)]) A) (cc := cX9_drift) (maxL := 2) (ret := (some .long)) (by decide) rfl (Nat.le_of_ble_eq_true rfl) ?_
  intro p e s m below meth c A ls hx hb hr hml hts hown hlocks hnm hsz hP hK hVK hD hS hA hl
  have hown : s.vm.findClass RX9 = some m.cls := hown
  have hl : lv_has ls 2 [(0, .ref (a 0)), (1, .int x)] := hl
  have hP : va_P D vwCl ([mO a (nI n) (nI k) th] : List va_W).flatten s.heap := hP
  have hD : va_D A ([mO a (nI n) (nI k) th] : List va_W).flatten := hD
  refine lv_aload_n hx hb dX9_drift_0 rfl (lv_at hl 0 rfl) ?_
  refine lv_aload_n hx hb dX9_drift_1 rfl (lv_at hl 0 rfl) ?_
  refine lv_iload_n hx hb dX9_drift_2 rfl (lv_at hl 1 rfl) ?_
  refine ca_i (CL := [mO a (nI n) (nI k) th]) (va_runV (As := [.int x]) (rest := [.ref (a 0)]) ⟨hx, hb, hml, hown, hts⟩ (c_X9_isState l D cY s.heap.size a n k th x (by omega)) (cwV 1 hts gX9_drift_X9_isState rfl rfl rfl (by decide +kernel) ⟨Nat.le_of_ble_eq_true rfl, Nat.le_of_ble_eq_true rfl⟩) (b_preV hVK hP hD [0] rfl rfl 0 rfl rfl) rfl rfl hl.1 rfl (lv_room (Nat.le_of_ble_eq_true rfl)) dX9_drift_3 ⟨Nat.le_refl _, Nat.le_refl _⟩) hP hD hS hA [0] rfl rfl (fun _ => rfl) (fun r3 uu H locs hq hP hD hS => ?_)
  subst hq
  have hP : va_P D vwCl ([mO a (nI n) (nI k) th] : List va_W).flatten H := hP
  have hD : va_D A ([mO a (nI n) (nI k) th] : List va_W).flatten := hD
  refine b_if_eq (tgt := 13) hx hb dX9_drift_6 (by decide) (fun h6 => ?_) (fun h6 => ?_)
  · -- t
    refine lv_iconst (v := nI 1) hx hb dX9_drift_13 (by decide) ?_
    refine ca_i (CL := [mO a (nI n) (nI k) th]) (va_runV (As := [.int (nI 1)]) (rest := []) ⟨hx, hb, hml, hown, hts⟩ (c_X9_can l D cY H.size a n k th 1 (by omega)) (cwV 1 hts gX9_drift_X9_can rfl rfl rfl (by decide +kernel) ⟨Nat.le_of_ble_eq_true rfl, Nat.le_of_ble_eq_true rfl⟩) (b_preV hVK hP hD [0] rfl rfl 0 rfl rfl) rfl rfl hl.1 rfl (lv_room (Nat.le_of_ble_eq_true rfl)) dX9_drift_14 ⟨Nat.le_refl _, Nat.le_refl _⟩) hP hD hS hA [0] rfl rfl (fun _ => rfl) (fun r14 uu H locs hq hP hD hS => ?_)
    subst hq
    have hP : va_P D vwCl ([mO a (nI n) (nI k) (nI 1)] : List va_W).flatten H := hP
    have hD : va_D A ([mO a (nI n) (nI k) (nI 1)] : List va_W).flatten := hD
    refine b_if_eq (tgt := 28) hx hb dX9_drift_17 (by decide) (fun h17 => ?_) (fun h17 => ?_)
    · -- t
      refine lv_lconst (v := lN 0) hx hb dX9_drift_28 (by decide) ?_
      exact r_l hx hb hr hlocks hP hD hS () rfl (rfl) dX9_drift_29
    · -- f
      exact absurd h17 (by decide)
  · -- f
    exact absurd (h6.symm.trans hbad) (by decide)

set_option maxHeartbeats 4000000 in
set_option maxRecDepth 100000 in
theorem c_X9_together_ok (l : Launch) (D : va_G) (cY : Nat → ClassId) (sz : Nat) (a : Nat → Nat) (n : Nat) (k : Nat) (th : Int32) (fto : Nat → Int32) (fnow : Nat → Int64) (fthn : Nat → Int64) (g : Nat → Nat → Nat) (t : Nat) (b : Nat) (hn1 : 1 ≤ n) (hn6 : n ≤ 6) (hk1 : 1 ≤ k) (hk12 : k ≤ 12) (hG : ∀ i j, i < n → j < k → fto (12 * i + j) = nI (g i j)) (hgn : ∀ i j, i < n → j < k → g i j < n) (ht : t ≤ 12) (hb6 : b < n) : Met l yX9_together wsX9_together ({ frames := 3, cells := 0, slots := 0, locals := 120 }) (cP D cY [.ref (a 0), .int (nI t), .int (nI b)] [mO a (nI n) (nI k) th, [(a 1, .inl (cY 0, 72, .inl fto))], [(a 4, .inl (cY 1, 64, .inr (.inl fnow)))], [(a 5, .inl (cY 1, 64, .inr (.inl fthn)))]] sz) (qL (S := (Nat → Int64) × (Nat → Int64)) D cY (fun r u => r = lN (PL (ig g n) 64 k (2 ^ n - 1) t (2 ^ b))) (fun u => [mO a (nI n) (nI k) (nI 0), [(a 1, .inl (cY 0, 72, .inl fto))], [(a 4, .inl (cY 1, 64, .inr (.inl u.1)))], [(a 5, .inl (cY 1, 64, .inr (.inl u.2)))]]) (va_A ([mO a (nI n) (nI k) th, [(a 1, .inl (cY 0, 72, .inl fto))], [(a 4, .inl (cY 1, 64, .inr (.inl fnow)))], [(a 5, .inl (cY 1, 64, .inr (.inl fthn)))]] : List va_W).flatten sz)) 0 0 (va_A ([mO a (nI n) (nI k) th, [(a 1, .inl (cY 0, 72, .inl fto))], [(a 4, .inl (cY 1, 64, .inr (.inl fnow)))], [(a 5, .inl (cY 1, 64, .inr (.inl fthn)))]] : List va_W).flatten sz) := by
  refine mtB (Qc := fun A => qL (S := (Nat → Int64) × (Nat → Int64)) D cY (fun r u => r = lN (PL (ig g n) 64 k (2 ^ n - 1) t (2 ^ b))) (fun u => [mO a (nI n) (nI k) (nI 0), [(a 1, .inl (cY 0, 72, .inl fto))], [(a 4, .inl (cY 1, 64, .inr (.inl u.1)))], [(a 5, .inl (cY 1, 64, .inr (.inl u.2)))]]) A) (cc := cX9_together) (maxL := 3) (ret := (some .long)) (by decide) rfl (Nat.le_of_ble_eq_true rfl) ?_
  intro p e s m below meth c A ls hx hb hr hml hts hown hlocks hnm hsz hP hK hVK hD hS hA hl
  have hown : s.vm.findClass RX9 = some m.cls := hown
  have hl : lv_has ls 3 [(0, .ref (a 0)), (1, .int (nI t)), (2, .int (nI b))] := hl
  have hP : va_P D vwCl ([mO a (nI n) (nI k) th, [(a 1, .inl (cY 0, 72, .inl fto))], [(a 4, .inl (cY 1, 64, .inr (.inl fnow)))], [(a 5, .inl (cY 1, 64, .inr (.inl fthn)))]] : List va_W).flatten s.heap := hP
  have hD : va_D A ([mO a (nI n) (nI k) th, [(a 1, .inl (cY 0, 72, .inl fto))], [(a 4, .inl (cY 1, 64, .inr (.inl fnow)))], [(a 5, .inl (cY 1, 64, .inr (.inl fthn)))]] : List va_W).flatten := hD
  have hAa : inR (nI b) (nI 0) (nI (n - 1)) = true := inR_t (by omega) (by omega) (by omega)
  have hB : inR (nI t) (nI 0) (nI 12) = true := inR_t (by omega) (by omega) (by omega)
  refine lv_aload_n hx hb dX9_together_0 rfl (lv_at hl 0 rfl) ?_
  refine lv_aload_n hx hb dX9_together_1 rfl (lv_at hl 0 rfl) ?_
  refine lv_iload_n hx hb dX9_together_2 rfl (lv_at hl 2 rfl) ?_
  refine ca_i (CL := [mO a (nI n) (nI k) th]) (va_runV (As := [.int (nI b)]) (rest := [.ref (a 0)]) ⟨hx, hb, hml, hown, hts⟩ (c_X9_isState l D cY s.heap.size a n k th (nI b) (by omega)) (cwV 1 hts gX9_together_X9_isState rfl rfl rfl (by decide +kernel) ⟨Nat.le_of_ble_eq_true rfl, Nat.le_of_ble_eq_true rfl⟩) (b_preV hVK hP hD [0] rfl rfl 0 rfl rfl) rfl rfl hl.1 rfl (lv_room (Nat.le_of_ble_eq_true rfl)) dX9_together_3 ⟨Nat.le_refl _, Nat.le_refl _⟩) hP hD hS hA [0] rfl rfl (fun _ => rfl) (fun r3 uu H locs hq hP hD hS => ?_)
  subst hq
  have hP : va_P D vwCl ([mO a (nI n) (nI k) th, [(a 1, .inl (cY 0, 72, .inl fto))], [(a 4, .inl (cY 1, 64, .inr (.inl fnow)))], [(a 5, .inl (cY 1, 64, .inr (.inl fthn)))]] : List va_W).flatten H := hP
  have hD : va_D A ([mO a (nI n) (nI k) th, [(a 1, .inl (cY 0, 72, .inl fto))], [(a 4, .inl (cY 1, 64, .inr (.inl fnow)))], [(a 5, .inl (cY 1, 64, .inr (.inl fthn)))]] : List va_W).flatten := hD
  refine b_if_ne (tgt := 13) hx hb dX9_together_6 (by decide) (fun h6 => ?_) (fun h6 => ?_)
  · -- t
    refine lv_iload_n hx hb dX9_together_13 rfl (lv_at hl 1 rfl) ?_
    refine ca_i (CL := []) (va_runS (As := [.int (nI t)]) (rest := [.ref (a 0)]) ⟨hx, hb, hml, hown, hts⟩ (c_X9_areSteps l D cY H.size (nI t)) (va_cwS 1 hts gX9_together_X9_areSteps rfl rfl rfl (by decide +kernel) ⟨Nat.le_of_ble_eq_true rfl, Nat.le_of_ble_eq_true rfl⟩) (b_preS hVK hP hD [] rfl rfl) rfl rfl hl.1 rfl (lv_room (Nat.le_of_ble_eq_true rfl)) dX9_together_14 ⟨Nat.le_refl _, Nat.le_refl _⟩) hP hD hS hA [] rfl rfl (fun _ => rfl) (fun r14 uu H locs hq hP hD hS => ?_)
    subst hq
    have hP : va_P D vwCl ([mO a (nI n) (nI k) th, [(a 1, .inl (cY 0, 72, .inl fto))], [(a 4, .inl (cY 1, 64, .inr (.inl fnow)))], [(a 5, .inl (cY 1, 64, .inr (.inl fthn)))]] : List va_W).flatten H := hP
    have hD : va_D A ([mO a (nI n) (nI k) th, [(a 1, .inl (cY 0, 72, .inl fto))], [(a 4, .inl (cY 1, 64, .inr (.inl fnow)))], [(a 5, .inl (cY 1, 64, .inr (.inl fthn)))]] : List va_W).flatten := hD
    refine b_if_eq (tgt := 24) hx hb dX9_together_17 (by decide) (fun h17 => ?_) (fun h17 => ?_)
    · -- t
      exact absurd (h17.symm.trans hB) (by decide)
    · -- f
      refine lv_iconst (v := nI 0) hx hb dX9_together_20 (by decide) ?_
      refine lv_goto (tgt := 25) hx hb dX9_together_21 (by decide) ?_
      refine ca_i (CL := [mO a (nI n) (nI k) th]) (va_runV (As := [.int (nI 0)]) (rest := []) ⟨hx, hb, hml, hown, hts⟩ (c_X9_can l D cY H.size a n k th 0 (by omega)) (cwV 1 hts gX9_together_X9_can rfl rfl rfl (by decide +kernel) ⟨Nat.le_of_ble_eq_true rfl, Nat.le_of_ble_eq_true rfl⟩) (b_preV hVK hP hD [0] rfl rfl 0 rfl rfl) rfl rfl hl.1 rfl (lv_room (Nat.le_of_ble_eq_true rfl)) dX9_together_25 ⟨Nat.le_refl _, Nat.le_refl _⟩) hP hD hS hA [0] rfl rfl (fun _ => rfl) (fun r25 uu H locs hq hP hD hS => ?_)
      subst hq
      have hP : va_P D vwCl ([mO a (nI n) (nI k) (nI 0), [(a 1, .inl (cY 0, 72, .inl fto))], [(a 4, .inl (cY 1, 64, .inr (.inl fnow)))], [(a 5, .inl (cY 1, 64, .inr (.inl fthn)))]] : List va_W).flatten H := hP
      have hD : va_D A ([mO a (nI n) (nI k) (nI 0), [(a 1, .inl (cY 0, 72, .inl fto))], [(a 4, .inl (cY 1, 64, .inr (.inl fnow)))], [(a 5, .inl (cY 1, 64, .inr (.inl fthn)))]] : List va_W).flatten := hD
      refine b_if_eq (tgt := 40) hx hb dX9_together_28 (by decide) (fun h28 => ?_) (fun h28 => ?_)
      · -- t
        exact absurd h28 (by decide)
      · -- f
        refine lv_aload_n hx hb dX9_together_31 rfl (lv_at hl 0 rfl) ?_
        refine lv_iload_n hx hb dX9_together_32 rfl (lv_at hl 1 rfl) ?_
        refine lv_iload_n hx hb dX9_together_33 rfl (lv_at hl 2 rfl) ?_
        refine ca_l (CL := [mO a (nI n) (nI k) (nI 0), [(a 1, .inl (cY 0, 72, .inl fto))], [(a 4, .inl (cY 1, 64, .inr (.inl fnow)))], [(a 5, .inl (cY 1, 64, .inr (.inl fthn)))]]) (va_runV (As := [.int (nI t), .int (nI b)]) (rest := []) ⟨hx, hb, hml, hown, hts⟩ (c_X9_togetherBy l D cY H.size a n k (nI 0) fto fnow fthn g t b (by omega) (by omega) (by omega) (by omega) hG hgn (by omega) (by omega)) (cwV 2 hts gX9_together_X9_togetherBy rfl rfl rfl (by decide +kernel) ⟨Nat.le_of_ble_eq_true rfl, Nat.le_of_ble_eq_true rfl⟩) (b_preV hVK hP hD [0, 1, 2, 3] rfl rfl 0 rfl rfl) rfl rfl hl.1 rfl (lv_room (Nat.le_of_ble_eq_true rfl)) dX9_together_34 ⟨Nat.le_refl _, Nat.le_refl _⟩) hP hD hS hA [0, 1, 2, 3] rfl rfl (fun _ => rfl) (fun r34 uu H locs hq hP hD hS => ?_)
        obtain ⟨fnow1_1, fthn1_2⟩ := uu
        try dsimp only at hq
        subst hq
        have hP : va_P D vwCl ([mO a (nI n) (nI k) (nI 0), [(a 1, .inl (cY 0, 72, .inl fto))], [(a 4, .inl (cY 1, 64, .inr (.inl fnow1_1)))], [(a 5, .inl (cY 1, 64, .inr (.inl fthn1_2)))]] : List va_W).flatten H := hP
        have hD : va_D A ([mO a (nI n) (nI k) (nI 0), [(a 1, .inl (cY 0, 72, .inl fto))], [(a 4, .inl (cY 1, 64, .inr (.inl fnow1_1)))], [(a 5, .inl (cY 1, 64, .inr (.inl fthn1_2)))]] : List va_W).flatten := hD
        refine lv_goto (tgt := 41) hx hb dX9_together_37 (by decide) ?_
        exact r_l hx hb hr hlocks hP hD hS (fnow1_1, fthn1_2) rfl (rfl) dX9_together_41
  · -- f
    exact absurd (h6.symm.trans hAa) (by decide)

set_option maxHeartbeats 4000000 in
set_option maxRecDepth 100000 in
theorem c_X9_together_b1 (l : Launch) (D : va_G) (cY : Nat → ClassId) (sz : Nat) (a : Nat → Nat) (n : Nat) (k : Nat) (th : Int32) (y : Int32) (x : Int32) (hn1 : 1 ≤ n) (hn6 : n ≤ 6) (hk1 : 1 ≤ k) (hk12 : k ≤ 12) (hbad : inR x (nI 0) (nI (n - 1)) = false) : Met l yX9_together wsX9_together ({ frames := 3, cells := 0, slots := 0, locals := 120 }) (cP D cY [.ref (a 0), .int y, .int x] [mO a (nI n) (nI k) th] sz) (qL (S := Unit) D cY (fun r u => r = lN 0) (fun u => [mO a (nI n) (nI k) (nI 1)]) (va_A ([mO a (nI n) (nI k) th] : List va_W).flatten sz)) 0 0 (va_A ([mO a (nI n) (nI k) th] : List va_W).flatten sz) := by
  refine mtB (Qc := fun A => qL (S := Unit) D cY (fun r u => r = lN 0) (fun u => [mO a (nI n) (nI k) (nI 1)]) A) (cc := cX9_together) (maxL := 3) (ret := (some .long)) (by decide) rfl (Nat.le_of_ble_eq_true rfl) ?_
  intro p e s m below meth c A ls hx hb hr hml hts hown hlocks hnm hsz hP hK hVK hD hS hA hl
  have hown : s.vm.findClass RX9 = some m.cls := hown
  have hl : lv_has ls 3 [(0, .ref (a 0)), (1, .int y), (2, .int x)] := hl
  have hP : va_P D vwCl ([mO a (nI n) (nI k) th] : List va_W).flatten s.heap := hP
  have hD : va_D A ([mO a (nI n) (nI k) th] : List va_W).flatten := hD
  refine lv_aload_n hx hb dX9_together_0 rfl (lv_at hl 0 rfl) ?_
  refine lv_aload_n hx hb dX9_together_1 rfl (lv_at hl 0 rfl) ?_
  refine lv_iload_n hx hb dX9_together_2 rfl (lv_at hl 2 rfl) ?_
  refine ca_i (CL := [mO a (nI n) (nI k) th]) (va_runV (As := [.int x]) (rest := [.ref (a 0)]) ⟨hx, hb, hml, hown, hts⟩ (c_X9_isState l D cY s.heap.size a n k th x (by omega)) (cwV 1 hts gX9_together_X9_isState rfl rfl rfl (by decide +kernel) ⟨Nat.le_of_ble_eq_true rfl, Nat.le_of_ble_eq_true rfl⟩) (b_preV hVK hP hD [0] rfl rfl 0 rfl rfl) rfl rfl hl.1 rfl (lv_room (Nat.le_of_ble_eq_true rfl)) dX9_together_3 ⟨Nat.le_refl _, Nat.le_refl _⟩) hP hD hS hA [0] rfl rfl (fun _ => rfl) (fun r3 uu H locs hq hP hD hS => ?_)
  subst hq
  have hP : va_P D vwCl ([mO a (nI n) (nI k) th] : List va_W).flatten H := hP
  have hD : va_D A ([mO a (nI n) (nI k) th] : List va_W).flatten := hD
  refine b_if_ne (tgt := 13) hx hb dX9_together_6 (by decide) (fun h6 => ?_) (fun h6 => ?_)
  · -- t
    exact absurd (h6.symm.trans hbad) (by decide)
  · -- f
    refine lv_iconst (v := nI 1) hx hb dX9_together_9 (by decide) ?_
    refine lv_goto (tgt := 25) hx hb dX9_together_10 (by decide) ?_
    refine ca_i (CL := [mO a (nI n) (nI k) th]) (va_runV (As := [.int (nI 1)]) (rest := []) ⟨hx, hb, hml, hown, hts⟩ (c_X9_can l D cY H.size a n k th 1 (by omega)) (cwV 1 hts gX9_together_X9_can rfl rfl rfl (by decide +kernel) ⟨Nat.le_of_ble_eq_true rfl, Nat.le_of_ble_eq_true rfl⟩) (b_preV hVK hP hD [0] rfl rfl 0 rfl rfl) rfl rfl hl.1 rfl (lv_room (Nat.le_of_ble_eq_true rfl)) dX9_together_25 ⟨Nat.le_refl _, Nat.le_refl _⟩) hP hD hS hA [0] rfl rfl (fun _ => rfl) (fun r25 uu H locs hq hP hD hS => ?_)
    subst hq
    have hP : va_P D vwCl ([mO a (nI n) (nI k) (nI 1)] : List va_W).flatten H := hP
    have hD : va_D A ([mO a (nI n) (nI k) (nI 1)] : List va_W).flatten := hD
    refine b_if_eq (tgt := 40) hx hb dX9_together_28 (by decide) (fun h28 => ?_) (fun h28 => ?_)
    · -- t
      refine lv_lconst (v := lN 0) hx hb dX9_together_40 (by decide) ?_
      exact r_l hx hb hr hlocks hP hD hS () rfl (rfl) dX9_together_41
    · -- f
      exact absurd h28 (by decide)

set_option maxHeartbeats 4000000 in
set_option maxRecDepth 100000 in
theorem c_X9_together_b2 (l : Launch) (D : va_G) (cY : Nat → ClassId) (sz : Nat) (a : Nat → Nat) (n : Nat) (k : Nat) (th : Int32) (y : Int32) (x : Int32) (hn1 : 1 ≤ n) (hn6 : n ≤ 6) (hk1 : 1 ≤ k) (hk12 : k ≤ 12) (hAa : inR x (nI 0) (nI (n - 1)) = true) (hbad : inR y (nI 0) (nI 12) = false) : Met l yX9_together wsX9_together ({ frames := 3, cells := 0, slots := 0, locals := 120 }) (cP D cY [.ref (a 0), .int y, .int x] [mO a (nI n) (nI k) th] sz) (qL (S := Unit) D cY (fun r u => r = lN 0) (fun u => [mO a (nI n) (nI k) (nI 2)]) (va_A ([mO a (nI n) (nI k) th] : List va_W).flatten sz)) 0 0 (va_A ([mO a (nI n) (nI k) th] : List va_W).flatten sz) := by
  refine mtB (Qc := fun A => qL (S := Unit) D cY (fun r u => r = lN 0) (fun u => [mO a (nI n) (nI k) (nI 2)]) A) (cc := cX9_together) (maxL := 3) (ret := (some .long)) (by decide) rfl (Nat.le_of_ble_eq_true rfl) ?_
  intro p e s m below meth c A ls hx hb hr hml hts hown hlocks hnm hsz hP hK hVK hD hS hA hl
  have hown : s.vm.findClass RX9 = some m.cls := hown
  have hl : lv_has ls 3 [(0, .ref (a 0)), (1, .int y), (2, .int x)] := hl
  have hP : va_P D vwCl ([mO a (nI n) (nI k) th] : List va_W).flatten s.heap := hP
  have hD : va_D A ([mO a (nI n) (nI k) th] : List va_W).flatten := hD
  refine lv_aload_n hx hb dX9_together_0 rfl (lv_at hl 0 rfl) ?_
  refine lv_aload_n hx hb dX9_together_1 rfl (lv_at hl 0 rfl) ?_
  refine lv_iload_n hx hb dX9_together_2 rfl (lv_at hl 2 rfl) ?_
  refine ca_i (CL := [mO a (nI n) (nI k) th]) (va_runV (As := [.int x]) (rest := [.ref (a 0)]) ⟨hx, hb, hml, hown, hts⟩ (c_X9_isState l D cY s.heap.size a n k th x (by omega)) (cwV 1 hts gX9_together_X9_isState rfl rfl rfl (by decide +kernel) ⟨Nat.le_of_ble_eq_true rfl, Nat.le_of_ble_eq_true rfl⟩) (b_preV hVK hP hD [0] rfl rfl 0 rfl rfl) rfl rfl hl.1 rfl (lv_room (Nat.le_of_ble_eq_true rfl)) dX9_together_3 ⟨Nat.le_refl _, Nat.le_refl _⟩) hP hD hS hA [0] rfl rfl (fun _ => rfl) (fun r3 uu H locs hq hP hD hS => ?_)
  subst hq
  have hP : va_P D vwCl ([mO a (nI n) (nI k) th] : List va_W).flatten H := hP
  have hD : va_D A ([mO a (nI n) (nI k) th] : List va_W).flatten := hD
  refine b_if_ne (tgt := 13) hx hb dX9_together_6 (by decide) (fun h6 => ?_) (fun h6 => ?_)
  · -- t
    refine lv_iload_n hx hb dX9_together_13 rfl (lv_at hl 1 rfl) ?_
    refine ca_i (CL := []) (va_runS (As := [.int y]) (rest := [.ref (a 0)]) ⟨hx, hb, hml, hown, hts⟩ (c_X9_areSteps l D cY H.size y) (va_cwS 1 hts gX9_together_X9_areSteps rfl rfl rfl (by decide +kernel) ⟨Nat.le_of_ble_eq_true rfl, Nat.le_of_ble_eq_true rfl⟩) (b_preS hVK hP hD [] rfl rfl) rfl rfl hl.1 rfl (lv_room (Nat.le_of_ble_eq_true rfl)) dX9_together_14 ⟨Nat.le_refl _, Nat.le_refl _⟩) hP hD hS hA [] rfl rfl (fun _ => rfl) (fun r14 uu H locs hq hP hD hS => ?_)
    subst hq
    have hP : va_P D vwCl ([mO a (nI n) (nI k) th] : List va_W).flatten H := hP
    have hD : va_D A ([mO a (nI n) (nI k) th] : List va_W).flatten := hD
    refine b_if_eq (tgt := 24) hx hb dX9_together_17 (by decide) (fun h17 => ?_) (fun h17 => ?_)
    · -- t
      refine lv_iconst (v := nI 2) hx hb dX9_together_24 (by decide) ?_
      refine ca_i (CL := [mO a (nI n) (nI k) th]) (va_runV (As := [.int (nI 2)]) (rest := []) ⟨hx, hb, hml, hown, hts⟩ (c_X9_can l D cY H.size a n k th 2 (by omega)) (cwV 1 hts gX9_together_X9_can rfl rfl rfl (by decide +kernel) ⟨Nat.le_of_ble_eq_true rfl, Nat.le_of_ble_eq_true rfl⟩) (b_preV hVK hP hD [0] rfl rfl 0 rfl rfl) rfl rfl hl.1 rfl (lv_room (Nat.le_of_ble_eq_true rfl)) dX9_together_25 ⟨Nat.le_refl _, Nat.le_refl _⟩) hP hD hS hA [0] rfl rfl (fun _ => rfl) (fun r25 uu H locs hq hP hD hS => ?_)
      subst hq
      have hP : va_P D vwCl ([mO a (nI n) (nI k) (nI 2)] : List va_W).flatten H := hP
      have hD : va_D A ([mO a (nI n) (nI k) (nI 2)] : List va_W).flatten := hD
      refine b_if_eq (tgt := 40) hx hb dX9_together_28 (by decide) (fun h28 => ?_) (fun h28 => ?_)
      · -- t
        refine lv_lconst (v := lN 0) hx hb dX9_together_40 (by decide) ?_
        exact r_l hx hb hr hlocks hP hD hS () rfl (rfl) dX9_together_41
      · -- f
        exact absurd h28 (by decide)
    · -- f
      exact absurd (h17.symm.trans hbad) (by decide)
  · -- f
    exact absurd (h6.symm.trans hAa) (by decide)

set_option maxHeartbeats 4000000 in
set_option maxRecDepth 100000 in
theorem c_X9_best_ok (l : Launch) (D : va_G) (cY : Nat → ClassId) (sz : Nat) (a : Nat → Nat) (n : Nat) (k : Nat) (th : Int32) (fto : Nat → Int32) (fpay : Nat → Int32) (fnow : Nat → Int64) (fthn : Nat → Int64) (foth : Nat → Int64) (g : Nat → Nat → Nat) (i : Nat) (t : Nat) (hn1 : 1 ≤ n) (hn6 : n ≤ 6) (hk1 : 1 ≤ k) (hk12 : k ≤ 12) (hG : ∀ i j, i < n → j < k → fto (12 * i + j) = nI (g i j)) (hgn : ∀ i j, i < n → j < k → g i j < n) (hi : i < n) (ht : t ≤ 12) : Met l yX9_best wsX9_best ({ frames := 2, cells := 0, slots := 0, locals := 80 }) (cP D cY [.ref (a 0), .int (nI i), .int (nI t)] [mO a (nI n) (nI k) th, [(a 1, .inl (cY 0, 72, .inl fto))], [(a 2, .inl (cY 0, 6, .inl fpay))], [(a 4, .inl (cY 1, 64, .inr (.inl fnow)))], [(a 5, .inl (cY 1, 64, .inr (.inl fthn)))], [(a 6, .inl (cY 1, 6, .inr (.inl foth)))]] sz) (qL (S := (Nat → Int64) × (Nat → Int64) × (Nat → Int64)) D cY (fun r u => r = BV fpay g k t i) (fun u => [mO a (nI n) (nI k) (nI 0), [(a 1, .inl (cY 0, 72, .inl fto))], [(a 2, .inl (cY 0, 6, .inl fpay))], [(a 4, .inl (cY 1, 64, .inr (.inl u.1)))], [(a 5, .inl (cY 1, 64, .inr (.inl u.2.1)))], [(a 6, .inl (cY 1, 6, .inr (.inl u.2.2)))]]) (va_A ([mO a (nI n) (nI k) th, [(a 1, .inl (cY 0, 72, .inl fto))], [(a 2, .inl (cY 0, 6, .inl fpay))], [(a 4, .inl (cY 1, 64, .inr (.inl fnow)))], [(a 5, .inl (cY 1, 64, .inr (.inl fthn)))], [(a 6, .inl (cY 1, 6, .inr (.inl foth)))]] : List va_W).flatten sz)) 0 0 (va_A ([mO a (nI n) (nI k) th, [(a 1, .inl (cY 0, 72, .inl fto))], [(a 2, .inl (cY 0, 6, .inl fpay))], [(a 4, .inl (cY 1, 64, .inr (.inl fnow)))], [(a 5, .inl (cY 1, 64, .inr (.inl fthn)))], [(a 6, .inl (cY 1, 6, .inr (.inl foth)))]] : List va_W).flatten sz) := by
  refine mtB (Qc := fun A => qL (S := (Nat → Int64) × (Nat → Int64) × (Nat → Int64)) D cY (fun r u => r = BV fpay g k t i) (fun u => [mO a (nI n) (nI k) (nI 0), [(a 1, .inl (cY 0, 72, .inl fto))], [(a 2, .inl (cY 0, 6, .inl fpay))], [(a 4, .inl (cY 1, 64, .inr (.inl u.1)))], [(a 5, .inl (cY 1, 64, .inr (.inl u.2.1)))], [(a 6, .inl (cY 1, 6, .inr (.inl u.2.2)))]]) A) (cc := cX9_best) (maxL := 3) (ret := (some .long)) (by decide) rfl (Nat.le_of_ble_eq_true rfl) ?_
  intro p e s m below meth c A ls hx hb hr hml hts hown hlocks hnm hsz hP hK hVK hD hS hA hl
  have hown : s.vm.findClass RX9 = some m.cls := hown
  have hl : lv_has ls 3 [(0, .ref (a 0)), (1, .int (nI i)), (2, .int (nI t))] := hl
  have hP : va_P D vwCl ([mO a (nI n) (nI k) th, [(a 1, .inl (cY 0, 72, .inl fto))], [(a 2, .inl (cY 0, 6, .inl fpay))], [(a 4, .inl (cY 1, 64, .inr (.inl fnow)))], [(a 5, .inl (cY 1, 64, .inr (.inl fthn)))], [(a 6, .inl (cY 1, 6, .inr (.inl foth)))]] : List va_W).flatten s.heap := hP
  have hD : va_D A ([mO a (nI n) (nI k) th, [(a 1, .inl (cY 0, 72, .inl fto))], [(a 2, .inl (cY 0, 6, .inl fpay))], [(a 4, .inl (cY 1, 64, .inr (.inl fnow)))], [(a 5, .inl (cY 1, 64, .inr (.inl fthn)))], [(a 6, .inl (cY 1, 6, .inr (.inl foth)))]] : List va_W).flatten := hD
  have hAa : inR (nI i) (nI 0) (nI (n - 1)) = true := inR_t (by omega) (by omega) (by omega)
  have hB : inR (nI t) (nI 0) (nI 12) = true := inR_t (by omega) (by omega) (by omega)
  refine lv_aload_n hx hb dX9_best_0 rfl (lv_at hl 0 rfl) ?_
  refine lv_aload_n hx hb dX9_best_1 rfl (lv_at hl 0 rfl) ?_
  refine lv_iload_n hx hb dX9_best_2 rfl (lv_at hl 1 rfl) ?_
  refine ca_i (CL := [mO a (nI n) (nI k) th]) (va_runV (As := [.int (nI i)]) (rest := [.ref (a 0)]) ⟨hx, hb, hml, hown, hts⟩ (c_X9_isState l D cY s.heap.size a n k th (nI i) (by omega)) (cwV 1 hts gX9_best_X9_isState rfl rfl rfl (by decide +kernel) ⟨Nat.le_of_ble_eq_true rfl, Nat.le_of_ble_eq_true rfl⟩) (b_preV hVK hP hD [0] rfl rfl 0 rfl rfl) rfl rfl hl.1 rfl (lv_room (Nat.le_of_ble_eq_true rfl)) dX9_best_3 ⟨Nat.le_refl _, Nat.le_refl _⟩) hP hD hS hA [0] rfl rfl (fun _ => rfl) (fun r3 uu H locs hq hP hD hS => ?_)
  subst hq
  have hP : va_P D vwCl ([mO a (nI n) (nI k) th, [(a 1, .inl (cY 0, 72, .inl fto))], [(a 2, .inl (cY 0, 6, .inl fpay))], [(a 4, .inl (cY 1, 64, .inr (.inl fnow)))], [(a 5, .inl (cY 1, 64, .inr (.inl fthn)))], [(a 6, .inl (cY 1, 6, .inr (.inl foth)))]] : List va_W).flatten H := hP
  have hD : va_D A ([mO a (nI n) (nI k) th, [(a 1, .inl (cY 0, 72, .inl fto))], [(a 2, .inl (cY 0, 6, .inl fpay))], [(a 4, .inl (cY 1, 64, .inr (.inl fnow)))], [(a 5, .inl (cY 1, 64, .inr (.inl fthn)))], [(a 6, .inl (cY 1, 6, .inr (.inl foth)))]] : List va_W).flatten := hD
  refine b_if_ne (tgt := 13) hx hb dX9_best_6 (by decide) (fun h6 => ?_) (fun h6 => ?_)
  · -- t
    refine lv_iload_n hx hb dX9_best_13 rfl (lv_at hl 2 rfl) ?_
    refine ca_i (CL := []) (va_runS (As := [.int (nI t)]) (rest := [.ref (a 0)]) ⟨hx, hb, hml, hown, hts⟩ (c_X9_areSteps l D cY H.size (nI t)) (va_cwS 1 hts gX9_best_X9_areSteps rfl rfl rfl (by decide +kernel) ⟨Nat.le_of_ble_eq_true rfl, Nat.le_of_ble_eq_true rfl⟩) (b_preS hVK hP hD [] rfl rfl) rfl rfl hl.1 rfl (lv_room (Nat.le_of_ble_eq_true rfl)) dX9_best_14 ⟨Nat.le_refl _, Nat.le_refl _⟩) hP hD hS hA [] rfl rfl (fun _ => rfl) (fun r14 uu H locs hq hP hD hS => ?_)
    subst hq
    have hP : va_P D vwCl ([mO a (nI n) (nI k) th, [(a 1, .inl (cY 0, 72, .inl fto))], [(a 2, .inl (cY 0, 6, .inl fpay))], [(a 4, .inl (cY 1, 64, .inr (.inl fnow)))], [(a 5, .inl (cY 1, 64, .inr (.inl fthn)))], [(a 6, .inl (cY 1, 6, .inr (.inl foth)))]] : List va_W).flatten H := hP
    have hD : va_D A ([mO a (nI n) (nI k) th, [(a 1, .inl (cY 0, 72, .inl fto))], [(a 2, .inl (cY 0, 6, .inl fpay))], [(a 4, .inl (cY 1, 64, .inr (.inl fnow)))], [(a 5, .inl (cY 1, 64, .inr (.inl fthn)))], [(a 6, .inl (cY 1, 6, .inr (.inl foth)))]] : List va_W).flatten := hD
    refine b_if_eq (tgt := 24) hx hb dX9_best_17 (by decide) (fun h17 => ?_) (fun h17 => ?_)
    · -- t
      exact absurd (h17.symm.trans hB) (by decide)
    · -- f
      refine lv_iconst (v := nI 0) hx hb dX9_best_20 (by decide) ?_
      refine lv_goto (tgt := 25) hx hb dX9_best_21 (by decide) ?_
      refine ca_i (CL := [mO a (nI n) (nI k) th]) (va_runV (As := [.int (nI 0)]) (rest := []) ⟨hx, hb, hml, hown, hts⟩ (c_X9_can l D cY H.size a n k th 0 (by omega)) (cwV 1 hts gX9_best_X9_can rfl rfl rfl (by decide +kernel) ⟨Nat.le_of_ble_eq_true rfl, Nat.le_of_ble_eq_true rfl⟩) (b_preV hVK hP hD [0] rfl rfl 0 rfl rfl) rfl rfl hl.1 rfl (lv_room (Nat.le_of_ble_eq_true rfl)) dX9_best_25 ⟨Nat.le_refl _, Nat.le_refl _⟩) hP hD hS hA [0] rfl rfl (fun _ => rfl) (fun r25 uu H locs hq hP hD hS => ?_)
      subst hq
      have hP : va_P D vwCl ([mO a (nI n) (nI k) (nI 0), [(a 1, .inl (cY 0, 72, .inl fto))], [(a 2, .inl (cY 0, 6, .inl fpay))], [(a 4, .inl (cY 1, 64, .inr (.inl fnow)))], [(a 5, .inl (cY 1, 64, .inr (.inl fthn)))], [(a 6, .inl (cY 1, 6, .inr (.inl foth)))]] : List va_W).flatten H := hP
      have hD : va_D A ([mO a (nI n) (nI k) (nI 0), [(a 1, .inl (cY 0, 72, .inl fto))], [(a 2, .inl (cY 0, 6, .inl fpay))], [(a 4, .inl (cY 1, 64, .inr (.inl fnow)))], [(a 5, .inl (cY 1, 64, .inr (.inl fthn)))], [(a 6, .inl (cY 1, 6, .inr (.inl foth)))]] : List va_W).flatten := hD
      refine b_if_ne (tgt := 33) hx hb dX9_best_28 (by decide) (fun h28 => ?_) (fun h28 => ?_)
      · -- t
        refine lv_aload_n hx hb dX9_best_33 rfl (lv_at hl 0 rfl) ?_
        refine lv_iload_n hx hb dX9_best_34 rfl (lv_at hl 2 rfl) ?_
        refine ca_v (CL := [mO a (nI n) (nI k) (nI 0), [(a 1, .inl (cY 0, 72, .inl fto))], [(a 2, .inl (cY 0, 6, .inl fpay))], [(a 4, .inl (cY 1, 64, .inr (.inl fnow)))], [(a 5, .inl (cY 1, 64, .inr (.inl fthn)))], [(a 6, .inl (cY 1, 6, .inr (.inl foth)))]]) (va_runV (As := [.int (nI t)]) (rest := []) ⟨hx, hb, hml, hown, hts⟩ (c_X9_plays l D cY H.size a n k (nI 0) fto fpay fnow fthn foth g t (by omega) (by omega) (by omega) (by omega) hG hgn (by omega)) (cwV 1 hts gX9_best_X9_plays rfl rfl rfl (by decide +kernel) ⟨Nat.le_of_ble_eq_true rfl, Nat.le_of_ble_eq_true rfl⟩) (b_preV hVK hP hD [0, 1, 2, 3, 4, 5] rfl rfl 0 rfl rfl) rfl rfl hl.1 rfl (lv_room (Nat.le_of_ble_eq_true rfl)) dX9_best_35 ⟨Nat.le_refl _, Nat.le_refl _⟩) hP hD hS hA [0, 1, 2, 3, 4, 5] rfl rfl (fun _ => rfl) (fun uu H locs hq hP hD hS => ?_)
        obtain ⟨fnow1_1, fthn1_2, foth1_3⟩ := uu
        try dsimp only at hq
        have q35 := hq
        have hP : va_P D vwCl ([mO a (nI n) (nI k) (nI 0), [(a 1, .inl (cY 0, 72, .inl fto))], [(a 2, .inl (cY 0, 6, .inl fpay))], [(a 4, .inl (cY 1, 64, .inr (.inl fnow1_1)))], [(a 5, .inl (cY 1, 64, .inr (.inl fthn1_2)))], [(a 6, .inl (cY 1, 6, .inr (.inl foth1_3)))]] : List va_W).flatten H := hP
        have hD : va_D A ([mO a (nI n) (nI k) (nI 0), [(a 1, .inl (cY 0, 72, .inl fto))], [(a 2, .inl (cY 0, 6, .inl fpay))], [(a 4, .inl (cY 1, 64, .inr (.inl fnow1_1)))], [(a 5, .inl (cY 1, 64, .inr (.inl fthn1_2)))], [(a 6, .inl (cY 1, 6, .inr (.inl foth1_3)))]] : List va_W).flatten := hD
        refine lv_aload_n hx hb dX9_best_38 rfl (lv_at hl 0 rfl) ?_
        refine b_get (ci := 9) (v := .ref (a 4)) (C := RX9) (T := TX9) (N := 13) hx hb hts (by decide +kernel) hown hK hP 0 rfl rfl 5 (by decide) (hts (.fieldLink RX9 26 "ChanceHallModel" "now" "[J") (by decide +kernel)) (fun _ h9 => h9) rfl dX9_best_39 ?_
        refine lv_iload_n hx hb dX9_best_42 rfl (lv_at hl 1 rfl) ?_
        refine b_lald hx hb hK hP 3 1 rfl rfl (by omega) (by decide) dX9_best_43 ?_
        exact r_l hx hb hr hlocks hP hD hS (fnow1_1, fthn1_2, foth1_3) rfl (q35.1 i hi) dX9_best_44
      · -- f
        exact absurd h28 (by decide)
  · -- f
    exact absurd (h6.symm.trans hAa) (by decide)

set_option maxHeartbeats 4000000 in
set_option maxRecDepth 100000 in
theorem c_X9_best_b1 (l : Launch) (D : va_G) (cY : Nat → ClassId) (sz : Nat) (a : Nat → Nat) (n : Nat) (k : Nat) (th : Int32) (x : Int32) (y : Int32) (hn1 : 1 ≤ n) (hn6 : n ≤ 6) (hk1 : 1 ≤ k) (hk12 : k ≤ 12) (hbad : inR x (nI 0) (nI (n - 1)) = false) : Met l yX9_best wsX9_best ({ frames := 2, cells := 0, slots := 0, locals := 80 }) (cP D cY [.ref (a 0), .int x, .int y] [mO a (nI n) (nI k) th] sz) (qL (S := Unit) D cY (fun r u => r = lN 0) (fun u => [mO a (nI n) (nI k) (nI 1)]) (va_A ([mO a (nI n) (nI k) th] : List va_W).flatten sz)) 0 0 (va_A ([mO a (nI n) (nI k) th] : List va_W).flatten sz) := by
  refine mtB (Qc := fun A => qL (S := Unit) D cY (fun r u => r = lN 0) (fun u => [mO a (nI n) (nI k) (nI 1)]) A) (cc := cX9_best) (maxL := 3) (ret := (some .long)) (by decide) rfl (Nat.le_of_ble_eq_true rfl) ?_
  intro p e s m below meth c A ls hx hb hr hml hts hown hlocks hnm hsz hP hK hVK hD hS hA hl
  have hown : s.vm.findClass RX9 = some m.cls := hown
  have hl : lv_has ls 3 [(0, .ref (a 0)), (1, .int x), (2, .int y)] := hl
  have hP : va_P D vwCl ([mO a (nI n) (nI k) th] : List va_W).flatten s.heap := hP
  have hD : va_D A ([mO a (nI n) (nI k) th] : List va_W).flatten := hD
  refine lv_aload_n hx hb dX9_best_0 rfl (lv_at hl 0 rfl) ?_
  refine lv_aload_n hx hb dX9_best_1 rfl (lv_at hl 0 rfl) ?_
  refine lv_iload_n hx hb dX9_best_2 rfl (lv_at hl 1 rfl) ?_
  refine ca_i (CL := [mO a (nI n) (nI k) th]) (va_runV (As := [.int x]) (rest := [.ref (a 0)]) ⟨hx, hb, hml, hown, hts⟩ (c_X9_isState l D cY s.heap.size a n k th x (by omega)) (cwV 1 hts gX9_best_X9_isState rfl rfl rfl (by decide +kernel) ⟨Nat.le_of_ble_eq_true rfl, Nat.le_of_ble_eq_true rfl⟩) (b_preV hVK hP hD [0] rfl rfl 0 rfl rfl) rfl rfl hl.1 rfl (lv_room (Nat.le_of_ble_eq_true rfl)) dX9_best_3 ⟨Nat.le_refl _, Nat.le_refl _⟩) hP hD hS hA [0] rfl rfl (fun _ => rfl) (fun r3 uu H locs hq hP hD hS => ?_)
  subst hq
  have hP : va_P D vwCl ([mO a (nI n) (nI k) th] : List va_W).flatten H := hP
  have hD : va_D A ([mO a (nI n) (nI k) th] : List va_W).flatten := hD
  refine b_if_ne (tgt := 13) hx hb dX9_best_6 (by decide) (fun h6 => ?_) (fun h6 => ?_)
  · -- t
    exact absurd (h6.symm.trans hbad) (by decide)
  · -- f
    refine lv_iconst (v := nI 1) hx hb dX9_best_9 (by decide) ?_
    refine lv_goto (tgt := 25) hx hb dX9_best_10 (by decide) ?_
    refine ca_i (CL := [mO a (nI n) (nI k) th]) (va_runV (As := [.int (nI 1)]) (rest := []) ⟨hx, hb, hml, hown, hts⟩ (c_X9_can l D cY H.size a n k th 1 (by omega)) (cwV 1 hts gX9_best_X9_can rfl rfl rfl (by decide +kernel) ⟨Nat.le_of_ble_eq_true rfl, Nat.le_of_ble_eq_true rfl⟩) (b_preV hVK hP hD [0] rfl rfl 0 rfl rfl) rfl rfl hl.1 rfl (lv_room (Nat.le_of_ble_eq_true rfl)) dX9_best_25 ⟨Nat.le_refl _, Nat.le_refl _⟩) hP hD hS hA [0] rfl rfl (fun _ => rfl) (fun r25 uu H locs hq hP hD hS => ?_)
    subst hq
    have hP : va_P D vwCl ([mO a (nI n) (nI k) (nI 1)] : List va_W).flatten H := hP
    have hD : va_D A ([mO a (nI n) (nI k) (nI 1)] : List va_W).flatten := hD
    refine b_if_ne (tgt := 33) hx hb dX9_best_28 (by decide) (fun h28 => ?_) (fun h28 => ?_)
    · -- t
      exact absurd h28 (by decide)
    · -- f
      refine lv_lconst (v := lN 0) hx hb dX9_best_31 (by decide) ?_
      exact r_l hx hb hr hlocks hP hD hS () rfl (rfl) dX9_best_32

set_option maxHeartbeats 4000000 in
set_option maxRecDepth 100000 in
theorem c_X9_best_b2 (l : Launch) (D : va_G) (cY : Nat → ClassId) (sz : Nat) (a : Nat → Nat) (n : Nat) (k : Nat) (th : Int32) (x : Int32) (y : Int32) (hn1 : 1 ≤ n) (hn6 : n ≤ 6) (hk1 : 1 ≤ k) (hk12 : k ≤ 12) (hAa : inR x (nI 0) (nI (n - 1)) = true) (hbad : inR y (nI 0) (nI 12) = false) : Met l yX9_best wsX9_best ({ frames := 2, cells := 0, slots := 0, locals := 80 }) (cP D cY [.ref (a 0), .int x, .int y] [mO a (nI n) (nI k) th] sz) (qL (S := Unit) D cY (fun r u => r = lN 0) (fun u => [mO a (nI n) (nI k) (nI 2)]) (va_A ([mO a (nI n) (nI k) th] : List va_W).flatten sz)) 0 0 (va_A ([mO a (nI n) (nI k) th] : List va_W).flatten sz) := by
  refine mtB (Qc := fun A => qL (S := Unit) D cY (fun r u => r = lN 0) (fun u => [mO a (nI n) (nI k) (nI 2)]) A) (cc := cX9_best) (maxL := 3) (ret := (some .long)) (by decide) rfl (Nat.le_of_ble_eq_true rfl) ?_
  intro p e s m below meth c A ls hx hb hr hml hts hown hlocks hnm hsz hP hK hVK hD hS hA hl
  have hown : s.vm.findClass RX9 = some m.cls := hown
  have hl : lv_has ls 3 [(0, .ref (a 0)), (1, .int x), (2, .int y)] := hl
  have hP : va_P D vwCl ([mO a (nI n) (nI k) th] : List va_W).flatten s.heap := hP
  have hD : va_D A ([mO a (nI n) (nI k) th] : List va_W).flatten := hD
  refine lv_aload_n hx hb dX9_best_0 rfl (lv_at hl 0 rfl) ?_
  refine lv_aload_n hx hb dX9_best_1 rfl (lv_at hl 0 rfl) ?_
  refine lv_iload_n hx hb dX9_best_2 rfl (lv_at hl 1 rfl) ?_
  refine ca_i (CL := [mO a (nI n) (nI k) th]) (va_runV (As := [.int x]) (rest := [.ref (a 0)]) ⟨hx, hb, hml, hown, hts⟩ (c_X9_isState l D cY s.heap.size a n k th x (by omega)) (cwV 1 hts gX9_best_X9_isState rfl rfl rfl (by decide +kernel) ⟨Nat.le_of_ble_eq_true rfl, Nat.le_of_ble_eq_true rfl⟩) (b_preV hVK hP hD [0] rfl rfl 0 rfl rfl) rfl rfl hl.1 rfl (lv_room (Nat.le_of_ble_eq_true rfl)) dX9_best_3 ⟨Nat.le_refl _, Nat.le_refl _⟩) hP hD hS hA [0] rfl rfl (fun _ => rfl) (fun r3 uu H locs hq hP hD hS => ?_)
  subst hq
  have hP : va_P D vwCl ([mO a (nI n) (nI k) th] : List va_W).flatten H := hP
  have hD : va_D A ([mO a (nI n) (nI k) th] : List va_W).flatten := hD
  refine b_if_ne (tgt := 13) hx hb dX9_best_6 (by decide) (fun h6 => ?_) (fun h6 => ?_)
  · -- t
    refine lv_iload_n hx hb dX9_best_13 rfl (lv_at hl 2 rfl) ?_
    refine ca_i (CL := []) (va_runS (As := [.int y]) (rest := [.ref (a 0)]) ⟨hx, hb, hml, hown, hts⟩ (c_X9_areSteps l D cY H.size y) (va_cwS 1 hts gX9_best_X9_areSteps rfl rfl rfl (by decide +kernel) ⟨Nat.le_of_ble_eq_true rfl, Nat.le_of_ble_eq_true rfl⟩) (b_preS hVK hP hD [] rfl rfl) rfl rfl hl.1 rfl (lv_room (Nat.le_of_ble_eq_true rfl)) dX9_best_14 ⟨Nat.le_refl _, Nat.le_refl _⟩) hP hD hS hA [] rfl rfl (fun _ => rfl) (fun r14 uu H locs hq hP hD hS => ?_)
    subst hq
    have hP : va_P D vwCl ([mO a (nI n) (nI k) th] : List va_W).flatten H := hP
    have hD : va_D A ([mO a (nI n) (nI k) th] : List va_W).flatten := hD
    refine b_if_eq (tgt := 24) hx hb dX9_best_17 (by decide) (fun h17 => ?_) (fun h17 => ?_)
    · -- t
      refine lv_iconst (v := nI 2) hx hb dX9_best_24 (by decide) ?_
      refine ca_i (CL := [mO a (nI n) (nI k) th]) (va_runV (As := [.int (nI 2)]) (rest := []) ⟨hx, hb, hml, hown, hts⟩ (c_X9_can l D cY H.size a n k th 2 (by omega)) (cwV 1 hts gX9_best_X9_can rfl rfl rfl (by decide +kernel) ⟨Nat.le_of_ble_eq_true rfl, Nat.le_of_ble_eq_true rfl⟩) (b_preV hVK hP hD [0] rfl rfl 0 rfl rfl) rfl rfl hl.1 rfl (lv_room (Nat.le_of_ble_eq_true rfl)) dX9_best_25 ⟨Nat.le_refl _, Nat.le_refl _⟩) hP hD hS hA [0] rfl rfl (fun _ => rfl) (fun r25 uu H locs hq hP hD hS => ?_)
      subst hq
      have hP : va_P D vwCl ([mO a (nI n) (nI k) (nI 2)] : List va_W).flatten H := hP
      have hD : va_D A ([mO a (nI n) (nI k) (nI 2)] : List va_W).flatten := hD
      refine b_if_ne (tgt := 33) hx hb dX9_best_28 (by decide) (fun h28 => ?_) (fun h28 => ?_)
      · -- t
        exact absurd h28 (by decide)
      · -- f
        refine lv_lconst (v := lN 0) hx hb dX9_best_31 (by decide) ?_
        exact r_l hx hb hr hlocks hP hD hS () rfl (rfl) dX9_best_32
    · -- f
      exact absurd (h17.symm.trans hbad) (by decide)
  · -- f
    exact absurd (h6.symm.trans hAa) (by decide)

set_option maxHeartbeats 4000000 in
set_option maxRecDepth 100000 in
theorem c_X9_stops_ok (l : Launch) (D : va_G) (cY : Nat → ClassId) (sz : Nat) (a : Nat → Nat) (n : Nat) (k : Nat) (th : Int32) (fto : Nat → Int32) (fpay : Nat → Int32) (fnow : Nat → Int64) (fthn : Nat → Int64) (foth : Nat → Int64) (g : Nat → Nat → Nat) (i : Nat) (t : Nat) (hn1 : 1 ≤ n) (hn6 : n ≤ 6) (hk1 : 1 ≤ k) (hk12 : k ≤ 12) (hG : ∀ i j, i < n → j < k → fto (12 * i + j) = nI (g i j)) (hgn : ∀ i j, i < n → j < k → g i j < n) (hi : i < n) (ht : t ≤ 12) : Met l yX9_stops wsX9_stops ({ frames := 2, cells := 0, slots := 0, locals := 80 }) (cP D cY [.ref (a 0), .int (nI i), .int (nI t)] [mO a (nI n) (nI k) th, [(a 1, .inl (cY 0, 72, .inl fto))], [(a 2, .inl (cY 0, 6, .inl fpay))], [(a 4, .inl (cY 1, 64, .inr (.inl fnow)))], [(a 5, .inl (cY 1, 64, .inr (.inl fthn)))], [(a 6, .inl (cY 1, 6, .inr (.inl foth)))]] sz) (qI (S := (Nat → Int64) × (Nat → Int64) × (Nat → Int64)) D cY (fun r u => r = bI (stB fpay g k i t)) (fun u => [mO a (nI n) (nI k) (nI 0), [(a 1, .inl (cY 0, 72, .inl fto))], [(a 2, .inl (cY 0, 6, .inl fpay))], [(a 4, .inl (cY 1, 64, .inr (.inl u.1)))], [(a 5, .inl (cY 1, 64, .inr (.inl u.2.1)))], [(a 6, .inl (cY 1, 6, .inr (.inl u.2.2)))]]) (va_A ([mO a (nI n) (nI k) th, [(a 1, .inl (cY 0, 72, .inl fto))], [(a 2, .inl (cY 0, 6, .inl fpay))], [(a 4, .inl (cY 1, 64, .inr (.inl fnow)))], [(a 5, .inl (cY 1, 64, .inr (.inl fthn)))], [(a 6, .inl (cY 1, 6, .inr (.inl foth)))]] : List va_W).flatten sz)) 0 0 (va_A ([mO a (nI n) (nI k) th, [(a 1, .inl (cY 0, 72, .inl fto))], [(a 2, .inl (cY 0, 6, .inl fpay))], [(a 4, .inl (cY 1, 64, .inr (.inl fnow)))], [(a 5, .inl (cY 1, 64, .inr (.inl fthn)))], [(a 6, .inl (cY 1, 6, .inr (.inl foth)))]] : List va_W).flatten sz) := by
  refine mtB (Qc := fun A => qI (S := (Nat → Int64) × (Nat → Int64) × (Nat → Int64)) D cY (fun r u => r = bI (stB fpay g k i t)) (fun u => [mO a (nI n) (nI k) (nI 0), [(a 1, .inl (cY 0, 72, .inl fto))], [(a 2, .inl (cY 0, 6, .inl fpay))], [(a 4, .inl (cY 1, 64, .inr (.inl u.1)))], [(a 5, .inl (cY 1, 64, .inr (.inl u.2.1)))], [(a 6, .inl (cY 1, 6, .inr (.inl u.2.2)))]]) A) (cc := cX9_stops) (maxL := 3) (ret := (some .boolean)) (by decide) rfl (Nat.le_of_ble_eq_true rfl) ?_
  intro p e s m below meth c A ls hx hb hr hml hts hown hlocks hnm hsz hP hK hVK hD hS hA hl
  have hown : s.vm.findClass RX9 = some m.cls := hown
  have hl : lv_has ls 3 [(0, .ref (a 0)), (1, .int (nI i)), (2, .int (nI t))] := hl
  have hP : va_P D vwCl ([mO a (nI n) (nI k) th, [(a 1, .inl (cY 0, 72, .inl fto))], [(a 2, .inl (cY 0, 6, .inl fpay))], [(a 4, .inl (cY 1, 64, .inr (.inl fnow)))], [(a 5, .inl (cY 1, 64, .inr (.inl fthn)))], [(a 6, .inl (cY 1, 6, .inr (.inl foth)))]] : List va_W).flatten s.heap := hP
  have hD : va_D A ([mO a (nI n) (nI k) th, [(a 1, .inl (cY 0, 72, .inl fto))], [(a 2, .inl (cY 0, 6, .inl fpay))], [(a 4, .inl (cY 1, 64, .inr (.inl fnow)))], [(a 5, .inl (cY 1, 64, .inr (.inl fthn)))], [(a 6, .inl (cY 1, 6, .inr (.inl foth)))]] : List va_W).flatten := hD
  have hAa : inR (nI i) (nI 0) (nI (n - 1)) = true := inR_t (by omega) (by omega) (by omega)
  have hB : inR (nI t) (nI 0) (nI 12) = true := inR_t (by omega) (by omega) (by omega)
  refine lv_aload_n hx hb dX9_stops_0 rfl (lv_at hl 0 rfl) ?_
  refine lv_aload_n hx hb dX9_stops_1 rfl (lv_at hl 0 rfl) ?_
  refine lv_iload_n hx hb dX9_stops_2 rfl (lv_at hl 1 rfl) ?_
  refine ca_i (CL := [mO a (nI n) (nI k) th]) (va_runV (As := [.int (nI i)]) (rest := [.ref (a 0)]) ⟨hx, hb, hml, hown, hts⟩ (c_X9_isState l D cY s.heap.size a n k th (nI i) (by omega)) (cwV 1 hts gX9_stops_X9_isState rfl rfl rfl (by decide +kernel) ⟨Nat.le_of_ble_eq_true rfl, Nat.le_of_ble_eq_true rfl⟩) (b_preV hVK hP hD [0] rfl rfl 0 rfl rfl) rfl rfl hl.1 rfl (lv_room (Nat.le_of_ble_eq_true rfl)) dX9_stops_3 ⟨Nat.le_refl _, Nat.le_refl _⟩) hP hD hS hA [0] rfl rfl (fun _ => rfl) (fun r3 uu H locs hq hP hD hS => ?_)
  subst hq
  have hP : va_P D vwCl ([mO a (nI n) (nI k) th, [(a 1, .inl (cY 0, 72, .inl fto))], [(a 2, .inl (cY 0, 6, .inl fpay))], [(a 4, .inl (cY 1, 64, .inr (.inl fnow)))], [(a 5, .inl (cY 1, 64, .inr (.inl fthn)))], [(a 6, .inl (cY 1, 6, .inr (.inl foth)))]] : List va_W).flatten H := hP
  have hD : va_D A ([mO a (nI n) (nI k) th, [(a 1, .inl (cY 0, 72, .inl fto))], [(a 2, .inl (cY 0, 6, .inl fpay))], [(a 4, .inl (cY 1, 64, .inr (.inl fnow)))], [(a 5, .inl (cY 1, 64, .inr (.inl fthn)))], [(a 6, .inl (cY 1, 6, .inr (.inl foth)))]] : List va_W).flatten := hD
  refine b_if_ne (tgt := 13) hx hb dX9_stops_6 (by decide) (fun h6 => ?_) (fun h6 => ?_)
  · -- t
    refine lv_iload_n hx hb dX9_stops_13 rfl (lv_at hl 2 rfl) ?_
    refine ca_i (CL := []) (va_runS (As := [.int (nI t)]) (rest := [.ref (a 0)]) ⟨hx, hb, hml, hown, hts⟩ (c_X9_areSteps l D cY H.size (nI t)) (va_cwS 1 hts gX9_stops_X9_areSteps rfl rfl rfl (by decide +kernel) ⟨Nat.le_of_ble_eq_true rfl, Nat.le_of_ble_eq_true rfl⟩) (b_preS hVK hP hD [] rfl rfl) rfl rfl hl.1 rfl (lv_room (Nat.le_of_ble_eq_true rfl)) dX9_stops_14 ⟨Nat.le_refl _, Nat.le_refl _⟩) hP hD hS hA [] rfl rfl (fun _ => rfl) (fun r14 uu H locs hq hP hD hS => ?_)
    subst hq
    have hP : va_P D vwCl ([mO a (nI n) (nI k) th, [(a 1, .inl (cY 0, 72, .inl fto))], [(a 2, .inl (cY 0, 6, .inl fpay))], [(a 4, .inl (cY 1, 64, .inr (.inl fnow)))], [(a 5, .inl (cY 1, 64, .inr (.inl fthn)))], [(a 6, .inl (cY 1, 6, .inr (.inl foth)))]] : List va_W).flatten H := hP
    have hD : va_D A ([mO a (nI n) (nI k) th, [(a 1, .inl (cY 0, 72, .inl fto))], [(a 2, .inl (cY 0, 6, .inl fpay))], [(a 4, .inl (cY 1, 64, .inr (.inl fnow)))], [(a 5, .inl (cY 1, 64, .inr (.inl fthn)))], [(a 6, .inl (cY 1, 6, .inr (.inl foth)))]] : List va_W).flatten := hD
    refine b_if_eq (tgt := 24) hx hb dX9_stops_17 (by decide) (fun h17 => ?_) (fun h17 => ?_)
    · -- t
      exact absurd (h17.symm.trans hB) (by decide)
    · -- f
      refine lv_iconst (v := nI 0) hx hb dX9_stops_20 (by decide) ?_
      refine lv_goto (tgt := 25) hx hb dX9_stops_21 (by decide) ?_
      refine ca_i (CL := [mO a (nI n) (nI k) th]) (va_runV (As := [.int (nI 0)]) (rest := []) ⟨hx, hb, hml, hown, hts⟩ (c_X9_can l D cY H.size a n k th 0 (by omega)) (cwV 1 hts gX9_stops_X9_can rfl rfl rfl (by decide +kernel) ⟨Nat.le_of_ble_eq_true rfl, Nat.le_of_ble_eq_true rfl⟩) (b_preV hVK hP hD [0] rfl rfl 0 rfl rfl) rfl rfl hl.1 rfl (lv_room (Nat.le_of_ble_eq_true rfl)) dX9_stops_25 ⟨Nat.le_refl _, Nat.le_refl _⟩) hP hD hS hA [0] rfl rfl (fun _ => rfl) (fun r25 uu H locs hq hP hD hS => ?_)
      subst hq
      have hP : va_P D vwCl ([mO a (nI n) (nI k) (nI 0), [(a 1, .inl (cY 0, 72, .inl fto))], [(a 2, .inl (cY 0, 6, .inl fpay))], [(a 4, .inl (cY 1, 64, .inr (.inl fnow)))], [(a 5, .inl (cY 1, 64, .inr (.inl fthn)))], [(a 6, .inl (cY 1, 6, .inr (.inl foth)))]] : List va_W).flatten H := hP
      have hD : va_D A ([mO a (nI n) (nI k) (nI 0), [(a 1, .inl (cY 0, 72, .inl fto))], [(a 2, .inl (cY 0, 6, .inl fpay))], [(a 4, .inl (cY 1, 64, .inr (.inl fnow)))], [(a 5, .inl (cY 1, 64, .inr (.inl fthn)))], [(a 6, .inl (cY 1, 6, .inr (.inl foth)))]] : List va_W).flatten := hD
      refine b_if_ne (tgt := 33) hx hb dX9_stops_28 (by decide) (fun h28 => ?_) (fun h28 => ?_)
      · -- t
        refine lv_aload_n hx hb dX9_stops_33 rfl (lv_at hl 0 rfl) ?_
        refine lv_iload_n hx hb dX9_stops_34 rfl (lv_at hl 2 rfl) ?_
        refine ca_v (CL := [mO a (nI n) (nI k) (nI 0), [(a 1, .inl (cY 0, 72, .inl fto))], [(a 2, .inl (cY 0, 6, .inl fpay))], [(a 4, .inl (cY 1, 64, .inr (.inl fnow)))], [(a 5, .inl (cY 1, 64, .inr (.inl fthn)))], [(a 6, .inl (cY 1, 6, .inr (.inl foth)))]]) (va_runV (As := [.int (nI t)]) (rest := []) ⟨hx, hb, hml, hown, hts⟩ (c_X9_plays l D cY H.size a n k (nI 0) fto fpay fnow fthn foth g t (by omega) (by omega) (by omega) (by omega) hG hgn (by omega)) (cwV 1 hts gX9_stops_X9_plays rfl rfl rfl (by decide +kernel) ⟨Nat.le_of_ble_eq_true rfl, Nat.le_of_ble_eq_true rfl⟩) (b_preV hVK hP hD [0, 1, 2, 3, 4, 5] rfl rfl 0 rfl rfl) rfl rfl hl.1 rfl (lv_room (Nat.le_of_ble_eq_true rfl)) dX9_stops_35 ⟨Nat.le_refl _, Nat.le_refl _⟩) hP hD hS hA [0, 1, 2, 3, 4, 5] rfl rfl (fun _ => rfl) (fun uu H locs hq hP hD hS => ?_)
        obtain ⟨fnow1_1, fthn1_2, foth1_3⟩ := uu
        try dsimp only at hq
        have q35 := hq
        have hP : va_P D vwCl ([mO a (nI n) (nI k) (nI 0), [(a 1, .inl (cY 0, 72, .inl fto))], [(a 2, .inl (cY 0, 6, .inl fpay))], [(a 4, .inl (cY 1, 64, .inr (.inl fnow1_1)))], [(a 5, .inl (cY 1, 64, .inr (.inl fthn1_2)))], [(a 6, .inl (cY 1, 6, .inr (.inl foth1_3)))]] : List va_W).flatten H := hP
        have hD : va_D A ([mO a (nI n) (nI k) (nI 0), [(a 1, .inl (cY 0, 72, .inl fto))], [(a 2, .inl (cY 0, 6, .inl fpay))], [(a 4, .inl (cY 1, 64, .inr (.inl fnow1_1)))], [(a 5, .inl (cY 1, 64, .inr (.inl fthn1_2)))], [(a 6, .inl (cY 1, 6, .inr (.inl foth1_3)))]] : List va_W).flatten := hD
        refine lv_aload_n hx hb dX9_stops_38 rfl (lv_at hl 0 rfl) ?_
        refine b_get (ci := 9) (v := .ref (a 2)) (C := RX9) (T := TX9) (N := 13) hx hb hts (by decide +kernel) hown hK hP 0 rfl rfl 3 (by decide) (hts (.fieldLink RX9 20 "ChanceHallModel" "pay" "[I") (by decide +kernel)) (fun _ h9 => h9) rfl dX9_stops_39 ?_
        refine lv_iload_n hx hb dX9_stops_42 rfl (lv_at hl 1 rfl) ?_
        refine b_iald hx hb hK hP 2 0 rfl rfl (by omega) (by decide) dX9_stops_43 ?_
        refine lv_i2l (v := ((fpay i)).toInt64) hx hb dX9_stops_44 rfl ?_
        refine lv_aload_n hx hb dX9_stops_45 rfl (lv_at hl 0 rfl) ?_
        refine lv_iload_n hx hb dX9_stops_46 rfl (lv_at hl 2 rfl) ?_
        refine ca_l (CL := [mO a (nI n) (nI k) (nI 0)]) (va_runV (As := [.int (nI t)]) (rest := [.long (((fpay i)).toInt64)]) ⟨hx, hb, hml, hown, hts⟩ (c_X9_power l D cY H.size a n k (nI 0) t (by omega) (by omega) (by omega) (by omega) (by omega)) (cwV 1 hts gX9_stops_X9_power rfl rfl rfl (by decide +kernel) ⟨Nat.le_of_ble_eq_true rfl, Nat.le_of_ble_eq_true rfl⟩) (b_preV hVK hP hD [0] rfl rfl 0 rfl rfl) rfl rfl hl.1 rfl (lv_room (Nat.le_of_ble_eq_true rfl)) dX9_stops_47 ⟨Nat.le_refl _, Nat.le_refl _⟩) hP hD hS hA [0] rfl rfl (fun _ => rfl) (fun r47 uu H locs hq hP hD hS => ?_)
        subst hq
        have hP : va_P D vwCl ([mO a (nI n) (nI k) (nI 0), [(a 1, .inl (cY 0, 72, .inl fto))], [(a 2, .inl (cY 0, 6, .inl fpay))], [(a 4, .inl (cY 1, 64, .inr (.inl fnow1_1)))], [(a 5, .inl (cY 1, 64, .inr (.inl fthn1_2)))], [(a 6, .inl (cY 1, 6, .inr (.inl foth1_3)))]] : List va_W).flatten H := hP
        have hD : va_D A ([mO a (nI n) (nI k) (nI 0), [(a 1, .inl (cY 0, 72, .inl fto))], [(a 2, .inl (cY 0, 6, .inl fpay))], [(a 4, .inl (cY 1, 64, .inr (.inl fnow1_1)))], [(a 5, .inl (cY 1, 64, .inr (.inl fthn1_2)))], [(a 6, .inl (cY 1, 6, .inr (.inl foth1_3)))]] : List va_W).flatten := hD
        refine lv_lmul hx hb dX9_stops_50 ?_
        refine lv_aload_n hx hb dX9_stops_51 rfl (lv_at hl 0 rfl) ?_
        refine b_get (ci := 9) (v := .ref (a 6)) (C := RX9) (T := TX9) (N := 13) hx hb hts (by decide +kernel) hown hK hP 0 rfl rfl 7 (by decide) (hts (.fieldLink RX9 33 "ChanceHallModel" "others" "[J") (by decide +kernel)) (fun _ h9 => h9) rfl dX9_stops_52 ?_
        refine lv_iload_n hx hb dX9_stops_55 rfl (lv_at hl 1 rfl) ?_
        refine b_lald hx hb hK hP 5 1 rfl rfl (by omega) (by decide) dX9_stops_56 ?_
        refine eql (x' := GV fpay g k t i) (q35.2 i hi) ?_
        refine W.lcmp hx hb dX9_stops_57 ?_
        refine l_if_lt (tgt := 65) hx hb dX9_stops_58 (by decide) (fun h58 => ?_) (fun h58 => ?_)
        · -- t
          refine lv_iconst (v := nI 0) hx hb dX9_stops_65 (by decide) ?_
          refine eqi (x' := bI false) rfl ?_
          exact r_z hx hb hr hlocks hP hD hS (fnow1_1, fthn1_2, foth1_3) rfl (by first | exact congrArg bI (dec_f (Int64.not_le.mpr h58)).symm | exact congrArg bI (dec_t (Int64.not_lt.mp h58)).symm) dX9_stops_66
        · -- f
          refine lv_iconst (v := nI 1) hx hb dX9_stops_61 (by decide) ?_
          refine lv_goto (tgt := 66) hx hb dX9_stops_62 (by decide) ?_
          refine eqi (x' := bI true) rfl ?_
          exact r_z hx hb hr hlocks hP hD hS (fnow1_1, fthn1_2, foth1_3) rfl (by first | exact congrArg bI (dec_f (Int64.not_le.mpr h58)).symm | exact congrArg bI (dec_t (Int64.not_lt.mp h58)).symm) dX9_stops_66
      · -- f
        exact absurd h28 (by decide)
  · -- f
    exact absurd (h6.symm.trans hAa) (by decide)

set_option maxHeartbeats 4000000 in
set_option maxRecDepth 100000 in
theorem c_X9_stops_b1 (l : Launch) (D : va_G) (cY : Nat → ClassId) (sz : Nat) (a : Nat → Nat) (n : Nat) (k : Nat) (th : Int32) (x : Int32) (y : Int32) (hn1 : 1 ≤ n) (hn6 : n ≤ 6) (hk1 : 1 ≤ k) (hk12 : k ≤ 12) (hbad : inR x (nI 0) (nI (n - 1)) = false) : Met l yX9_stops wsX9_stops ({ frames := 2, cells := 0, slots := 0, locals := 80 }) (cP D cY [.ref (a 0), .int x, .int y] [mO a (nI n) (nI k) th] sz) (qI (S := Unit) D cY (fun r u => r = bI false) (fun u => [mO a (nI n) (nI k) (nI 1)]) (va_A ([mO a (nI n) (nI k) th] : List va_W).flatten sz)) 0 0 (va_A ([mO a (nI n) (nI k) th] : List va_W).flatten sz) := by
  refine mtB (Qc := fun A => qI (S := Unit) D cY (fun r u => r = bI false) (fun u => [mO a (nI n) (nI k) (nI 1)]) A) (cc := cX9_stops) (maxL := 3) (ret := (some .boolean)) (by decide) rfl (Nat.le_of_ble_eq_true rfl) ?_
  intro p e s m below meth c A ls hx hb hr hml hts hown hlocks hnm hsz hP hK hVK hD hS hA hl
  have hown : s.vm.findClass RX9 = some m.cls := hown
  have hl : lv_has ls 3 [(0, .ref (a 0)), (1, .int x), (2, .int y)] := hl
  have hP : va_P D vwCl ([mO a (nI n) (nI k) th] : List va_W).flatten s.heap := hP
  have hD : va_D A ([mO a (nI n) (nI k) th] : List va_W).flatten := hD
  refine lv_aload_n hx hb dX9_stops_0 rfl (lv_at hl 0 rfl) ?_
  refine lv_aload_n hx hb dX9_stops_1 rfl (lv_at hl 0 rfl) ?_
  refine lv_iload_n hx hb dX9_stops_2 rfl (lv_at hl 1 rfl) ?_
  refine ca_i (CL := [mO a (nI n) (nI k) th]) (va_runV (As := [.int x]) (rest := [.ref (a 0)]) ⟨hx, hb, hml, hown, hts⟩ (c_X9_isState l D cY s.heap.size a n k th x (by omega)) (cwV 1 hts gX9_stops_X9_isState rfl rfl rfl (by decide +kernel) ⟨Nat.le_of_ble_eq_true rfl, Nat.le_of_ble_eq_true rfl⟩) (b_preV hVK hP hD [0] rfl rfl 0 rfl rfl) rfl rfl hl.1 rfl (lv_room (Nat.le_of_ble_eq_true rfl)) dX9_stops_3 ⟨Nat.le_refl _, Nat.le_refl _⟩) hP hD hS hA [0] rfl rfl (fun _ => rfl) (fun r3 uu H locs hq hP hD hS => ?_)
  subst hq
  have hP : va_P D vwCl ([mO a (nI n) (nI k) th] : List va_W).flatten H := hP
  have hD : va_D A ([mO a (nI n) (nI k) th] : List va_W).flatten := hD
  refine b_if_ne (tgt := 13) hx hb dX9_stops_6 (by decide) (fun h6 => ?_) (fun h6 => ?_)
  · -- t
    exact absurd (h6.symm.trans hbad) (by decide)
  · -- f
    refine lv_iconst (v := nI 1) hx hb dX9_stops_9 (by decide) ?_
    refine lv_goto (tgt := 25) hx hb dX9_stops_10 (by decide) ?_
    refine ca_i (CL := [mO a (nI n) (nI k) th]) (va_runV (As := [.int (nI 1)]) (rest := []) ⟨hx, hb, hml, hown, hts⟩ (c_X9_can l D cY H.size a n k th 1 (by omega)) (cwV 1 hts gX9_stops_X9_can rfl rfl rfl (by decide +kernel) ⟨Nat.le_of_ble_eq_true rfl, Nat.le_of_ble_eq_true rfl⟩) (b_preV hVK hP hD [0] rfl rfl 0 rfl rfl) rfl rfl hl.1 rfl (lv_room (Nat.le_of_ble_eq_true rfl)) dX9_stops_25 ⟨Nat.le_refl _, Nat.le_refl _⟩) hP hD hS hA [0] rfl rfl (fun _ => rfl) (fun r25 uu H locs hq hP hD hS => ?_)
    subst hq
    have hP : va_P D vwCl ([mO a (nI n) (nI k) (nI 1)] : List va_W).flatten H := hP
    have hD : va_D A ([mO a (nI n) (nI k) (nI 1)] : List va_W).flatten := hD
    refine b_if_ne (tgt := 33) hx hb dX9_stops_28 (by decide) (fun h28 => ?_) (fun h28 => ?_)
    · -- t
      exact absurd h28 (by decide)
    · -- f
      refine lv_iconst (v := nI 0) hx hb dX9_stops_31 (by decide) ?_
      refine eqi (x' := bI false) rfl ?_
      exact r_z hx hb hr hlocks hP hD hS () rfl (rfl) dX9_stops_32

set_option maxHeartbeats 4000000 in
set_option maxRecDepth 100000 in
theorem c_X9_stops_b2 (l : Launch) (D : va_G) (cY : Nat → ClassId) (sz : Nat) (a : Nat → Nat) (n : Nat) (k : Nat) (th : Int32) (x : Int32) (y : Int32) (hn1 : 1 ≤ n) (hn6 : n ≤ 6) (hk1 : 1 ≤ k) (hk12 : k ≤ 12) (hAa : inR x (nI 0) (nI (n - 1)) = true) (hbad : inR y (nI 0) (nI 12) = false) : Met l yX9_stops wsX9_stops ({ frames := 2, cells := 0, slots := 0, locals := 80 }) (cP D cY [.ref (a 0), .int x, .int y] [mO a (nI n) (nI k) th] sz) (qI (S := Unit) D cY (fun r u => r = bI false) (fun u => [mO a (nI n) (nI k) (nI 2)]) (va_A ([mO a (nI n) (nI k) th] : List va_W).flatten sz)) 0 0 (va_A ([mO a (nI n) (nI k) th] : List va_W).flatten sz) := by
  refine mtB (Qc := fun A => qI (S := Unit) D cY (fun r u => r = bI false) (fun u => [mO a (nI n) (nI k) (nI 2)]) A) (cc := cX9_stops) (maxL := 3) (ret := (some .boolean)) (by decide) rfl (Nat.le_of_ble_eq_true rfl) ?_
  intro p e s m below meth c A ls hx hb hr hml hts hown hlocks hnm hsz hP hK hVK hD hS hA hl
  have hown : s.vm.findClass RX9 = some m.cls := hown
  have hl : lv_has ls 3 [(0, .ref (a 0)), (1, .int x), (2, .int y)] := hl
  have hP : va_P D vwCl ([mO a (nI n) (nI k) th] : List va_W).flatten s.heap := hP
  have hD : va_D A ([mO a (nI n) (nI k) th] : List va_W).flatten := hD
  refine lv_aload_n hx hb dX9_stops_0 rfl (lv_at hl 0 rfl) ?_
  refine lv_aload_n hx hb dX9_stops_1 rfl (lv_at hl 0 rfl) ?_
  refine lv_iload_n hx hb dX9_stops_2 rfl (lv_at hl 1 rfl) ?_
  refine ca_i (CL := [mO a (nI n) (nI k) th]) (va_runV (As := [.int x]) (rest := [.ref (a 0)]) ⟨hx, hb, hml, hown, hts⟩ (c_X9_isState l D cY s.heap.size a n k th x (by omega)) (cwV 1 hts gX9_stops_X9_isState rfl rfl rfl (by decide +kernel) ⟨Nat.le_of_ble_eq_true rfl, Nat.le_of_ble_eq_true rfl⟩) (b_preV hVK hP hD [0] rfl rfl 0 rfl rfl) rfl rfl hl.1 rfl (lv_room (Nat.le_of_ble_eq_true rfl)) dX9_stops_3 ⟨Nat.le_refl _, Nat.le_refl _⟩) hP hD hS hA [0] rfl rfl (fun _ => rfl) (fun r3 uu H locs hq hP hD hS => ?_)
  subst hq
  have hP : va_P D vwCl ([mO a (nI n) (nI k) th] : List va_W).flatten H := hP
  have hD : va_D A ([mO a (nI n) (nI k) th] : List va_W).flatten := hD
  refine b_if_ne (tgt := 13) hx hb dX9_stops_6 (by decide) (fun h6 => ?_) (fun h6 => ?_)
  · -- t
    refine lv_iload_n hx hb dX9_stops_13 rfl (lv_at hl 2 rfl) ?_
    refine ca_i (CL := []) (va_runS (As := [.int y]) (rest := [.ref (a 0)]) ⟨hx, hb, hml, hown, hts⟩ (c_X9_areSteps l D cY H.size y) (va_cwS 1 hts gX9_stops_X9_areSteps rfl rfl rfl (by decide +kernel) ⟨Nat.le_of_ble_eq_true rfl, Nat.le_of_ble_eq_true rfl⟩) (b_preS hVK hP hD [] rfl rfl) rfl rfl hl.1 rfl (lv_room (Nat.le_of_ble_eq_true rfl)) dX9_stops_14 ⟨Nat.le_refl _, Nat.le_refl _⟩) hP hD hS hA [] rfl rfl (fun _ => rfl) (fun r14 uu H locs hq hP hD hS => ?_)
    subst hq
    have hP : va_P D vwCl ([mO a (nI n) (nI k) th] : List va_W).flatten H := hP
    have hD : va_D A ([mO a (nI n) (nI k) th] : List va_W).flatten := hD
    refine b_if_eq (tgt := 24) hx hb dX9_stops_17 (by decide) (fun h17 => ?_) (fun h17 => ?_)
    · -- t
      refine lv_iconst (v := nI 2) hx hb dX9_stops_24 (by decide) ?_
      refine ca_i (CL := [mO a (nI n) (nI k) th]) (va_runV (As := [.int (nI 2)]) (rest := []) ⟨hx, hb, hml, hown, hts⟩ (c_X9_can l D cY H.size a n k th 2 (by omega)) (cwV 1 hts gX9_stops_X9_can rfl rfl rfl (by decide +kernel) ⟨Nat.le_of_ble_eq_true rfl, Nat.le_of_ble_eq_true rfl⟩) (b_preV hVK hP hD [0] rfl rfl 0 rfl rfl) rfl rfl hl.1 rfl (lv_room (Nat.le_of_ble_eq_true rfl)) dX9_stops_25 ⟨Nat.le_refl _, Nat.le_refl _⟩) hP hD hS hA [0] rfl rfl (fun _ => rfl) (fun r25 uu H locs hq hP hD hS => ?_)
      subst hq
      have hP : va_P D vwCl ([mO a (nI n) (nI k) (nI 2)] : List va_W).flatten H := hP
      have hD : va_D A ([mO a (nI n) (nI k) (nI 2)] : List va_W).flatten := hD
      refine b_if_ne (tgt := 33) hx hb dX9_stops_28 (by decide) (fun h28 => ?_) (fun h28 => ?_)
      · -- t
        exact absurd h28 (by decide)
      · -- f
        refine lv_iconst (v := nI 0) hx hb dX9_stops_31 (by decide) ?_
        refine eqi (x' := bI false) rfl ?_
        exact r_z hx hb hr hlocks hP hD hS () rfl (rfl) dX9_stops_32
    · -- f
      exact absurd (h17.symm.trans hbad) (by decide)
  · -- f
    exact absurd (h6.symm.trans hAa) (by decide)

set_option maxHeartbeats 4000000 in
set_option maxRecDepth 100000 in
theorem c_X9_mixing_bad (l : Launch) (D : va_G) (cY : Nat → ClassId) (sz : Nat) (a : Nat → Nat) (n : Nat) (k : Nat) (th : Int32) (x : Int32) (hn1 : 1 ≤ n) (hn6 : n ≤ 6) (hk1 : 1 ≤ k) (hk12 : k ≤ 12) (hbad : inR x (nI 0) (nI 1000) = false) : Met l yX9_mixing wsX9_mixing ({ frames := 4, cells := 0, slots := 0, locals := 160 }) (cP D cY [.ref (a 0), .int x] [mO a (nI n) (nI k) th] sz) (qI (S := Unit) D cY (fun r u => r = nI 0) (fun u => [mO a (nI n) (nI k) (nI 1)]) (va_A ([mO a (nI n) (nI k) th] : List va_W).flatten sz)) 0 0 (va_A ([mO a (nI n) (nI k) th] : List va_W).flatten sz) := by
  refine mtB (Qc := fun A => qI (S := Unit) D cY (fun r u => r = nI 0) (fun u => [mO a (nI n) (nI k) (nI 1)]) A) (cc := cX9_mixing) (maxL := 4) (ret := (some .int)) (by decide) rfl (Nat.le_of_ble_eq_true rfl) ?_
  intro p e s m below meth c A ls hx hb hr hml hts hown hlocks hnm hsz hP hK hVK hD hS hA hl
  have hown : s.vm.findClass RX9 = some m.cls := hown
  have hl : lv_has ls 4 [(0, .ref (a 0)), (1, .int x)] := hl
  have hP : va_P D vwCl ([mO a (nI n) (nI k) th] : List va_W).flatten s.heap := hP
  have hD : va_D A ([mO a (nI n) (nI k) th] : List va_W).flatten := hD
  refine lv_aload_n hx hb dX9_mixing_0 rfl (lv_at hl 0 rfl) ?_
  refine lv_iload_n hx hb dX9_mixing_1 rfl (lv_at hl 1 rfl) ?_
  refine lv_iconst (v := nI 0) hx hb dX9_mixing_2 (by decide) ?_
  refine lv_sipush (v := nI 1000) hx hb dX9_mixing_3 (by decide) ?_
  refine ca_i (CL := []) (va_runS (As := [.int x, .int (nI 0), .int (nI 1000)]) (rest := [.ref (a 0)]) ⟨hx, hb, hml, hown, hts⟩ (c_X9_isIn l D cY s.heap.size x (nI 0) (nI 1000)) (va_cwS 3 hts gX9_mixing_X9_isIn rfl rfl rfl (by decide +kernel) ⟨Nat.le_of_ble_eq_true rfl, Nat.le_of_ble_eq_true rfl⟩) (b_preS hVK hP hD [] rfl rfl) rfl rfl hl.1 rfl (lv_room (Nat.le_of_ble_eq_true rfl)) dX9_mixing_6 ⟨Nat.le_refl _, Nat.le_refl _⟩) hP hD hS hA [] rfl rfl (fun _ => rfl) (fun r6 uu H locs hq hP hD hS => ?_)
  subst hq
  have hP : va_P D vwCl ([mO a (nI n) (nI k) th] : List va_W).flatten H := hP
  have hD : va_D A ([mO a (nI n) (nI k) th] : List va_W).flatten := hD
  refine b_if_eq (tgt := 16) hx hb dX9_mixing_9 (by decide) (fun h9 => ?_) (fun h9 => ?_)
  · -- t
    refine lv_iconst (v := nI 1) hx hb dX9_mixing_16 (by decide) ?_
    refine ca_i (CL := [mO a (nI n) (nI k) th]) (va_runV (As := [.int (nI 1)]) (rest := []) ⟨hx, hb, hml, hown, hts⟩ (c_X9_can l D cY H.size a n k th 1 (by omega)) (cwV 1 hts gX9_mixing_X9_can rfl rfl rfl (by decide +kernel) ⟨Nat.le_of_ble_eq_true rfl, Nat.le_of_ble_eq_true rfl⟩) (b_preV hVK hP hD [0] rfl rfl 0 rfl rfl) rfl rfl hl.1 rfl (lv_room (Nat.le_of_ble_eq_true rfl)) dX9_mixing_17 ⟨Nat.le_refl _, Nat.le_refl _⟩) hP hD hS hA [0] rfl rfl (fun _ => rfl) (fun r17 uu H locs hq hP hD hS => ?_)
    subst hq
    have hP : va_P D vwCl ([mO a (nI n) (nI k) (nI 1)] : List va_W).flatten H := hP
    have hD : va_D A ([mO a (nI n) (nI k) (nI 1)] : List va_W).flatten := hD
    refine b_if_ne (tgt := 25) hx hb dX9_mixing_20 (by decide) (fun h20 => ?_) (fun h20 => ?_)
    · -- t
      exact absurd h20 (by decide)
    · -- f
      refine lv_iconst (v := nI 0) hx hb dX9_mixing_23 (by decide) ?_
      exact r_i hx hb hr hlocks hP hD hS () rfl (rfl) dX9_mixing_24
  · -- f
    exact absurd (h9.symm.trans hbad) (by decide)

set_option maxHeartbeats 4000000 in
set_option maxRecDepth 100000 in
theorem c_X9_draw_bad (l : Launch) (D : va_G) (cY : Nat → ClassId) (sz : Nat) (a : Nat → Nat) (n : Nat) (k : Nat) (th : Int32) (x : Int32) (hn1 : 1 ≤ n) (hn6 : n ≤ 6) (hk1 : 1 ≤ k) (hk12 : k ≤ 12) (hbad : inR x (nI 0) (nI 65520) = false) : Met l yX9_draw wsX9_draw ({ frames := 2, cells := 0, slots := 0, locals := 80 }) (cP D cY [.ref (a 0), .int x] [mO a (nI n) (nI k) th] sz) (qI (S := Unit) D cY (fun r u => r = nI 0) (fun u => [mO a (nI n) (nI k) (nI 1)]) (va_A ([mO a (nI n) (nI k) th] : List va_W).flatten sz)) 0 0 (va_A ([mO a (nI n) (nI k) th] : List va_W).flatten sz) := by
  refine mtB (Qc := fun A => qI (S := Unit) D cY (fun r u => r = nI 0) (fun u => [mO a (nI n) (nI k) (nI 1)]) A) (cc := cX9_draw) (maxL := 5) (ret := (some .int)) (by decide) rfl (Nat.le_of_ble_eq_true rfl) ?_
  intro p e s m below meth c A ls hx hb hr hml hts hown hlocks hnm hsz hP hK hVK hD hS hA hl
  have hown : s.vm.findClass RX9 = some m.cls := hown
  have hl : lv_has ls 5 [(0, .ref (a 0)), (1, .int x)] := hl
  have hP : va_P D vwCl ([mO a (nI n) (nI k) th] : List va_W).flatten s.heap := hP
  have hD : va_D A ([mO a (nI n) (nI k) th] : List va_W).flatten := hD
  refine lv_aload_n hx hb dX9_draw_0 rfl (lv_at hl 0 rfl) ?_
  refine lv_iload_n hx hb dX9_draw_1 rfl (lv_at hl 1 rfl) ?_
  refine ca_i (CL := []) (va_runS (As := [.int x]) (rest := [.ref (a 0)]) ⟨hx, hb, hml, hown, hts⟩ (c_X9_isSeed l D cY s.heap.size x) (va_cwS 1 hts gX9_draw_X9_isSeed rfl rfl rfl (by decide +kernel) ⟨Nat.le_of_ble_eq_true rfl, Nat.le_of_ble_eq_true rfl⟩) (b_preS hVK hP hD [] rfl rfl) rfl rfl hl.1 rfl (lv_room (Nat.le_of_ble_eq_true rfl)) dX9_draw_2 ⟨Nat.le_refl _, Nat.le_refl _⟩) hP hD hS hA [] rfl rfl (fun _ => rfl) (fun r2 uu H locs hq hP hD hS => ?_)
  subst hq
  have hP : va_P D vwCl ([mO a (nI n) (nI k) th] : List va_W).flatten H := hP
  have hD : va_D A ([mO a (nI n) (nI k) th] : List va_W).flatten := hD
  refine b_if_eq (tgt := 12) hx hb dX9_draw_5 (by decide) (fun h5 => ?_) (fun h5 => ?_)
  · -- t
    refine lv_iconst (v := nI 1) hx hb dX9_draw_12 (by decide) ?_
    refine ca_i (CL := [mO a (nI n) (nI k) th]) (va_runV (As := [.int (nI 1)]) (rest := []) ⟨hx, hb, hml, hown, hts⟩ (c_X9_can l D cY H.size a n k th 1 (by omega)) (cwV 1 hts gX9_draw_X9_can rfl rfl rfl (by decide +kernel) ⟨Nat.le_of_ble_eq_true rfl, Nat.le_of_ble_eq_true rfl⟩) (b_preV hVK hP hD [0] rfl rfl 0 rfl rfl) rfl rfl hl.1 rfl (lv_room (Nat.le_of_ble_eq_true rfl)) dX9_draw_13 ⟨Nat.le_refl _, Nat.le_refl _⟩) hP hD hS hA [0] rfl rfl (fun _ => rfl) (fun r13 uu H locs hq hP hD hS => ?_)
    subst hq
    have hP : va_P D vwCl ([mO a (nI n) (nI k) (nI 1)] : List va_W).flatten H := hP
    have hD : va_D A ([mO a (nI n) (nI k) (nI 1)] : List va_W).flatten := hD
    refine b_if_ne (tgt := 21) hx hb dX9_draw_16 (by decide) (fun h16 => ?_) (fun h16 => ?_)
    · -- t
      exact absurd h16 (by decide)
    · -- f
      refine lv_iconst (v := nI 0) hx hb dX9_draw_19 (by decide) ?_
      exact r_i hx hb hr hlocks hP hD hS () rfl (rfl) dX9_draw_20
  · -- f
    exact absurd (h5.symm.trans hbad) (by decide)

set_option maxHeartbeats 4000000 in
set_option maxRecDepth 100000 in
theorem c_X9_walk_b1 (l : Launch) (D : va_G) (cY : Nat → ClassId) (sz : Nat) (a : Nat → Nat) (n : Nat) (k : Nat) (th : Int32) (x : Int32) (y : Int32) (z : Int32) (hn1 : 1 ≤ n) (hn6 : n ≤ 6) (hk1 : 1 ≤ k) (hk12 : k ≤ 12) (hbad : inR x (nI 0) (nI (n - 1)) = false) : Met l yX9_walk wsX9_walk ({ frames := 2, cells := 0, slots := 0, locals := 80 }) (cP D cY [.ref (a 0), .int x, .int y, .int z] [mO a (nI n) (nI k) th] sz) (qI (S := Unit) D cY (fun r u => r = nI 0) (fun u => [mO a (nI n) (nI k) (nI 1)]) (va_A ([mO a (nI n) (nI k) th] : List va_W).flatten sz)) 0 0 (va_A ([mO a (nI n) (nI k) th] : List va_W).flatten sz) := by
  refine mtB (Qc := fun A => qI (S := Unit) D cY (fun r u => r = nI 0) (fun u => [mO a (nI n) (nI k) (nI 1)]) A) (cc := cX9_walk) (maxL := 7) (ret := (some .int)) (by decide) rfl (Nat.le_of_ble_eq_true rfl) ?_
  intro p e s m below meth c A ls hx hb hr hml hts hown hlocks hnm hsz hP hK hVK hD hS hA hl
  have hown : s.vm.findClass RX9 = some m.cls := hown
  have hl : lv_has ls 7 [(0, .ref (a 0)), (1, .int x), (2, .int y), (3, .int z)] := hl
  have hP : va_P D vwCl ([mO a (nI n) (nI k) th] : List va_W).flatten s.heap := hP
  have hD : va_D A ([mO a (nI n) (nI k) th] : List va_W).flatten := hD
  refine lv_aload_n hx hb dX9_walk_0 rfl (lv_at hl 0 rfl) ?_
  refine lv_aload_n hx hb dX9_walk_1 rfl (lv_at hl 0 rfl) ?_
  refine lv_iload_n hx hb dX9_walk_2 rfl (lv_at hl 1 rfl) ?_
  refine ca_i (CL := [mO a (nI n) (nI k) th]) (va_runV (As := [.int x]) (rest := [.ref (a 0)]) ⟨hx, hb, hml, hown, hts⟩ (c_X9_isState l D cY s.heap.size a n k th x (by omega)) (cwV 1 hts gX9_walk_X9_isState rfl rfl rfl (by decide +kernel) ⟨Nat.le_of_ble_eq_true rfl, Nat.le_of_ble_eq_true rfl⟩) (b_preV hVK hP hD [0] rfl rfl 0 rfl rfl) rfl rfl hl.1 rfl (lv_room (Nat.le_of_ble_eq_true rfl)) dX9_walk_3 ⟨Nat.le_refl _, Nat.le_refl _⟩) hP hD hS hA [0] rfl rfl (fun _ => rfl) (fun r3 uu H locs hq hP hD hS => ?_)
  subst hq
  have hP : va_P D vwCl ([mO a (nI n) (nI k) th] : List va_W).flatten H := hP
  have hD : va_D A ([mO a (nI n) (nI k) th] : List va_W).flatten := hD
  refine b_if_ne (tgt := 13) hx hb dX9_walk_6 (by decide) (fun h6 => ?_) (fun h6 => ?_)
  · -- t
    exact absurd (h6.symm.trans hbad) (by decide)
  · -- f
    refine lv_iconst (v := nI 1) hx hb dX9_walk_9 (by decide) ?_
    refine lv_goto (tgt := 36) hx hb dX9_walk_10 (by decide) ?_
    refine ca_i (CL := [mO a (nI n) (nI k) th]) (va_runV (As := [.int (nI 1)]) (rest := []) ⟨hx, hb, hml, hown, hts⟩ (c_X9_can l D cY H.size a n k th 1 (by omega)) (cwV 1 hts gX9_walk_X9_can rfl rfl rfl (by decide +kernel) ⟨Nat.le_of_ble_eq_true rfl, Nat.le_of_ble_eq_true rfl⟩) (b_preV hVK hP hD [0] rfl rfl 0 rfl rfl) rfl rfl hl.1 rfl (lv_room (Nat.le_of_ble_eq_true rfl)) dX9_walk_36 ⟨Nat.le_refl _, Nat.le_refl _⟩) hP hD hS hA [0] rfl rfl (fun _ => rfl) (fun r36 uu H locs hq hP hD hS => ?_)
    subst hq
    have hP : va_P D vwCl ([mO a (nI n) (nI k) (nI 1)] : List va_W).flatten H := hP
    have hD : va_D A ([mO a (nI n) (nI k) (nI 1)] : List va_W).flatten := hD
    refine b_if_ne (tgt := 44) hx hb dX9_walk_39 (by decide) (fun h39 => ?_) (fun h39 => ?_)
    · -- t
      exact absurd h39 (by decide)
    · -- f
      refine lv_iconst (v := nI 0) hx hb dX9_walk_42 (by decide) ?_
      exact r_i hx hb hr hlocks hP hD hS () rfl (rfl) dX9_walk_43

set_option maxHeartbeats 4000000 in
set_option maxRecDepth 100000 in
theorem c_X9_walk_b2 (l : Launch) (D : va_G) (cY : Nat → ClassId) (sz : Nat) (a : Nat → Nat) (n : Nat) (k : Nat) (th : Int32) (x : Int32) (y : Int32) (z : Int32) (hn1 : 1 ≤ n) (hn6 : n ≤ 6) (hk1 : 1 ≤ k) (hk12 : k ≤ 12) (hAa : inR x (nI 0) (nI (n - 1)) = true) (hbad : (inR y (nI 0) (nI 65520) && inR z (nI 0) (nI 1000)) = false) : Met l yX9_walk wsX9_walk ({ frames := 2, cells := 0, slots := 0, locals := 80 }) (cP D cY [.ref (a 0), .int x, .int y, .int z] [mO a (nI n) (nI k) th] sz) (qI (S := Unit) D cY (fun r u => r = nI 0) (fun u => [mO a (nI n) (nI k) (nI 2)]) (va_A ([mO a (nI n) (nI k) th] : List va_W).flatten sz)) 0 0 (va_A ([mO a (nI n) (nI k) th] : List va_W).flatten sz) := by
  refine mtB (Qc := fun A => qI (S := Unit) D cY (fun r u => r = nI 0) (fun u => [mO a (nI n) (nI k) (nI 2)]) A) (cc := cX9_walk) (maxL := 7) (ret := (some .int)) (by decide) rfl (Nat.le_of_ble_eq_true rfl) ?_
  intro p e s m below meth c A ls hx hb hr hml hts hown hlocks hnm hsz hP hK hVK hD hS hA hl
  have hown : s.vm.findClass RX9 = some m.cls := hown
  have hl : lv_has ls 7 [(0, .ref (a 0)), (1, .int x), (2, .int y), (3, .int z)] := hl
  have hP : va_P D vwCl ([mO a (nI n) (nI k) th] : List va_W).flatten s.heap := hP
  have hD : va_D A ([mO a (nI n) (nI k) th] : List va_W).flatten := hD
  refine lv_aload_n hx hb dX9_walk_0 rfl (lv_at hl 0 rfl) ?_
  refine lv_aload_n hx hb dX9_walk_1 rfl (lv_at hl 0 rfl) ?_
  refine lv_iload_n hx hb dX9_walk_2 rfl (lv_at hl 1 rfl) ?_
  refine ca_i (CL := [mO a (nI n) (nI k) th]) (va_runV (As := [.int x]) (rest := [.ref (a 0)]) ⟨hx, hb, hml, hown, hts⟩ (c_X9_isState l D cY s.heap.size a n k th x (by omega)) (cwV 1 hts gX9_walk_X9_isState rfl rfl rfl (by decide +kernel) ⟨Nat.le_of_ble_eq_true rfl, Nat.le_of_ble_eq_true rfl⟩) (b_preV hVK hP hD [0] rfl rfl 0 rfl rfl) rfl rfl hl.1 rfl (lv_room (Nat.le_of_ble_eq_true rfl)) dX9_walk_3 ⟨Nat.le_refl _, Nat.le_refl _⟩) hP hD hS hA [0] rfl rfl (fun _ => rfl) (fun r3 uu H locs hq hP hD hS => ?_)
  subst hq
  have hP : va_P D vwCl ([mO a (nI n) (nI k) th] : List va_W).flatten H := hP
  have hD : va_D A ([mO a (nI n) (nI k) th] : List va_W).flatten := hD
  refine b_if_ne (tgt := 13) hx hb dX9_walk_6 (by decide) (fun h6 => ?_) (fun h6 => ?_)
  · -- t
    refine lv_iload_n hx hb dX9_walk_13 rfl (lv_at hl 2 rfl) ?_
    refine ca_i (CL := []) (va_runS (As := [.int y]) (rest := [.ref (a 0)]) ⟨hx, hb, hml, hown, hts⟩ (c_X9_isSeed l D cY H.size y) (va_cwS 1 hts gX9_walk_X9_isSeed rfl rfl rfl (by decide +kernel) ⟨Nat.le_of_ble_eq_true rfl, Nat.le_of_ble_eq_true rfl⟩) (b_preS hVK hP hD [] rfl rfl) rfl rfl hl.1 rfl (lv_room (Nat.le_of_ble_eq_true rfl)) dX9_walk_14 ⟨Nat.le_refl _, Nat.le_refl _⟩) hP hD hS hA [] rfl rfl (fun _ => rfl) (fun r14 uu H locs hq hP hD hS => ?_)
    subst hq
    have hP : va_P D vwCl ([mO a (nI n) (nI k) th] : List va_W).flatten H := hP
    have hD : va_D A ([mO a (nI n) (nI k) th] : List va_W).flatten := hD
    refine b_if_eq (tgt := 35) hx hb dX9_walk_17 (by decide) (fun h17 => ?_) (fun h17 => ?_)
    · -- t
      refine lv_iconst (v := nI 2) hx hb dX9_walk_35 (by decide) ?_
      refine ca_i (CL := [mO a (nI n) (nI k) th]) (va_runV (As := [.int (nI 2)]) (rest := []) ⟨hx, hb, hml, hown, hts⟩ (c_X9_can l D cY H.size a n k th 2 (by omega)) (cwV 1 hts gX9_walk_X9_can rfl rfl rfl (by decide +kernel) ⟨Nat.le_of_ble_eq_true rfl, Nat.le_of_ble_eq_true rfl⟩) (b_preV hVK hP hD [0] rfl rfl 0 rfl rfl) rfl rfl hl.1 rfl (lv_room (Nat.le_of_ble_eq_true rfl)) dX9_walk_36 ⟨Nat.le_refl _, Nat.le_refl _⟩) hP hD hS hA [0] rfl rfl (fun _ => rfl) (fun r36 uu H locs hq hP hD hS => ?_)
      subst hq
      have hP : va_P D vwCl ([mO a (nI n) (nI k) (nI 2)] : List va_W).flatten H := hP
      have hD : va_D A ([mO a (nI n) (nI k) (nI 2)] : List va_W).flatten := hD
      refine b_if_ne (tgt := 44) hx hb dX9_walk_39 (by decide) (fun h39 => ?_) (fun h39 => ?_)
      · -- t
        exact absurd h39 (by decide)
      · -- f
        refine lv_iconst (v := nI 0) hx hb dX9_walk_42 (by decide) ?_
        exact r_i hx hb hr hlocks hP hD hS () rfl (rfl) dX9_walk_43
    · -- f
      refine lv_iload_n hx hb dX9_walk_20 rfl (lv_at hl 3 rfl) ?_
      refine lv_iconst (v := nI 0) hx hb dX9_walk_21 (by decide) ?_
      refine lv_sipush (v := nI 1000) hx hb dX9_walk_22 (by decide) ?_
      refine ca_i (CL := []) (va_runS (As := [.int z, .int (nI 0), .int (nI 1000)]) (rest := [.ref (a 0)]) ⟨hx, hb, hml, hown, hts⟩ (c_X9_isIn l D cY H.size z (nI 0) (nI 1000)) (va_cwS 3 hts gX9_walk_X9_isIn rfl rfl rfl (by decide +kernel) ⟨Nat.le_of_ble_eq_true rfl, Nat.le_of_ble_eq_true rfl⟩) (b_preS hVK hP hD [] rfl rfl) rfl rfl hl.1 rfl (lv_room (Nat.le_of_ble_eq_true rfl)) dX9_walk_25 ⟨Nat.le_refl _, Nat.le_refl _⟩) hP hD hS hA [] rfl rfl (fun _ => rfl) (fun r25 uu H locs hq hP hD hS => ?_)
      subst hq
      have hP : va_P D vwCl ([mO a (nI n) (nI k) th] : List va_W).flatten H := hP
      have hD : va_D A ([mO a (nI n) (nI k) th] : List va_W).flatten := hD
      refine b_if_eq (tgt := 35) hx hb dX9_walk_28 (by decide) (fun h28 => ?_) (fun h28 => ?_)
      · -- t
        refine lv_iconst (v := nI 2) hx hb dX9_walk_35 (by decide) ?_
        refine ca_i (CL := [mO a (nI n) (nI k) th]) (va_runV (As := [.int (nI 2)]) (rest := []) ⟨hx, hb, hml, hown, hts⟩ (c_X9_can l D cY H.size a n k th 2 (by omega)) (cwV 1 hts gX9_walk_X9_can rfl rfl rfl (by decide +kernel) ⟨Nat.le_of_ble_eq_true rfl, Nat.le_of_ble_eq_true rfl⟩) (b_preV hVK hP hD [0] rfl rfl 0 rfl rfl) rfl rfl hl.1 rfl (lv_room (Nat.le_of_ble_eq_true rfl)) dX9_walk_36 ⟨Nat.le_refl _, Nat.le_refl _⟩) hP hD hS hA [0] rfl rfl (fun _ => rfl) (fun r36 uu H locs hq hP hD hS => ?_)
        subst hq
        have hP : va_P D vwCl ([mO a (nI n) (nI k) (nI 2)] : List va_W).flatten H := hP
        have hD : va_D A ([mO a (nI n) (nI k) (nI 2)] : List va_W).flatten := hD
        refine b_if_ne (tgt := 44) hx hb dX9_walk_39 (by decide) (fun h39 => ?_) (fun h39 => ?_)
        · -- t
          exact absurd h39 (by decide)
        · -- f
          refine lv_iconst (v := nI 0) hx hb dX9_walk_42 (by decide) ?_
          exact r_i hx hb hr hlocks hP hD hS () rfl (rfl) dX9_walk_43
      · -- f
        exact (b2 hbad h17 h28).elim
  · -- f
    exact absurd (h6.symm.trans hAa) (by decide)

set_option maxHeartbeats 4000000 in
set_option maxRecDepth 100000 in
theorem c_X9_rest_all (l : Launch) (D : va_G) (cY : Nat → ClassId) (sz : Nat) (a : Nat → Nat) (n : Nat) (k : Nat) (th : Int32) (fto : Nat → Int32) (fmnr : Nat → Int64) (fwts : Nat → Int64) (g : Nat → Nat → Nat) (hn1 : 1 ≤ n) (hn6 : n ≤ 6) (hk1 : 1 ≤ k) (hk12 : k ≤ 12) (hG : ∀ i j, i < n → j < k → fto (12 * i + j) = nI (g i j)) (hgn : ∀ i j, i < n → j < k → g i j < n) : Met l yX9_rest wsX9_rest ({ frames := 5, cells := 0, slots := 0, locals := 200 }) (cP D cY [.ref (a 0), .int (-1)] [mO a (nI n) (nI k) th, [(a 1, .inl (cY 0, 72, .inl fto))], [(a 7, .inl (cY 1, 32, .inr (.inl fmnr)))], [(a 8, .inl (cY 1, 25, .inr (.inl fwts)))]] sz) (qL (S := (Nat → Int64) × (Nat → Int64)) D cY (fun r u => r = WR g n k) (fun u => [mO a (nI n) (nI k) (nI 0), [(a 1, .inl (cY 0, 72, .inl fto))], [(a 7, .inl (cY 1, 32, .inr (.inl u.1)))], [(a 8, .inl (cY 1, 25, .inr (.inl u.2)))]]) (va_A ([mO a (nI n) (nI k) th, [(a 1, .inl (cY 0, 72, .inl fto))], [(a 7, .inl (cY 1, 32, .inr (.inl fmnr)))], [(a 8, .inl (cY 1, 25, .inr (.inl fwts)))]] : List va_W).flatten sz)) 0 0 (va_A ([mO a (nI n) (nI k) th, [(a 1, .inl (cY 0, 72, .inl fto))], [(a 7, .inl (cY 1, 32, .inr (.inl fmnr)))], [(a 8, .inl (cY 1, 25, .inr (.inl fwts)))]] : List va_W).flatten sz) := by
  refine mtB (Qc := fun A => qL (S := (Nat → Int64) × (Nat → Int64)) D cY (fun r u => r = WR g n k) (fun u => [mO a (nI n) (nI k) (nI 0), [(a 1, .inl (cY 0, 72, .inl fto))], [(a 7, .inl (cY 1, 32, .inr (.inl u.1)))], [(a 8, .inl (cY 1, 25, .inr (.inl u.2)))]]) A) (cc := cX9_rest) (maxL := 2) (ret := (some .long)) (by decide) rfl (Nat.le_of_ble_eq_true rfl) ?_
  intro p e s m below meth c A ls hx hb hr hml hts hown hlocks hnm hsz hP hK hVK hD hS hA hl
  have hown : s.vm.findClass RX9 = some m.cls := hown
  have hl : lv_has ls 2 [(0, .ref (a 0)), (1, .int (-1))] := hl
  have hP : va_P D vwCl ([mO a (nI n) (nI k) th, [(a 1, .inl (cY 0, 72, .inl fto))], [(a 7, .inl (cY 1, 32, .inr (.inl fmnr)))], [(a 8, .inl (cY 1, 25, .inr (.inl fwts)))]] : List va_W).flatten s.heap := hP
  have hD : va_D A ([mO a (nI n) (nI k) th, [(a 1, .inl (cY 0, 72, .inl fto))], [(a 7, .inl (cY 1, 32, .inr (.inl fmnr)))], [(a 8, .inl (cY 1, 25, .inr (.inl fwts)))]] : List va_W).flatten := hD
  refine lv_aload_n hx hb dX9_rest_0 rfl (lv_at hl 0 rfl) ?_
  refine lv_iload_n hx hb dX9_rest_1 rfl (lv_at hl 1 rfl) ?_
  refine lv_iconst (v := (-1)) hx hb dX9_rest_2 (by decide) ?_
  refine lv_icmp_eq (tgt := 14) hx hb dX9_rest_3 (by decide) (fun h3 => ?_) (fun h3 => ?_)
  · -- t
    refine lv_iconst (v := nI 0) hx hb dX9_rest_14 (by decide) ?_
    refine lv_goto (tgt := 19) hx hb dX9_rest_15 (by decide) ?_
    refine ca_i (CL := [mO a (nI n) (nI k) th]) (va_runV (As := [.int (nI 0)]) (rest := []) ⟨hx, hb, hml, hown, hts⟩ (c_X9_can l D cY s.heap.size a n k th 0 (by omega)) (cwV 1 hts gX9_rest_X9_can rfl rfl rfl (by decide +kernel) ⟨Nat.le_of_ble_eq_true rfl, Nat.le_of_ble_eq_true rfl⟩) (b_preV hVK hP hD [0] rfl rfl 0 rfl rfl) rfl rfl hl.1 rfl (lv_room (Nat.le_of_ble_eq_true rfl)) dX9_rest_19 ⟨Nat.le_refl _, Nat.le_refl _⟩) hP hD hS hA [0] rfl rfl (fun _ => rfl) (fun r19 uu H locs hq hP hD hS => ?_)
    subst hq
    have hP : va_P D vwCl ([mO a (nI n) (nI k) (nI 0), [(a 1, .inl (cY 0, 72, .inl fto))], [(a 7, .inl (cY 1, 32, .inr (.inl fmnr)))], [(a 8, .inl (cY 1, 25, .inr (.inl fwts)))]] : List va_W).flatten H := hP
    have hD : va_D A ([mO a (nI n) (nI k) (nI 0), [(a 1, .inl (cY 0, 72, .inl fto))], [(a 7, .inl (cY 1, 32, .inr (.inl fmnr)))], [(a 8, .inl (cY 1, 25, .inr (.inl fwts)))]] : List va_W).flatten := hD
    refine b_if_eq (tgt := 45) hx hb dX9_rest_22 (by decide) (fun h22 => ?_) (fun h22 => ?_)
    · -- t
      exact absurd h22 (by decide)
    · -- f
      refine lv_iload_n hx hb dX9_rest_25 rfl (lv_at hl 1 rfl) ?_
      refine lv_iconst (v := (-1)) hx hb dX9_rest_26 (by decide) ?_
      refine lv_icmp_ne (tgt := 37) hx hb dX9_rest_27 (by decide) (fun h27 => ?_) (fun h27 => ?_)
      · -- t
        exact absurd rfl h27
      · -- f
        refine lv_aload_n hx hb dX9_rest_30 rfl (lv_at hl 0 rfl) ?_
        refine ca_l (CL := [mO a (nI n) (nI k) (nI 0), [(a 1, .inl (cY 0, 72, .inl fto))], [(a 7, .inl (cY 1, 32, .inr (.inl fmnr)))], [(a 8, .inl (cY 1, 25, .inr (.inl fwts)))]]) (va_runV (As := []) (rest := []) ⟨hx, hb, hml, hown, hts⟩ (c_X9_wholeRest l D cY H.size a n k (nI 0) fto fmnr fwts g (by omega) (by omega) (by omega) (by omega) hG hgn) (cwV 0 hts gX9_rest_X9_wholeRest rfl rfl rfl (by decide +kernel) ⟨Nat.le_of_ble_eq_true rfl, Nat.le_of_ble_eq_true rfl⟩) (b_preV hVK hP hD [0, 1, 2, 3] rfl rfl 0 rfl rfl) rfl rfl hl.1 rfl (lv_room (Nat.le_of_ble_eq_true rfl)) dX9_rest_31 ⟨Nat.le_refl _, Nat.le_refl _⟩) hP hD hS hA [0, 1, 2, 3] rfl rfl (fun _ => rfl) (fun r31 uu H locs hq hP hD hS => ?_)
        obtain ⟨fmnr1_1, fwts1_2⟩ := uu
        try dsimp only at hq
        subst hq
        have hP : va_P D vwCl ([mO a (nI n) (nI k) (nI 0), [(a 1, .inl (cY 0, 72, .inl fto))], [(a 7, .inl (cY 1, 32, .inr (.inl fmnr1_1)))], [(a 8, .inl (cY 1, 25, .inr (.inl fwts1_2)))]] : List va_W).flatten H := hP
        have hD : va_D A ([mO a (nI n) (nI k) (nI 0), [(a 1, .inl (cY 0, 72, .inl fto))], [(a 7, .inl (cY 1, 32, .inr (.inl fmnr1_1)))], [(a 8, .inl (cY 1, 25, .inr (.inl fwts1_2)))]] : List va_W).flatten := hD
        refine lv_goto (tgt := 46) hx hb dX9_rest_34 (by decide) ?_
        exact r_l hx hb hr hlocks hP hD hS (fmnr1_1, fwts1_2) rfl (rfl) dX9_rest_46
  · -- f
    exact absurd rfl h3

set_option maxHeartbeats 4000000 in
set_option maxRecDepth 100000 in
theorem c_X9_rest_ok (l : Launch) (D : va_G) (cY : Nat → ClassId) (sz : Nat) (a : Nat → Nat) (n : Nat) (k : Nat) (th : Int32) (fto : Nat → Int32) (fmnr : Nat → Int64) (fwts : Nat → Int64) (g : Nat → Nat → Nat) (i : Nat) (hn1 : 1 ≤ n) (hn6 : n ≤ 6) (hk1 : 1 ≤ k) (hk12 : k ≤ 12) (hG : ∀ i j, i < n → j < k → fto (12 * i + j) = nI (g i j)) (hgn : ∀ i j, i < n → j < k → g i j < n) (hi : i < n) : Met l yX9_rest wsX9_rest ({ frames := 5, cells := 0, slots := 0, locals := 200 }) (cP D cY [.ref (a 0), .int (nI i)] [mO a (nI n) (nI k) th, [(a 1, .inl (cY 0, 72, .inl fto))], [(a 7, .inl (cY 1, 32, .inr (.inl fmnr)))], [(a 8, .inl (cY 1, 25, .inr (.inl fwts)))]] sz) (qL (S := (Nat → Int64) × (Nat → Int64)) D cY (fun r u => r = RV g n k i) (fun u => [mO a (nI n) (nI k) (nI 0), [(a 1, .inl (cY 0, 72, .inl fto))], [(a 7, .inl (cY 1, 32, .inr (.inl u.1)))], [(a 8, .inl (cY 1, 25, .inr (.inl u.2)))]]) (va_A ([mO a (nI n) (nI k) th, [(a 1, .inl (cY 0, 72, .inl fto))], [(a 7, .inl (cY 1, 32, .inr (.inl fmnr)))], [(a 8, .inl (cY 1, 25, .inr (.inl fwts)))]] : List va_W).flatten sz)) 0 0 (va_A ([mO a (nI n) (nI k) th, [(a 1, .inl (cY 0, 72, .inl fto))], [(a 7, .inl (cY 1, 32, .inr (.inl fmnr)))], [(a 8, .inl (cY 1, 25, .inr (.inl fwts)))]] : List va_W).flatten sz) := by
  refine mtB (Qc := fun A => qL (S := (Nat → Int64) × (Nat → Int64)) D cY (fun r u => r = RV g n k i) (fun u => [mO a (nI n) (nI k) (nI 0), [(a 1, .inl (cY 0, 72, .inl fto))], [(a 7, .inl (cY 1, 32, .inr (.inl u.1)))], [(a 8, .inl (cY 1, 25, .inr (.inl u.2)))]]) A) (cc := cX9_rest) (maxL := 2) (ret := (some .long)) (by decide) rfl (Nat.le_of_ble_eq_true rfl) ?_
  intro p e s m below meth c A ls hx hb hr hml hts hown hlocks hnm hsz hP hK hVK hD hS hA hl
  have hown : s.vm.findClass RX9 = some m.cls := hown
  have hl : lv_has ls 2 [(0, .ref (a 0)), (1, .int (nI i))] := hl
  have hP : va_P D vwCl ([mO a (nI n) (nI k) th, [(a 1, .inl (cY 0, 72, .inl fto))], [(a 7, .inl (cY 1, 32, .inr (.inl fmnr)))], [(a 8, .inl (cY 1, 25, .inr (.inl fwts)))]] : List va_W).flatten s.heap := hP
  have hD : va_D A ([mO a (nI n) (nI k) th, [(a 1, .inl (cY 0, 72, .inl fto))], [(a 7, .inl (cY 1, 32, .inr (.inl fmnr)))], [(a 8, .inl (cY 1, 25, .inr (.inl fwts)))]] : List va_W).flatten := hD
  have hAa : inR (nI i) (nI 0) (nI (n - 1)) = true := inR_t (by omega) (by omega) (by omega)
  have hm1 := nI_nm1 i (by omega)
  refine lv_aload_n hx hb dX9_rest_0 rfl (lv_at hl 0 rfl) ?_
  refine lv_iload_n hx hb dX9_rest_1 rfl (lv_at hl 1 rfl) ?_
  refine lv_iconst (v := (-1)) hx hb dX9_rest_2 (by decide) ?_
  refine lv_icmp_eq (tgt := 14) hx hb dX9_rest_3 (by decide) (fun h3 => ?_) (fun h3 => ?_)
  · -- t
    exact absurd h3 hm1
  · -- f
    refine lv_aload_n hx hb dX9_rest_6 rfl (lv_at hl 0 rfl) ?_
    refine lv_iload_n hx hb dX9_rest_7 rfl (lv_at hl 1 rfl) ?_
    refine ca_i (CL := [mO a (nI n) (nI k) th]) (va_runV (As := [.int (nI i)]) (rest := [.ref (a 0)]) ⟨hx, hb, hml, hown, hts⟩ (c_X9_isState l D cY s.heap.size a n k th (nI i) (by omega)) (cwV 1 hts gX9_rest_X9_isState rfl rfl rfl (by decide +kernel) ⟨Nat.le_of_ble_eq_true rfl, Nat.le_of_ble_eq_true rfl⟩) (b_preV hVK hP hD [0] rfl rfl 0 rfl rfl) rfl rfl hl.1 rfl (lv_room (Nat.le_of_ble_eq_true rfl)) dX9_rest_8 ⟨Nat.le_refl _, Nat.le_refl _⟩) hP hD hS hA [0] rfl rfl (fun _ => rfl) (fun r8 uu H locs hq hP hD hS => ?_)
    subst hq
    have hP : va_P D vwCl ([mO a (nI n) (nI k) th, [(a 1, .inl (cY 0, 72, .inl fto))], [(a 7, .inl (cY 1, 32, .inr (.inl fmnr)))], [(a 8, .inl (cY 1, 25, .inr (.inl fwts)))]] : List va_W).flatten H := hP
    have hD : va_D A ([mO a (nI n) (nI k) th, [(a 1, .inl (cY 0, 72, .inl fto))], [(a 7, .inl (cY 1, 32, .inr (.inl fmnr)))], [(a 8, .inl (cY 1, 25, .inr (.inl fwts)))]] : List va_W).flatten := hD
    refine b_if_eq (tgt := 18) hx hb dX9_rest_11 (by decide) (fun h11 => ?_) (fun h11 => ?_)
    · -- t
      exact absurd (h11.symm.trans hAa) (by decide)
    · -- f
      refine lv_iconst (v := nI 0) hx hb dX9_rest_14 (by decide) ?_
      refine lv_goto (tgt := 19) hx hb dX9_rest_15 (by decide) ?_
      refine ca_i (CL := [mO a (nI n) (nI k) th]) (va_runV (As := [.int (nI 0)]) (rest := []) ⟨hx, hb, hml, hown, hts⟩ (c_X9_can l D cY H.size a n k th 0 (by omega)) (cwV 1 hts gX9_rest_X9_can rfl rfl rfl (by decide +kernel) ⟨Nat.le_of_ble_eq_true rfl, Nat.le_of_ble_eq_true rfl⟩) (b_preV hVK hP hD [0] rfl rfl 0 rfl rfl) rfl rfl hl.1 rfl (lv_room (Nat.le_of_ble_eq_true rfl)) dX9_rest_19 ⟨Nat.le_refl _, Nat.le_refl _⟩) hP hD hS hA [0] rfl rfl (fun _ => rfl) (fun r19 uu H locs hq hP hD hS => ?_)
      subst hq
      have hP : va_P D vwCl ([mO a (nI n) (nI k) (nI 0), [(a 1, .inl (cY 0, 72, .inl fto))], [(a 7, .inl (cY 1, 32, .inr (.inl fmnr)))], [(a 8, .inl (cY 1, 25, .inr (.inl fwts)))]] : List va_W).flatten H := hP
      have hD : va_D A ([mO a (nI n) (nI k) (nI 0), [(a 1, .inl (cY 0, 72, .inl fto))], [(a 7, .inl (cY 1, 32, .inr (.inl fmnr)))], [(a 8, .inl (cY 1, 25, .inr (.inl fwts)))]] : List va_W).flatten := hD
      refine b_if_eq (tgt := 45) hx hb dX9_rest_22 (by decide) (fun h22 => ?_) (fun h22 => ?_)
      · -- t
        exact absurd h22 (by decide)
      · -- f
        refine lv_iload_n hx hb dX9_rest_25 rfl (lv_at hl 1 rfl) ?_
        refine lv_iconst (v := (-1)) hx hb dX9_rest_26 (by decide) ?_
        refine lv_icmp_ne (tgt := 37) hx hb dX9_rest_27 (by decide) (fun h27 => ?_) (fun h27 => ?_)
        · -- t
          refine lv_aload_n hx hb dX9_rest_37 rfl (lv_at hl 0 rfl) ?_
          refine lv_iload_n hx hb dX9_rest_38 rfl (lv_at hl 1 rfl) ?_
          refine ca_l (CL := [mO a (nI n) (nI k) (nI 0), [(a 1, .inl (cY 0, 72, .inl fto))], [(a 7, .inl (cY 1, 32, .inr (.inl fmnr)))], [(a 8, .inl (cY 1, 25, .inr (.inl fwts)))]]) (va_runV (As := [.int (nI i)]) (rest := []) ⟨hx, hb, hml, hown, hts⟩ (c_X9_restOf l D cY H.size a n k (nI 0) fto fmnr fwts g i (by omega) (by omega) (by omega) (by omega) hG hgn (by omega)) (cwV 1 hts gX9_rest_X9_restOf rfl rfl rfl (by decide +kernel) ⟨Nat.le_of_ble_eq_true rfl, Nat.le_of_ble_eq_true rfl⟩) (b_preV hVK hP hD [0, 1, 2, 3] rfl rfl 0 rfl rfl) rfl rfl hl.1 rfl (lv_room (Nat.le_of_ble_eq_true rfl)) dX9_rest_39 ⟨Nat.le_refl _, Nat.le_refl _⟩) hP hD hS hA [0, 1, 2, 3] rfl rfl (fun _ => rfl) (fun r39 uu H locs hq hP hD hS => ?_)
          obtain ⟨fmnr1_1, fwts1_2⟩ := uu
          try dsimp only at hq
          subst hq
          have hP : va_P D vwCl ([mO a (nI n) (nI k) (nI 0), [(a 1, .inl (cY 0, 72, .inl fto))], [(a 7, .inl (cY 1, 32, .inr (.inl fmnr1_1)))], [(a 8, .inl (cY 1, 25, .inr (.inl fwts1_2)))]] : List va_W).flatten H := hP
          have hD : va_D A ([mO a (nI n) (nI k) (nI 0), [(a 1, .inl (cY 0, 72, .inl fto))], [(a 7, .inl (cY 1, 32, .inr (.inl fmnr1_1)))], [(a 8, .inl (cY 1, 25, .inr (.inl fwts1_2)))]] : List va_W).flatten := hD
          refine lv_goto (tgt := 46) hx hb dX9_rest_42 (by decide) ?_
          exact r_l hx hb hr hlocks hP hD hS (fmnr1_1, fwts1_2) rfl (rfl) dX9_rest_46
        · -- f
          exact absurd h27 hm1

set_option maxHeartbeats 4000000 in
set_option maxRecDepth 100000 in
theorem c_X9_rest_bad (l : Launch) (D : va_G) (cY : Nat → ClassId) (sz : Nat) (a : Nat → Nat) (n : Nat) (k : Nat) (th : Int32) (x : Int32) (hn1 : 1 ≤ n) (hn6 : n ≤ 6) (hk1 : 1 ≤ k) (hk12 : k ≤ 12) (hm1 : ¬ x = (-1)) (hbad : inR x (nI 0) (nI (n - 1)) = false) : Met l yX9_rest wsX9_rest ({ frames := 5, cells := 0, slots := 0, locals := 200 }) (cP D cY [.ref (a 0), .int x] [mO a (nI n) (nI k) th] sz) (qL (S := Unit) D cY (fun r u => r = lN 0) (fun u => [mO a (nI n) (nI k) (nI 1)]) (va_A ([mO a (nI n) (nI k) th] : List va_W).flatten sz)) 0 0 (va_A ([mO a (nI n) (nI k) th] : List va_W).flatten sz) := by
  refine mtB (Qc := fun A => qL (S := Unit) D cY (fun r u => r = lN 0) (fun u => [mO a (nI n) (nI k) (nI 1)]) A) (cc := cX9_rest) (maxL := 2) (ret := (some .long)) (by decide) rfl (Nat.le_of_ble_eq_true rfl) ?_
  intro p e s m below meth c A ls hx hb hr hml hts hown hlocks hnm hsz hP hK hVK hD hS hA hl
  have hown : s.vm.findClass RX9 = some m.cls := hown
  have hl : lv_has ls 2 [(0, .ref (a 0)), (1, .int x)] := hl
  have hP : va_P D vwCl ([mO a (nI n) (nI k) th] : List va_W).flatten s.heap := hP
  have hD : va_D A ([mO a (nI n) (nI k) th] : List va_W).flatten := hD
  refine lv_aload_n hx hb dX9_rest_0 rfl (lv_at hl 0 rfl) ?_
  refine lv_iload_n hx hb dX9_rest_1 rfl (lv_at hl 1 rfl) ?_
  refine lv_iconst (v := (-1)) hx hb dX9_rest_2 (by decide) ?_
  refine lv_icmp_eq (tgt := 14) hx hb dX9_rest_3 (by decide) (fun h3 => ?_) (fun h3 => ?_)
  · -- t
    exact absurd h3 hm1
  · -- f
    refine lv_aload_n hx hb dX9_rest_6 rfl (lv_at hl 0 rfl) ?_
    refine lv_iload_n hx hb dX9_rest_7 rfl (lv_at hl 1 rfl) ?_
    refine ca_i (CL := [mO a (nI n) (nI k) th]) (va_runV (As := [.int x]) (rest := [.ref (a 0)]) ⟨hx, hb, hml, hown, hts⟩ (c_X9_isState l D cY s.heap.size a n k th x (by omega)) (cwV 1 hts gX9_rest_X9_isState rfl rfl rfl (by decide +kernel) ⟨Nat.le_of_ble_eq_true rfl, Nat.le_of_ble_eq_true rfl⟩) (b_preV hVK hP hD [0] rfl rfl 0 rfl rfl) rfl rfl hl.1 rfl (lv_room (Nat.le_of_ble_eq_true rfl)) dX9_rest_8 ⟨Nat.le_refl _, Nat.le_refl _⟩) hP hD hS hA [0] rfl rfl (fun _ => rfl) (fun r8 uu H locs hq hP hD hS => ?_)
    subst hq
    have hP : va_P D vwCl ([mO a (nI n) (nI k) th] : List va_W).flatten H := hP
    have hD : va_D A ([mO a (nI n) (nI k) th] : List va_W).flatten := hD
    refine b_if_eq (tgt := 18) hx hb dX9_rest_11 (by decide) (fun h11 => ?_) (fun h11 => ?_)
    · -- t
      refine lv_iconst (v := nI 1) hx hb dX9_rest_18 (by decide) ?_
      refine ca_i (CL := [mO a (nI n) (nI k) th]) (va_runV (As := [.int (nI 1)]) (rest := []) ⟨hx, hb, hml, hown, hts⟩ (c_X9_can l D cY H.size a n k th 1 (by omega)) (cwV 1 hts gX9_rest_X9_can rfl rfl rfl (by decide +kernel) ⟨Nat.le_of_ble_eq_true rfl, Nat.le_of_ble_eq_true rfl⟩) (b_preV hVK hP hD [0] rfl rfl 0 rfl rfl) rfl rfl hl.1 rfl (lv_room (Nat.le_of_ble_eq_true rfl)) dX9_rest_19 ⟨Nat.le_refl _, Nat.le_refl _⟩) hP hD hS hA [0] rfl rfl (fun _ => rfl) (fun r19 uu H locs hq hP hD hS => ?_)
      subst hq
      have hP : va_P D vwCl ([mO a (nI n) (nI k) (nI 1)] : List va_W).flatten H := hP
      have hD : va_D A ([mO a (nI n) (nI k) (nI 1)] : List va_W).flatten := hD
      refine b_if_eq (tgt := 45) hx hb dX9_rest_22 (by decide) (fun h22 => ?_) (fun h22 => ?_)
      · -- t
        refine lv_lconst (v := lN 0) hx hb dX9_rest_45 (by decide) ?_
        exact r_l hx hb hr hlocks hP hD hS () rfl (rfl) dX9_rest_46
      · -- f
        exact absurd h22 (by decide)
    · -- f
      exact absurd (h11.symm.trans hbad) (by decide)

set_option maxHeartbeats 4000000 in
set_option maxRecDepth 100000 in
theorem c_X9_ranked_ok (l : Launch) (D : va_G) (cY : Nat → ClassId) (sz : Nat) (a : Nat → Nat) (n : Nat) (k : Nat) (th : Int32) (fto : Nat → Int32) (fmnr : Nat → Int64) (fwts : Nat → Int64) (g : Nat → Nat → Nat) (r0 : Nat) (hn1 : 1 ≤ n) (hn6 : n ≤ 6) (hk1 : 1 ≤ k) (hk12 : k ≤ 12) (hG : ∀ i j, i < n → j < k → fto (12 * i + j) = nI (g i j)) (hgn : ∀ i j, i < n → j < k → g i j < n) (hr0 : r0 < 2 ^ 31) : Met l yX9_ranked wsX9_ranked ({ frames := 5, cells := 0, slots := 0, locals := 200 }) (cP D cY [.ref (a 0), .int (nI r0)] [mO a (nI n) (nI k) th, [(a 1, .inl (cY 0, 72, .inl fto))], [(a 7, .inl (cY 1, 32, .inr (.inl fmnr)))], [(a 8, .inl (cY 1, 25, .inr (.inl fwts)))]] sz) (qI (S := (Nat → Int64) × (Nat → Int64)) D cY (fun r u => r = lastP (fun i => decide (plc (RV g n k) i n = r0)) n) (fun u => [mO a (nI n) (nI k) (nI 0), [(a 1, .inl (cY 0, 72, .inl fto))], [(a 7, .inl (cY 1, 32, .inr (.inl u.1)))], [(a 8, .inl (cY 1, 25, .inr (.inl u.2)))]]) (va_A ([mO a (nI n) (nI k) th, [(a 1, .inl (cY 0, 72, .inl fto))], [(a 7, .inl (cY 1, 32, .inr (.inl fmnr)))], [(a 8, .inl (cY 1, 25, .inr (.inl fwts)))]] : List va_W).flatten sz)) 0 0 (va_A ([mO a (nI n) (nI k) th, [(a 1, .inl (cY 0, 72, .inl fto))], [(a 7, .inl (cY 1, 32, .inr (.inl fmnr)))], [(a 8, .inl (cY 1, 25, .inr (.inl fwts)))]] : List va_W).flatten sz) := by
  refine mtB (Qc := fun A => qI (S := (Nat → Int64) × (Nat → Int64)) D cY (fun r u => r = lastP (fun i => decide (plc (RV g n k) i n = r0)) n) (fun u => [mO a (nI n) (nI k) (nI 0), [(a 1, .inl (cY 0, 72, .inl fto))], [(a 7, .inl (cY 1, 32, .inr (.inl u.1)))], [(a 8, .inl (cY 1, 25, .inr (.inl u.2)))]]) A) (cc := cX9_ranked) (maxL := 4) (ret := (some .int)) (by decide) rfl (Nat.le_of_ble_eq_true rfl) ?_
  intro p e s m below meth c A ls hx hb hr hml hts hown hlocks hnm hsz hP hK hVK hD hS hA hl
  have hown : s.vm.findClass RX9 = some m.cls := hown
  have hl : lv_has ls 4 [(0, .ref (a 0)), (1, .int (nI r0))] := hl
  have hP : va_P D vwCl ([mO a (nI n) (nI k) th, [(a 1, .inl (cY 0, 72, .inl fto))], [(a 7, .inl (cY 1, 32, .inr (.inl fmnr)))], [(a 8, .inl (cY 1, 25, .inr (.inl fwts)))]] : List va_W).flatten s.heap := hP
  have hD : va_D A ([mO a (nI n) (nI k) th, [(a 1, .inl (cY 0, 72, .inl fto))], [(a 7, .inl (cY 1, 32, .inr (.inl fmnr)))], [(a 8, .inl (cY 1, 25, .inr (.inl fwts)))]] : List va_W).flatten := hD
  refine lv_aload_n hx hb dX9_ranked_0 rfl (lv_at hl 0 rfl) ?_
  refine lv_iload_n hx hb dX9_ranked_1 rfl (lv_at hl 1 rfl) ?_
  refine n_if_lt (tgt := 9) hx hb dX9_ranked_2 (by decide) (by omega) (fun h2 => ?_) (fun h2 => ?_)
  · -- t
    exact h2.elim
  · -- f
    refine lv_iconst (v := nI 0) hx hb dX9_ranked_5 (by decide) ?_
    refine lv_goto (tgt := 10) hx hb dX9_ranked_6 (by decide) ?_
    refine ca_i (CL := [mO a (nI n) (nI k) th]) (va_runV (As := [.int (nI 0)]) (rest := []) ⟨hx, hb, hml, hown, hts⟩ (c_X9_can l D cY s.heap.size a n k th 0 (by omega)) (cwV 1 hts gX9_ranked_X9_can rfl rfl rfl (by decide +kernel) ⟨Nat.le_of_ble_eq_true rfl, Nat.le_of_ble_eq_true rfl⟩) (b_preV hVK hP hD [0] rfl rfl 0 rfl rfl) rfl rfl hl.1 rfl (lv_room (Nat.le_of_ble_eq_true rfl)) dX9_ranked_10 ⟨Nat.le_refl _, Nat.le_refl _⟩) hP hD hS hA [0] rfl rfl (fun _ => rfl) (fun r10 uu H locs hq hP hD hS => ?_)
    subst hq
    have hP : va_P D vwCl ([mO a (nI n) (nI k) (nI 0), [(a 1, .inl (cY 0, 72, .inl fto))], [(a 7, .inl (cY 1, 32, .inr (.inl fmnr)))], [(a 8, .inl (cY 1, 25, .inr (.inl fwts)))]] : List va_W).flatten H := hP
    have hD : va_D A ([mO a (nI n) (nI k) (nI 0), [(a 1, .inl (cY 0, 72, .inl fto))], [(a 7, .inl (cY 1, 32, .inr (.inl fmnr)))], [(a 8, .inl (cY 1, 25, .inr (.inl fwts)))]] : List va_W).flatten := hD
    refine b_if_ne (tgt := 18) hx hb dX9_ranked_13 (by decide) (fun h13 => ?_) (fun h13 => ?_)
    · -- t
      refine lv_iconst (v := (-1)) hx hb dX9_ranked_18 (by decide) ?_
      refine lv_istore_n (lv' := [(2, .int (-1)), (0, .ref (a 0)), (1, .int (nI r0))]) hx hb dX9_ranked_19 rfl hl (by decide) rfl (fun ls hl => ?_)
      refine lv_iconst (v := nI 0) hx hb dX9_ranked_20 (by decide) ?_
      refine lv_istore_n (lv' := [(3, .int (nI 0)), (2, .int (-1)), (0, .ref (a 0)), (1, .int (nI r0))]) hx hb dX9_ranked_21 rfl hl (by decide) rfl (fun ls hl => ?_)
      have L22 : ∀ q : Nat, q ≤ n → ∀ (fM : Nat → Int64) (fW : Nat → Int64), ∀ (H : Heap) (locs : List Loc), va_P D vwCl ([mO a (nI n) (nI k) (nI 0), [(a 1, .inl (cY 0, 72, .inl fto))], [(a 7, .inl (cY 1, 32, .inr (.inl fM)))], [(a 8, .inl (cY 1, 25, .inr (.inl fW)))]] : List va_W).flatten H → va_D A ([mO a (nI n) (nI k) (nI 0), [(a 1, .inl (cY 0, 72, .inl fto))], [(a 7, .inl (cY 1, 32, .inr (.inl fM)))], [(a 8, .inl (cY 1, 25, .inr (.inl fW)))]] : List va_W).flatten → va_S A s.heap H locs → ∀ (ls : Array Slot), lv_has ls 4 [(0, .ref (a 0)), (1, .int (nI r0)), (2, .int (lastP (fun i => decide (plc (RV g n k) i n = r0)) q)), (3, .int (nI q))] → W p l e ({ frames := 5, cells := 0, slots := 0, locals := 200 }) s m ([.ref (a 0), .int (nI r0)] : List Value).toArray below meth c H locs 0 0 (MQ below (qI (S := (Nat → Int64) × (Nat → Int64)) D cY (fun r u => r = lastP (fun i => decide (plc (RV g n k) i n = r0)) n) (fun u => [mO a (nI n) (nI k) (nI 0), [(a 1, .inl (cY 0, 72, .inl fto))], [(a 7, .inl (cY 1, 32, .inr (.inl u.1)))], [(a 8, .inl (cY 1, 25, .inr (.inl u.2)))]]) A) ([.ref (a 0), .int (nI r0)] : List Value).toArray s 0 0 A) (F0 m 22 ls []) := by
        refine lpW n ?_
        intro q bdq ih22 fM fW  H locs hP hD hS ls hl
        refine lv_iload_n hx hb dX9_ranked_22 rfl (lv_at hl 3 rfl) ?_
        refine lv_aload_n hx hb dX9_ranked_23 rfl (lv_at hl 0 rfl) ?_
        refine b_get (ci := 9) (v := .int (nI n)) (C := RX9) (T := TX9) (N := 13) hx hb hts (by decide +kernel) hown hK hP 0 rfl rfl 0 (by decide) (hts (.fieldLink RX9 7 "ChanceHallModel" "states" "I") (by decide +kernel)) (fun _ h9 => h9) rfl dX9_ranked_24 ?_
        refine n_icmp_ge (tgt := 51) hx hb dX9_ranked_27 (by decide) (by omega) (by omega) (fun h27 => ?_) (fun h27 => ?_)
        · -- t
          refine lv_iload_n hx hb dX9_ranked_51 rfl (lv_at hl 2 rfl) ?_
          exact r_i hx hb hr hlocks hP hD hS (fM, fW) rfl (by (have e : q = n := by omega); subst e; rfl) dX9_ranked_52
        · -- f
          refine lv_aload_n hx hb dX9_ranked_30 rfl (lv_at hl 0 rfl) ?_
          refine lv_iload_n hx hb dX9_ranked_31 rfl (lv_at hl 3 rfl) ?_
          refine ca_i (CL := [mO a (nI n) (nI k) (nI 0), [(a 1, .inl (cY 0, 72, .inl fto))], [(a 7, .inl (cY 1, 32, .inr (.inl fM)))], [(a 8, .inl (cY 1, 25, .inr (.inl fW)))]]) (va_runV (As := [.int (nI q)]) (rest := []) ⟨hx, hb, hml, hown, hts⟩ (c_X9_placeOf l D cY H.size a n k (nI 0) fto fM fW g q (by omega) (by omega) (by omega) (by omega) hG hgn (by omega)) (cwV 1 hts gX9_ranked_X9_placeOf rfl rfl rfl (by decide +kernel) ⟨Nat.le_of_ble_eq_true rfl, Nat.le_of_ble_eq_true rfl⟩) (b_preV hVK hP hD [0, 1, 2, 3] rfl rfl 0 rfl rfl) rfl rfl hl.1 rfl (lv_room (Nat.le_of_ble_eq_true rfl)) dX9_ranked_32 ⟨Nat.le_refl _, Nat.le_refl _⟩) hP hD hS hA [0, 1, 2, 3] rfl rfl (fun _ => rfl) (fun r32 uu H locs hq hP hD hS => ?_)
          obtain ⟨fmnr1_1, fwts1_2⟩ := uu
          try dsimp only at hq
          subst hq
          have hP : va_P D vwCl ([mO a (nI n) (nI k) (nI 0), [(a 1, .inl (cY 0, 72, .inl fto))], [(a 7, .inl (cY 1, 32, .inr (.inl fmnr1_1)))], [(a 8, .inl (cY 1, 25, .inr (.inl fwts1_2)))]] : List va_W).flatten H := hP
          have hD : va_D A ([mO a (nI n) (nI k) (nI 0), [(a 1, .inl (cY 0, 72, .inl fto))], [(a 7, .inl (cY 1, 32, .inr (.inl fmnr1_1)))], [(a 8, .inl (cY 1, 25, .inr (.inl fwts1_2)))]] : List va_W).flatten := hD
          have hpl := plc_le (F := RV g n k) (i := q) (q := n)
          refine lv_iload_n hx hb dX9_ranked_35 rfl (lv_at hl 1 rfl) ?_
          refine n_icmp_ne (tgt := 43) hx hb dX9_ranked_36 (by decide) (by omega) (by omega) (fun h36 => ?_) (fun h36 => ?_)
          · -- t
            refine lv_iload_n hx hb dX9_ranked_43 rfl (lv_at hl 2 rfl) ?_
            refine eqi (x' := lastP (fun i => decide (plc (RV g n k) i n = r0)) (q + 1)) ((if_neg (by simp only [decide_eq_true_eq]; exact h36)).symm) ?_
            refine lv_istore_n (lv' := [(2, .int (lastP (fun i => decide (plc (RV g n k) i n = r0)) (q + 1))), (0, .ref (a 0)), (1, .int (nI r0)), (3, .int (nI q))]) hx hb dX9_ranked_44 rfl hl (by decide) rfl (fun ls hl => ?_)
            refine lv_iinc (v := nI (q + 1)) (lv' := [(3, .int (nI (q + 1))), (2, .int (lastP (fun i => decide (plc (RV g n k) i n = r0)) (q + 1))), (0, .ref (a 0)), (1, .int (nI r0))]) hx hb dX9_ranked_45 hl (k := 3) rfl (nI_1 q) (by decide) rfl (fun ls hl => ?_)
            refine lv_goto (tgt := 22) hx hb dX9_ranked_48 (by decide) ?_
            exact ih22 (by omega) fmnr1_1 fwts1_2  _ _ hP hD hS _ (lv_sub hl [2, 3, 1, 0] rfl)
          · -- f
            refine lv_iload_n hx hb dX9_ranked_39 rfl (lv_at hl 3 rfl) ?_
            refine eqi (x' := lastP (fun i => decide (plc (RV g n k) i n = r0)) (q + 1)) ((if_pos (dec_t h36)).symm) ?_
            refine lv_goto (tgt := 44) hx hb dX9_ranked_40 (by decide) ?_
            refine lv_istore_n (lv' := [(2, .int (lastP (fun i => decide (plc (RV g n k) i n = r0)) (q + 1))), (0, .ref (a 0)), (1, .int (nI r0)), (3, .int (nI q))]) hx hb dX9_ranked_44 rfl hl (by decide) rfl (fun ls hl => ?_)
            refine lv_iinc (v := nI (q + 1)) (lv' := [(3, .int (nI (q + 1))), (2, .int (lastP (fun i => decide (plc (RV g n k) i n = r0)) (q + 1))), (0, .ref (a 0)), (1, .int (nI r0))]) hx hb dX9_ranked_45 hl (k := 3) rfl (nI_1 q) (by decide) rfl (fun ls hl => ?_)
            refine lv_goto (tgt := 22) hx hb dX9_ranked_48 (by decide) ?_
            exact ih22 (by omega) fmnr1_1 fwts1_2  _ _ hP hD hS _ (lv_sub hl [2, 3, 1, 0] rfl)
      exact L22 0 (by omega) fmnr fwts  _ _ hP hD hS _ (lv_sub hl [2, 3, 1, 0] rfl)
    · -- f
      exact absurd h13 (by decide)

set_option maxHeartbeats 4000000 in
set_option maxRecDepth 100000 in
theorem c_X9_ranked_bad (l : Launch) (D : va_G) (cY : Nat → ClassId) (sz : Nat) (a : Nat → Nat) (n : Nat) (k : Nat) (th : Int32) (x : Int32) (hn1 : 1 ≤ n) (hn6 : n ≤ 6) (hk1 : 1 ≤ k) (hk12 : k ≤ 12) (hbad : x < 0) : Met l yX9_ranked wsX9_ranked ({ frames := 5, cells := 0, slots := 0, locals := 200 }) (cP D cY [.ref (a 0), .int x] [mO a (nI n) (nI k) th] sz) (qI (S := Unit) D cY (fun r u => r = nI 0) (fun u => [mO a (nI n) (nI k) (nI 1)]) (va_A ([mO a (nI n) (nI k) th] : List va_W).flatten sz)) 0 0 (va_A ([mO a (nI n) (nI k) th] : List va_W).flatten sz) := by
  refine mtB (Qc := fun A => qI (S := Unit) D cY (fun r u => r = nI 0) (fun u => [mO a (nI n) (nI k) (nI 1)]) A) (cc := cX9_ranked) (maxL := 4) (ret := (some .int)) (by decide) rfl (Nat.le_of_ble_eq_true rfl) ?_
  intro p e s m below meth c A ls hx hb hr hml hts hown hlocks hnm hsz hP hK hVK hD hS hA hl
  have hown : s.vm.findClass RX9 = some m.cls := hown
  have hl : lv_has ls 4 [(0, .ref (a 0)), (1, .int x)] := hl
  have hP : va_P D vwCl ([mO a (nI n) (nI k) th] : List va_W).flatten s.heap := hP
  have hD : va_D A ([mO a (nI n) (nI k) th] : List va_W).flatten := hD
  refine lv_aload_n hx hb dX9_ranked_0 rfl (lv_at hl 0 rfl) ?_
  refine lv_iload_n hx hb dX9_ranked_1 rfl (lv_at hl 1 rfl) ?_
  refine lv_if_lt (tgt := 9) hx hb dX9_ranked_2 (by decide) (fun h2 => ?_) (fun h2 => ?_)
  · -- t
    refine lv_iconst (v := nI 1) hx hb dX9_ranked_9 (by decide) ?_
    refine ca_i (CL := [mO a (nI n) (nI k) th]) (va_runV (As := [.int (nI 1)]) (rest := []) ⟨hx, hb, hml, hown, hts⟩ (c_X9_can l D cY s.heap.size a n k th 1 (by omega)) (cwV 1 hts gX9_ranked_X9_can rfl rfl rfl (by decide +kernel) ⟨Nat.le_of_ble_eq_true rfl, Nat.le_of_ble_eq_true rfl⟩) (b_preV hVK hP hD [0] rfl rfl 0 rfl rfl) rfl rfl hl.1 rfl (lv_room (Nat.le_of_ble_eq_true rfl)) dX9_ranked_10 ⟨Nat.le_refl _, Nat.le_refl _⟩) hP hD hS hA [0] rfl rfl (fun _ => rfl) (fun r10 uu H locs hq hP hD hS => ?_)
    subst hq
    have hP : va_P D vwCl ([mO a (nI n) (nI k) (nI 1)] : List va_W).flatten H := hP
    have hD : va_D A ([mO a (nI n) (nI k) (nI 1)] : List va_W).flatten := hD
    refine b_if_ne (tgt := 18) hx hb dX9_ranked_13 (by decide) (fun h13 => ?_) (fun h13 => ?_)
    · -- t
      exact absurd h13 (by decide)
    · -- f
      refine lv_iconst (v := nI 0) hx hb dX9_ranked_16 (by decide) ?_
      exact r_i hx hb hr hlocks hP hD hS () rfl (rfl) dX9_ranked_17
  · -- f
    exact absurd hbad h2

