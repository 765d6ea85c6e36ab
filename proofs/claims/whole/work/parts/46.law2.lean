set_option maxHeartbeats 4000000 in
set_option maxRecDepth 100000 in
theorem c_L_begin_ok (l : Launch) (D : va_G) (cY : Nat → ClassId) (sz : Nat) (b : Nat → Nat) (rr : Nat → Nat → Nat) (st0 : Int32) (sl0 : Int32) (fG : Nat → Nat → Int32) (fW : Nat → Nat → Int32) (fPy : Nat → Int32) (fCc : Nat → Int32) (n2 : Nat) (k2 : Nat) (h1 : 1 ≤ n2) (h2 : n2 ≤ 6) (h3 : 1 ≤ k2) (h4 : k2 ≤ 12) : vx_Met l yL_begin wsL_begin ({ frames := 3, cells := 0, slots := 0, locals := 120 }) (cPH D cY [.ref (b 0), .int (nI n2), .int (nI k2)] [hO b, cO b st0 sl0, oQ (cY 2) (b 2) (rr 0) 6, gI (cY 0) (rr 0) 12 fG 6, oQ (cY 2) (b 3) (rr 1) 6, gI (cY 0) (rr 1) 6 fW 6, gO b, [(b 19, .inl (cY 0, 6, .inl fPy))], uO b, [(b 22, .inl (cY 0, 6, .inl fCc))]] sz) (qI (S := (Nat → Nat → Int32) × (Nat → Nat → Int32) × (Nat → Int32) × (Nat → Int32)) D cY (fun r uu => r = nI 0 ∧ ((∀ i j, i < 6 → j < 12 → uu.1 i j = nI i) ∧ ∀ i j, i < 6 → j < 6 → uu.2.1 i j = (if i = j then nI k2 else nI 0)) ∧ (∀ j, j < 6 → uu.2.2.1 j = nI 0) ∧ ∀ j, j < 6 → uu.2.2.2 j = nI 0) (fun uu => [hO b, cO b (nI n2) (nI k2), oQ (cY 2) (b 2) (rr 0) 6, gI (cY 0) (rr 0) 12 uu.1 6, oQ (cY 2) (b 3) (rr 1) 6, gI (cY 0) (rr 1) 6 uu.2.1 6, gO b, [(b 19, .inl (cY 0, 6, .inl uu.2.2.1))], uO b, [(b 22, .inl (cY 0, 6, .inl uu.2.2.2))]]) (va_A ([hO b, cO b st0 sl0, oQ (cY 2) (b 2) (rr 0) 6, gI (cY 0) (rr 0) 12 fG 6, oQ (cY 2) (b 3) (rr 1) 6, gI (cY 0) (rr 1) 6 fW 6, gO b, [(b 19, .inl (cY 0, 6, .inl fPy))], uO b, [(b 22, .inl (cY 0, 6, .inl fCc))]] : List va_W).flatten sz)) (q0 (va_A ([hO b, cO b st0 sl0, oQ (cY 2) (b 2) (rr 0) 6, gI (cY 0) (rr 0) 12 fG 6, oQ (cY 2) (b 3) (rr 1) 6, gI (cY 0) (rr 1) 6 fW 6, gO b, [(b 19, .inl (cY 0, 6, .inl fPy))], uO b, [(b 22, .inl (cY 0, 6, .inl fCc))]] : List va_W).flatten sz)) 0 0 (va_A ([hO b, cO b st0 sl0, oQ (cY 2) (b 2) (rr 0) 6, gI (cY 0) (rr 0) 12 fG 6, oQ (cY 2) (b 3) (rr 1) 6, gI (cY 0) (rr 1) 6 fW 6, gO b, [(b 19, .inl (cY 0, 6, .inl fPy))], uO b, [(b 22, .inl (cY 0, 6, .inl fCc))]] : List va_W).flatten sz) := by
  refine mtH (Qc := fun A => qI (S := (Nat → Nat → Int32) × (Nat → Nat → Int32) × (Nat → Int32) × (Nat → Int32)) D cY (fun r uu => r = nI 0 ∧ ((∀ i j, i < 6 → j < 12 → uu.1 i j = nI i) ∧ ∀ i j, i < 6 → j < 6 → uu.2.1 i j = (if i = j then nI k2 else nI 0)) ∧ (∀ j, j < 6 → uu.2.2.1 j = nI 0) ∧ ∀ j, j < 6 → uu.2.2.2 j = nI 0) (fun uu => [hO b, cO b (nI n2) (nI k2), oQ (cY 2) (b 2) (rr 0) 6, gI (cY 0) (rr 0) 12 uu.1 6, oQ (cY 2) (b 3) (rr 1) 6, gI (cY 0) (rr 1) 6 uu.2.1 6, gO b, [(b 19, .inl (cY 0, 6, .inl uu.2.2.1))], uO b, [(b 22, .inl (cY 0, 6, .inl uu.2.2.2))]]) A) (cc := cL_begin) (maxL := 4) (ret := (some .int)) (by decide) rfl (Nat.le_of_ble_eq_true rfl) ?_
  intro p e s m below meth c A ls hx hb hr hml hts hown hlocks hsz hP hK hVK hD hS hA hX hH htb hl
  have hown : s.vm.findClass RL = some m.cls := hown
  have hl : lv_has ls 4 [(0, .ref (b 0)), (1, .int (nI n2)), (2, .int (nI k2))] := hl
  have hP : va_P D vwCl ([hO b, cO b st0 sl0, oQ (cY 2) (b 2) (rr 0) 6, gI (cY 0) (rr 0) 12 fG 6, oQ (cY 2) (b 3) (rr 1) 6, gI (cY 0) (rr 1) 6 fW 6, gO b, [(b 19, .inl (cY 0, 6, .inl fPy))], uO b, [(b 22, .inl (cY 0, 6, .inl fCc))]] : List va_W).flatten s.heap := hP
  have hD : va_D A ([hO b, cO b st0 sl0, oQ (cY 2) (b 2) (rr 0) 6, gI (cY 0) (rr 0) 12 fG 6, oQ (cY 2) (b 3) (rr 1) 6, gI (cY 0) (rr 1) 6 fW 6, gO b, [(b 19, .inl (cY 0, 6, .inl fPy))], uO b, [(b 22, .inl (cY 0, 6, .inl fCc))]] : List va_W).flatten := hD
  refine lv_aload_n hx hb dL_begin_0 rfl (lv_at hl 0 rfl) ?_
  refine lv_iload_n hx hb dL_begin_1 rfl (lv_at hl 1 rfl) ?_
  refine lv_iload_n hx hb dL_begin_2 rfl (lv_at hl 2 rfl) ?_
  refine ca_v (CL := [hO b, cO b st0 sl0, oQ (cY 2) (b 2) (rr 0) 6, gI (cY 0) (rr 0) 12 fG 6, oQ (cY 2) (b 3) (rr 1) 6, gI (cY 0) (rr 1) 6 fW 6, gO b, [(b 19, .inl (cY 0, 6, .inl fPy))], uO b, [(b 22, .inl (cY 0, 6, .inl fCc))]]) (va_runV (As := [.int (nI n2), .int (nI k2)]) (rest := []) ⟨hx, hb, hml, hown, hts⟩ (c_X8_begin_ok l D cY s.heap.size b rr st0 sl0 fG fW fPy fCc n2 k2 h1 h2 h3 h4) (cwV 2 hts gL_begin_X8_begin rfl rfl rfl (by decide +kernel) ⟨Nat.le_of_ble_eq_true rfl, Nat.le_of_ble_eq_true rfl⟩) (b_preV hVK hP hD [0, 1, 2, 3, 4, 5, 6, 7, 8, 9] rfl rfl 0 rfl rfl) rfl rfl hl.1 rfl (lv_room (Nat.le_of_ble_eq_true rfl)) dL_begin_3 ⟨Nat.zero_le _, Nat.zero_le _⟩) hP hD hS hA [0, 1, 2, 3, 4, 5, 6, 7, 8, 9] rfl rfl (fun _ => rfl) (fun uu H locs hq hP hD hS => ?_)
  obtain ⟨fG1_1, fW1_2, fPy1_3, fCc1_4⟩ := uu
  try dsimp only at hq
  have q3 := hq
  have hP : va_P D vwCl ([hO b, cO b (nI n2) (nI k2), oQ (cY 2) (b 2) (rr 0) 6, gI (cY 0) (rr 0) 12 fG1_1 6, oQ (cY 2) (b 3) (rr 1) 6, gI (cY 0) (rr 1) 6 fW1_2 6, gO b, [(b 19, .inl (cY 0, 6, .inl fPy1_3))], uO b, [(b 22, .inl (cY 0, 6, .inl fCc1_4))]] : List va_W).flatten H := hP
  have hD : va_D A ([hO b, cO b (nI n2) (nI k2), oQ (cY 2) (b 2) (rr 0) 6, gI (cY 0) (rr 0) 12 fG1_1 6, oQ (cY 2) (b 3) (rr 1) 6, gI (cY 0) (rr 1) 6 fW1_2 6, gO b, [(b 19, .inl (cY 0, 6, .inl fPy1_3))], uO b, [(b 22, .inl (cY 0, 6, .inl fCc1_4))]] : List va_W).flatten := hD
  refine lv_goto (tgt := 12) hx hb dL_begin_6 (by decide) ?_
  refine lv_iconst (v := nI 0) hx hb dL_begin_12 (by decide) ?_
  exact r_i hx hb hr hlocks hP hD hS (fG1_1, fW1_2, fPy1_3, fCc1_4) rfl (⟨rfl, q3⟩) dL_begin_13

set_option maxHeartbeats 4000000 in
set_option maxRecDepth 100000 in
theorem c_L_lead_ok (l : Launch) (D : va_G) (cY : Nat → ClassId) (sz : Nat) (b : Nat → Nat) (rr : Nat → Nat → Nat) (n : Nat) (k : Nat) (fG : Nat → Nat → Int32) (fW : Nat → Nat → Int32) (g : Nat → Nat → Nat) (i : Nat) (j : Nat) (w : Nat) (oo : Nat) (fO : Nat → Int64) (hn1 : 1 ≤ n) (hn6 : n ≤ 6) (hk1 : 1 ≤ k) (hk12 : k ≤ 12) (hG : ∀ i j, i < n → j < k → fG i j = nI (g i j)) (hgn : ∀ i j, i < n → j < k → g i j < n) (hW : ∀ i j, i < n → j < n → fW i j = nI (cnt (g i) j k)) (hi : i < n) (hj : j < k) (hw : w < n) : vx_Met l yL_lead wsL_lead ({ frames := 3, cells := 0, slots := 0, locals := 120 }) (cPH D cY [.ref (b 0), .int (nI i), .int (nI j), .int (nI w), .ref oo] [hO b, cO b (nI n) (nI k), oQ (cY 2) (b 2) (rr 0) 6, gI (cY 0) (rr 0) 12 fG 6, oQ (cY 2) (b 3) (rr 1) 6, gI (cY 0) (rr 1) 6 fW 6, [(oo, .inl (cY 1, 1, .inr (.inl fO)))]] sz) (qI (S := Unit) D cY (fun r uu => r = nI 0) (fun uu => [hO b, cO b (nI n) (nI k), oQ (cY 2) (b 2) (rr 0) 6, gI (cY 0) (rr 0) 12 (va_up fG i (upd (fG i) j (nI w))) 6, oQ (cY 2) (b 3) (rr 1) 6, gI (cY 0) (rr 1) 6 (va_up (va_up fW i (upd (fW i) (g i j) (fW i (g i j) - nI 1))) i (upd ((va_up fW i (upd (fW i) (g i j) (fW i (g i j) - nI 1))) i) w (((va_up fW i (upd (fW i) (g i j) (fW i (g i j) - nI 1))) i w) + nI 1))) 6, [(oo, .inl (cY 1, 1, .inr (.inl (vp_updL fO 0 ((nI (g i j)).toInt64)))))]]) (va_A ([hO b, cO b (nI n) (nI k), oQ (cY 2) (b 2) (rr 0) 6, gI (cY 0) (rr 0) 12 fG 6, oQ (cY 2) (b 3) (rr 1) 6, gI (cY 0) (rr 1) 6 fW 6, [(oo, .inl (cY 1, 1, .inr (.inl fO)))]] : List va_W).flatten sz)) (q0 (va_A ([hO b, cO b (nI n) (nI k), oQ (cY 2) (b 2) (rr 0) 6, gI (cY 0) (rr 0) 12 fG 6, oQ (cY 2) (b 3) (rr 1) 6, gI (cY 0) (rr 1) 6 fW 6, [(oo, .inl (cY 1, 1, .inr (.inl fO)))]] : List va_W).flatten sz)) 0 0 (va_A ([hO b, cO b (nI n) (nI k), oQ (cY 2) (b 2) (rr 0) 6, gI (cY 0) (rr 0) 12 fG 6, oQ (cY 2) (b 3) (rr 1) 6, gI (cY 0) (rr 1) 6 fW 6, [(oo, .inl (cY 1, 1, .inr (.inl fO)))]] : List va_W).flatten sz) := by
  refine mtH (Qc := fun A => qI (S := Unit) D cY (fun r uu => r = nI 0) (fun uu => [hO b, cO b (nI n) (nI k), oQ (cY 2) (b 2) (rr 0) 6, gI (cY 0) (rr 0) 12 (va_up fG i (upd (fG i) j (nI w))) 6, oQ (cY 2) (b 3) (rr 1) 6, gI (cY 0) (rr 1) 6 (va_up (va_up fW i (upd (fW i) (g i j) (fW i (g i j) - nI 1))) i (upd ((va_up fW i (upd (fW i) (g i j) (fW i (g i j) - nI 1))) i) w (((va_up fW i (upd (fW i) (g i j) (fW i (g i j) - nI 1))) i w) + nI 1))) 6, [(oo, .inl (cY 1, 1, .inr (.inl (vp_updL fO 0 ((nI (g i j)).toInt64)))))]]) A) (cc := cL_lead) (maxL := 6) (ret := (some .int)) (by decide) rfl (Nat.le_of_ble_eq_true rfl) ?_
  intro p e s m below meth c A ls hx hb hr hml hts hown hlocks hsz hP hK hVK hD hS hA hX hH htb hl
  have hown : s.vm.findClass RL = some m.cls := hown
  have hl : lv_has ls 6 [(0, .ref (b 0)), (1, .int (nI i)), (2, .int (nI j)), (3, .int (nI w)), (4, .ref oo)] := hl
  have hP : va_P D vwCl ([hO b, cO b (nI n) (nI k), oQ (cY 2) (b 2) (rr 0) 6, gI (cY 0) (rr 0) 12 fG 6, oQ (cY 2) (b 3) (rr 1) 6, gI (cY 0) (rr 1) 6 fW 6, [(oo, .inl (cY 1, 1, .inr (.inl fO)))]] : List va_W).flatten s.heap := hP
  have hD : va_D A ([hO b, cO b (nI n) (nI k), oQ (cY 2) (b 2) (rr 0) 6, gI (cY 0) (rr 0) 12 fG 6, oQ (cY 2) (b 3) (rr 1) 6, gI (cY 0) (rr 1) 6 fW 6, [(oo, .inl (cY 1, 1, .inr (.inl fO)))]] : List va_W).flatten := hD
  refine lv_aload hx hb dL_lead_0 (lv_at hl 4 rfl) ?_
  refine lv_iconst (v := nI 0) hx hb dL_lead_2 (by decide) ?_
  refine lv_aload_n hx hb dL_lead_3 rfl (lv_at hl 0 rfl) ?_
  refine lv_iload_n hx hb dL_lead_4 rfl (lv_at hl 1 rfl) ?_
  refine lv_iload_n hx hb dL_lead_5 rfl (lv_at hl 2 rfl) ?_
  refine lv_iload_n hx hb dL_lead_6 rfl (lv_at hl 3 rfl) ?_
  refine ca_i (CL := [hO b, cO b (nI n) (nI k), oQ (cY 2) (b 2) (rr 0) 6, gI (cY 0) (rr 0) 12 fG 6, oQ (cY 2) (b 3) (rr 1) 6, gI (cY 0) (rr 1) 6 fW 6]) (va_runV (As := [.int (nI i), .int (nI j), .int (nI w)]) (rest := [.int (nI 0), .ref oo]) ⟨hx, hb, hml, hown, hts⟩ (c_X8_lead_ok l D cY s.heap.size b rr n k fG fW g i j w hn1 hn6 hk1 hk12 hG hgn hW hi hj hw) (cwV 3 hts gL_lead_X8_lead rfl rfl rfl (by decide +kernel) ⟨Nat.le_of_ble_eq_true rfl, Nat.le_of_ble_eq_true rfl⟩) (b_preV hVK hP hD [0, 1, 2, 3, 4, 5] rfl rfl 0 rfl rfl) rfl rfl hl.1 rfl (lv_room (Nat.le_of_ble_eq_true rfl)) dL_lead_7 ⟨Nat.zero_le _, Nat.zero_le _⟩) hP hD hS hA [0, 1, 2, 3, 4, 5] rfl rfl (fun _ => rfl) (fun r7 uu H locs hq hP hD hS => ?_)
  subst hq
  have hP : va_P D vwCl ([hO b, cO b (nI n) (nI k), oQ (cY 2) (b 2) (rr 0) 6, gI (cY 0) (rr 0) 12 (va_up fG i (upd (fG i) j (nI w))) 6, oQ (cY 2) (b 3) (rr 1) 6, gI (cY 0) (rr 1) 6 (va_up (va_up fW i (upd (fW i) (g i j) (fW i (g i j) - nI 1))) i (upd ((va_up fW i (upd (fW i) (g i j) (fW i (g i j) - nI 1))) i) w (((va_up fW i (upd (fW i) (g i j) (fW i (g i j) - nI 1))) i w) + nI 1))) 6, [(oo, .inl (cY 1, 1, .inr (.inl fO)))]] : List va_W).flatten H := hP
  have hD : va_D A ([hO b, cO b (nI n) (nI k), oQ (cY 2) (b 2) (rr 0) 6, gI (cY 0) (rr 0) 12 (va_up fG i (upd (fG i) j (nI w))) 6, oQ (cY 2) (b 3) (rr 1) 6, gI (cY 0) (rr 1) 6 (va_up (va_up fW i (upd (fW i) (g i j) (fW i (g i j) - nI 1))) i (upd ((va_up fW i (upd (fW i) (g i j) (fW i (g i j) - nI 1))) i) w (((va_up fW i (upd (fW i) (g i j) (fW i (g i j) - nI 1))) i w) + nI 1))) 6, [(oo, .inl (cY 1, 1, .inr (.inl fO)))]] : List va_W).flatten := hD
  refine lv_i2l (v := (nI (g i j)).toInt64) hx hb dL_lead_10 rfl ?_
  refine b_last hx hb hK hP hD hS 6 1 rfl rfl (by omega) (by decide) dL_lead_11 (fun H locs hP hD hS => ?_)
  have hP : va_P D vwCl ([hO b, cO b (nI n) (nI k), oQ (cY 2) (b 2) (rr 0) 6, gI (cY 0) (rr 0) 12 (va_up fG i (upd (fG i) j (nI w))) 6, oQ (cY 2) (b 3) (rr 1) 6, gI (cY 0) (rr 1) 6 (va_up (va_up fW i (upd (fW i) (g i j) (fW i (g i j) - nI 1))) i (upd ((va_up fW i (upd (fW i) (g i j) (fW i (g i j) - nI 1))) i) w (((va_up fW i (upd (fW i) (g i j) (fW i (g i j) - nI 1))) i w) + nI 1))) 6, [(oo, .inl (cY 1, 1, .inr (.inl (vp_updL fO 0 ((nI (g i j)).toInt64)))))]] : List va_W).flatten H := hP
  have hD : va_D A ([hO b, cO b (nI n) (nI k), oQ (cY 2) (b 2) (rr 0) 6, gI (cY 0) (rr 0) 12 (va_up fG i (upd (fG i) j (nI w))) 6, oQ (cY 2) (b 3) (rr 1) 6, gI (cY 0) (rr 1) 6 (va_up (va_up fW i (upd (fW i) (g i j) (fW i (g i j) - nI 1))) i (upd ((va_up fW i (upd (fW i) (g i j) (fW i (g i j) - nI 1))) i) w (((va_up fW i (upd (fW i) (g i j) (fW i (g i j) - nI 1))) i w) + nI 1))) 6, [(oo, .inl (cY 1, 1, .inr (.inl (vp_updL fO 0 ((nI (g i j)).toInt64)))))]] : List va_W).flatten := hD
  refine lv_goto (tgt := 19) hx hb dL_lead_12 (by decide) ?_
  refine lv_iconst (v := nI 0) hx hb dL_lead_19 (by decide) ?_
  exact r_i hx hb hr hlocks hP hD hS () rfl (rfl) dL_lead_20

set_option maxHeartbeats 4000000 in
set_option maxRecDepth 100000 in
theorem c_L_swap_ok (l : Launch) (D : va_G) (cY : Nat → ClassId) (sz : Nat) (b : Nat → Nat) (rr : Nat → Nat → Nat) (n : Nat) (k : Nat) (fG : Nat → Nat → Int32) (g : Nat → Nat → Nat) (i : Nat) (j : Nat) (w : Nat) (hn1 : 1 ≤ n) (hn6 : n ≤ 6) (hk1 : 1 ≤ k) (hk12 : k ≤ 12) (hG : ∀ i j, i < n → j < k → fG i j = nI (g i j)) (hgn : ∀ i j, i < n → j < k → g i j < n) (hi : i < n) (hj : j < k) (hw : w < k) : vx_Met l yL_swap wsL_swap ({ frames := 3, cells := 0, slots := 0, locals := 120 }) (cPH D cY [.ref (b 0), .int (nI i), .int (nI j), .int (nI w)] [hO b, cO b (nI n) (nI k), oQ (cY 2) (b 2) (rr 0) 6, gI (cY 0) (rr 0) 12 fG 6] sz) (qI (S := Unit) D cY (fun r uu => r = nI 0) (fun uu => [hO b, cO b (nI n) (nI k), oQ (cY 2) (b 2) (rr 0) 6, gI (cY 0) (rr 0) 12 (va_up (va_up fG i (upd (fG i) j (nI (g i w)))) i (upd ((va_up fG i (upd (fG i) j (nI (g i w)))) i) w (nI (g i j)))) 6]) (va_A ([hO b, cO b (nI n) (nI k), oQ (cY 2) (b 2) (rr 0) 6, gI (cY 0) (rr 0) 12 fG 6] : List va_W).flatten sz)) (q0 (va_A ([hO b, cO b (nI n) (nI k), oQ (cY 2) (b 2) (rr 0) 6, gI (cY 0) (rr 0) 12 fG 6] : List va_W).flatten sz)) 0 0 (va_A ([hO b, cO b (nI n) (nI k), oQ (cY 2) (b 2) (rr 0) 6, gI (cY 0) (rr 0) 12 fG 6] : List va_W).flatten sz) := by
  refine mtH (Qc := fun A => qI (S := Unit) D cY (fun r uu => r = nI 0) (fun uu => [hO b, cO b (nI n) (nI k), oQ (cY 2) (b 2) (rr 0) 6, gI (cY 0) (rr 0) 12 (va_up (va_up fG i (upd (fG i) j (nI (g i w)))) i (upd ((va_up fG i (upd (fG i) j (nI (g i w)))) i) w (nI (g i j)))) 6]) A) (cc := cL_swap) (maxL := 5) (ret := (some .int)) (by decide) rfl (Nat.le_of_ble_eq_true rfl) ?_
  intro p e s m below meth c A ls hx hb hr hml hts hown hlocks hsz hP hK hVK hD hS hA hX hH htb hl
  have hown : s.vm.findClass RL = some m.cls := hown
  have hl : lv_has ls 5 [(0, .ref (b 0)), (1, .int (nI i)), (2, .int (nI j)), (3, .int (nI w))] := hl
  have hP : va_P D vwCl ([hO b, cO b (nI n) (nI k), oQ (cY 2) (b 2) (rr 0) 6, gI (cY 0) (rr 0) 12 fG 6] : List va_W).flatten s.heap := hP
  have hD : va_D A ([hO b, cO b (nI n) (nI k), oQ (cY 2) (b 2) (rr 0) 6, gI (cY 0) (rr 0) 12 fG 6] : List va_W).flatten := hD
  refine lv_aload_n hx hb dL_swap_0 rfl (lv_at hl 0 rfl) ?_
  refine lv_iload_n hx hb dL_swap_1 rfl (lv_at hl 1 rfl) ?_
  refine lv_iload_n hx hb dL_swap_2 rfl (lv_at hl 2 rfl) ?_
  refine lv_iload_n hx hb dL_swap_3 rfl (lv_at hl 3 rfl) ?_
  refine ca_v (CL := [hO b, cO b (nI n) (nI k), oQ (cY 2) (b 2) (rr 0) 6, gI (cY 0) (rr 0) 12 fG 6]) (va_runV (As := [.int (nI i), .int (nI j), .int (nI w)]) (rest := []) ⟨hx, hb, hml, hown, hts⟩ (c_X8_swap_ok l D cY s.heap.size b rr n k fG g i j w hn1 hn6 hk1 hk12 hG hgn hi hj hw) (cwV 3 hts gL_swap_X8_swap rfl rfl rfl (by decide +kernel) ⟨Nat.le_of_ble_eq_true rfl, Nat.le_of_ble_eq_true rfl⟩) (b_preV hVK hP hD [0, 1, 2, 3] rfl rfl 0 rfl rfl) rfl rfl hl.1 rfl (lv_room (Nat.le_of_ble_eq_true rfl)) dL_swap_4 ⟨Nat.zero_le _, Nat.zero_le _⟩) hP hD hS hA [0, 1, 2, 3] rfl rfl (fun _ => rfl) (fun uu H locs hq hP hD hS => ?_)
  have hP : va_P D vwCl ([hO b, cO b (nI n) (nI k), oQ (cY 2) (b 2) (rr 0) 6, gI (cY 0) (rr 0) 12 (va_up (va_up fG i (upd (fG i) j (nI (g i w)))) i (upd ((va_up fG i (upd (fG i) j (nI (g i w)))) i) w (nI (g i j)))) 6] : List va_W).flatten H := hP
  have hD : va_D A ([hO b, cO b (nI n) (nI k), oQ (cY 2) (b 2) (rr 0) 6, gI (cY 0) (rr 0) 12 (va_up (va_up fG i (upd (fG i) j (nI (g i w)))) i (upd ((va_up fG i (upd (fG i) j (nI (g i w)))) i) w (nI (g i j)))) 6] : List va_W).flatten := hD
  refine lv_goto (tgt := 14) hx hb dL_swap_7 (by decide) ?_
  refine lv_iconst (v := nI 0) hx hb dL_swap_14 (by decide) ?_
  exact r_i hx hb hr hlocks hP hD hS () rfl (rfl) dL_swap_15

set_option maxHeartbeats 4000000 in
set_option maxRecDepth 100000 in
theorem c_L_pay_ok (l : Launch) (D : va_G) (cY : Nat → ClassId) (sz : Nat) (b : Nat → Nat) (n : Nat) (k : Nat) (fPy : Nat → Int32) (g : Nat → Nat → Nat) (i : Nat) (v0 : Int32) (oo : Nat) (fO : Nat → Int64) (hn1 : 1 ≤ n) (hn6 : n ≤ 6) (hk1 : 1 ≤ k) (hk12 : k ≤ 12) (hi : i < n) (hv : inR v0 (-100000) (nI 100000) = true) : vx_Met l yL_pay wsL_pay ({ frames := 3, cells := 0, slots := 0, locals := 120 }) (cPH D cY [.ref (b 0), .int (nI i), .int v0, .ref oo] [hO b, cO b (nI n) (nI k), gO b, [(b 19, .inl (cY 0, 6, .inl fPy))], [(oo, .inl (cY 1, 1, .inr (.inl fO)))]] sz) (qI (S := Unit) D cY (fun r uu => r = nI 0) (fun uu => [hO b, cO b (nI n) (nI k), gO b, [(b 19, .inl (cY 0, 6, .inl (upd fPy i v0)))], [(oo, .inl (cY 1, 1, .inr (.inl (vp_updL fO 0 ((fPy i).toInt64)))))]]) (va_A ([hO b, cO b (nI n) (nI k), gO b, [(b 19, .inl (cY 0, 6, .inl fPy))], [(oo, .inl (cY 1, 1, .inr (.inl fO)))]] : List va_W).flatten sz)) (q0 (va_A ([hO b, cO b (nI n) (nI k), gO b, [(b 19, .inl (cY 0, 6, .inl fPy))], [(oo, .inl (cY 1, 1, .inr (.inl fO)))]] : List va_W).flatten sz)) 0 0 (va_A ([hO b, cO b (nI n) (nI k), gO b, [(b 19, .inl (cY 0, 6, .inl fPy))], [(oo, .inl (cY 1, 1, .inr (.inl fO)))]] : List va_W).flatten sz) := by
  refine mtH (Qc := fun A => qI (S := Unit) D cY (fun r uu => r = nI 0) (fun uu => [hO b, cO b (nI n) (nI k), gO b, [(b 19, .inl (cY 0, 6, .inl (upd fPy i v0)))], [(oo, .inl (cY 1, 1, .inr (.inl (vp_updL fO 0 ((fPy i).toInt64)))))]]) A) (cc := cL_pay) (maxL := 5) (ret := (some .int)) (by decide) rfl (Nat.le_of_ble_eq_true rfl) ?_
  intro p e s m below meth c A ls hx hb hr hml hts hown hlocks hsz hP hK hVK hD hS hA hX hH htb hl
  have hown : s.vm.findClass RL = some m.cls := hown
  have hl : lv_has ls 5 [(0, .ref (b 0)), (1, .int (nI i)), (2, .int v0), (3, .ref oo)] := hl
  have hP : va_P D vwCl ([hO b, cO b (nI n) (nI k), gO b, [(b 19, .inl (cY 0, 6, .inl fPy))], [(oo, .inl (cY 1, 1, .inr (.inl fO)))]] : List va_W).flatten s.heap := hP
  have hD : va_D A ([hO b, cO b (nI n) (nI k), gO b, [(b 19, .inl (cY 0, 6, .inl fPy))], [(oo, .inl (cY 1, 1, .inr (.inl fO)))]] : List va_W).flatten := hD
  refine lv_aload_n hx hb dL_pay_0 rfl (lv_at hl 3 rfl) ?_
  refine lv_iconst (v := nI 0) hx hb dL_pay_1 (by decide) ?_
  refine lv_aload_n hx hb dL_pay_2 rfl (lv_at hl 0 rfl) ?_
  refine lv_iload_n hx hb dL_pay_3 rfl (lv_at hl 1 rfl) ?_
  refine lv_iload_n hx hb dL_pay_4 rfl (lv_at hl 2 rfl) ?_
  refine ca_i (CL := [hO b, cO b (nI n) (nI k), gO b, [(b 19, .inl (cY 0, 6, .inl fPy))]]) (va_runV (As := [.int (nI i), .int v0]) (rest := [.int (nI 0), .ref oo]) ⟨hx, hb, hml, hown, hts⟩ (c_X8_pay_ok l D cY s.heap.size b n k fPy g i v0 hn1 hn6 hk1 hk12 hi hv) (cwV 2 hts gL_pay_X8_pay rfl rfl rfl (by decide +kernel) ⟨Nat.le_of_ble_eq_true rfl, Nat.le_of_ble_eq_true rfl⟩) (b_preV hVK hP hD [0, 1, 2, 3] rfl rfl 0 rfl rfl) rfl rfl hl.1 rfl (lv_room (Nat.le_of_ble_eq_true rfl)) dL_pay_5 ⟨Nat.zero_le _, Nat.zero_le _⟩) hP hD hS hA [0, 1, 2, 3] rfl rfl (fun _ => rfl) (fun r5 uu H locs hq hP hD hS => ?_)
  subst hq
  have hP : va_P D vwCl ([hO b, cO b (nI n) (nI k), gO b, [(b 19, .inl (cY 0, 6, .inl (upd fPy i v0)))], [(oo, .inl (cY 1, 1, .inr (.inl fO)))]] : List va_W).flatten H := hP
  have hD : va_D A ([hO b, cO b (nI n) (nI k), gO b, [(b 19, .inl (cY 0, 6, .inl (upd fPy i v0)))], [(oo, .inl (cY 1, 1, .inr (.inl fO)))]] : List va_W).flatten := hD
  refine lv_i2l (v := (fPy i).toInt64) hx hb dL_pay_8 rfl ?_
  refine b_last hx hb hK hP hD hS 4 1 rfl rfl (by omega) (by decide) dL_pay_9 (fun H locs hP hD hS => ?_)
  have hP : va_P D vwCl ([hO b, cO b (nI n) (nI k), gO b, [(b 19, .inl (cY 0, 6, .inl (upd fPy i v0)))], [(oo, .inl (cY 1, 1, .inr (.inl (vp_updL fO 0 ((fPy i).toInt64)))))]] : List va_W).flatten H := hP
  have hD : va_D A ([hO b, cO b (nI n) (nI k), gO b, [(b 19, .inl (cY 0, 6, .inl (upd fPy i v0)))], [(oo, .inl (cY 1, 1, .inr (.inl (vp_updL fO 0 ((fPy i).toInt64)))))]] : List va_W).flatten := hD
  refine lv_goto (tgt := 21) hx hb dL_pay_10 (by decide) ?_
  refine lv_iconst (v := nI 0) hx hb dL_pay_21 (by decide) ?_
  exact r_i hx hb hr hlocks hP hD hS () rfl (rfl) dL_pay_22

set_option maxHeartbeats 4000000 in
set_option maxRecDepth 100000 in
theorem c_L_colour_ok (l : Launch) (D : va_G) (cY : Nat → ClassId) (sz : Nat) (b : Nat → Nat) (n : Nat) (k : Nat) (fCc : Nat → Int32) (g : Nat → Nat → Nat) (i : Nat) (v0 : Int32) (oo : Nat) (fO : Nat → Int64) (hn1 : 1 ≤ n) (hn6 : n ≤ 6) (hk1 : 1 ≤ k) (hk12 : k ≤ 12) (hi : i < n) (hv : inR v0 (nI 0) (nI 5) = true) : vx_Met l yL_colour wsL_colour ({ frames := 3, cells := 0, slots := 0, locals := 120 }) (cPH D cY [.ref (b 0), .int (nI i), .int v0, .ref oo] [hO b, cO b (nI n) (nI k), uO b, [(b 22, .inl (cY 0, 6, .inl fCc))], [(oo, .inl (cY 1, 1, .inr (.inl fO)))]] sz) (qI (S := Unit) D cY (fun r uu => r = nI 0) (fun uu => [hO b, cO b (nI n) (nI k), uO b, [(b 22, .inl (cY 0, 6, .inl (upd fCc i v0)))], [(oo, .inl (cY 1, 1, .inr (.inl (vp_updL fO 0 ((fCc i).toInt64)))))]]) (va_A ([hO b, cO b (nI n) (nI k), uO b, [(b 22, .inl (cY 0, 6, .inl fCc))], [(oo, .inl (cY 1, 1, .inr (.inl fO)))]] : List va_W).flatten sz)) (q0 (va_A ([hO b, cO b (nI n) (nI k), uO b, [(b 22, .inl (cY 0, 6, .inl fCc))], [(oo, .inl (cY 1, 1, .inr (.inl fO)))]] : List va_W).flatten sz)) 0 0 (va_A ([hO b, cO b (nI n) (nI k), uO b, [(b 22, .inl (cY 0, 6, .inl fCc))], [(oo, .inl (cY 1, 1, .inr (.inl fO)))]] : List va_W).flatten sz) := by
  refine mtH (Qc := fun A => qI (S := Unit) D cY (fun r uu => r = nI 0) (fun uu => [hO b, cO b (nI n) (nI k), uO b, [(b 22, .inl (cY 0, 6, .inl (upd fCc i v0)))], [(oo, .inl (cY 1, 1, .inr (.inl (vp_updL fO 0 ((fCc i).toInt64)))))]]) A) (cc := cL_colour) (maxL := 5) (ret := (some .int)) (by decide) rfl (Nat.le_of_ble_eq_true rfl) ?_
  intro p e s m below meth c A ls hx hb hr hml hts hown hlocks hsz hP hK hVK hD hS hA hX hH htb hl
  have hown : s.vm.findClass RL = some m.cls := hown
  have hl : lv_has ls 5 [(0, .ref (b 0)), (1, .int (nI i)), (2, .int v0), (3, .ref oo)] := hl
  have hP : va_P D vwCl ([hO b, cO b (nI n) (nI k), uO b, [(b 22, .inl (cY 0, 6, .inl fCc))], [(oo, .inl (cY 1, 1, .inr (.inl fO)))]] : List va_W).flatten s.heap := hP
  have hD : va_D A ([hO b, cO b (nI n) (nI k), uO b, [(b 22, .inl (cY 0, 6, .inl fCc))], [(oo, .inl (cY 1, 1, .inr (.inl fO)))]] : List va_W).flatten := hD
  refine lv_aload_n hx hb dL_colour_0 rfl (lv_at hl 3 rfl) ?_
  refine lv_iconst (v := nI 0) hx hb dL_colour_1 (by decide) ?_
  refine lv_aload_n hx hb dL_colour_2 rfl (lv_at hl 0 rfl) ?_
  refine lv_iload_n hx hb dL_colour_3 rfl (lv_at hl 1 rfl) ?_
  refine lv_iload_n hx hb dL_colour_4 rfl (lv_at hl 2 rfl) ?_
  refine ca_i (CL := [hO b, cO b (nI n) (nI k), uO b, [(b 22, .inl (cY 0, 6, .inl fCc))]]) (va_runV (As := [.int (nI i), .int v0]) (rest := [.int (nI 0), .ref oo]) ⟨hx, hb, hml, hown, hts⟩ (c_X8_colour_ok l D cY s.heap.size b n k fCc g i v0 hn1 hn6 hk1 hk12 hi hv) (cwV 2 hts gL_colour_X8_colour rfl rfl rfl (by decide +kernel) ⟨Nat.le_of_ble_eq_true rfl, Nat.le_of_ble_eq_true rfl⟩) (b_preV hVK hP hD [0, 1, 2, 3] rfl rfl 0 rfl rfl) rfl rfl hl.1 rfl (lv_room (Nat.le_of_ble_eq_true rfl)) dL_colour_5 ⟨Nat.zero_le _, Nat.zero_le _⟩) hP hD hS hA [0, 1, 2, 3] rfl rfl (fun _ => rfl) (fun r5 uu H locs hq hP hD hS => ?_)
  subst hq
  have hP : va_P D vwCl ([hO b, cO b (nI n) (nI k), uO b, [(b 22, .inl (cY 0, 6, .inl (upd fCc i v0)))], [(oo, .inl (cY 1, 1, .inr (.inl fO)))]] : List va_W).flatten H := hP
  have hD : va_D A ([hO b, cO b (nI n) (nI k), uO b, [(b 22, .inl (cY 0, 6, .inl (upd fCc i v0)))], [(oo, .inl (cY 1, 1, .inr (.inl fO)))]] : List va_W).flatten := hD
  refine lv_i2l (v := (fCc i).toInt64) hx hb dL_colour_8 rfl ?_
  refine b_last hx hb hK hP hD hS 4 1 rfl rfl (by omega) (by decide) dL_colour_9 (fun H locs hP hD hS => ?_)
  have hP : va_P D vwCl ([hO b, cO b (nI n) (nI k), uO b, [(b 22, .inl (cY 0, 6, .inl (upd fCc i v0)))], [(oo, .inl (cY 1, 1, .inr (.inl (vp_updL fO 0 ((fCc i).toInt64)))))]] : List va_W).flatten H := hP
  have hD : va_D A ([hO b, cO b (nI n) (nI k), uO b, [(b 22, .inl (cY 0, 6, .inl (upd fCc i v0)))], [(oo, .inl (cY 1, 1, .inr (.inl (vp_updL fO 0 ((fCc i).toInt64)))))]] : List va_W).flatten := hD
  refine lv_goto (tgt := 21) hx hb dL_colour_10 (by decide) ?_
  refine lv_iconst (v := nI 0) hx hb dL_colour_21 (by decide) ?_
  exact r_i hx hb hr hlocks hP hD hS () rfl (rfl) dL_colour_22

set_option maxHeartbeats 4000000 in
set_option maxRecDepth 100000 in
theorem c_L_weight_ok (l : Launch) (D : va_G) (cY : Nat → ClassId) (sz : Nat) (b : Nat → Nat) (rr : Nat → Nat → Nat) (n : Nat) (k : Nat) (fW : Nat → Nat → Int32) (g : Nat → Nat → Nat) (i : Nat) (w : Nat) (oo : Nat) (fO : Nat → Int64) (hn1 : 1 ≤ n) (hn6 : n ≤ 6) (hk1 : 1 ≤ k) (hk12 : k ≤ 12) (hW : ∀ i j, i < n → j < n → fW i j = nI (cnt (g i) j k)) (hi : i < n) (hw : w < n) : vx_Met l yL_weight wsL_weight ({ frames := 3, cells := 0, slots := 0, locals := 120 }) (cPH D cY [.ref (b 0), .int (nI i), .int (nI w), .ref oo] [hO b, cO b (nI n) (nI k), oQ (cY 2) (b 3) (rr 1) 6, gI (cY 0) (rr 1) 6 fW 6, [(oo, .inl (cY 1, 1, .inr (.inl fO)))]] sz) (qI (S := Unit) D cY (fun r uu => r = nI 0) (fun uu => [hO b, cO b (nI n) (nI k), oQ (cY 2) (b 3) (rr 1) 6, gI (cY 0) (rr 1) 6 fW 6, [(oo, .inl (cY 1, 1, .inr (.inl (vp_updL fO 0 ((nI (cnt (g i) w k)).toInt64)))))]]) (va_A ([hO b, cO b (nI n) (nI k), oQ (cY 2) (b 3) (rr 1) 6, gI (cY 0) (rr 1) 6 fW 6, [(oo, .inl (cY 1, 1, .inr (.inl fO)))]] : List va_W).flatten sz)) (q0 (va_A ([hO b, cO b (nI n) (nI k), oQ (cY 2) (b 3) (rr 1) 6, gI (cY 0) (rr 1) 6 fW 6, [(oo, .inl (cY 1, 1, .inr (.inl fO)))]] : List va_W).flatten sz)) 0 0 (va_A ([hO b, cO b (nI n) (nI k), oQ (cY 2) (b 3) (rr 1) 6, gI (cY 0) (rr 1) 6 fW 6, [(oo, .inl (cY 1, 1, .inr (.inl fO)))]] : List va_W).flatten sz) := by
  refine mtH (Qc := fun A => qI (S := Unit) D cY (fun r uu => r = nI 0) (fun uu => [hO b, cO b (nI n) (nI k), oQ (cY 2) (b 3) (rr 1) 6, gI (cY 0) (rr 1) 6 fW 6, [(oo, .inl (cY 1, 1, .inr (.inl (vp_updL fO 0 ((nI (cnt (g i) w k)).toInt64)))))]]) A) (cc := cL_weight) (maxL := 5) (ret := (some .int)) (by decide) rfl (Nat.le_of_ble_eq_true rfl) ?_
  intro p e s m below meth c A ls hx hb hr hml hts hown hlocks hsz hP hK hVK hD hS hA hX hH htb hl
  have hown : s.vm.findClass RL = some m.cls := hown
  have hl : lv_has ls 5 [(0, .ref (b 0)), (1, .int (nI i)), (2, .int (nI w)), (3, .ref oo)] := hl
  have hP : va_P D vwCl ([hO b, cO b (nI n) (nI k), oQ (cY 2) (b 3) (rr 1) 6, gI (cY 0) (rr 1) 6 fW 6, [(oo, .inl (cY 1, 1, .inr (.inl fO)))]] : List va_W).flatten s.heap := hP
  have hD : va_D A ([hO b, cO b (nI n) (nI k), oQ (cY 2) (b 3) (rr 1) 6, gI (cY 0) (rr 1) 6 fW 6, [(oo, .inl (cY 1, 1, .inr (.inl fO)))]] : List va_W).flatten := hD
  refine lv_aload_n hx hb dL_weight_0 rfl (lv_at hl 3 rfl) ?_
  refine lv_iconst (v := nI 0) hx hb dL_weight_1 (by decide) ?_
  refine lv_aload_n hx hb dL_weight_2 rfl (lv_at hl 0 rfl) ?_
  refine lv_iload_n hx hb dL_weight_3 rfl (lv_at hl 1 rfl) ?_
  refine lv_iload_n hx hb dL_weight_4 rfl (lv_at hl 2 rfl) ?_
  refine ca_i (CL := [hO b, cO b (nI n) (nI k), oQ (cY 2) (b 3) (rr 1) 6, gI (cY 0) (rr 1) 6 fW 6]) (va_runV (As := [.int (nI i), .int (nI w)]) (rest := [.int (nI 0), .ref oo]) ⟨hx, hb, hml, hown, hts⟩ (c_X8_weight_ok l D cY s.heap.size b rr n k fW g i w hn1 hn6 hk1 hk12 hW hi hw) (cwV 2 hts gL_weight_X8_weight rfl rfl rfl (by decide +kernel) ⟨Nat.le_of_ble_eq_true rfl, Nat.le_of_ble_eq_true rfl⟩) (b_preV hVK hP hD [0, 1, 2, 3] rfl rfl 0 rfl rfl) rfl rfl hl.1 rfl (lv_room (Nat.le_of_ble_eq_true rfl)) dL_weight_5 ⟨Nat.zero_le _, Nat.zero_le _⟩) hP hD hS hA [0, 1, 2, 3] rfl rfl (fun _ => rfl) (fun r5 uu H locs hq hP hD hS => ?_)
  subst hq
  have hP : va_P D vwCl ([hO b, cO b (nI n) (nI k), oQ (cY 2) (b 3) (rr 1) 6, gI (cY 0) (rr 1) 6 fW 6, [(oo, .inl (cY 1, 1, .inr (.inl fO)))]] : List va_W).flatten H := hP
  have hD : va_D A ([hO b, cO b (nI n) (nI k), oQ (cY 2) (b 3) (rr 1) 6, gI (cY 0) (rr 1) 6 fW 6, [(oo, .inl (cY 1, 1, .inr (.inl fO)))]] : List va_W).flatten := hD
  refine lv_i2l (v := (nI (cnt (g i) w k)).toInt64) hx hb dL_weight_8 rfl ?_
  refine b_last hx hb hK hP hD hS 4 1 rfl rfl (by omega) (by decide) dL_weight_9 (fun H locs hP hD hS => ?_)
  have hP : va_P D vwCl ([hO b, cO b (nI n) (nI k), oQ (cY 2) (b 3) (rr 1) 6, gI (cY 0) (rr 1) 6 fW 6, [(oo, .inl (cY 1, 1, .inr (.inl (vp_updL fO 0 ((nI (cnt (g i) w k)).toInt64)))))]] : List va_W).flatten H := hP
  have hD : va_D A ([hO b, cO b (nI n) (nI k), oQ (cY 2) (b 3) (rr 1) 6, gI (cY 0) (rr 1) 6 fW 6, [(oo, .inl (cY 1, 1, .inr (.inl (vp_updL fO 0 ((nI (cnt (g i) w k)).toInt64)))))]] : List va_W).flatten := hD
  refine lv_goto (tgt := 17) hx hb dL_weight_10 (by decide) ?_
  refine lv_iconst (v := nI 0) hx hb dL_weight_17 (by decide) ?_
  exact r_i hx hb hr hlocks hP hD hS () rfl (rfl) dL_weight_18

set_option maxHeartbeats 4000000 in
set_option maxRecDepth 100000 in
theorem c_L_words_ok (l : Launch) (D : va_G) (cY : Nat → ClassId) (sz : Nat) (b : Nat → Nat) (n : Nat) (k : Nat) (g : Nat → Nat → Nat) (t : Nat) (oo : Nat) (fO : Nat → Int64) (hn1 : 1 ≤ n) (hn6 : n ≤ 6) (hk1 : 1 ≤ k) (hk12 : k ≤ 12) (ht : t ≤ 12) : vx_Met l yL_words wsL_words ({ frames := 3, cells := 0, slots := 0, locals := 120 }) (cPH D cY [.ref (b 0), .int (nI t), .ref oo] [hO b, cO b (nI n) (nI k), [(oo, .inl (cY 1, 1, .inr (.inl fO)))]] sz) (qI (S := Unit) D cY (fun r uu => r = nI 0) (fun uu => [hO b, cO b (nI n) (nI k), [(oo, .inl (cY 1, 1, .inr (.inl (vp_updL fO 0 (lN (k ^ t))))))]]) (va_A ([hO b, cO b (nI n) (nI k), [(oo, .inl (cY 1, 1, .inr (.inl fO)))]] : List va_W).flatten sz)) (q0 (va_A ([hO b, cO b (nI n) (nI k), [(oo, .inl (cY 1, 1, .inr (.inl fO)))]] : List va_W).flatten sz)) 0 0 (va_A ([hO b, cO b (nI n) (nI k), [(oo, .inl (cY 1, 1, .inr (.inl fO)))]] : List va_W).flatten sz) := by
  refine mtH (Qc := fun A => qI (S := Unit) D cY (fun r uu => r = nI 0) (fun uu => [hO b, cO b (nI n) (nI k), [(oo, .inl (cY 1, 1, .inr (.inl (vp_updL fO 0 (lN (k ^ t))))))]]) A) (cc := cL_words) (maxL := 4) (ret := (some .int)) (by decide) rfl (Nat.le_of_ble_eq_true rfl) ?_
  intro p e s m below meth c A ls hx hb hr hml hts hown hlocks hsz hP hK hVK hD hS hA hX hH htb hl
  have hown : s.vm.findClass RL = some m.cls := hown
  have hl : lv_has ls 4 [(0, .ref (b 0)), (1, .int (nI t)), (2, .ref oo)] := hl
  have hP : va_P D vwCl ([hO b, cO b (nI n) (nI k), [(oo, .inl (cY 1, 1, .inr (.inl fO)))]] : List va_W).flatten s.heap := hP
  have hD : va_D A ([hO b, cO b (nI n) (nI k), [(oo, .inl (cY 1, 1, .inr (.inl fO)))]] : List va_W).flatten := hD
  refine lv_aload_n hx hb dL_words_0 rfl (lv_at hl 2 rfl) ?_
  refine lv_iconst (v := nI 0) hx hb dL_words_1 (by decide) ?_
  refine lv_aload_n hx hb dL_words_2 rfl (lv_at hl 0 rfl) ?_
  refine lv_iload_n hx hb dL_words_3 rfl (lv_at hl 1 rfl) ?_
  refine ca_l (CL := [hO b, cO b (nI n) (nI k)]) (va_runV (As := [.int (nI t)]) (rest := [.int (nI 0), .ref oo]) ⟨hx, hb, hml, hown, hts⟩ (c_X8_words_ok l D cY s.heap.size b n k g t hn1 hn6 hk1 hk12 ht) (cwV 1 hts gL_words_X8_words rfl rfl rfl (by decide +kernel) ⟨Nat.le_of_ble_eq_true rfl, Nat.le_of_ble_eq_true rfl⟩) (b_preV hVK hP hD [0, 1] rfl rfl 0 rfl rfl) rfl rfl hl.1 rfl (lv_room (Nat.le_of_ble_eq_true rfl)) dL_words_4 ⟨Nat.zero_le _, Nat.zero_le _⟩) hP hD hS hA [0, 1] rfl rfl (fun _ => rfl) (fun r4 uu H locs hq hP hD hS => ?_)
  subst hq
  have hP : va_P D vwCl ([hO b, cO b (nI n) (nI k), [(oo, .inl (cY 1, 1, .inr (.inl fO)))]] : List va_W).flatten H := hP
  have hD : va_D A ([hO b, cO b (nI n) (nI k), [(oo, .inl (cY 1, 1, .inr (.inl fO)))]] : List va_W).flatten := hD
  refine b_last hx hb hK hP hD hS 2 1 rfl rfl (by omega) (by decide) dL_words_7 (fun H locs hP hD hS => ?_)
  have hP : va_P D vwCl ([hO b, cO b (nI n) (nI k), [(oo, .inl (cY 1, 1, .inr (.inl (vp_updL fO 0 (lN (k ^ t))))))]] : List va_W).flatten H := hP
  have hD : va_D A ([hO b, cO b (nI n) (nI k), [(oo, .inl (cY 1, 1, .inr (.inl (vp_updL fO 0 (lN (k ^ t))))))]] : List va_W).flatten := hD
  refine lv_goto (tgt := 14) hx hb dL_words_8 (by decide) ?_
  refine lv_iconst (v := nI 0) hx hb dL_words_14 (by decide) ?_
  exact r_i hx hb hr hlocks hP hD hS () rfl (rfl) dL_words_15

set_option maxHeartbeats 4000000 in
set_option maxRecDepth 100000 in
theorem c_L_law_ok (l : Launch) (D : va_G) (cY : Nat → ClassId) (sz : Nat) (b : Nat → Nat) (rr : Nat → Nat → Nat) (n : Nat) (k : Nat) (fW : Nat → Nat → Int32) (fR : Nat → Nat → Int64) (g : Nat → Nat → Nat) (i : Nat) (t : Nat) (w : Nat) (oo : Nat) (fO : Nat → Int64) (hn1 : 1 ≤ n) (hn6 : n ≤ 6) (hk1 : 1 ≤ k) (hk12 : k ≤ 12) (hW : ∀ i j, i < n → j < n → fW i j = nI (cnt (g i) j k)) (hi : i < n) (hw : w < n) (ht : t ≤ 12) : vx_Met l yL_law wsL_law ({ frames := 5, cells := 0, slots := 0, locals := 200 }) (cPH D cY [.ref (b 0), .int (nI i), .int (nI t), .int (nI w), .ref oo] [hO b, cO b (nI n) (nI k), lO b, oQ (cY 2) (b 3) (rr 1) 6, gI (cY 0) (rr 1) 6 fW 6, oQ (cY 3) (b 5) (rr 2) 13, gJ (cY 1) (rr 2) 36 fR 13, [(oo, .inl (cY 1, 1, .inr (.inl fO)))]] sz) (qI (S := (Nat → Nat → Int64)) D cY (fun r uu => r = nI 0) (fun uu => [hO b, cO b (nI n) (nI k), lO b, oQ (cY 2) (b 3) (rr 1) 6, gI (cY 0) (rr 1) 6 fW 6, oQ (cY 3) (b 5) (rr 2) 13, gJ (cY 1) (rr 2) 36 uu 13, [(oo, .inl (cY 1, 1, .inr (.inl (vp_updL fO 0 (lN (PL g n k i t w))))))]]) (va_A ([hO b, cO b (nI n) (nI k), lO b, oQ (cY 2) (b 3) (rr 1) 6, gI (cY 0) (rr 1) 6 fW 6, oQ (cY 3) (b 5) (rr 2) 13, gJ (cY 1) (rr 2) 36 fR 13, [(oo, .inl (cY 1, 1, .inr (.inl fO)))]] : List va_W).flatten sz)) (q0 (va_A ([hO b, cO b (nI n) (nI k), lO b, oQ (cY 2) (b 3) (rr 1) 6, gI (cY 0) (rr 1) 6 fW 6, oQ (cY 3) (b 5) (rr 2) 13, gJ (cY 1) (rr 2) 36 fR 13, [(oo, .inl (cY 1, 1, .inr (.inl fO)))]] : List va_W).flatten sz)) 0 0 (va_A ([hO b, cO b (nI n) (nI k), lO b, oQ (cY 2) (b 3) (rr 1) 6, gI (cY 0) (rr 1) 6 fW 6, oQ (cY 3) (b 5) (rr 2) 13, gJ (cY 1) (rr 2) 36 fR 13, [(oo, .inl (cY 1, 1, .inr (.inl fO)))]] : List va_W).flatten sz) := by
  refine mtH (Qc := fun A => qI (S := (Nat → Nat → Int64)) D cY (fun r uu => r = nI 0) (fun uu => [hO b, cO b (nI n) (nI k), lO b, oQ (cY 2) (b 3) (rr 1) 6, gI (cY 0) (rr 1) 6 fW 6, oQ (cY 3) (b 5) (rr 2) 13, gJ (cY 1) (rr 2) 36 uu 13, [(oo, .inl (cY 1, 1, .inr (.inl (vp_updL fO 0 (lN (PL g n k i t w))))))]]) A) (cc := cL_law) (maxL := 6) (ret := (some .int)) (by decide) rfl (Nat.le_of_ble_eq_true rfl) ?_
  intro p e s m below meth c A ls hx hb hr hml hts hown hlocks hsz hP hK hVK hD hS hA hX hH htb hl
  have hown : s.vm.findClass RL = some m.cls := hown
  have hl : lv_has ls 6 [(0, .ref (b 0)), (1, .int (nI i)), (2, .int (nI t)), (3, .int (nI w)), (4, .ref oo)] := hl
  have hP : va_P D vwCl ([hO b, cO b (nI n) (nI k), lO b, oQ (cY 2) (b 3) (rr 1) 6, gI (cY 0) (rr 1) 6 fW 6, oQ (cY 3) (b 5) (rr 2) 13, gJ (cY 1) (rr 2) 36 fR 13, [(oo, .inl (cY 1, 1, .inr (.inl fO)))]] : List va_W).flatten s.heap := hP
  have hD : va_D A ([hO b, cO b (nI n) (nI k), lO b, oQ (cY 2) (b 3) (rr 1) 6, gI (cY 0) (rr 1) 6 fW 6, oQ (cY 3) (b 5) (rr 2) 13, gJ (cY 1) (rr 2) 36 fR 13, [(oo, .inl (cY 1, 1, .inr (.inl fO)))]] : List va_W).flatten := hD
  refine lv_aload hx hb dL_law_0 (lv_at hl 4 rfl) ?_
  refine lv_iconst (v := nI 0) hx hb dL_law_2 (by decide) ?_
  refine lv_aload_n hx hb dL_law_3 rfl (lv_at hl 0 rfl) ?_
  refine lv_iload_n hx hb dL_law_4 rfl (lv_at hl 1 rfl) ?_
  refine lv_iload_n hx hb dL_law_5 rfl (lv_at hl 2 rfl) ?_
  refine lv_iload_n hx hb dL_law_6 rfl (lv_at hl 3 rfl) ?_
  refine ca_l (CL := [hO b, cO b (nI n) (nI k), lO b, oQ (cY 2) (b 3) (rr 1) 6, gI (cY 0) (rr 1) 6 fW 6, oQ (cY 3) (b 5) (rr 2) 13, gJ (cY 1) (rr 2) 36 fR 13]) (va_runV (As := [.int (nI i), .int (nI t), .int (nI w)]) (rest := [.int (nI 0), .ref oo]) ⟨hx, hb, hml, hown, hts⟩ (c_X8_law_ok l D cY s.heap.size b rr n k fW fR g i t w hn1 hn6 hk1 hk12 hW hi hw ht) (cwV 3 hts gL_law_X8_law rfl rfl rfl (by decide +kernel) ⟨Nat.le_of_ble_eq_true rfl, Nat.le_of_ble_eq_true rfl⟩) (b_preV hVK hP hD [0, 1, 2, 3, 4, 5, 6] rfl rfl 0 rfl rfl) rfl rfl hl.1 rfl (lv_room (Nat.le_of_ble_eq_true rfl)) dL_law_7 ⟨Nat.zero_le _, Nat.zero_le _⟩) hP hD hS hA [0, 1, 2, 3, 4, 5, 6] rfl rfl (fun _ => rfl) (fun r7 uu H locs hq hP hD hS => ?_)
  obtain ⟨fR1_1, rfl⟩ : ∃ z, z = uu := ⟨_, rfl⟩
  try dsimp only at hq
  subst hq
  have hP : va_P D vwCl ([hO b, cO b (nI n) (nI k), lO b, oQ (cY 2) (b 3) (rr 1) 6, gI (cY 0) (rr 1) 6 fW 6, oQ (cY 3) (b 5) (rr 2) 13, gJ (cY 1) (rr 2) 36 fR1_1 13, [(oo, .inl (cY 1, 1, .inr (.inl fO)))]] : List va_W).flatten H := hP
  have hD : va_D A ([hO b, cO b (nI n) (nI k), lO b, oQ (cY 2) (b 3) (rr 1) 6, gI (cY 0) (rr 1) 6 fW 6, oQ (cY 3) (b 5) (rr 2) 13, gJ (cY 1) (rr 2) 36 fR1_1 13, [(oo, .inl (cY 1, 1, .inr (.inl fO)))]] : List va_W).flatten := hD
  refine b_last hx hb hK hP hD hS 7 1 rfl rfl (by omega) (by decide) dL_law_10 (fun H locs hP hD hS => ?_)
  have hP : va_P D vwCl ([hO b, cO b (nI n) (nI k), lO b, oQ (cY 2) (b 3) (rr 1) 6, gI (cY 0) (rr 1) 6 fW 6, oQ (cY 3) (b 5) (rr 2) 13, gJ (cY 1) (rr 2) 36 fR1_1 13, [(oo, .inl (cY 1, 1, .inr (.inl (vp_updL fO 0 (lN (PL g n k i t w))))))]] : List va_W).flatten H := hP
  have hD : va_D A ([hO b, cO b (nI n) (nI k), lO b, oQ (cY 2) (b 3) (rr 1) 6, gI (cY 0) (rr 1) 6 fW 6, oQ (cY 3) (b 5) (rr 2) 13, gJ (cY 1) (rr 2) 36 fR1_1 13, [(oo, .inl (cY 1, 1, .inr (.inl (vp_updL fO 0 (lN (PL g n k i t w))))))]] : List va_W).flatten := hD
  refine lv_goto (tgt := 22) hx hb dL_law_11 (by decide) ?_
  refine lv_iconst (v := nI 0) hx hb dL_law_22 (by decide) ?_
  exact r_i hx hb hr hlocks hP hD hS fR1_1 rfl (rfl) dL_law_23

set_option maxHeartbeats 4000000 in
set_option maxRecDepth 100000 in
theorem c_L_lawAnew_ok (l : Launch) (D : va_G) (cY : Nat → ClassId) (sz : Nat) (b : Nat → Nat) (rr : Nat → Nat → Nat) (n : Nat) (k : Nat) (fG : Nat → Nat → Int32) (g : Nat → Nat → Nat) (i : Nat) (t : Nat) (w : Nat) (oo : Nat) (fO : Nat → Int64) (hn1 : 1 ≤ n) (hn6 : n ≤ 6) (hk1 : 1 ≤ k) (hk12 : k ≤ 12) (hG : ∀ i j, i < n → j < k → fG i j = nI (g i j)) (hgn : ∀ i j, i < n → j < k → g i j < n) (hi : i < n) (hw : w < n) (ht4 : t ≤ 4) : vx_Met l yL_lawAnew wsL_lawAnew ({ frames := 7, cells := 0, slots := 0, locals := 280 }) (cPH D cY [.ref (b 0), .int (nI i), .int (nI t), .int (nI w), .ref oo] [hO b, cO b (nI n) (nI k), oQ (cY 2) (b 2) (rr 0) 6, gI (cY 0) (rr 0) 12 fG 6, [(oo, .inl (cY 1, 1, .inr (.inl fO)))]] sz) (qI (S := Unit) D cY (fun r uu => r = nI 0) (fun uu => [hO b, cO b (nI n) (nI k), oQ (cY 2) (b 2) (rr 0) 6, gI (cY 0) (rr 0) 12 fG 6, [(oo, .inl (cY 1, 1, .inr (.inl (vp_updL fO 0 (lN (RW g k w t i))))))]]) (va_A ([hO b, cO b (nI n) (nI k), oQ (cY 2) (b 2) (rr 0) 6, gI (cY 0) (rr 0) 12 fG 6, [(oo, .inl (cY 1, 1, .inr (.inl fO)))]] : List va_W).flatten sz)) (q0 (va_A ([hO b, cO b (nI n) (nI k), oQ (cY 2) (b 2) (rr 0) 6, gI (cY 0) (rr 0) 12 fG 6, [(oo, .inl (cY 1, 1, .inr (.inl fO)))]] : List va_W).flatten sz)) 0 0 (va_A ([hO b, cO b (nI n) (nI k), oQ (cY 2) (b 2) (rr 0) 6, gI (cY 0) (rr 0) 12 fG 6, [(oo, .inl (cY 1, 1, .inr (.inl fO)))]] : List va_W).flatten sz) := by
  refine mtH (Qc := fun A => qI (S := Unit) D cY (fun r uu => r = nI 0) (fun uu => [hO b, cO b (nI n) (nI k), oQ (cY 2) (b 2) (rr 0) 6, gI (cY 0) (rr 0) 12 fG 6, [(oo, .inl (cY 1, 1, .inr (.inl (vp_updL fO 0 (lN (RW g k w t i))))))]]) A) (cc := cL_lawAnew) (maxL := 6) (ret := (some .int)) (by decide) rfl (Nat.le_of_ble_eq_true rfl) ?_
  intro p e s m below meth c A ls hx hb hr hml hts hown hlocks hsz hP hK hVK hD hS hA hX hH htb hl
  have hown : s.vm.findClass RL = some m.cls := hown
  have hl : lv_has ls 6 [(0, .ref (b 0)), (1, .int (nI i)), (2, .int (nI t)), (3, .int (nI w)), (4, .ref oo)] := hl
  have hP : va_P D vwCl ([hO b, cO b (nI n) (nI k), oQ (cY 2) (b 2) (rr 0) 6, gI (cY 0) (rr 0) 12 fG 6, [(oo, .inl (cY 1, 1, .inr (.inl fO)))]] : List va_W).flatten s.heap := hP
  have hD : va_D A ([hO b, cO b (nI n) (nI k), oQ (cY 2) (b 2) (rr 0) 6, gI (cY 0) (rr 0) 12 fG 6, [(oo, .inl (cY 1, 1, .inr (.inl fO)))]] : List va_W).flatten := hD
  refine lv_aload hx hb dL_lawAnew_0 (lv_at hl 4 rfl) ?_
  refine lv_iconst (v := nI 0) hx hb dL_lawAnew_2 (by decide) ?_
  refine lv_aload_n hx hb dL_lawAnew_3 rfl (lv_at hl 0 rfl) ?_
  refine lv_iload_n hx hb dL_lawAnew_4 rfl (lv_at hl 1 rfl) ?_
  refine lv_iload_n hx hb dL_lawAnew_5 rfl (lv_at hl 2 rfl) ?_
  refine lv_iload_n hx hb dL_lawAnew_6 rfl (lv_at hl 3 rfl) ?_
  refine ca_l (CL := [hO b, cO b (nI n) (nI k), oQ (cY 2) (b 2) (rr 0) 6, gI (cY 0) (rr 0) 12 fG 6]) (va_runV (As := [.int (nI i), .int (nI t), .int (nI w)]) (rest := [.int (nI 0), .ref oo]) ⟨hx, hb, hml, hown, hts⟩ (c_X8_lawAnew_ok l D cY s.heap.size b rr n k fG g i t w hn1 hn6 hk1 hk12 hG hgn hi hw ht4) (cwV 3 hts gL_lawAnew_X8_lawAnew rfl rfl rfl (by decide +kernel) ⟨Nat.le_of_ble_eq_true rfl, Nat.le_of_ble_eq_true rfl⟩) (b_preV hVK hP hD [0, 1, 2, 3] rfl rfl 0 rfl rfl) rfl rfl hl.1 rfl (lv_room (Nat.le_of_ble_eq_true rfl)) dL_lawAnew_7 ⟨Nat.zero_le _, Nat.zero_le _⟩) hP hD hS hA [0, 1, 2, 3] rfl rfl (fun _ => rfl) (fun r7 uu H locs hq hP hD hS => ?_)
  subst hq
  have hP : va_P D vwCl ([hO b, cO b (nI n) (nI k), oQ (cY 2) (b 2) (rr 0) 6, gI (cY 0) (rr 0) 12 fG 6, [(oo, .inl (cY 1, 1, .inr (.inl fO)))]] : List va_W).flatten H := hP
  have hD : va_D A ([hO b, cO b (nI n) (nI k), oQ (cY 2) (b 2) (rr 0) 6, gI (cY 0) (rr 0) 12 fG 6, [(oo, .inl (cY 1, 1, .inr (.inl fO)))]] : List va_W).flatten := hD
  refine b_last hx hb hK hP hD hS 4 1 rfl rfl (by omega) (by decide) dL_lawAnew_10 (fun H locs hP hD hS => ?_)
  have hP : va_P D vwCl ([hO b, cO b (nI n) (nI k), oQ (cY 2) (b 2) (rr 0) 6, gI (cY 0) (rr 0) 12 fG 6, [(oo, .inl (cY 1, 1, .inr (.inl (vp_updL fO 0 (lN (RW g k w t i))))))]] : List va_W).flatten H := hP
  have hD : va_D A ([hO b, cO b (nI n) (nI k), oQ (cY 2) (b 2) (rr 0) 6, gI (cY 0) (rr 0) 12 fG 6, [(oo, .inl (cY 1, 1, .inr (.inl (vp_updL fO 0 (lN (RW g k w t i))))))]] : List va_W).flatten := hD
  refine lv_goto (tgt := 22) hx hb dL_lawAnew_11 (by decide) ?_
  refine lv_iconst (v := nI 0) hx hb dL_lawAnew_22 (by decide) ?_
  exact r_i hx hb hr hlocks hP hD hS () rfl (rfl) dL_lawAnew_23

set_option maxHeartbeats 4000000 in
set_option maxRecDepth 100000 in
theorem c_L_distance_ok (l : Launch) (D : va_G) (cY : Nat → ClassId) (sz : Nat) (b : Nat → Nat) (rr : Nat → Nat → Nat) (n : Nat) (k : Nat) (fW : Nat → Nat → Int32) (fR : Nat → Nat → Int64) (g : Nat → Nat → Nat) (i : Nat) (w : Nat) (t : Nat) (oo : Nat) (fO : Nat → Int64) (hn1 : 1 ≤ n) (hn6 : n ≤ 6) (hk1 : 1 ≤ k) (hk12 : k ≤ 12) (hgn : ∀ i j, i < n → j < k → g i j < n) (hW : ∀ i j, i < n → j < n → fW i j = nI (cnt (g i) j k)) (hi : i < n) (hw : w < n) (ht : t ≤ 12) : vx_Met l yL_distance wsL_distance ({ frames := 4, cells := 0, slots := 0, locals := 160 }) (cPH D cY [.ref (b 0), .int (nI i), .int (nI w), .int (nI t), .ref oo] [hO b, cO b (nI n) (nI k), lO b, oQ (cY 2) (b 3) (rr 1) 6, gI (cY 0) (rr 1) 6 fW 6, oQ (cY 3) (b 5) (rr 2) 13, gJ (cY 1) (rr 2) 36 fR 13, [(oo, .inl (cY 1, 1, .inr (.inl fO)))]] sz) (qI (S := (Nat → Nat → Int64)) D cY (fun r uu => r = nI 0) (fun uu => [hO b, cO b (nI n) (nI k), lO b, oQ (cY 2) (b 3) (rr 1) 6, gI (cY 0) (rr 1) 6 fW 6, oQ (cY 3) (b 5) (rr 2) 13, gJ (cY 1) (rr 2) 36 uu 13, [(oo, .inl (cY 1, 1, .inr (.inl (vp_updL fO 0 (lN (dst (PL g n k i t) (PL g n k w t) n))))))]]) (va_A ([hO b, cO b (nI n) (nI k), lO b, oQ (cY 2) (b 3) (rr 1) 6, gI (cY 0) (rr 1) 6 fW 6, oQ (cY 3) (b 5) (rr 2) 13, gJ (cY 1) (rr 2) 36 fR 13, [(oo, .inl (cY 1, 1, .inr (.inl fO)))]] : List va_W).flatten sz)) (q0 (va_A ([hO b, cO b (nI n) (nI k), lO b, oQ (cY 2) (b 3) (rr 1) 6, gI (cY 0) (rr 1) 6 fW 6, oQ (cY 3) (b 5) (rr 2) 13, gJ (cY 1) (rr 2) 36 fR 13, [(oo, .inl (cY 1, 1, .inr (.inl fO)))]] : List va_W).flatten sz)) 0 0 (va_A ([hO b, cO b (nI n) (nI k), lO b, oQ (cY 2) (b 3) (rr 1) 6, gI (cY 0) (rr 1) 6 fW 6, oQ (cY 3) (b 5) (rr 2) 13, gJ (cY 1) (rr 2) 36 fR 13, [(oo, .inl (cY 1, 1, .inr (.inl fO)))]] : List va_W).flatten sz) := by
  refine mtH (Qc := fun A => qI (S := (Nat → Nat → Int64)) D cY (fun r uu => r = nI 0) (fun uu => [hO b, cO b (nI n) (nI k), lO b, oQ (cY 2) (b 3) (rr 1) 6, gI (cY 0) (rr 1) 6 fW 6, oQ (cY 3) (b 5) (rr 2) 13, gJ (cY 1) (rr 2) 36 uu 13, [(oo, .inl (cY 1, 1, .inr (.inl (vp_updL fO 0 (lN (dst (PL g n k i t) (PL g n k w t) n))))))]]) A) (cc := cL_distance) (maxL := 6) (ret := (some .int)) (by decide) rfl (Nat.le_of_ble_eq_true rfl) ?_
  intro p e s m below meth c A ls hx hb hr hml hts hown hlocks hsz hP hK hVK hD hS hA hX hH htb hl
  have hown : s.vm.findClass RL = some m.cls := hown
  have hl : lv_has ls 6 [(0, .ref (b 0)), (1, .int (nI i)), (2, .int (nI w)), (3, .int (nI t)), (4, .ref oo)] := hl
  have hP : va_P D vwCl ([hO b, cO b (nI n) (nI k), lO b, oQ (cY 2) (b 3) (rr 1) 6, gI (cY 0) (rr 1) 6 fW 6, oQ (cY 3) (b 5) (rr 2) 13, gJ (cY 1) (rr 2) 36 fR 13, [(oo, .inl (cY 1, 1, .inr (.inl fO)))]] : List va_W).flatten s.heap := hP
  have hD : va_D A ([hO b, cO b (nI n) (nI k), lO b, oQ (cY 2) (b 3) (rr 1) 6, gI (cY 0) (rr 1) 6 fW 6, oQ (cY 3) (b 5) (rr 2) 13, gJ (cY 1) (rr 2) 36 fR 13, [(oo, .inl (cY 1, 1, .inr (.inl fO)))]] : List va_W).flatten := hD
  refine lv_aload hx hb dL_distance_0 (lv_at hl 4 rfl) ?_
  refine lv_iconst (v := nI 0) hx hb dL_distance_2 (by decide) ?_
  refine lv_aload_n hx hb dL_distance_3 rfl (lv_at hl 0 rfl) ?_
  refine lv_iload_n hx hb dL_distance_4 rfl (lv_at hl 1 rfl) ?_
  refine lv_iload_n hx hb dL_distance_5 rfl (lv_at hl 2 rfl) ?_
  refine lv_iload_n hx hb dL_distance_6 rfl (lv_at hl 3 rfl) ?_
  refine ca_l (CL := [hO b, cO b (nI n) (nI k), lO b, oQ (cY 2) (b 3) (rr 1) 6, gI (cY 0) (rr 1) 6 fW 6, oQ (cY 3) (b 5) (rr 2) 13, gJ (cY 1) (rr 2) 36 fR 13]) (va_runV (As := [.int (nI i), .int (nI w), .int (nI t)]) (rest := [.int (nI 0), .ref oo]) ⟨hx, hb, hml, hown, hts⟩ (c_X8_distance_ok l D cY s.heap.size b rr n k fW fR g i w t hn1 hn6 hk1 hk12 hgn hW hi hw ht) (cwV 3 hts gL_distance_X8_distance rfl rfl rfl (by decide +kernel) ⟨Nat.le_of_ble_eq_true rfl, Nat.le_of_ble_eq_true rfl⟩) (b_preV hVK hP hD [0, 1, 2, 3, 4, 5, 6] rfl rfl 0 rfl rfl) rfl rfl hl.1 rfl (lv_room (Nat.le_of_ble_eq_true rfl)) dL_distance_7 ⟨Nat.zero_le _, Nat.zero_le _⟩) hP hD hS hA [0, 1, 2, 3, 4, 5, 6] rfl rfl (fun _ => rfl) (fun r7 uu H locs hq hP hD hS => ?_)
  obtain ⟨fR1_1, rfl⟩ : ∃ z, z = uu := ⟨_, rfl⟩
  try dsimp only at hq
  subst hq
  have hP : va_P D vwCl ([hO b, cO b (nI n) (nI k), lO b, oQ (cY 2) (b 3) (rr 1) 6, gI (cY 0) (rr 1) 6 fW 6, oQ (cY 3) (b 5) (rr 2) 13, gJ (cY 1) (rr 2) 36 fR1_1 13, [(oo, .inl (cY 1, 1, .inr (.inl fO)))]] : List va_W).flatten H := hP
  have hD : va_D A ([hO b, cO b (nI n) (nI k), lO b, oQ (cY 2) (b 3) (rr 1) 6, gI (cY 0) (rr 1) 6 fW 6, oQ (cY 3) (b 5) (rr 2) 13, gJ (cY 1) (rr 2) 36 fR1_1 13, [(oo, .inl (cY 1, 1, .inr (.inl fO)))]] : List va_W).flatten := hD
  refine b_last hx hb hK hP hD hS 7 1 rfl rfl (by omega) (by decide) dL_distance_10 (fun H locs hP hD hS => ?_)
  have hP : va_P D vwCl ([hO b, cO b (nI n) (nI k), lO b, oQ (cY 2) (b 3) (rr 1) 6, gI (cY 0) (rr 1) 6 fW 6, oQ (cY 3) (b 5) (rr 2) 13, gJ (cY 1) (rr 2) 36 fR1_1 13, [(oo, .inl (cY 1, 1, .inr (.inl (vp_updL fO 0 (lN (dst (PL g n k i t) (PL g n k w t) n))))))]] : List va_W).flatten H := hP
  have hD : va_D A ([hO b, cO b (nI n) (nI k), lO b, oQ (cY 2) (b 3) (rr 1) 6, gI (cY 0) (rr 1) 6 fW 6, oQ (cY 3) (b 5) (rr 2) 13, gJ (cY 1) (rr 2) 36 fR1_1 13, [(oo, .inl (cY 1, 1, .inr (.inl (vp_updL fO 0 (lN (dst (PL g n k i t) (PL g n k w t) n))))))]] : List va_W).flatten := hD
  refine lv_goto (tgt := 22) hx hb dL_distance_11 (by decide) ?_
  refine lv_iconst (v := nI 0) hx hb dL_distance_22 (by decide) ?_
  exact r_i hx hb hr hlocks hP hD hS fR1_1 rfl (rfl) dL_distance_23

set_option maxHeartbeats 4000000 in
set_option maxRecDepth 100000 in
theorem c_L_mixing_ok (l : Launch) (D : va_G) (cY : Nat → ClassId) (sz : Nat) (b : Nat → Nat) (rr : Nat → Nat → Nat) (n : Nat) (k : Nat) (fW : Nat → Nat → Int32) (fR : Nat → Nat → Int64) (g : Nat → Nat → Nat) (th2 : Nat) (oo : Nat) (fO : Nat → Int64) (hn1 : 1 ≤ n) (hn6 : n ≤ 6) (hk1 : 1 ≤ k) (hk12 : k ≤ 12) (hgn : ∀ i j, i < n → j < k → g i j < n) (hW : ∀ i j, i < n → j < n → fW i j = nI (cnt (g i) j k)) (hth : th2 ≤ 1000) : vx_Met l yL_mixing wsL_mixing ({ frames := 4, cells := 0, slots := 0, locals := 160 }) (cPH D cY [.ref (b 0), .int (nI th2), .ref oo] [hO b, cO b (nI n) (nI k), lO b, oQ (cY 2) (b 3) (rr 1) 6, gI (cY 0) (rr 1) 6 fW 6, oQ (cY 3) (b 5) (rr 2) 13, gJ (cY 1) (rr 2) 36 fR 13, [(oo, .inl (cY 1, 1, .inr (.inl fO)))]] sz) (qI (S := (Nat → Nat → Int64)) D cY (fun r uu => r = nI 0) (fun uu => [hO b, cO b (nI n) (nI k), lO b, oQ (cY 2) (b 3) (rr 1) 6, gI (cY 0) (rr 1) 6 fW 6, oQ (cY 3) (b 5) (rr 2) 13, gJ (cY 1) (rr 2) 36 uu 13, [(oo, .inl (cY 1, 1, .inr (.inl (vp_updL fO 0 ((mxs (mixA g n k th2) 13 0).toInt64)))))]]) (va_A ([hO b, cO b (nI n) (nI k), lO b, oQ (cY 2) (b 3) (rr 1) 6, gI (cY 0) (rr 1) 6 fW 6, oQ (cY 3) (b 5) (rr 2) 13, gJ (cY 1) (rr 2) 36 fR 13, [(oo, .inl (cY 1, 1, .inr (.inl fO)))]] : List va_W).flatten sz)) (q0 (va_A ([hO b, cO b (nI n) (nI k), lO b, oQ (cY 2) (b 3) (rr 1) 6, gI (cY 0) (rr 1) 6 fW 6, oQ (cY 3) (b 5) (rr 2) 13, gJ (cY 1) (rr 2) 36 fR 13, [(oo, .inl (cY 1, 1, .inr (.inl fO)))]] : List va_W).flatten sz)) 0 0 (va_A ([hO b, cO b (nI n) (nI k), lO b, oQ (cY 2) (b 3) (rr 1) 6, gI (cY 0) (rr 1) 6 fW 6, oQ (cY 3) (b 5) (rr 2) 13, gJ (cY 1) (rr 2) 36 fR 13, [(oo, .inl (cY 1, 1, .inr (.inl fO)))]] : List va_W).flatten sz) := by
  refine mtH (Qc := fun A => qI (S := (Nat → Nat → Int64)) D cY (fun r uu => r = nI 0) (fun uu => [hO b, cO b (nI n) (nI k), lO b, oQ (cY 2) (b 3) (rr 1) 6, gI (cY 0) (rr 1) 6 fW 6, oQ (cY 3) (b 5) (rr 2) 13, gJ (cY 1) (rr 2) 36 uu 13, [(oo, .inl (cY 1, 1, .inr (.inl (vp_updL fO 0 ((mxs (mixA g n k th2) 13 0).toInt64)))))]]) A) (cc := cL_mixing) (maxL := 4) (ret := (some .int)) (by decide) rfl (Nat.le_of_ble_eq_true rfl) ?_
  intro p e s m below meth c A ls hx hb hr hml hts hown hlocks hsz hP hK hVK hD hS hA hX hH htb hl
  have hown : s.vm.findClass RL = some m.cls := hown
  have hl : lv_has ls 4 [(0, .ref (b 0)), (1, .int (nI th2)), (2, .ref oo)] := hl
  have hP : va_P D vwCl ([hO b, cO b (nI n) (nI k), lO b, oQ (cY 2) (b 3) (rr 1) 6, gI (cY 0) (rr 1) 6 fW 6, oQ (cY 3) (b 5) (rr 2) 13, gJ (cY 1) (rr 2) 36 fR 13, [(oo, .inl (cY 1, 1, .inr (.inl fO)))]] : List va_W).flatten s.heap := hP
  have hD : va_D A ([hO b, cO b (nI n) (nI k), lO b, oQ (cY 2) (b 3) (rr 1) 6, gI (cY 0) (rr 1) 6 fW 6, oQ (cY 3) (b 5) (rr 2) 13, gJ (cY 1) (rr 2) 36 fR 13, [(oo, .inl (cY 1, 1, .inr (.inl fO)))]] : List va_W).flatten := hD
  refine lv_aload_n hx hb dL_mixing_0 rfl (lv_at hl 2 rfl) ?_
  refine lv_iconst (v := nI 0) hx hb dL_mixing_1 (by decide) ?_
  refine lv_aload_n hx hb dL_mixing_2 rfl (lv_at hl 0 rfl) ?_
  refine lv_iload_n hx hb dL_mixing_3 rfl (lv_at hl 1 rfl) ?_
  refine ca_i (CL := [hO b, cO b (nI n) (nI k), lO b, oQ (cY 2) (b 3) (rr 1) 6, gI (cY 0) (rr 1) 6 fW 6, oQ (cY 3) (b 5) (rr 2) 13, gJ (cY 1) (rr 2) 36 fR 13]) (va_runV (As := [.int (nI th2)]) (rest := [.int (nI 0), .ref oo]) ⟨hx, hb, hml, hown, hts⟩ (c_X8_mixing_ok l D cY s.heap.size b rr n k fW fR g th2 hn1 hn6 hk1 hk12 hgn hW hth) (cwV 1 hts gL_mixing_X8_mixing rfl rfl rfl (by decide +kernel) ⟨Nat.le_of_ble_eq_true rfl, Nat.le_of_ble_eq_true rfl⟩) (b_preV hVK hP hD [0, 1, 2, 3, 4, 5, 6] rfl rfl 0 rfl rfl) rfl rfl hl.1 rfl (lv_room (Nat.le_of_ble_eq_true rfl)) dL_mixing_4 ⟨Nat.zero_le _, Nat.zero_le _⟩) hP hD hS hA [0, 1, 2, 3, 4, 5, 6] rfl rfl (fun _ => rfl) (fun r4 uu H locs hq hP hD hS => ?_)
  obtain ⟨fR1_1, rfl⟩ : ∃ z, z = uu := ⟨_, rfl⟩
  try dsimp only at hq
  subst hq
  have hP : va_P D vwCl ([hO b, cO b (nI n) (nI k), lO b, oQ (cY 2) (b 3) (rr 1) 6, gI (cY 0) (rr 1) 6 fW 6, oQ (cY 3) (b 5) (rr 2) 13, gJ (cY 1) (rr 2) 36 fR1_1 13, [(oo, .inl (cY 1, 1, .inr (.inl fO)))]] : List va_W).flatten H := hP
  have hD : va_D A ([hO b, cO b (nI n) (nI k), lO b, oQ (cY 2) (b 3) (rr 1) 6, gI (cY 0) (rr 1) 6 fW 6, oQ (cY 3) (b 5) (rr 2) 13, gJ (cY 1) (rr 2) 36 fR1_1 13, [(oo, .inl (cY 1, 1, .inr (.inl fO)))]] : List va_W).flatten := hD
  refine lv_i2l (v := (mxs (mixA g n k th2) 13 0).toInt64) hx hb dL_mixing_7 rfl ?_
  refine b_last hx hb hK hP hD hS 7 1 rfl rfl (by omega) (by decide) dL_mixing_8 (fun H locs hP hD hS => ?_)
  have hP : va_P D vwCl ([hO b, cO b (nI n) (nI k), lO b, oQ (cY 2) (b 3) (rr 1) 6, gI (cY 0) (rr 1) 6 fW 6, oQ (cY 3) (b 5) (rr 2) 13, gJ (cY 1) (rr 2) 36 fR1_1 13, [(oo, .inl (cY 1, 1, .inr (.inl (vp_updL fO 0 ((mxs (mixA g n k th2) 13 0).toInt64)))))]] : List va_W).flatten H := hP
  have hD : va_D A ([hO b, cO b (nI n) (nI k), lO b, oQ (cY 2) (b 3) (rr 1) 6, gI (cY 0) (rr 1) 6 fW 6, oQ (cY 3) (b 5) (rr 2) 13, gJ (cY 1) (rr 2) 36 fR1_1 13, [(oo, .inl (cY 1, 1, .inr (.inl (vp_updL fO 0 ((mxs (mixA g n k th2) 13 0).toInt64)))))]] : List va_W).flatten := hD
  refine lv_goto (tgt := 15) hx hb dL_mixing_9 (by decide) ?_
  refine lv_iconst (v := nI 0) hx hb dL_mixing_15 (by decide) ?_
  exact r_i hx hb hr hlocks hP hD hS fR1_1 rfl (rfl) dL_mixing_16

set_option maxHeartbeats 4000000 in
set_option maxRecDepth 100000 in
theorem c_L_apart_ok (l : Launch) (D : va_G) (cY : Nat → ClassId) (sz : Nat) (b : Nat → Nat) (rr : Nat → Nat → Nat) (n : Nat) (k : Nat) (fG : Nat → Nat → Int32) (fA : Nat → Nat → Int64) (g : Nat → Nat → Nat) (i : Nat) (w : Nat) (t : Nat) (oo : Nat) (fO : Nat → Int64) (hn1 : 1 ≤ n) (hn6 : n ≤ 6) (hk1 : 1 ≤ k) (hk12 : k ≤ 12) (hG : ∀ i j, i < n → j < k → fG i j = nI (g i j)) (hgn : ∀ i j, i < n → j < k → g i j < n) (hi : i < n) (hw : w < n) (ht : t ≤ 12) : vx_Met l yL_apart wsL_apart ({ frames := 4, cells := 0, slots := 0, locals := 160 }) (cPH D cY [.ref (b 0), .int (nI i), .int (nI w), .int (nI t), .ref oo] [hO b, cO b (nI n) (nI k), kO b, oQ (cY 2) (b 2) (rr 0) 6, gI (cY 0) (rr 0) 12 fG 6, oQ (cY 3) (b 8) (rr 4) 13, gJ (cY 1) (rr 4) 36 fA 13, [(oo, .inl (cY 1, 1, .inr (.inl fO)))]] sz) (qI (S := (Nat → Nat → Int64)) D cY (fun r uu => r = nI 0) (fun uu => [hO b, cO b (nI n) (nI k), kO b, oQ (cY 2) (b 2) (rr 0) 6, gI (cY 0) (rr 0) 12 fG 6, oQ (cY 3) (b 8) (rr 4) 13, gJ (cY 1) (rr 4) 36 uu 13, [(oo, .inl (cY 1, 1, .inr (.inl (vp_updL fO 0 (lN (AB g k t i w))))))]]) (va_A ([hO b, cO b (nI n) (nI k), kO b, oQ (cY 2) (b 2) (rr 0) 6, gI (cY 0) (rr 0) 12 fG 6, oQ (cY 3) (b 8) (rr 4) 13, gJ (cY 1) (rr 4) 36 fA 13, [(oo, .inl (cY 1, 1, .inr (.inl fO)))]] : List va_W).flatten sz)) (q0 (va_A ([hO b, cO b (nI n) (nI k), kO b, oQ (cY 2) (b 2) (rr 0) 6, gI (cY 0) (rr 0) 12 fG 6, oQ (cY 3) (b 8) (rr 4) 13, gJ (cY 1) (rr 4) 36 fA 13, [(oo, .inl (cY 1, 1, .inr (.inl fO)))]] : List va_W).flatten sz)) 0 0 (va_A ([hO b, cO b (nI n) (nI k), kO b, oQ (cY 2) (b 2) (rr 0) 6, gI (cY 0) (rr 0) 12 fG 6, oQ (cY 3) (b 8) (rr 4) 13, gJ (cY 1) (rr 4) 36 fA 13, [(oo, .inl (cY 1, 1, .inr (.inl fO)))]] : List va_W).flatten sz) := by
  refine mtH (Qc := fun A => qI (S := (Nat → Nat → Int64)) D cY (fun r uu => r = nI 0) (fun uu => [hO b, cO b (nI n) (nI k), kO b, oQ (cY 2) (b 2) (rr 0) 6, gI (cY 0) (rr 0) 12 fG 6, oQ (cY 3) (b 8) (rr 4) 13, gJ (cY 1) (rr 4) 36 uu 13, [(oo, .inl (cY 1, 1, .inr (.inl (vp_updL fO 0 (lN (AB g k t i w))))))]]) A) (cc := cL_apart) (maxL := 6) (ret := (some .int)) (by decide) rfl (Nat.le_of_ble_eq_true rfl) ?_
  intro p e s m below meth c A ls hx hb hr hml hts hown hlocks hsz hP hK hVK hD hS hA hX hH htb hl
  have hown : s.vm.findClass RL = some m.cls := hown
  have hl : lv_has ls 6 [(0, .ref (b 0)), (1, .int (nI i)), (2, .int (nI w)), (3, .int (nI t)), (4, .ref oo)] := hl
  have hP : va_P D vwCl ([hO b, cO b (nI n) (nI k), kO b, oQ (cY 2) (b 2) (rr 0) 6, gI (cY 0) (rr 0) 12 fG 6, oQ (cY 3) (b 8) (rr 4) 13, gJ (cY 1) (rr 4) 36 fA 13, [(oo, .inl (cY 1, 1, .inr (.inl fO)))]] : List va_W).flatten s.heap := hP
  have hD : va_D A ([hO b, cO b (nI n) (nI k), kO b, oQ (cY 2) (b 2) (rr 0) 6, gI (cY 0) (rr 0) 12 fG 6, oQ (cY 3) (b 8) (rr 4) 13, gJ (cY 1) (rr 4) 36 fA 13, [(oo, .inl (cY 1, 1, .inr (.inl fO)))]] : List va_W).flatten := hD
  refine lv_aload hx hb dL_apart_0 (lv_at hl 4 rfl) ?_
  refine lv_iconst (v := nI 0) hx hb dL_apart_2 (by decide) ?_
  refine lv_aload_n hx hb dL_apart_3 rfl (lv_at hl 0 rfl) ?_
  refine lv_iload_n hx hb dL_apart_4 rfl (lv_at hl 1 rfl) ?_
  refine lv_iload_n hx hb dL_apart_5 rfl (lv_at hl 2 rfl) ?_
  refine lv_iload_n hx hb dL_apart_6 rfl (lv_at hl 3 rfl) ?_
  refine ca_l (CL := [hO b, cO b (nI n) (nI k), kO b, oQ (cY 2) (b 2) (rr 0) 6, gI (cY 0) (rr 0) 12 fG 6, oQ (cY 3) (b 8) (rr 4) 13, gJ (cY 1) (rr 4) 36 fA 13]) (va_runV (As := [.int (nI i), .int (nI w), .int (nI t)]) (rest := [.int (nI 0), .ref oo]) ⟨hx, hb, hml, hown, hts⟩ (c_X8_apart_ok l D cY s.heap.size b rr n k fG fA g i w t hn1 hn6 hk1 hk12 hG hgn hi hw ht) (cwV 3 hts gL_apart_X8_apart rfl rfl rfl (by decide +kernel) ⟨Nat.le_of_ble_eq_true rfl, Nat.le_of_ble_eq_true rfl⟩) (b_preV hVK hP hD [0, 1, 2, 3, 4, 5, 6] rfl rfl 0 rfl rfl) rfl rfl hl.1 rfl (lv_room (Nat.le_of_ble_eq_true rfl)) dL_apart_7 ⟨Nat.zero_le _, Nat.zero_le _⟩) hP hD hS hA [0, 1, 2, 3, 4, 5, 6] rfl rfl (fun _ => rfl) (fun r7 uu H locs hq hP hD hS => ?_)
  obtain ⟨fA1_1, rfl⟩ : ∃ z, z = uu := ⟨_, rfl⟩
  try dsimp only at hq
  subst hq
  have hP : va_P D vwCl ([hO b, cO b (nI n) (nI k), kO b, oQ (cY 2) (b 2) (rr 0) 6, gI (cY 0) (rr 0) 12 fG 6, oQ (cY 3) (b 8) (rr 4) 13, gJ (cY 1) (rr 4) 36 fA1_1 13, [(oo, .inl (cY 1, 1, .inr (.inl fO)))]] : List va_W).flatten H := hP
  have hD : va_D A ([hO b, cO b (nI n) (nI k), kO b, oQ (cY 2) (b 2) (rr 0) 6, gI (cY 0) (rr 0) 12 fG 6, oQ (cY 3) (b 8) (rr 4) 13, gJ (cY 1) (rr 4) 36 fA1_1 13, [(oo, .inl (cY 1, 1, .inr (.inl fO)))]] : List va_W).flatten := hD
  refine b_last hx hb hK hP hD hS 7 1 rfl rfl (by omega) (by decide) dL_apart_10 (fun H locs hP hD hS => ?_)
  have hP : va_P D vwCl ([hO b, cO b (nI n) (nI k), kO b, oQ (cY 2) (b 2) (rr 0) 6, gI (cY 0) (rr 0) 12 fG 6, oQ (cY 3) (b 8) (rr 4) 13, gJ (cY 1) (rr 4) 36 fA1_1 13, [(oo, .inl (cY 1, 1, .inr (.inl (vp_updL fO 0 (lN (AB g k t i w))))))]] : List va_W).flatten H := hP
  have hD : va_D A ([hO b, cO b (nI n) (nI k), kO b, oQ (cY 2) (b 2) (rr 0) 6, gI (cY 0) (rr 0) 12 fG 6, oQ (cY 3) (b 8) (rr 4) 13, gJ (cY 1) (rr 4) 36 fA1_1 13, [(oo, .inl (cY 1, 1, .inr (.inl (vp_updL fO 0 (lN (AB g k t i w))))))]] : List va_W).flatten := hD
  refine lv_goto (tgt := 22) hx hb dL_apart_11 (by decide) ?_
  refine lv_iconst (v := nI 0) hx hb dL_apart_22 (by decide) ?_
  exact r_i hx hb hr hlocks hP hD hS fA1_1 rfl (rfl) dL_apart_23

set_option maxHeartbeats 4000000 in
set_option maxRecDepth 100000 in
theorem c_L_together_ok (l : Launch) (D : va_G) (cY : Nat → ClassId) (sz : Nat) (b : Nat → Nat) (rr : Nat → Nat → Nat) (n : Nat) (k : Nat) (fG : Nat → Nat → Int32) (fS : Nat → Nat → Int64) (g : Nat → Nat → Nat) (t : Nat) (w : Nat) (oo : Nat) (fO : Nat → Int64) (hn1 : 1 ≤ n) (hn6 : n ≤ 6) (hk1 : 1 ≤ k) (hk12 : k ≤ 12) (hG : ∀ i j, i < n → j < k → fG i j = nI (g i j)) (hgn : ∀ i j, i < n → j < k → g i j < n) (ht : t ≤ 12) (hw : w < n) : vx_Met l yL_together wsL_together ({ frames := 4, cells := 0, slots := 0, locals := 160 }) (cPH D cY [.ref (b 0), .int (nI t), .int (nI w), .ref oo] [hO b, cO b (nI n) (nI k), kO b, oQ (cY 2) (b 2) (rr 0) 6, gI (cY 0) (rr 0) 12 fG 6, oQ (cY 3) (b 9) (rr 5) 13, gJ (cY 1) (rr 5) 64 fS 13, [(oo, .inl (cY 1, 1, .inr (.inl fO)))]] sz) (qI (S := (Nat → Nat → Int64)) D cY (fun r uu => r = nI 0) (fun uu => [hO b, cO b (nI n) (nI k), kO b, oQ (cY 2) (b 2) (rr 0) 6, gI (cY 0) (rr 0) 12 fG 6, oQ (cY 3) (b 9) (rr 5) 13, gJ (cY 1) (rr 5) 64 uu 13, [(oo, .inl (cY 1, 1, .inr (.inl (vp_updL fO 0 (lN (PL (ig g n) 64 k (2 ^ n - 1) t (2 ^ w)))))))]]) (va_A ([hO b, cO b (nI n) (nI k), kO b, oQ (cY 2) (b 2) (rr 0) 6, gI (cY 0) (rr 0) 12 fG 6, oQ (cY 3) (b 9) (rr 5) 13, gJ (cY 1) (rr 5) 64 fS 13, [(oo, .inl (cY 1, 1, .inr (.inl fO)))]] : List va_W).flatten sz)) (q0 (va_A ([hO b, cO b (nI n) (nI k), kO b, oQ (cY 2) (b 2) (rr 0) 6, gI (cY 0) (rr 0) 12 fG 6, oQ (cY 3) (b 9) (rr 5) 13, gJ (cY 1) (rr 5) 64 fS 13, [(oo, .inl (cY 1, 1, .inr (.inl fO)))]] : List va_W).flatten sz)) 0 0 (va_A ([hO b, cO b (nI n) (nI k), kO b, oQ (cY 2) (b 2) (rr 0) 6, gI (cY 0) (rr 0) 12 fG 6, oQ (cY 3) (b 9) (rr 5) 13, gJ (cY 1) (rr 5) 64 fS 13, [(oo, .inl (cY 1, 1, .inr (.inl fO)))]] : List va_W).flatten sz) := by
  refine mtH (Qc := fun A => qI (S := (Nat → Nat → Int64)) D cY (fun r uu => r = nI 0) (fun uu => [hO b, cO b (nI n) (nI k), kO b, oQ (cY 2) (b 2) (rr 0) 6, gI (cY 0) (rr 0) 12 fG 6, oQ (cY 3) (b 9) (rr 5) 13, gJ (cY 1) (rr 5) 64 uu 13, [(oo, .inl (cY 1, 1, .inr (.inl (vp_updL fO 0 (lN (PL (ig g n) 64 k (2 ^ n - 1) t (2 ^ w)))))))]]) A) (cc := cL_together) (maxL := 5) (ret := (some .int)) (by decide) rfl (Nat.le_of_ble_eq_true rfl) ?_
  intro p e s m below meth c A ls hx hb hr hml hts hown hlocks hsz hP hK hVK hD hS hA hX hH htb hl
  have hown : s.vm.findClass RL = some m.cls := hown
  have hl : lv_has ls 5 [(0, .ref (b 0)), (1, .int (nI t)), (2, .int (nI w)), (3, .ref oo)] := hl
  have hP : va_P D vwCl ([hO b, cO b (nI n) (nI k), kO b, oQ (cY 2) (b 2) (rr 0) 6, gI (cY 0) (rr 0) 12 fG 6, oQ (cY 3) (b 9) (rr 5) 13, gJ (cY 1) (rr 5) 64 fS 13, [(oo, .inl (cY 1, 1, .inr (.inl fO)))]] : List va_W).flatten s.heap := hP
  have hD : va_D A ([hO b, cO b (nI n) (nI k), kO b, oQ (cY 2) (b 2) (rr 0) 6, gI (cY 0) (rr 0) 12 fG 6, oQ (cY 3) (b 9) (rr 5) 13, gJ (cY 1) (rr 5) 64 fS 13, [(oo, .inl (cY 1, 1, .inr (.inl fO)))]] : List va_W).flatten := hD
  refine lv_aload_n hx hb dL_together_0 rfl (lv_at hl 3 rfl) ?_
  refine lv_iconst (v := nI 0) hx hb dL_together_1 (by decide) ?_
  refine lv_aload_n hx hb dL_together_2 rfl (lv_at hl 0 rfl) ?_
  refine lv_iload_n hx hb dL_together_3 rfl (lv_at hl 1 rfl) ?_
  refine lv_iload_n hx hb dL_together_4 rfl (lv_at hl 2 rfl) ?_
  refine ca_l (CL := [hO b, cO b (nI n) (nI k), kO b, oQ (cY 2) (b 2) (rr 0) 6, gI (cY 0) (rr 0) 12 fG 6, oQ (cY 3) (b 9) (rr 5) 13, gJ (cY 1) (rr 5) 64 fS 13]) (va_runV (As := [.int (nI t), .int (nI w)]) (rest := [.int (nI 0), .ref oo]) ⟨hx, hb, hml, hown, hts⟩ (c_X8_together_ok l D cY s.heap.size b rr n k fG fS g t w hn1 hn6 hk1 hk12 hG hgn ht hw) (cwV 2 hts gL_together_X8_together rfl rfl rfl (by decide +kernel) ⟨Nat.le_of_ble_eq_true rfl, Nat.le_of_ble_eq_true rfl⟩) (b_preV hVK hP hD [0, 1, 2, 3, 4, 5, 6] rfl rfl 0 rfl rfl) rfl rfl hl.1 rfl (lv_room (Nat.le_of_ble_eq_true rfl)) dL_together_5 ⟨Nat.zero_le _, Nat.zero_le _⟩) hP hD hS hA [0, 1, 2, 3, 4, 5, 6] rfl rfl (fun _ => rfl) (fun r5 uu H locs hq hP hD hS => ?_)
  obtain ⟨fS1_1, rfl⟩ : ∃ z, z = uu := ⟨_, rfl⟩
  try dsimp only at hq
  subst hq
  have hP : va_P D vwCl ([hO b, cO b (nI n) (nI k), kO b, oQ (cY 2) (b 2) (rr 0) 6, gI (cY 0) (rr 0) 12 fG 6, oQ (cY 3) (b 9) (rr 5) 13, gJ (cY 1) (rr 5) 64 fS1_1 13, [(oo, .inl (cY 1, 1, .inr (.inl fO)))]] : List va_W).flatten H := hP
  have hD : va_D A ([hO b, cO b (nI n) (nI k), kO b, oQ (cY 2) (b 2) (rr 0) 6, gI (cY 0) (rr 0) 12 fG 6, oQ (cY 3) (b 9) (rr 5) 13, gJ (cY 1) (rr 5) 64 fS1_1 13, [(oo, .inl (cY 1, 1, .inr (.inl fO)))]] : List va_W).flatten := hD
  refine b_last hx hb hK hP hD hS 7 1 rfl rfl (by omega) (by decide) dL_together_8 (fun H locs hP hD hS => ?_)
  have hP : va_P D vwCl ([hO b, cO b (nI n) (nI k), kO b, oQ (cY 2) (b 2) (rr 0) 6, gI (cY 0) (rr 0) 12 fG 6, oQ (cY 3) (b 9) (rr 5) 13, gJ (cY 1) (rr 5) 64 fS1_1 13, [(oo, .inl (cY 1, 1, .inr (.inl (vp_updL fO 0 (lN (PL (ig g n) 64 k (2 ^ n - 1) t (2 ^ w)))))))]] : List va_W).flatten H := hP
  have hD : va_D A ([hO b, cO b (nI n) (nI k), kO b, oQ (cY 2) (b 2) (rr 0) 6, gI (cY 0) (rr 0) 12 fG 6, oQ (cY 3) (b 9) (rr 5) 13, gJ (cY 1) (rr 5) 64 fS1_1 13, [(oo, .inl (cY 1, 1, .inr (.inl (vp_updL fO 0 (lN (PL (ig g n) 64 k (2 ^ n - 1) t (2 ^ w)))))))]] : List va_W).flatten := hD
  refine lv_goto (tgt := 20) hx hb dL_together_9 (by decide) ?_
  refine lv_iconst (v := nI 0) hx hb dL_together_20 (by decide) ?_
  exact r_i hx hb hr hlocks hP hD hS fS1_1 rfl (rfl) dL_together_21

set_option maxHeartbeats 4000000 in
set_option maxRecDepth 100000 in
theorem c_L_hits_ok (l : Launch) (D : va_G) (cY : Nat → ClassId) (sz : Nat) (b : Nat → Nat) (rr : Nat → Nat → Nat) (n : Nat) (k : Nat) (fW : Nat → Nat → Int32) (fH : Nat → Nat → Int64) (g : Nat → Nat → Nat) (i : Nat) (t : Nat) (w : Nat) (oo : Nat) (fO : Nat → Int64) (hn1 : 1 ≤ n) (hn6 : n ≤ 6) (hk1 : 1 ≤ k) (hk12 : k ≤ 12) (hW : ∀ i j, i < n → j < n → fW i j = nI (cnt (g i) j k)) (hi : i < n) (hw : w < n) (ht : t ≤ 12) : vx_Met l yL_hits wsL_hits ({ frames := 4, cells := 0, slots := 0, locals := 160 }) (cPH D cY [.ref (b 0), .int (nI i), .int (nI t), .int (nI w), .ref oo] [hO b, cO b (nI n) (nI k), lO b, oQ (cY 2) (b 3) (rr 1) 6, gI (cY 0) (rr 1) 6 fW 6, oQ (cY 3) (b 6) (rr 3) 13, gJ (cY 1) (rr 3) 6 fH 13, [(oo, .inl (cY 1, 1, .inr (.inl fO)))]] sz) (qI (S := (Nat → Nat → Int64)) D cY (fun r uu => r = nI 0) (fun uu => [hO b, cO b (nI n) (nI k), lO b, oQ (cY 2) (b 3) (rr 1) 6, gI (cY 0) (rr 1) 6 fW 6, oQ (cY 3) (b 6) (rr 3) 13, gJ (cY 1) (rr 3) 6 uu 13, [(oo, .inl (cY 1, 1, .inr (.inl (vp_updL fO 0 (lN (HB g n k w t i))))))]]) (va_A ([hO b, cO b (nI n) (nI k), lO b, oQ (cY 2) (b 3) (rr 1) 6, gI (cY 0) (rr 1) 6 fW 6, oQ (cY 3) (b 6) (rr 3) 13, gJ (cY 1) (rr 3) 6 fH 13, [(oo, .inl (cY 1, 1, .inr (.inl fO)))]] : List va_W).flatten sz)) (q0 (va_A ([hO b, cO b (nI n) (nI k), lO b, oQ (cY 2) (b 3) (rr 1) 6, gI (cY 0) (rr 1) 6 fW 6, oQ (cY 3) (b 6) (rr 3) 13, gJ (cY 1) (rr 3) 6 fH 13, [(oo, .inl (cY 1, 1, .inr (.inl fO)))]] : List va_W).flatten sz)) 0 0 (va_A ([hO b, cO b (nI n) (nI k), lO b, oQ (cY 2) (b 3) (rr 1) 6, gI (cY 0) (rr 1) 6 fW 6, oQ (cY 3) (b 6) (rr 3) 13, gJ (cY 1) (rr 3) 6 fH 13, [(oo, .inl (cY 1, 1, .inr (.inl fO)))]] : List va_W).flatten sz) := by
  refine mtH (Qc := fun A => qI (S := (Nat → Nat → Int64)) D cY (fun r uu => r = nI 0) (fun uu => [hO b, cO b (nI n) (nI k), lO b, oQ (cY 2) (b 3) (rr 1) 6, gI (cY 0) (rr 1) 6 fW 6, oQ (cY 3) (b 6) (rr 3) 13, gJ (cY 1) (rr 3) 6 uu 13, [(oo, .inl (cY 1, 1, .inr (.inl (vp_updL fO 0 (lN (HB g n k w t i))))))]]) A) (cc := cL_hits) (maxL := 6) (ret := (some .int)) (by decide) rfl (Nat.le_of_ble_eq_true rfl) ?_
  intro p e s m below meth c A ls hx hb hr hml hts hown hlocks hsz hP hK hVK hD hS hA hX hH htb hl
  have hown : s.vm.findClass RL = some m.cls := hown
  have hl : lv_has ls 6 [(0, .ref (b 0)), (1, .int (nI i)), (2, .int (nI t)), (3, .int (nI w)), (4, .ref oo)] := hl
  have hP : va_P D vwCl ([hO b, cO b (nI n) (nI k), lO b, oQ (cY 2) (b 3) (rr 1) 6, gI (cY 0) (rr 1) 6 fW 6, oQ (cY 3) (b 6) (rr 3) 13, gJ (cY 1) (rr 3) 6 fH 13, [(oo, .inl (cY 1, 1, .inr (.inl fO)))]] : List va_W).flatten s.heap := hP
  have hD : va_D A ([hO b, cO b (nI n) (nI k), lO b, oQ (cY 2) (b 3) (rr 1) 6, gI (cY 0) (rr 1) 6 fW 6, oQ (cY 3) (b 6) (rr 3) 13, gJ (cY 1) (rr 3) 6 fH 13, [(oo, .inl (cY 1, 1, .inr (.inl fO)))]] : List va_W).flatten := hD
  refine lv_aload hx hb dL_hits_0 (lv_at hl 4 rfl) ?_
  refine lv_iconst (v := nI 0) hx hb dL_hits_2 (by decide) ?_
  refine lv_aload_n hx hb dL_hits_3 rfl (lv_at hl 0 rfl) ?_
  refine lv_iload_n hx hb dL_hits_4 rfl (lv_at hl 1 rfl) ?_
  refine lv_iload_n hx hb dL_hits_5 rfl (lv_at hl 2 rfl) ?_
  refine lv_iload_n hx hb dL_hits_6 rfl (lv_at hl 3 rfl) ?_
  refine ca_l (CL := [hO b, cO b (nI n) (nI k), lO b, oQ (cY 2) (b 3) (rr 1) 6, gI (cY 0) (rr 1) 6 fW 6, oQ (cY 3) (b 6) (rr 3) 13, gJ (cY 1) (rr 3) 6 fH 13]) (va_runV (As := [.int (nI i), .int (nI t), .int (nI w)]) (rest := [.int (nI 0), .ref oo]) ⟨hx, hb, hml, hown, hts⟩ (c_X8_hits_ok l D cY s.heap.size b rr n k fW fH g i t w hn1 hn6 hk1 hk12 hW hi hw ht) (cwV 3 hts gL_hits_X8_hits rfl rfl rfl (by decide +kernel) ⟨Nat.le_of_ble_eq_true rfl, Nat.le_of_ble_eq_true rfl⟩) (b_preV hVK hP hD [0, 1, 2, 3, 4, 5, 6] rfl rfl 0 rfl rfl) rfl rfl hl.1 rfl (lv_room (Nat.le_of_ble_eq_true rfl)) dL_hits_7 ⟨Nat.zero_le _, Nat.zero_le _⟩) hP hD hS hA [0, 1, 2, 3, 4, 5, 6] rfl rfl (fun _ => rfl) (fun r7 uu H locs hq hP hD hS => ?_)
  obtain ⟨fH1_1, rfl⟩ : ∃ z, z = uu := ⟨_, rfl⟩
  try dsimp only at hq
  subst hq
  have hP : va_P D vwCl ([hO b, cO b (nI n) (nI k), lO b, oQ (cY 2) (b 3) (rr 1) 6, gI (cY 0) (rr 1) 6 fW 6, oQ (cY 3) (b 6) (rr 3) 13, gJ (cY 1) (rr 3) 6 fH1_1 13, [(oo, .inl (cY 1, 1, .inr (.inl fO)))]] : List va_W).flatten H := hP
  have hD : va_D A ([hO b, cO b (nI n) (nI k), lO b, oQ (cY 2) (b 3) (rr 1) 6, gI (cY 0) (rr 1) 6 fW 6, oQ (cY 3) (b 6) (rr 3) 13, gJ (cY 1) (rr 3) 6 fH1_1 13, [(oo, .inl (cY 1, 1, .inr (.inl fO)))]] : List va_W).flatten := hD
  refine b_last hx hb hK hP hD hS 7 1 rfl rfl (by omega) (by decide) dL_hits_10 (fun H locs hP hD hS => ?_)
  have hP : va_P D vwCl ([hO b, cO b (nI n) (nI k), lO b, oQ (cY 2) (b 3) (rr 1) 6, gI (cY 0) (rr 1) 6 fW 6, oQ (cY 3) (b 6) (rr 3) 13, gJ (cY 1) (rr 3) 6 fH1_1 13, [(oo, .inl (cY 1, 1, .inr (.inl (vp_updL fO 0 (lN (HB g n k w t i))))))]] : List va_W).flatten H := hP
  have hD : va_D A ([hO b, cO b (nI n) (nI k), lO b, oQ (cY 2) (b 3) (rr 1) 6, gI (cY 0) (rr 1) 6 fW 6, oQ (cY 3) (b 6) (rr 3) 13, gJ (cY 1) (rr 3) 6 fH1_1 13, [(oo, .inl (cY 1, 1, .inr (.inl (vp_updL fO 0 (lN (HB g n k w t i))))))]] : List va_W).flatten := hD
  refine lv_goto (tgt := 22) hx hb dL_hits_11 (by decide) ?_
  refine lv_iconst (v := nI 0) hx hb dL_hits_22 (by decide) ?_
  exact r_i hx hb hr hlocks hP hD hS fH1_1 rfl (rfl) dL_hits_23

set_option maxHeartbeats 4000000 in
set_option maxRecDepth 100000 in
theorem c_L_reach_ok (l : Launch) (D : va_G) (cY : Nat → ClassId) (sz : Nat) (b : Nat → Nat) (rr : Nat → Nat → Nat) (n : Nat) (k : Nat) (fW : Nat → Nat → Int32) (g : Nat → Nat → Nat) (i : Nat) (oo : Nat) (fO : Nat → Int64) (hn1 : 1 ≤ n) (hn6 : n ≤ 6) (hk1 : 1 ≤ k) (hk12 : k ≤ 12) (hW : ∀ i j, i < n → j < n → fW i j = nI (cnt (g i) j k)) (hi : i < n) : vx_Met l yL_reach wsL_reach ({ frames := 3, cells := 0, slots := 0, locals := 120 }) (cPH D cY [.ref (b 0), .int (nI i), .ref oo] [hO b, cO b (nI n) (nI k), sO b, oQ (cY 2) (b 3) (rr 1) 6, gI (cY 0) (rr 1) 6 fW 6, [(oo, .inl (cY 1, 1, .inr (.inl fO)))]] sz) (qI (S := Unit) D cY (fun r uu => r = nI 0) (fun uu => [hO b, cO b (nI n) (nI k), sO b, oQ (cY 2) (b 3) (rr 1) 6, gI (cY 0) (rr 1) 6 fW 6, [(oo, .inl (cY 1, 1, .inr (.inl (vp_updL fO 0 ((nI (rcA g n k i (n - 1))).toInt64)))))]]) (va_A ([hO b, cO b (nI n) (nI k), sO b, oQ (cY 2) (b 3) (rr 1) 6, gI (cY 0) (rr 1) 6 fW 6, [(oo, .inl (cY 1, 1, .inr (.inl fO)))]] : List va_W).flatten sz)) (q0 (va_A ([hO b, cO b (nI n) (nI k), sO b, oQ (cY 2) (b 3) (rr 1) 6, gI (cY 0) (rr 1) 6 fW 6, [(oo, .inl (cY 1, 1, .inr (.inl fO)))]] : List va_W).flatten sz)) 0 0 (va_A ([hO b, cO b (nI n) (nI k), sO b, oQ (cY 2) (b 3) (rr 1) 6, gI (cY 0) (rr 1) 6 fW 6, [(oo, .inl (cY 1, 1, .inr (.inl fO)))]] : List va_W).flatten sz) := by
  refine mtH (Qc := fun A => qI (S := Unit) D cY (fun r uu => r = nI 0) (fun uu => [hO b, cO b (nI n) (nI k), sO b, oQ (cY 2) (b 3) (rr 1) 6, gI (cY 0) (rr 1) 6 fW 6, [(oo, .inl (cY 1, 1, .inr (.inl (vp_updL fO 0 ((nI (rcA g n k i (n - 1))).toInt64)))))]]) A) (cc := cL_reach) (maxL := 4) (ret := (some .int)) (by decide) rfl (Nat.le_of_ble_eq_true rfl) ?_
  intro p e s m below meth c A ls hx hb hr hml hts hown hlocks hsz hP hK hVK hD hS hA hX hH htb hl
  have hown : s.vm.findClass RL = some m.cls := hown
  have hl : lv_has ls 4 [(0, .ref (b 0)), (1, .int (nI i)), (2, .ref oo)] := hl
  have hP : va_P D vwCl ([hO b, cO b (nI n) (nI k), sO b, oQ (cY 2) (b 3) (rr 1) 6, gI (cY 0) (rr 1) 6 fW 6, [(oo, .inl (cY 1, 1, .inr (.inl fO)))]] : List va_W).flatten s.heap := hP
  have hD : va_D A ([hO b, cO b (nI n) (nI k), sO b, oQ (cY 2) (b 3) (rr 1) 6, gI (cY 0) (rr 1) 6 fW 6, [(oo, .inl (cY 1, 1, .inr (.inl fO)))]] : List va_W).flatten := hD
  refine lv_aload_n hx hb dL_reach_0 rfl (lv_at hl 2 rfl) ?_
  refine lv_iconst (v := nI 0) hx hb dL_reach_1 (by decide) ?_
  refine lv_aload_n hx hb dL_reach_2 rfl (lv_at hl 0 rfl) ?_
  refine lv_iload_n hx hb dL_reach_3 rfl (lv_at hl 1 rfl) ?_
  refine ca_i (CL := [hO b, cO b (nI n) (nI k), sO b, oQ (cY 2) (b 3) (rr 1) 6, gI (cY 0) (rr 1) 6 fW 6]) (va_runV (As := [.int (nI i)]) (rest := [.int (nI 0), .ref oo]) ⟨hx, hb, hml, hown, hts⟩ (c_X8_reach_ok l D cY s.heap.size b rr n k fW g i hn1 hn6 hk1 hk12 hW hi) (cwV 1 hts gL_reach_X8_reach rfl rfl rfl (by decide +kernel) ⟨Nat.le_of_ble_eq_true rfl, Nat.le_of_ble_eq_true rfl⟩) (b_preV hVK hP hD [0, 1, 2, 3, 4] rfl rfl 0 rfl rfl) rfl rfl hl.1 rfl (lv_room (Nat.le_of_ble_eq_true rfl)) dL_reach_4 ⟨Nat.zero_le _, Nat.zero_le _⟩) hP hD hS hA [0, 1, 2, 3, 4] rfl rfl (fun _ => rfl) (fun r4 uu H locs hq hP hD hS => ?_)
  subst hq
  have hP : va_P D vwCl ([hO b, cO b (nI n) (nI k), sO b, oQ (cY 2) (b 3) (rr 1) 6, gI (cY 0) (rr 1) 6 fW 6, [(oo, .inl (cY 1, 1, .inr (.inl fO)))]] : List va_W).flatten H := hP
  have hD : va_D A ([hO b, cO b (nI n) (nI k), sO b, oQ (cY 2) (b 3) (rr 1) 6, gI (cY 0) (rr 1) 6 fW 6, [(oo, .inl (cY 1, 1, .inr (.inl fO)))]] : List va_W).flatten := hD
  refine lv_i2l (v := (nI (rcA g n k i (n - 1))).toInt64) hx hb dL_reach_7 rfl ?_
  refine b_last hx hb hK hP hD hS 5 1 rfl rfl (by omega) (by decide) dL_reach_8 (fun H locs hP hD hS => ?_)
  have hP : va_P D vwCl ([hO b, cO b (nI n) (nI k), sO b, oQ (cY 2) (b 3) (rr 1) 6, gI (cY 0) (rr 1) 6 fW 6, [(oo, .inl (cY 1, 1, .inr (.inl (vp_updL fO 0 ((nI (rcA g n k i (n - 1))).toInt64)))))]] : List va_W).flatten H := hP
  have hD : va_D A ([hO b, cO b (nI n) (nI k), sO b, oQ (cY 2) (b 3) (rr 1) 6, gI (cY 0) (rr 1) 6 fW 6, [(oo, .inl (cY 1, 1, .inr (.inl (vp_updL fO 0 ((nI (rcA g n k i (n - 1))).toInt64)))))]] : List va_W).flatten := hD
  refine lv_goto (tgt := 15) hx hb dL_reach_9 (by decide) ?_
  refine lv_iconst (v := nI 0) hx hb dL_reach_15 (by decide) ?_
  exact r_i hx hb hr hlocks hP hD hS () rfl (rfl) dL_reach_16

set_option maxHeartbeats 4000000 in
set_option maxRecDepth 100000 in
theorem c_L_period_ok (l : Launch) (D : va_G) (cY : Nat → ClassId) (sz : Nat) (b : Nat → Nat) (rr : Nat → Nat → Nat) (n : Nat) (k : Nat) (fW : Nat → Nat → Int32) (g : Nat → Nat → Nat) (i : Nat) (oo : Nat) (fO : Nat → Int64) (hn1 : 1 ≤ n) (hn6 : n ≤ 6) (hk1 : 1 ≤ k) (hk12 : k ≤ 12) (hW : ∀ i j, i < n → j < n → fW i j = nI (cnt (g i) j k)) (hi : i < n) : vx_Met l yL_period wsL_period ({ frames := 4, cells := 0, slots := 0, locals := 160 }) (cPH D cY [.ref (b 0), .int (nI i), .ref oo] [hO b, cO b (nI n) (nI k), sO b, oQ (cY 2) (b 3) (rr 1) 6, gI (cY 0) (rr 1) 6 fW 6, [(oo, .inl (cY 1, 1, .inr (.inl fO)))]] sz) (qI (S := Unit) D cY (fun r uu => r = nI 0) (fun uu => [hO b, cO b (nI n) (nI k), sO b, oQ (cY 2) (b 3) (rr 1) 6, gI (cY 0) (rr 1) 6 fW 6, [(oo, .inl (cY 1, 1, .inr (.inl (vp_updL fO 0 ((nI (prC g n k i)).toInt64)))))]]) (va_A ([hO b, cO b (nI n) (nI k), sO b, oQ (cY 2) (b 3) (rr 1) 6, gI (cY 0) (rr 1) 6 fW 6, [(oo, .inl (cY 1, 1, .inr (.inl fO)))]] : List va_W).flatten sz)) (q0 (va_A ([hO b, cO b (nI n) (nI k), sO b, oQ (cY 2) (b 3) (rr 1) 6, gI (cY 0) (rr 1) 6 fW 6, [(oo, .inl (cY 1, 1, .inr (.inl fO)))]] : List va_W).flatten sz)) 0 0 (va_A ([hO b, cO b (nI n) (nI k), sO b, oQ (cY 2) (b 3) (rr 1) 6, gI (cY 0) (rr 1) 6 fW 6, [(oo, .inl (cY 1, 1, .inr (.inl fO)))]] : List va_W).flatten sz) := by
  refine mtH (Qc := fun A => qI (S := Unit) D cY (fun r uu => r = nI 0) (fun uu => [hO b, cO b (nI n) (nI k), sO b, oQ (cY 2) (b 3) (rr 1) 6, gI (cY 0) (rr 1) 6 fW 6, [(oo, .inl (cY 1, 1, .inr (.inl (vp_updL fO 0 ((nI (prC g n k i)).toInt64)))))]]) A) (cc := cL_period) (maxL := 4) (ret := (some .int)) (by decide) rfl (Nat.le_of_ble_eq_true rfl) ?_
  intro p e s m below meth c A ls hx hb hr hml hts hown hlocks hsz hP hK hVK hD hS hA hX hH htb hl
  have hown : s.vm.findClass RL = some m.cls := hown
  have hl : lv_has ls 4 [(0, .ref (b 0)), (1, .int (nI i)), (2, .ref oo)] := hl
  have hP : va_P D vwCl ([hO b, cO b (nI n) (nI k), sO b, oQ (cY 2) (b 3) (rr 1) 6, gI (cY 0) (rr 1) 6 fW 6, [(oo, .inl (cY 1, 1, .inr (.inl fO)))]] : List va_W).flatten s.heap := hP
  have hD : va_D A ([hO b, cO b (nI n) (nI k), sO b, oQ (cY 2) (b 3) (rr 1) 6, gI (cY 0) (rr 1) 6 fW 6, [(oo, .inl (cY 1, 1, .inr (.inl fO)))]] : List va_W).flatten := hD
  refine lv_aload_n hx hb dL_period_0 rfl (lv_at hl 2 rfl) ?_
  refine lv_iconst (v := nI 0) hx hb dL_period_1 (by decide) ?_
  refine lv_aload_n hx hb dL_period_2 rfl (lv_at hl 0 rfl) ?_
  refine lv_iload_n hx hb dL_period_3 rfl (lv_at hl 1 rfl) ?_
  refine ca_i (CL := [hO b, cO b (nI n) (nI k), sO b, oQ (cY 2) (b 3) (rr 1) 6, gI (cY 0) (rr 1) 6 fW 6]) (va_runV (As := [.int (nI i)]) (rest := [.int (nI 0), .ref oo]) ⟨hx, hb, hml, hown, hts⟩ (c_X8_period_ok l D cY s.heap.size b rr n k fW g i hn1 hn6 hk1 hk12 hW hi) (cwV 1 hts gL_period_X8_period rfl rfl rfl (by decide +kernel) ⟨Nat.le_of_ble_eq_true rfl, Nat.le_of_ble_eq_true rfl⟩) (b_preV hVK hP hD [0, 1, 2, 3, 4] rfl rfl 0 rfl rfl) rfl rfl hl.1 rfl (lv_room (Nat.le_of_ble_eq_true rfl)) dL_period_4 ⟨Nat.zero_le _, Nat.zero_le _⟩) hP hD hS hA [0, 1, 2, 3, 4] rfl rfl (fun _ => rfl) (fun r4 uu H locs hq hP hD hS => ?_)
  subst hq
  have hP : va_P D vwCl ([hO b, cO b (nI n) (nI k), sO b, oQ (cY 2) (b 3) (rr 1) 6, gI (cY 0) (rr 1) 6 fW 6, [(oo, .inl (cY 1, 1, .inr (.inl fO)))]] : List va_W).flatten H := hP
  have hD : va_D A ([hO b, cO b (nI n) (nI k), sO b, oQ (cY 2) (b 3) (rr 1) 6, gI (cY 0) (rr 1) 6 fW 6, [(oo, .inl (cY 1, 1, .inr (.inl fO)))]] : List va_W).flatten := hD
  refine lv_i2l (v := (nI (prC g n k i)).toInt64) hx hb dL_period_7 rfl ?_
  refine b_last hx hb hK hP hD hS 5 1 rfl rfl (by omega) (by decide) dL_period_8 (fun H locs hP hD hS => ?_)
  have hP : va_P D vwCl ([hO b, cO b (nI n) (nI k), sO b, oQ (cY 2) (b 3) (rr 1) 6, gI (cY 0) (rr 1) 6 fW 6, [(oo, .inl (cY 1, 1, .inr (.inl (vp_updL fO 0 ((nI (prC g n k i)).toInt64)))))]] : List va_W).flatten H := hP
  have hD : va_D A ([hO b, cO b (nI n) (nI k), sO b, oQ (cY 2) (b 3) (rr 1) 6, gI (cY 0) (rr 1) 6 fW 6, [(oo, .inl (cY 1, 1, .inr (.inl (vp_updL fO 0 ((nI (prC g n k i)).toInt64)))))]] : List va_W).flatten := hD
  refine lv_goto (tgt := 15) hx hb dL_period_9 (by decide) ?_
  refine lv_iconst (v := nI 0) hx hb dL_period_15 (by decide) ?_
  exact r_i hx hb hr hlocks hP hD hS () rfl (rfl) dL_period_16

set_option maxHeartbeats 4000000 in
set_option maxRecDepth 100000 in
theorem c_L_rest_ok (l : Launch) (D : va_G) (cY : Nat → ClassId) (sz : Nat) (b : Nat → Nat) (rr : Nat → Nat → Nat) (n : Nat) (k : Nat) (fW : Nat → Nat → Int32) (fOt : Nat → Int32) (fMi : Nat → Int64) (g : Nat → Nat → Nat) (i : Nat) (oo : Nat) (fO : Nat → Int64) (hn1 : 1 ≤ n) (hn6 : n ≤ 6) (hk1 : 1 ≤ k) (hk12 : k ≤ 12) (hW : ∀ i j, i < n → j < n → fW i j = nI (cnt (g i) j k)) (hi : i < n) : vx_Met l yL_rest wsL_rest ({ frames := 6, cells := 0, slots := 0, locals := 240 }) (cPH D cY [.ref (b 0), .int (nI i), .ref oo] [hO b, cO b (nI n) (nI k), tO b, oQ (cY 2) (b 3) (rr 1) 6, gI (cY 0) (rr 1) 6 fW 6, [(b 13, .inl (cY 0, 6, .inl fOt))], [(b 14, .inl (cY 1, 32, .inr (.inl fMi)))], [(oo, .inl (cY 1, 1, .inr (.inl fO)))]] sz) (qI (S := (Nat → Int32) × (Nat → Int64)) D cY (fun r uu => r = nI 0) (fun uu => [hO b, cO b (nI n) (nI k), tO b, oQ (cY 2) (b 3) (rr 1) 6, gI (cY 0) (rr 1) 6 fW 6, [(b 13, .inl (cY 0, 6, .inl uu.1))], [(b 14, .inl (cY 1, 32, .inr (.inl uu.2)))], [(oo, .inl (cY 1, 1, .inr (.inl (vp_updL fO 0 (RV g n k i)))))]]) (va_A ([hO b, cO b (nI n) (nI k), tO b, oQ (cY 2) (b 3) (rr 1) 6, gI (cY 0) (rr 1) 6 fW 6, [(b 13, .inl (cY 0, 6, .inl fOt))], [(b 14, .inl (cY 1, 32, .inr (.inl fMi)))], [(oo, .inl (cY 1, 1, .inr (.inl fO)))]] : List va_W).flatten sz)) (q0 (va_A ([hO b, cO b (nI n) (nI k), tO b, oQ (cY 2) (b 3) (rr 1) 6, gI (cY 0) (rr 1) 6 fW 6, [(b 13, .inl (cY 0, 6, .inl fOt))], [(b 14, .inl (cY 1, 32, .inr (.inl fMi)))], [(oo, .inl (cY 1, 1, .inr (.inl fO)))]] : List va_W).flatten sz)) 0 0 (va_A ([hO b, cO b (nI n) (nI k), tO b, oQ (cY 2) (b 3) (rr 1) 6, gI (cY 0) (rr 1) 6 fW 6, [(b 13, .inl (cY 0, 6, .inl fOt))], [(b 14, .inl (cY 1, 32, .inr (.inl fMi)))], [(oo, .inl (cY 1, 1, .inr (.inl fO)))]] : List va_W).flatten sz) := by
  refine mtH (Qc := fun A => qI (S := (Nat → Int32) × (Nat → Int64)) D cY (fun r uu => r = nI 0) (fun uu => [hO b, cO b (nI n) (nI k), tO b, oQ (cY 2) (b 3) (rr 1) 6, gI (cY 0) (rr 1) 6 fW 6, [(b 13, .inl (cY 0, 6, .inl uu.1))], [(b 14, .inl (cY 1, 32, .inr (.inl uu.2)))], [(oo, .inl (cY 1, 1, .inr (.inl (vp_updL fO 0 (RV g n k i)))))]]) A) (cc := cL_rest) (maxL := 4) (ret := (some .int)) (by decide) rfl (Nat.le_of_ble_eq_true rfl) ?_
  intro p e s m below meth c A ls hx hb hr hml hts hown hlocks hsz hP hK hVK hD hS hA hX hH htb hl
  have hown : s.vm.findClass RL = some m.cls := hown
  have hl : lv_has ls 4 [(0, .ref (b 0)), (1, .int (nI i)), (2, .ref oo)] := hl
  have hP : va_P D vwCl ([hO b, cO b (nI n) (nI k), tO b, oQ (cY 2) (b 3) (rr 1) 6, gI (cY 0) (rr 1) 6 fW 6, [(b 13, .inl (cY 0, 6, .inl fOt))], [(b 14, .inl (cY 1, 32, .inr (.inl fMi)))], [(oo, .inl (cY 1, 1, .inr (.inl fO)))]] : List va_W).flatten s.heap := hP
  have hD : va_D A ([hO b, cO b (nI n) (nI k), tO b, oQ (cY 2) (b 3) (rr 1) 6, gI (cY 0) (rr 1) 6 fW 6, [(b 13, .inl (cY 0, 6, .inl fOt))], [(b 14, .inl (cY 1, 32, .inr (.inl fMi)))], [(oo, .inl (cY 1, 1, .inr (.inl fO)))]] : List va_W).flatten := hD
  refine lv_aload_n hx hb dL_rest_0 rfl (lv_at hl 2 rfl) ?_
  refine lv_iconst (v := nI 0) hx hb dL_rest_1 (by decide) ?_
  refine lv_aload_n hx hb dL_rest_2 rfl (lv_at hl 0 rfl) ?_
  refine lv_iload_n hx hb dL_rest_3 rfl (lv_at hl 1 rfl) ?_
  refine ca_l (CL := [hO b, cO b (nI n) (nI k), tO b, oQ (cY 2) (b 3) (rr 1) 6, gI (cY 0) (rr 1) 6 fW 6, [(b 13, .inl (cY 0, 6, .inl fOt))], [(b 14, .inl (cY 1, 32, .inr (.inl fMi)))]]) (va_runV (As := [.int (nI i)]) (rest := [.int (nI 0), .ref oo]) ⟨hx, hb, hml, hown, hts⟩ (c_X8_rest_ok l D cY s.heap.size b rr n k fW fOt fMi g i hn1 hn6 hk1 hk12 hW hi) (cwV 1 hts gL_rest_X8_rest rfl rfl rfl (by decide +kernel) ⟨Nat.le_of_ble_eq_true rfl, Nat.le_of_ble_eq_true rfl⟩) (b_preV hVK hP hD [0, 1, 2, 3, 4, 5, 6] rfl rfl 0 rfl rfl) rfl rfl hl.1 rfl (lv_room (Nat.le_of_ble_eq_true rfl)) dL_rest_4 ⟨Nat.zero_le _, Nat.zero_le _⟩) hP hD hS hA [0, 1, 2, 3, 4, 5, 6] rfl rfl (fun _ => rfl) (fun r4 uu H locs hq hP hD hS => ?_)
  obtain ⟨fOt1_1, fMi1_2⟩ := uu
  try dsimp only at hq
  subst hq
  have hP : va_P D vwCl ([hO b, cO b (nI n) (nI k), tO b, oQ (cY 2) (b 3) (rr 1) 6, gI (cY 0) (rr 1) 6 fW 6, [(b 13, .inl (cY 0, 6, .inl fOt1_1))], [(b 14, .inl (cY 1, 32, .inr (.inl fMi1_2)))], [(oo, .inl (cY 1, 1, .inr (.inl fO)))]] : List va_W).flatten H := hP
  have hD : va_D A ([hO b, cO b (nI n) (nI k), tO b, oQ (cY 2) (b 3) (rr 1) 6, gI (cY 0) (rr 1) 6 fW 6, [(b 13, .inl (cY 0, 6, .inl fOt1_1))], [(b 14, .inl (cY 1, 32, .inr (.inl fMi1_2)))], [(oo, .inl (cY 1, 1, .inr (.inl fO)))]] : List va_W).flatten := hD
  refine b_last hx hb hK hP hD hS 7 1 rfl rfl (by omega) (by decide) dL_rest_7 (fun H locs hP hD hS => ?_)
  have hP : va_P D vwCl ([hO b, cO b (nI n) (nI k), tO b, oQ (cY 2) (b 3) (rr 1) 6, gI (cY 0) (rr 1) 6 fW 6, [(b 13, .inl (cY 0, 6, .inl fOt1_1))], [(b 14, .inl (cY 1, 32, .inr (.inl fMi1_2)))], [(oo, .inl (cY 1, 1, .inr (.inl (vp_updL fO 0 (RV g n k i)))))]] : List va_W).flatten H := hP
  have hD : va_D A ([hO b, cO b (nI n) (nI k), tO b, oQ (cY 2) (b 3) (rr 1) 6, gI (cY 0) (rr 1) 6 fW 6, [(b 13, .inl (cY 0, 6, .inl fOt1_1))], [(b 14, .inl (cY 1, 32, .inr (.inl fMi1_2)))], [(oo, .inl (cY 1, 1, .inr (.inl (vp_updL fO 0 (RV g n k i)))))]] : List va_W).flatten := hD
  refine lv_goto (tgt := 14) hx hb dL_rest_8 (by decide) ?_
  refine lv_iconst (v := nI 0) hx hb dL_rest_14 (by decide) ?_
  exact r_i hx hb hr hlocks hP hD hS (fOt1_1, fMi1_2) rfl (rfl) dL_rest_15

set_option maxHeartbeats 4000000 in
set_option maxRecDepth 100000 in
theorem c_L_ranked_ok (l : Launch) (D : va_G) (cY : Nat → ClassId) (sz : Nat) (b : Nat → Nat) (rr : Nat → Nat → Nat) (n : Nat) (k : Nat) (fW : Nat → Nat → Int32) (fRs : Nat → Int64) (fOt : Nat → Int32) (fMi : Nat → Int64) (g : Nat → Nat → Nat) (r0 : Nat) (oo : Nat) (fO : Nat → Int64) (hn1 : 1 ≤ n) (hn6 : n ≤ 6) (hk1 : 1 ≤ k) (hk12 : k ≤ 12) (hW : ∀ i j, i < n → j < n → fW i j = nI (cnt (g i) j k)) (hr0 : r0 < 2 ^ 31) : vx_Met l yL_ranked wsL_ranked ({ frames := 5, cells := 0, slots := 0, locals := 200 }) (cPH D cY [.ref (b 0), .int (nI r0), .ref oo] [hO b, cO b (nI n) (nI k), tO b, oQ (cY 2) (b 3) (rr 1) 6, gI (cY 0) (rr 1) 6 fW 6, [(b 12, .inl (cY 1, 6, .inr (.inl fRs)))], [(b 13, .inl (cY 0, 6, .inl fOt))], [(b 14, .inl (cY 1, 32, .inr (.inl fMi)))], [(oo, .inl (cY 1, 1, .inr (.inl fO)))]] sz) (qI (S := (Nat → Int64) × (Nat → Int32) × (Nat → Int64)) D cY (fun r uu => r = nI 0) (fun uu => [hO b, cO b (nI n) (nI k), tO b, oQ (cY 2) (b 3) (rr 1) 6, gI (cY 0) (rr 1) 6 fW 6, [(b 12, .inl (cY 1, 6, .inr (.inl uu.1)))], [(b 13, .inl (cY 0, 6, .inl uu.2.1))], [(b 14, .inl (cY 1, 32, .inr (.inl uu.2.2)))], [(oo, .inl (cY 1, 1, .inr (.inl (vp_updL fO 0 ((mxs (fun i => decide (plc (RV g n k) i n = r0)) n 0).toInt64)))))]]) (va_A ([hO b, cO b (nI n) (nI k), tO b, oQ (cY 2) (b 3) (rr 1) 6, gI (cY 0) (rr 1) 6 fW 6, [(b 12, .inl (cY 1, 6, .inr (.inl fRs)))], [(b 13, .inl (cY 0, 6, .inl fOt))], [(b 14, .inl (cY 1, 32, .inr (.inl fMi)))], [(oo, .inl (cY 1, 1, .inr (.inl fO)))]] : List va_W).flatten sz)) (q0 (va_A ([hO b, cO b (nI n) (nI k), tO b, oQ (cY 2) (b 3) (rr 1) 6, gI (cY 0) (rr 1) 6 fW 6, [(b 12, .inl (cY 1, 6, .inr (.inl fRs)))], [(b 13, .inl (cY 0, 6, .inl fOt))], [(b 14, .inl (cY 1, 32, .inr (.inl fMi)))], [(oo, .inl (cY 1, 1, .inr (.inl fO)))]] : List va_W).flatten sz)) 0 0 (va_A ([hO b, cO b (nI n) (nI k), tO b, oQ (cY 2) (b 3) (rr 1) 6, gI (cY 0) (rr 1) 6 fW 6, [(b 12, .inl (cY 1, 6, .inr (.inl fRs)))], [(b 13, .inl (cY 0, 6, .inl fOt))], [(b 14, .inl (cY 1, 32, .inr (.inl fMi)))], [(oo, .inl (cY 1, 1, .inr (.inl fO)))]] : List va_W).flatten sz) := by
  refine mtH (Qc := fun A => qI (S := (Nat → Int64) × (Nat → Int32) × (Nat → Int64)) D cY (fun r uu => r = nI 0) (fun uu => [hO b, cO b (nI n) (nI k), tO b, oQ (cY 2) (b 3) (rr 1) 6, gI (cY 0) (rr 1) 6 fW 6, [(b 12, .inl (cY 1, 6, .inr (.inl uu.1)))], [(b 13, .inl (cY 0, 6, .inl uu.2.1))], [(b 14, .inl (cY 1, 32, .inr (.inl uu.2.2)))], [(oo, .inl (cY 1, 1, .inr (.inl (vp_updL fO 0 ((mxs (fun i => decide (plc (RV g n k) i n = r0)) n 0).toInt64)))))]]) A) (cc := cL_ranked) (maxL := 4) (ret := (some .int)) (by decide) rfl (Nat.le_of_ble_eq_true rfl) ?_
  intro p e s m below meth c A ls hx hb hr hml hts hown hlocks hsz hP hK hVK hD hS hA hX hH htb hl
  have hown : s.vm.findClass RL = some m.cls := hown
  have hl : lv_has ls 4 [(0, .ref (b 0)), (1, .int (nI r0)), (2, .ref oo)] := hl
  have hP : va_P D vwCl ([hO b, cO b (nI n) (nI k), tO b, oQ (cY 2) (b 3) (rr 1) 6, gI (cY 0) (rr 1) 6 fW 6, [(b 12, .inl (cY 1, 6, .inr (.inl fRs)))], [(b 13, .inl (cY 0, 6, .inl fOt))], [(b 14, .inl (cY 1, 32, .inr (.inl fMi)))], [(oo, .inl (cY 1, 1, .inr (.inl fO)))]] : List va_W).flatten s.heap := hP
  have hD : va_D A ([hO b, cO b (nI n) (nI k), tO b, oQ (cY 2) (b 3) (rr 1) 6, gI (cY 0) (rr 1) 6 fW 6, [(b 12, .inl (cY 1, 6, .inr (.inl fRs)))], [(b 13, .inl (cY 0, 6, .inl fOt))], [(b 14, .inl (cY 1, 32, .inr (.inl fMi)))], [(oo, .inl (cY 1, 1, .inr (.inl fO)))]] : List va_W).flatten := hD
  refine lv_aload_n hx hb dL_ranked_0 rfl (lv_at hl 2 rfl) ?_
  refine lv_iconst (v := nI 0) hx hb dL_ranked_1 (by decide) ?_
  refine lv_aload_n hx hb dL_ranked_2 rfl (lv_at hl 0 rfl) ?_
  refine lv_iload_n hx hb dL_ranked_3 rfl (lv_at hl 1 rfl) ?_
  refine ca_i (CL := [hO b, cO b (nI n) (nI k), tO b, oQ (cY 2) (b 3) (rr 1) 6, gI (cY 0) (rr 1) 6 fW 6, [(b 12, .inl (cY 1, 6, .inr (.inl fRs)))], [(b 13, .inl (cY 0, 6, .inl fOt))], [(b 14, .inl (cY 1, 32, .inr (.inl fMi)))]]) (va_runV (As := [.int (nI r0)]) (rest := [.int (nI 0), .ref oo]) ⟨hx, hb, hml, hown, hts⟩ (c_X8_ranked_ok l D cY s.heap.size b rr n k fW fRs fOt fMi g r0 hn1 hn6 hk1 hk12 hW hr0) (cwV 1 hts gL_ranked_X8_ranked rfl rfl rfl (by decide +kernel) ⟨Nat.le_of_ble_eq_true rfl, Nat.le_of_ble_eq_true rfl⟩) (b_preV hVK hP hD [0, 1, 2, 3, 4, 5, 6, 7] rfl rfl 0 rfl rfl) rfl rfl hl.1 rfl (lv_room (Nat.le_of_ble_eq_true rfl)) dL_ranked_4 ⟨Nat.zero_le _, Nat.zero_le _⟩) hP hD hS hA [0, 1, 2, 3, 4, 5, 6, 7] rfl rfl (fun _ => rfl) (fun r4 uu H locs hq hP hD hS => ?_)
  obtain ⟨fRs1_1, fOt1_2, fMi1_3⟩ := uu
  try dsimp only at hq
  subst hq
  have hP : va_P D vwCl ([hO b, cO b (nI n) (nI k), tO b, oQ (cY 2) (b 3) (rr 1) 6, gI (cY 0) (rr 1) 6 fW 6, [(b 12, .inl (cY 1, 6, .inr (.inl fRs1_1)))], [(b 13, .inl (cY 0, 6, .inl fOt1_2))], [(b 14, .inl (cY 1, 32, .inr (.inl fMi1_3)))], [(oo, .inl (cY 1, 1, .inr (.inl fO)))]] : List va_W).flatten H := hP
  have hD : va_D A ([hO b, cO b (nI n) (nI k), tO b, oQ (cY 2) (b 3) (rr 1) 6, gI (cY 0) (rr 1) 6 fW 6, [(b 12, .inl (cY 1, 6, .inr (.inl fRs1_1)))], [(b 13, .inl (cY 0, 6, .inl fOt1_2))], [(b 14, .inl (cY 1, 32, .inr (.inl fMi1_3)))], [(oo, .inl (cY 1, 1, .inr (.inl fO)))]] : List va_W).flatten := hD
  refine lv_i2l (v := (mxs (fun i => decide (plc (RV g n k) i n = r0)) n 0).toInt64) hx hb dL_ranked_7 rfl ?_
  refine b_last hx hb hK hP hD hS 8 1 rfl rfl (by omega) (by decide) dL_ranked_8 (fun H locs hP hD hS => ?_)
  have hP : va_P D vwCl ([hO b, cO b (nI n) (nI k), tO b, oQ (cY 2) (b 3) (rr 1) 6, gI (cY 0) (rr 1) 6 fW 6, [(b 12, .inl (cY 1, 6, .inr (.inl fRs1_1)))], [(b 13, .inl (cY 0, 6, .inl fOt1_2))], [(b 14, .inl (cY 1, 32, .inr (.inl fMi1_3)))], [(oo, .inl (cY 1, 1, .inr (.inl (vp_updL fO 0 ((mxs (fun i => decide (plc (RV g n k) i n = r0)) n 0).toInt64)))))]] : List va_W).flatten H := hP
  have hD : va_D A ([hO b, cO b (nI n) (nI k), tO b, oQ (cY 2) (b 3) (rr 1) 6, gI (cY 0) (rr 1) 6 fW 6, [(b 12, .inl (cY 1, 6, .inr (.inl fRs1_1)))], [(b 13, .inl (cY 0, 6, .inl fOt1_2))], [(b 14, .inl (cY 1, 32, .inr (.inl fMi1_3)))], [(oo, .inl (cY 1, 1, .inr (.inl (vp_updL fO 0 ((mxs (fun i => decide (plc (RV g n k) i n = r0)) n 0).toInt64)))))]] : List va_W).flatten := hD
  refine lv_goto (tgt := 15) hx hb dL_ranked_9 (by decide) ?_
  refine lv_iconst (v := nI 0) hx hb dL_ranked_15 (by decide) ?_
  exact r_i hx hb hr hlocks hP hD hS (fRs1_1, fOt1_2, fMi1_3) rfl (rfl) dL_ranked_16

set_option maxHeartbeats 4000000 in
set_option maxRecDepth 100000 in
theorem c_L_walk_ok (l : Launch) (D : va_G) (cY : Nat → ClassId) (sz : Nat) (b : Nat → Nat) (rr : Nat → Nat → Nat) (n : Nat) (k : Nat) (fG : Nat → Nat → Int32) (g : Nat → Nat → Nat) (i : Nat) (x : Nat) (t : Nat) (oo : Nat) (fO : Nat → Int64) (hn1 : 1 ≤ n) (hn6 : n ≤ 6) (hk1 : 1 ≤ k) (hk12 : k ≤ 12) (hG : ∀ i j, i < n → j < k → fG i j = nI (g i j)) (hgn : ∀ i j, i < n → j < k → g i j < n) (hi : i < n) (hx1 : x < 65521) (ht : t ≤ 1000) : vx_Met l yL_walk wsL_walk ({ frames := 3, cells := 0, slots := 0, locals := 120 }) (cPH D cY [.ref (b 0), .int (nI i), .int (nI x), .int (nI t), .ref oo] [hO b, cO b (nI n) (nI k), dO b, oQ (cY 2) (b 2) (rr 0) 6, gI (cY 0) (rr 0) 12 fG 6, [(oo, .inl (cY 1, 1, .inr (.inl fO)))]] sz) (qI (S := Unit) D cY (fun r uu => r = nI 0) (fun uu => [hO b, cO b (nI n) (nI k), dO b, oQ (cY 2) (b 2) (rr 0) 6, gI (cY 0) (rr 0) 12 fG 6, [(oo, .inl (cY 1, 1, .inr (.inl (vp_updL fO 0 ((nI (wk g k i x t)).toInt64)))))]]) (va_A ([hO b, cO b (nI n) (nI k), dO b, oQ (cY 2) (b 2) (rr 0) 6, gI (cY 0) (rr 0) 12 fG 6, [(oo, .inl (cY 1, 1, .inr (.inl fO)))]] : List va_W).flatten sz)) (q0 (va_A ([hO b, cO b (nI n) (nI k), dO b, oQ (cY 2) (b 2) (rr 0) 6, gI (cY 0) (rr 0) 12 fG 6, [(oo, .inl (cY 1, 1, .inr (.inl fO)))]] : List va_W).flatten sz)) 0 0 (va_A ([hO b, cO b (nI n) (nI k), dO b, oQ (cY 2) (b 2) (rr 0) 6, gI (cY 0) (rr 0) 12 fG 6, [(oo, .inl (cY 1, 1, .inr (.inl fO)))]] : List va_W).flatten sz) := by
  refine mtH (Qc := fun A => qI (S := Unit) D cY (fun r uu => r = nI 0) (fun uu => [hO b, cO b (nI n) (nI k), dO b, oQ (cY 2) (b 2) (rr 0) 6, gI (cY 0) (rr 0) 12 fG 6, [(oo, .inl (cY 1, 1, .inr (.inl (vp_updL fO 0 ((nI (wk g k i x t)).toInt64)))))]]) A) (cc := cL_walk) (maxL := 6) (ret := (some .int)) (by decide) rfl (Nat.le_of_ble_eq_true rfl) ?_
  intro p e s m below meth c A ls hx hb hr hml hts hown hlocks hsz hP hK hVK hD hS hA hX hH htb hl
  have hown : s.vm.findClass RL = some m.cls := hown
  have hl : lv_has ls 6 [(0, .ref (b 0)), (1, .int (nI i)), (2, .int (nI x)), (3, .int (nI t)), (4, .ref oo)] := hl
  have hP : va_P D vwCl ([hO b, cO b (nI n) (nI k), dO b, oQ (cY 2) (b 2) (rr 0) 6, gI (cY 0) (rr 0) 12 fG 6, [(oo, .inl (cY 1, 1, .inr (.inl fO)))]] : List va_W).flatten s.heap := hP
  have hD : va_D A ([hO b, cO b (nI n) (nI k), dO b, oQ (cY 2) (b 2) (rr 0) 6, gI (cY 0) (rr 0) 12 fG 6, [(oo, .inl (cY 1, 1, .inr (.inl fO)))]] : List va_W).flatten := hD
  refine lv_aload hx hb dL_walk_0 (lv_at hl 4 rfl) ?_
  refine lv_iconst (v := nI 0) hx hb dL_walk_2 (by decide) ?_
  refine lv_aload_n hx hb dL_walk_3 rfl (lv_at hl 0 rfl) ?_
  refine lv_iload_n hx hb dL_walk_4 rfl (lv_at hl 1 rfl) ?_
  refine lv_iload_n hx hb dL_walk_5 rfl (lv_at hl 2 rfl) ?_
  refine lv_iload_n hx hb dL_walk_6 rfl (lv_at hl 3 rfl) ?_
  refine ca_i (CL := [hO b, cO b (nI n) (nI k), dO b, oQ (cY 2) (b 2) (rr 0) 6, gI (cY 0) (rr 0) 12 fG 6]) (va_runV (As := [.int (nI i), .int (nI x), .int (nI t)]) (rest := [.int (nI 0), .ref oo]) ⟨hx, hb, hml, hown, hts⟩ (c_X8_walk_ok l D cY s.heap.size b rr n k fG g i x t hn1 hn6 hk1 hk12 hG hgn hi hx1 ht) (cwV 3 hts gL_walk_X8_walk rfl rfl rfl (by decide +kernel) ⟨Nat.le_of_ble_eq_true rfl, Nat.le_of_ble_eq_true rfl⟩) (b_preV hVK hP hD [0, 1, 2, 3, 4] rfl rfl 0 rfl rfl) rfl rfl hl.1 rfl (lv_room (Nat.le_of_ble_eq_true rfl)) dL_walk_7 ⟨Nat.zero_le _, Nat.zero_le _⟩) hP hD hS hA [0, 1, 2, 3, 4] rfl rfl (fun _ => rfl) (fun r7 uu H locs hq hP hD hS => ?_)
  subst hq
  have hP : va_P D vwCl ([hO b, cO b (nI n) (nI k), dO b, oQ (cY 2) (b 2) (rr 0) 6, gI (cY 0) (rr 0) 12 fG 6, [(oo, .inl (cY 1, 1, .inr (.inl fO)))]] : List va_W).flatten H := hP
  have hD : va_D A ([hO b, cO b (nI n) (nI k), dO b, oQ (cY 2) (b 2) (rr 0) 6, gI (cY 0) (rr 0) 12 fG 6, [(oo, .inl (cY 1, 1, .inr (.inl fO)))]] : List va_W).flatten := hD
  refine lv_i2l (v := (nI (wk g k i x t)).toInt64) hx hb dL_walk_10 rfl ?_
  refine b_last hx hb hK hP hD hS 5 1 rfl rfl (by omega) (by decide) dL_walk_11 (fun H locs hP hD hS => ?_)
  have hP : va_P D vwCl ([hO b, cO b (nI n) (nI k), dO b, oQ (cY 2) (b 2) (rr 0) 6, gI (cY 0) (rr 0) 12 fG 6, [(oo, .inl (cY 1, 1, .inr (.inl (vp_updL fO 0 ((nI (wk g k i x t)).toInt64)))))]] : List va_W).flatten H := hP
  have hD : va_D A ([hO b, cO b (nI n) (nI k), dO b, oQ (cY 2) (b 2) (rr 0) 6, gI (cY 0) (rr 0) 12 fG 6, [(oo, .inl (cY 1, 1, .inr (.inl (vp_updL fO 0 ((nI (wk g k i x t)).toInt64)))))]] : List va_W).flatten := hD
  refine lv_goto (tgt := 23) hx hb dL_walk_12 (by decide) ?_
  refine lv_iconst (v := nI 0) hx hb dL_walk_23 (by decide) ?_
  exact r_i hx hb hr hlocks hP hD hS () rfl (rfl) dL_walk_24

set_option maxHeartbeats 4000000 in
set_option maxRecDepth 100000 in
theorem c_L_draw_ok (l : Launch) (D : va_G) (cY : Nat → ClassId) (sz : Nat) (b : Nat → Nat) (rr : Nat → Nat → Nat) (n : Nat) (k : Nat) (fG : Nat → Nat → Int32) (fEn : Nat → Int32) (fEb : Nat → Int32) (g : Nat → Nat → Nat) (x : Nat) (oo : Nat) (fO : Nat → Int64) (hn1 : 1 ≤ n) (hn6 : n ≤ 6) (hk1 : 1 ≤ k) (hk12 : k ≤ 12) (hG : ∀ i j, i < n → j < k → fG i j = nI (g i j)) (hgn : ∀ i j, i < n → j < k → g i j < n) (hx1 : x < 65521) : vx_Met l yL_draw wsL_draw ({ frames := 4, cells := 0, slots := 0, locals := 160 }) (cPH D cY [.ref (b 0), .int (nI x), .ref oo] [hO b, cO b (nI n) (nI k), dO b, oQ (cY 2) (b 2) (rr 0) 6, gI (cY 0) (rr 0) 12 fG 6, [(b 16, .inl (cY 0, 6, .inl fEn))], [(b 17, .inl (cY 0, 6, .inl fEb))], [(oo, .inl (cY 1, 1, .inr (.inl fO)))]] sz) (qI (S := (Nat → Int32) × (Nat → Int32)) D cY (fun r uu => r = nI 0) (fun uu => [hO b, cO b (nI n) (nI k), dO b, oQ (cY 2) (b 2) (rr 0) 6, gI (cY 0) (rr 0) 12 fG 6, [(b 16, .inl (cY 0, 6, .inl uu.1))], [(b 17, .inl (cY 0, 6, .inl uu.2))], [(oo, .inl (cY 1, 1, .inr (.inl (vp_updL fO 0 ((dgo g n k x 200 0).toInt64)))))]]) (va_A ([hO b, cO b (nI n) (nI k), dO b, oQ (cY 2) (b 2) (rr 0) 6, gI (cY 0) (rr 0) 12 fG 6, [(b 16, .inl (cY 0, 6, .inl fEn))], [(b 17, .inl (cY 0, 6, .inl fEb))], [(oo, .inl (cY 1, 1, .inr (.inl fO)))]] : List va_W).flatten sz)) (q0 (va_A ([hO b, cO b (nI n) (nI k), dO b, oQ (cY 2) (b 2) (rr 0) 6, gI (cY 0) (rr 0) 12 fG 6, [(b 16, .inl (cY 0, 6, .inl fEn))], [(b 17, .inl (cY 0, 6, .inl fEb))], [(oo, .inl (cY 1, 1, .inr (.inl fO)))]] : List va_W).flatten sz)) 0 0 (va_A ([hO b, cO b (nI n) (nI k), dO b, oQ (cY 2) (b 2) (rr 0) 6, gI (cY 0) (rr 0) 12 fG 6, [(b 16, .inl (cY 0, 6, .inl fEn))], [(b 17, .inl (cY 0, 6, .inl fEb))], [(oo, .inl (cY 1, 1, .inr (.inl fO)))]] : List va_W).flatten sz) := by
  refine mtH (Qc := fun A => qI (S := (Nat → Int32) × (Nat → Int32)) D cY (fun r uu => r = nI 0) (fun uu => [hO b, cO b (nI n) (nI k), dO b, oQ (cY 2) (b 2) (rr 0) 6, gI (cY 0) (rr 0) 12 fG 6, [(b 16, .inl (cY 0, 6, .inl uu.1))], [(b 17, .inl (cY 0, 6, .inl uu.2))], [(oo, .inl (cY 1, 1, .inr (.inl (vp_updL fO 0 ((dgo g n k x 200 0).toInt64)))))]]) A) (cc := cL_draw) (maxL := 4) (ret := (some .int)) (by decide) rfl (Nat.le_of_ble_eq_true rfl) ?_
  intro p e s m below meth c A ls hx hb hr hml hts hown hlocks hsz hP hK hVK hD hS hA hX hH htb hl
  have hown : s.vm.findClass RL = some m.cls := hown
  have hl : lv_has ls 4 [(0, .ref (b 0)), (1, .int (nI x)), (2, .ref oo)] := hl
  have hP : va_P D vwCl ([hO b, cO b (nI n) (nI k), dO b, oQ (cY 2) (b 2) (rr 0) 6, gI (cY 0) (rr 0) 12 fG 6, [(b 16, .inl (cY 0, 6, .inl fEn))], [(b 17, .inl (cY 0, 6, .inl fEb))], [(oo, .inl (cY 1, 1, .inr (.inl fO)))]] : List va_W).flatten s.heap := hP
  have hD : va_D A ([hO b, cO b (nI n) (nI k), dO b, oQ (cY 2) (b 2) (rr 0) 6, gI (cY 0) (rr 0) 12 fG 6, [(b 16, .inl (cY 0, 6, .inl fEn))], [(b 17, .inl (cY 0, 6, .inl fEb))], [(oo, .inl (cY 1, 1, .inr (.inl fO)))]] : List va_W).flatten := hD
  refine lv_aload_n hx hb dL_draw_0 rfl (lv_at hl 2 rfl) ?_
  refine lv_iconst (v := nI 0) hx hb dL_draw_1 (by decide) ?_
  refine lv_aload_n hx hb dL_draw_2 rfl (lv_at hl 0 rfl) ?_
  refine lv_iload_n hx hb dL_draw_3 rfl (lv_at hl 1 rfl) ?_
  refine ca_i (CL := [hO b, cO b (nI n) (nI k), dO b, oQ (cY 2) (b 2) (rr 0) 6, gI (cY 0) (rr 0) 12 fG 6, [(b 16, .inl (cY 0, 6, .inl fEn))], [(b 17, .inl (cY 0, 6, .inl fEb))]]) (va_runV (As := [.int (nI x)]) (rest := [.int (nI 0), .ref oo]) ⟨hx, hb, hml, hown, hts⟩ (c_X8_draw_ok l D cY s.heap.size b rr n k fG fEn fEb g x hn1 hn6 hk1 hk12 hG hgn hx1) (cwV 1 hts gL_draw_X8_draw rfl rfl rfl (by decide +kernel) ⟨Nat.le_of_ble_eq_true rfl, Nat.le_of_ble_eq_true rfl⟩) (b_preV hVK hP hD [0, 1, 2, 3, 4, 5, 6] rfl rfl 0 rfl rfl) rfl rfl hl.1 rfl (lv_room (Nat.le_of_ble_eq_true rfl)) dL_draw_4 ⟨Nat.zero_le _, Nat.zero_le _⟩) hP hD hS hA [0, 1, 2, 3, 4, 5, 6] rfl rfl (fun _ => rfl) (fun r4 uu H locs hq hP hD hS => ?_)
  obtain ⟨fEn1_1, fEb1_2⟩ := uu
  try dsimp only at hq
  subst hq
  have hP : va_P D vwCl ([hO b, cO b (nI n) (nI k), dO b, oQ (cY 2) (b 2) (rr 0) 6, gI (cY 0) (rr 0) 12 fG 6, [(b 16, .inl (cY 0, 6, .inl fEn1_1))], [(b 17, .inl (cY 0, 6, .inl fEb1_2))], [(oo, .inl (cY 1, 1, .inr (.inl fO)))]] : List va_W).flatten H := hP
  have hD : va_D A ([hO b, cO b (nI n) (nI k), dO b, oQ (cY 2) (b 2) (rr 0) 6, gI (cY 0) (rr 0) 12 fG 6, [(b 16, .inl (cY 0, 6, .inl fEn1_1))], [(b 17, .inl (cY 0, 6, .inl fEb1_2))], [(oo, .inl (cY 1, 1, .inr (.inl fO)))]] : List va_W).flatten := hD
  refine lv_i2l (v := (dgo g n k x 200 0).toInt64) hx hb dL_draw_7 rfl ?_
  refine b_last hx hb hK hP hD hS 7 1 rfl rfl (by omega) (by decide) dL_draw_8 (fun H locs hP hD hS => ?_)
  have hP : va_P D vwCl ([hO b, cO b (nI n) (nI k), dO b, oQ (cY 2) (b 2) (rr 0) 6, gI (cY 0) (rr 0) 12 fG 6, [(b 16, .inl (cY 0, 6, .inl fEn1_1))], [(b 17, .inl (cY 0, 6, .inl fEb1_2))], [(oo, .inl (cY 1, 1, .inr (.inl (vp_updL fO 0 ((dgo g n k x 200 0).toInt64)))))]] : List va_W).flatten H := hP
  have hD : va_D A ([hO b, cO b (nI n) (nI k), dO b, oQ (cY 2) (b 2) (rr 0) 6, gI (cY 0) (rr 0) 12 fG 6, [(b 16, .inl (cY 0, 6, .inl fEn1_1))], [(b 17, .inl (cY 0, 6, .inl fEb1_2))], [(oo, .inl (cY 1, 1, .inr (.inl (vp_updL fO 0 ((dgo g n k x 200 0).toInt64)))))]] : List va_W).flatten := hD
  refine lv_goto (tgt := 15) hx hb dL_draw_9 (by decide) ?_
  refine lv_iconst (v := nI 0) hx hb dL_draw_15 (by decide) ?_
  exact r_i hx hb hr hlocks hP hD hS (fEn1_1, fEb1_2) rfl (rfl) dL_draw_16

set_option maxHeartbeats 4000000 in
set_option maxRecDepth 100000 in
theorem c_L_drift_ok (l : Launch) (D : va_G) (cY : Nat → ClassId) (sz : Nat) (b : Nat → Nat) (rr : Nat → Nat → Nat) (n : Nat) (k : Nat) (fW : Nat → Nat → Int32) (fPy : Nat → Int32) (g : Nat → Nat → Nat) (i : Nat) (oo : Nat) (fO : Nat → Int64) (hn1 : 1 ≤ n) (hn6 : n ≤ 6) (hk1 : 1 ≤ k) (hk12 : k ≤ 12) (hW : ∀ i j, i < n → j < n → fW i j = nI (cnt (g i) j k)) (hi : i < n) : vx_Met l yL_drift wsL_drift ({ frames := 3, cells := 0, slots := 0, locals := 120 }) (cPH D cY [.ref (b 0), .int (nI i), .ref oo] [hO b, cO b (nI n) (nI k), gO b, oQ (cY 2) (b 3) (rr 1) 6, gI (cY 0) (rr 1) 6 fW 6, [(b 19, .inl (cY 0, 6, .inl fPy))], [(oo, .inl (cY 1, 1, .inr (.inl fO)))]] sz) (qI (S := Unit) D cY (fun r uu => r = nI 0) (fun uu => [hO b, cO b (nI n) (nI k), gO b, oQ (cY 2) (b 3) (rr 1) 6, gI (cY 0) (rr 1) 6 fW 6, [(b 19, .inl (cY 0, 6, .inl fPy))], [(oo, .inl (cY 1, 1, .inr (.inl (vp_updL fO 0 (DC fPy g n k i)))))]]) (va_A ([hO b, cO b (nI n) (nI k), gO b, oQ (cY 2) (b 3) (rr 1) 6, gI (cY 0) (rr 1) 6 fW 6, [(b 19, .inl (cY 0, 6, .inl fPy))], [(oo, .inl (cY 1, 1, .inr (.inl fO)))]] : List va_W).flatten sz)) (q0 (va_A ([hO b, cO b (nI n) (nI k), gO b, oQ (cY 2) (b 3) (rr 1) 6, gI (cY 0) (rr 1) 6 fW 6, [(b 19, .inl (cY 0, 6, .inl fPy))], [(oo, .inl (cY 1, 1, .inr (.inl fO)))]] : List va_W).flatten sz)) 0 0 (va_A ([hO b, cO b (nI n) (nI k), gO b, oQ (cY 2) (b 3) (rr 1) 6, gI (cY 0) (rr 1) 6 fW 6, [(b 19, .inl (cY 0, 6, .inl fPy))], [(oo, .inl (cY 1, 1, .inr (.inl fO)))]] : List va_W).flatten sz) := by
  refine mtH (Qc := fun A => qI (S := Unit) D cY (fun r uu => r = nI 0) (fun uu => [hO b, cO b (nI n) (nI k), gO b, oQ (cY 2) (b 3) (rr 1) 6, gI (cY 0) (rr 1) 6 fW 6, [(b 19, .inl (cY 0, 6, .inl fPy))], [(oo, .inl (cY 1, 1, .inr (.inl (vp_updL fO 0 (DC fPy g n k i)))))]]) A) (cc := cL_drift) (maxL := 4) (ret := (some .int)) (by decide) rfl (Nat.le_of_ble_eq_true rfl) ?_
  intro p e s m below meth c A ls hx hb hr hml hts hown hlocks hsz hP hK hVK hD hS hA hX hH htb hl
  have hown : s.vm.findClass RL = some m.cls := hown
  have hl : lv_has ls 4 [(0, .ref (b 0)), (1, .int (nI i)), (2, .ref oo)] := hl
  have hP : va_P D vwCl ([hO b, cO b (nI n) (nI k), gO b, oQ (cY 2) (b 3) (rr 1) 6, gI (cY 0) (rr 1) 6 fW 6, [(b 19, .inl (cY 0, 6, .inl fPy))], [(oo, .inl (cY 1, 1, .inr (.inl fO)))]] : List va_W).flatten s.heap := hP
  have hD : va_D A ([hO b, cO b (nI n) (nI k), gO b, oQ (cY 2) (b 3) (rr 1) 6, gI (cY 0) (rr 1) 6 fW 6, [(b 19, .inl (cY 0, 6, .inl fPy))], [(oo, .inl (cY 1, 1, .inr (.inl fO)))]] : List va_W).flatten := hD
  refine lv_aload_n hx hb dL_drift_0 rfl (lv_at hl 2 rfl) ?_
  refine lv_iconst (v := nI 0) hx hb dL_drift_1 (by decide) ?_
  refine lv_aload_n hx hb dL_drift_2 rfl (lv_at hl 0 rfl) ?_
  refine lv_iload_n hx hb dL_drift_3 rfl (lv_at hl 1 rfl) ?_
  refine ca_l (CL := [hO b, cO b (nI n) (nI k), gO b, oQ (cY 2) (b 3) (rr 1) 6, gI (cY 0) (rr 1) 6 fW 6, [(b 19, .inl (cY 0, 6, .inl fPy))]]) (va_runV (As := [.int (nI i)]) (rest := [.int (nI 0), .ref oo]) ⟨hx, hb, hml, hown, hts⟩ (c_X8_drift_ok l D cY s.heap.size b rr n k fW fPy g i hn1 hn6 hk1 hk12 hW hi) (cwV 1 hts gL_drift_X8_drift rfl rfl rfl (by decide +kernel) ⟨Nat.le_of_ble_eq_true rfl, Nat.le_of_ble_eq_true rfl⟩) (b_preV hVK hP hD [0, 1, 2, 3, 4, 5] rfl rfl 0 rfl rfl) rfl rfl hl.1 rfl (lv_room (Nat.le_of_ble_eq_true rfl)) dL_drift_4 ⟨Nat.zero_le _, Nat.zero_le _⟩) hP hD hS hA [0, 1, 2, 3, 4, 5] rfl rfl (fun _ => rfl) (fun r4 uu H locs hq hP hD hS => ?_)
  subst hq
  have hP : va_P D vwCl ([hO b, cO b (nI n) (nI k), gO b, oQ (cY 2) (b 3) (rr 1) 6, gI (cY 0) (rr 1) 6 fW 6, [(b 19, .inl (cY 0, 6, .inl fPy))], [(oo, .inl (cY 1, 1, .inr (.inl fO)))]] : List va_W).flatten H := hP
  have hD : va_D A ([hO b, cO b (nI n) (nI k), gO b, oQ (cY 2) (b 3) (rr 1) 6, gI (cY 0) (rr 1) 6 fW 6, [(b 19, .inl (cY 0, 6, .inl fPy))], [(oo, .inl (cY 1, 1, .inr (.inl fO)))]] : List va_W).flatten := hD
  refine b_last hx hb hK hP hD hS 6 1 rfl rfl (by omega) (by decide) dL_drift_7 (fun H locs hP hD hS => ?_)
  have hP : va_P D vwCl ([hO b, cO b (nI n) (nI k), gO b, oQ (cY 2) (b 3) (rr 1) 6, gI (cY 0) (rr 1) 6 fW 6, [(b 19, .inl (cY 0, 6, .inl fPy))], [(oo, .inl (cY 1, 1, .inr (.inl (vp_updL fO 0 (DC fPy g n k i)))))]] : List va_W).flatten H := hP
  have hD : va_D A ([hO b, cO b (nI n) (nI k), gO b, oQ (cY 2) (b 3) (rr 1) 6, gI (cY 0) (rr 1) 6 fW 6, [(b 19, .inl (cY 0, 6, .inl fPy))], [(oo, .inl (cY 1, 1, .inr (.inl (vp_updL fO 0 (DC fPy g n k i)))))]] : List va_W).flatten := hD
  refine lv_goto (tgt := 14) hx hb dL_drift_8 (by decide) ?_
  refine lv_iconst (v := nI 0) hx hb dL_drift_14 (by decide) ?_
  exact r_i hx hb hr hlocks hP hD hS () rfl (rfl) dL_drift_15

set_option maxHeartbeats 4000000 in
set_option maxRecDepth 100000 in
theorem c_L_best_ok (l : Launch) (D : va_G) (cY : Nat → ClassId) (sz : Nat) (b : Nat → Nat) (rr : Nat → Nat → Nat) (n : Nat) (k : Nat) (fW : Nat → Nat → Int32) (fPy : Nat → Int32) (fB : Nat → Nat → Int64) (g : Nat → Nat → Nat) (i : Nat) (t : Nat) (oo : Nat) (fO : Nat → Int64) (hn1 : 1 ≤ n) (hn6 : n ≤ 6) (hk1 : 1 ≤ k) (hk12 : k ≤ 12) (hW : ∀ i j, i < n → j < n → fW i j = nI (cnt (g i) j k)) (hi : i < n) (ht : t ≤ 12) : vx_Met l yL_best wsL_best ({ frames := 6, cells := 0, slots := 0, locals := 240 }) (cPH D cY [.ref (b 0), .int (nI i), .int (nI t), .ref oo] [hO b, cO b (nI n) (nI k), gO b, oQ (cY 2) (b 3) (rr 1) 6, gI (cY 0) (rr 1) 6 fW 6, [(b 19, .inl (cY 0, 6, .inl fPy))], oQ (cY 3) (b 20) (rr 6) 13, gJ (cY 1) (rr 6) 6 fB 13, [(oo, .inl (cY 1, 1, .inr (.inl fO)))]] sz) (qI (S := (Nat → Nat → Int64)) D cY (fun r uu => r = nI 0) (fun uu => [hO b, cO b (nI n) (nI k), gO b, oQ (cY 2) (b 3) (rr 1) 6, gI (cY 0) (rr 1) 6 fW 6, [(b 19, .inl (cY 0, 6, .inl fPy))], oQ (cY 3) (b 20) (rr 6) 13, gJ (cY 1) (rr 6) 6 uu 13, [(oo, .inl (cY 1, 1, .inr (.inl (vp_updL fO 0 (BC fPy g n k t i)))))]]) (va_A ([hO b, cO b (nI n) (nI k), gO b, oQ (cY 2) (b 3) (rr 1) 6, gI (cY 0) (rr 1) 6 fW 6, [(b 19, .inl (cY 0, 6, .inl fPy))], oQ (cY 3) (b 20) (rr 6) 13, gJ (cY 1) (rr 6) 6 fB 13, [(oo, .inl (cY 1, 1, .inr (.inl fO)))]] : List va_W).flatten sz)) (q0 (va_A ([hO b, cO b (nI n) (nI k), gO b, oQ (cY 2) (b 3) (rr 1) 6, gI (cY 0) (rr 1) 6 fW 6, [(b 19, .inl (cY 0, 6, .inl fPy))], oQ (cY 3) (b 20) (rr 6) 13, gJ (cY 1) (rr 6) 6 fB 13, [(oo, .inl (cY 1, 1, .inr (.inl fO)))]] : List va_W).flatten sz)) 0 0 (va_A ([hO b, cO b (nI n) (nI k), gO b, oQ (cY 2) (b 3) (rr 1) 6, gI (cY 0) (rr 1) 6 fW 6, [(b 19, .inl (cY 0, 6, .inl fPy))], oQ (cY 3) (b 20) (rr 6) 13, gJ (cY 1) (rr 6) 6 fB 13, [(oo, .inl (cY 1, 1, .inr (.inl fO)))]] : List va_W).flatten sz) := by
  refine mtH (Qc := fun A => qI (S := (Nat → Nat → Int64)) D cY (fun r uu => r = nI 0) (fun uu => [hO b, cO b (nI n) (nI k), gO b, oQ (cY 2) (b 3) (rr 1) 6, gI (cY 0) (rr 1) 6 fW 6, [(b 19, .inl (cY 0, 6, .inl fPy))], oQ (cY 3) (b 20) (rr 6) 13, gJ (cY 1) (rr 6) 6 uu 13, [(oo, .inl (cY 1, 1, .inr (.inl (vp_updL fO 0 (BC fPy g n k t i)))))]]) A) (cc := cL_best) (maxL := 5) (ret := (some .int)) (by decide) rfl (Nat.le_of_ble_eq_true rfl) ?_
  intro p e s m below meth c A ls hx hb hr hml hts hown hlocks hsz hP hK hVK hD hS hA hX hH htb hl
  have hown : s.vm.findClass RL = some m.cls := hown
  have hl : lv_has ls 5 [(0, .ref (b 0)), (1, .int (nI i)), (2, .int (nI t)), (3, .ref oo)] := hl
  have hP : va_P D vwCl ([hO b, cO b (nI n) (nI k), gO b, oQ (cY 2) (b 3) (rr 1) 6, gI (cY 0) (rr 1) 6 fW 6, [(b 19, .inl (cY 0, 6, .inl fPy))], oQ (cY 3) (b 20) (rr 6) 13, gJ (cY 1) (rr 6) 6 fB 13, [(oo, .inl (cY 1, 1, .inr (.inl fO)))]] : List va_W).flatten s.heap := hP
  have hD : va_D A ([hO b, cO b (nI n) (nI k), gO b, oQ (cY 2) (b 3) (rr 1) 6, gI (cY 0) (rr 1) 6 fW 6, [(b 19, .inl (cY 0, 6, .inl fPy))], oQ (cY 3) (b 20) (rr 6) 13, gJ (cY 1) (rr 6) 6 fB 13, [(oo, .inl (cY 1, 1, .inr (.inl fO)))]] : List va_W).flatten := hD
  refine lv_aload_n hx hb dL_best_0 rfl (lv_at hl 3 rfl) ?_
  refine lv_iconst (v := nI 0) hx hb dL_best_1 (by decide) ?_
  refine lv_aload_n hx hb dL_best_2 rfl (lv_at hl 0 rfl) ?_
  refine lv_iload_n hx hb dL_best_3 rfl (lv_at hl 1 rfl) ?_
  refine lv_iload_n hx hb dL_best_4 rfl (lv_at hl 2 rfl) ?_
  refine ca_l (CL := [hO b, cO b (nI n) (nI k), gO b, oQ (cY 2) (b 3) (rr 1) 6, gI (cY 0) (rr 1) 6 fW 6, [(b 19, .inl (cY 0, 6, .inl fPy))], oQ (cY 3) (b 20) (rr 6) 13, gJ (cY 1) (rr 6) 6 fB 13]) (va_runV (As := [.int (nI i), .int (nI t)]) (rest := [.int (nI 0), .ref oo]) ⟨hx, hb, hml, hown, hts⟩ (c_X8_best_ok l D cY s.heap.size b rr n k fW fPy fB g i t hn1 hn6 hk1 hk12 hW hi ht) (cwV 2 hts gL_best_X8_best rfl rfl rfl (by decide +kernel) ⟨Nat.le_of_ble_eq_true rfl, Nat.le_of_ble_eq_true rfl⟩) (b_preV hVK hP hD [0, 1, 2, 3, 4, 5, 6, 7] rfl rfl 0 rfl rfl) rfl rfl hl.1 rfl (lv_room (Nat.le_of_ble_eq_true rfl)) dL_best_5 ⟨Nat.zero_le _, Nat.zero_le _⟩) hP hD hS hA [0, 1, 2, 3, 4, 5, 6, 7] rfl rfl (fun _ => rfl) (fun r5 uu H locs hq hP hD hS => ?_)
  obtain ⟨fB1_1, rfl⟩ : ∃ z, z = uu := ⟨_, rfl⟩
  try dsimp only at hq
  subst hq
  have hP : va_P D vwCl ([hO b, cO b (nI n) (nI k), gO b, oQ (cY 2) (b 3) (rr 1) 6, gI (cY 0) (rr 1) 6 fW 6, [(b 19, .inl (cY 0, 6, .inl fPy))], oQ (cY 3) (b 20) (rr 6) 13, gJ (cY 1) (rr 6) 6 fB1_1 13, [(oo, .inl (cY 1, 1, .inr (.inl fO)))]] : List va_W).flatten H := hP
  have hD : va_D A ([hO b, cO b (nI n) (nI k), gO b, oQ (cY 2) (b 3) (rr 1) 6, gI (cY 0) (rr 1) 6 fW 6, [(b 19, .inl (cY 0, 6, .inl fPy))], oQ (cY 3) (b 20) (rr 6) 13, gJ (cY 1) (rr 6) 6 fB1_1 13, [(oo, .inl (cY 1, 1, .inr (.inl fO)))]] : List va_W).flatten := hD
  refine b_last hx hb hK hP hD hS 8 1 rfl rfl (by omega) (by decide) dL_best_8 (fun H locs hP hD hS => ?_)
  have hP : va_P D vwCl ([hO b, cO b (nI n) (nI k), gO b, oQ (cY 2) (b 3) (rr 1) 6, gI (cY 0) (rr 1) 6 fW 6, [(b 19, .inl (cY 0, 6, .inl fPy))], oQ (cY 3) (b 20) (rr 6) 13, gJ (cY 1) (rr 6) 6 fB1_1 13, [(oo, .inl (cY 1, 1, .inr (.inl (vp_updL fO 0 (BC fPy g n k t i)))))]] : List va_W).flatten H := hP
  have hD : va_D A ([hO b, cO b (nI n) (nI k), gO b, oQ (cY 2) (b 3) (rr 1) 6, gI (cY 0) (rr 1) 6 fW 6, [(b 19, .inl (cY 0, 6, .inl fPy))], oQ (cY 3) (b 20) (rr 6) 13, gJ (cY 1) (rr 6) 6 fB1_1 13, [(oo, .inl (cY 1, 1, .inr (.inl (vp_updL fO 0 (BC fPy g n k t i)))))]] : List va_W).flatten := hD
  refine lv_goto (tgt := 20) hx hb dL_best_9 (by decide) ?_
  refine lv_iconst (v := nI 0) hx hb dL_best_20 (by decide) ?_
  exact r_i hx hb hr hlocks hP hD hS fB1_1 rfl (rfl) dL_best_21

set_option maxHeartbeats 4000000 in
set_option maxRecDepth 100000 in
theorem c_L_stops_ok (l : Launch) (D : va_G) (cY : Nat → ClassId) (sz : Nat) (b : Nat → Nat) (rr : Nat → Nat → Nat) (n : Nat) (k : Nat) (fW : Nat → Nat → Int32) (fPy : Nat → Int32) (fB : Nat → Nat → Int64) (g : Nat → Nat → Nat) (i : Nat) (t : Nat) (oo : Nat) (fO : Nat → Int64) (hn1 : 1 ≤ n) (hn6 : n ≤ 6) (hk1 : 1 ≤ k) (hk12 : k ≤ 12) (hW : ∀ i j, i < n → j < n → fW i j = nI (cnt (g i) j k)) (hi : i < n) (ht : t ≤ 12) : vx_Met l yL_stops wsL_stops ({ frames := 6, cells := 0, slots := 0, locals := 240 }) (cPH D cY [.ref (b 0), .int (nI i), .int (nI t), .ref oo] [hO b, cO b (nI n) (nI k), gO b, oQ (cY 2) (b 3) (rr 1) 6, gI (cY 0) (rr 1) 6 fW 6, [(b 19, .inl (cY 0, 6, .inl fPy))], oQ (cY 3) (b 20) (rr 6) 13, gJ (cY 1) (rr 6) 6 fB 13, [(oo, .inl (cY 1, 1, .inr (.inl fO)))]] sz) (qI (S := (Nat → Nat → Int64)) D cY (fun r uu => r = nI 0) (fun uu => [hO b, cO b (nI n) (nI k), gO b, oQ (cY 2) (b 3) (rr 1) 6, gI (cY 0) (rr 1) 6 fW 6, [(b 19, .inl (cY 0, 6, .inl fPy))], oQ (cY 3) (b 20) (rr 6) 13, gJ (cY 1) (rr 6) 6 uu 13, [(oo, .inl (cY 1, 1, .inr (.inl (vp_updL fO 0 (bL (stC fPy g n k i t))))))]]) (va_A ([hO b, cO b (nI n) (nI k), gO b, oQ (cY 2) (b 3) (rr 1) 6, gI (cY 0) (rr 1) 6 fW 6, [(b 19, .inl (cY 0, 6, .inl fPy))], oQ (cY 3) (b 20) (rr 6) 13, gJ (cY 1) (rr 6) 6 fB 13, [(oo, .inl (cY 1, 1, .inr (.inl fO)))]] : List va_W).flatten sz)) (q0 (va_A ([hO b, cO b (nI n) (nI k), gO b, oQ (cY 2) (b 3) (rr 1) 6, gI (cY 0) (rr 1) 6 fW 6, [(b 19, .inl (cY 0, 6, .inl fPy))], oQ (cY 3) (b 20) (rr 6) 13, gJ (cY 1) (rr 6) 6 fB 13, [(oo, .inl (cY 1, 1, .inr (.inl fO)))]] : List va_W).flatten sz)) 0 0 (va_A ([hO b, cO b (nI n) (nI k), gO b, oQ (cY 2) (b 3) (rr 1) 6, gI (cY 0) (rr 1) 6 fW 6, [(b 19, .inl (cY 0, 6, .inl fPy))], oQ (cY 3) (b 20) (rr 6) 13, gJ (cY 1) (rr 6) 6 fB 13, [(oo, .inl (cY 1, 1, .inr (.inl fO)))]] : List va_W).flatten sz) := by
  refine mtH (Qc := fun A => qI (S := (Nat → Nat → Int64)) D cY (fun r uu => r = nI 0) (fun uu => [hO b, cO b (nI n) (nI k), gO b, oQ (cY 2) (b 3) (rr 1) 6, gI (cY 0) (rr 1) 6 fW 6, [(b 19, .inl (cY 0, 6, .inl fPy))], oQ (cY 3) (b 20) (rr 6) 13, gJ (cY 1) (rr 6) 6 uu 13, [(oo, .inl (cY 1, 1, .inr (.inl (vp_updL fO 0 (bL (stC fPy g n k i t))))))]]) A) (cc := cL_stops) (maxL := 5) (ret := (some .int)) (by decide) rfl (Nat.le_of_ble_eq_true rfl) ?_
  intro p e s m below meth c A ls hx hb hr hml hts hown hlocks hsz hP hK hVK hD hS hA hX hH htb hl
  have hown : s.vm.findClass RL = some m.cls := hown
  have hl : lv_has ls 5 [(0, .ref (b 0)), (1, .int (nI i)), (2, .int (nI t)), (3, .ref oo)] := hl
  have hP : va_P D vwCl ([hO b, cO b (nI n) (nI k), gO b, oQ (cY 2) (b 3) (rr 1) 6, gI (cY 0) (rr 1) 6 fW 6, [(b 19, .inl (cY 0, 6, .inl fPy))], oQ (cY 3) (b 20) (rr 6) 13, gJ (cY 1) (rr 6) 6 fB 13, [(oo, .inl (cY 1, 1, .inr (.inl fO)))]] : List va_W).flatten s.heap := hP
  have hD : va_D A ([hO b, cO b (nI n) (nI k), gO b, oQ (cY 2) (b 3) (rr 1) 6, gI (cY 0) (rr 1) 6 fW 6, [(b 19, .inl (cY 0, 6, .inl fPy))], oQ (cY 3) (b 20) (rr 6) 13, gJ (cY 1) (rr 6) 6 fB 13, [(oo, .inl (cY 1, 1, .inr (.inl fO)))]] : List va_W).flatten := hD
  refine lv_aload_n hx hb dL_stops_0 rfl (lv_at hl 3 rfl) ?_
  refine lv_iconst (v := nI 0) hx hb dL_stops_1 (by decide) ?_
  refine lv_aload_n hx hb dL_stops_2 rfl (lv_at hl 0 rfl) ?_
  refine lv_iload_n hx hb dL_stops_3 rfl (lv_at hl 1 rfl) ?_
  refine lv_iload_n hx hb dL_stops_4 rfl (lv_at hl 2 rfl) ?_
  refine ca_i (CL := [hO b, cO b (nI n) (nI k), gO b, oQ (cY 2) (b 3) (rr 1) 6, gI (cY 0) (rr 1) 6 fW 6, [(b 19, .inl (cY 0, 6, .inl fPy))], oQ (cY 3) (b 20) (rr 6) 13, gJ (cY 1) (rr 6) 6 fB 13]) (va_runV (As := [.int (nI i), .int (nI t)]) (rest := [.int (nI 0), .ref oo]) ⟨hx, hb, hml, hown, hts⟩ (c_X8_stops_ok l D cY s.heap.size b rr n k fW fPy fB g i t hn1 hn6 hk1 hk12 hW hi ht) (cwV 2 hts gL_stops_X8_stops rfl rfl rfl (by decide +kernel) ⟨Nat.le_of_ble_eq_true rfl, Nat.le_of_ble_eq_true rfl⟩) (b_preV hVK hP hD [0, 1, 2, 3, 4, 5, 6, 7] rfl rfl 0 rfl rfl) rfl rfl hl.1 rfl (lv_room (Nat.le_of_ble_eq_true rfl)) dL_stops_5 ⟨Nat.zero_le _, Nat.zero_le _⟩) hP hD hS hA [0, 1, 2, 3, 4, 5, 6, 7] rfl rfl (fun _ => rfl) (fun r5 uu H locs hq hP hD hS => ?_)
  obtain ⟨fB1_1, rfl⟩ : ∃ z, z = uu := ⟨_, rfl⟩
  try dsimp only at hq
  subst hq
  have hP : va_P D vwCl ([hO b, cO b (nI n) (nI k), gO b, oQ (cY 2) (b 3) (rr 1) 6, gI (cY 0) (rr 1) 6 fW 6, [(b 19, .inl (cY 0, 6, .inl fPy))], oQ (cY 3) (b 20) (rr 6) 13, gJ (cY 1) (rr 6) 6 fB1_1 13, [(oo, .inl (cY 1, 1, .inr (.inl fO)))]] : List va_W).flatten H := hP
  have hD : va_D A ([hO b, cO b (nI n) (nI k), gO b, oQ (cY 2) (b 3) (rr 1) 6, gI (cY 0) (rr 1) 6 fW 6, [(b 19, .inl (cY 0, 6, .inl fPy))], oQ (cY 3) (b 20) (rr 6) 13, gJ (cY 1) (rr 6) 6 fB1_1 13, [(oo, .inl (cY 1, 1, .inr (.inl fO)))]] : List va_W).flatten := hD
  refine b_if_eq (tgt := 15) hx hb dL_stops_8 (by decide) (fun h8 => ?_) (fun h8 => ?_)
  · -- t
    refine lv_lconst (v := lN 0) hx hb dL_stops_15 (by decide) ?_
    refine b_last hx hb hK hP hD hS 8 1 rfl rfl (by omega) (by decide) dL_stops_16 (fun H locs hP hD hS => ?_)
    have hP : va_P D vwCl ([hO b, cO b (nI n) (nI k), gO b, oQ (cY 2) (b 3) (rr 1) 6, gI (cY 0) (rr 1) 6 fW 6, [(b 19, .inl (cY 0, 6, .inl fPy))], oQ (cY 3) (b 20) (rr 6) 13, gJ (cY 1) (rr 6) 6 fB1_1 13, [(oo, .inl (cY 1, 1, .inr (.inl (vp_updL fO 0 (lN 0)))))]] : List va_W).flatten H := hP
    have hD : va_D A ([hO b, cO b (nI n) (nI k), gO b, oQ (cY 2) (b 3) (rr 1) 6, gI (cY 0) (rr 1) 6 fW 6, [(b 19, .inl (cY 0, 6, .inl fPy))], oQ (cY 3) (b 20) (rr 6) 13, gJ (cY 1) (rr 6) 6 fB1_1 13, [(oo, .inl (cY 1, 1, .inr (.inl (vp_updL fO 0 (lN 0)))))]] : List va_W).flatten := hD
    refine lv_goto (tgt := 28) hx hb dL_stops_17 (by decide) ?_
    refine lv_iconst (v := nI 0) hx hb dL_stops_28 (by decide) ?_
    exact r_i hx hb hr hlocks hP hD hS fB1_1 (by rw [h8]; rfl) (rfl) dL_stops_29
  · -- f
    refine lv_lconst (v := lN 1) hx hb dL_stops_11 (by decide) ?_
    refine lv_goto (tgt := 16) hx hb dL_stops_12 (by decide) ?_
    refine b_last hx hb hK hP hD hS 8 1 rfl rfl (by omega) (by decide) dL_stops_16 (fun H locs hP hD hS => ?_)
    have hP : va_P D vwCl ([hO b, cO b (nI n) (nI k), gO b, oQ (cY 2) (b 3) (rr 1) 6, gI (cY 0) (rr 1) 6 fW 6, [(b 19, .inl (cY 0, 6, .inl fPy))], oQ (cY 3) (b 20) (rr 6) 13, gJ (cY 1) (rr 6) 6 fB1_1 13, [(oo, .inl (cY 1, 1, .inr (.inl (vp_updL fO 0 (lN 1)))))]] : List va_W).flatten H := hP
    have hD : va_D A ([hO b, cO b (nI n) (nI k), gO b, oQ (cY 2) (b 3) (rr 1) 6, gI (cY 0) (rr 1) 6 fW 6, [(b 19, .inl (cY 0, 6, .inl fPy))], oQ (cY 3) (b 20) (rr 6) 13, gJ (cY 1) (rr 6) 6 fB1_1 13, [(oo, .inl (cY 1, 1, .inr (.inl (vp_updL fO 0 (lN 1)))))]] : List va_W).flatten := hD
    refine lv_goto (tgt := 28) hx hb dL_stops_17 (by decide) ?_
    refine lv_iconst (v := nI 0) hx hb dL_stops_28 (by decide) ?_
    exact r_i hx hb hr hlocks hP hD hS fB1_1 (by rw [h8]; rfl) (rfl) dL_stops_29

set_option maxHeartbeats 4000000 in
set_option maxRecDepth 100000 in
theorem c_L_rest_all (l : Launch) (D : va_G) (cY : Nat → ClassId) (sz : Nat) (b : Nat → Nat) (rr : Nat → Nat → Nat) (n : Nat) (k : Nat) (fW : Nat → Nat → Int32) (fRs : Nat → Int64) (fOt : Nat → Int32) (fMi : Nat → Int64) (g : Nat → Nat → Nat) (oo : Nat) (fO : Nat → Int64) (hn1 : 1 ≤ n) (hn6 : n ≤ 6) (hk1 : 1 ≤ k) (hk12 : k ≤ 12) (hW : ∀ i j, i < n → j < n → fW i j = nI (cnt (g i) j k)) : vx_Met l yL_rest wsL_rest ({ frames := 6, cells := 0, slots := 0, locals := 240 }) (cPH D cY [.ref (b 0), .int (-1), .ref oo] [hO b, cO b (nI n) (nI k), tO b, oQ (cY 2) (b 3) (rr 1) 6, gI (cY 0) (rr 1) 6 fW 6, [(b 12, .inl (cY 1, 6, .inr (.inl fRs)))], [(b 13, .inl (cY 0, 6, .inl fOt))], [(b 14, .inl (cY 1, 32, .inr (.inl fMi)))], [(oo, .inl (cY 1, 1, .inr (.inl fO)))]] sz) (qI (S := (Nat → Int64) × (Nat → Int32) × (Nat → Int64)) D cY (fun r uu => r = nI 0) (fun uu => [hO b, cO b (nI n) (nI k), tO b, oQ (cY 2) (b 3) (rr 1) 6, gI (cY 0) (rr 1) 6 fW 6, [(b 12, .inl (cY 1, 6, .inr (.inl uu.1)))], [(b 13, .inl (cY 0, 6, .inl uu.2.1))], [(b 14, .inl (cY 1, 32, .inr (.inl uu.2.2)))], [(oo, .inl (cY 1, 1, .inr (.inl (vp_updL fO 0 (WR g n k)))))]]) (va_A ([hO b, cO b (nI n) (nI k), tO b, oQ (cY 2) (b 3) (rr 1) 6, gI (cY 0) (rr 1) 6 fW 6, [(b 12, .inl (cY 1, 6, .inr (.inl fRs)))], [(b 13, .inl (cY 0, 6, .inl fOt))], [(b 14, .inl (cY 1, 32, .inr (.inl fMi)))], [(oo, .inl (cY 1, 1, .inr (.inl fO)))]] : List va_W).flatten sz)) (q0 (va_A ([hO b, cO b (nI n) (nI k), tO b, oQ (cY 2) (b 3) (rr 1) 6, gI (cY 0) (rr 1) 6 fW 6, [(b 12, .inl (cY 1, 6, .inr (.inl fRs)))], [(b 13, .inl (cY 0, 6, .inl fOt))], [(b 14, .inl (cY 1, 32, .inr (.inl fMi)))], [(oo, .inl (cY 1, 1, .inr (.inl fO)))]] : List va_W).flatten sz)) 0 0 (va_A ([hO b, cO b (nI n) (nI k), tO b, oQ (cY 2) (b 3) (rr 1) 6, gI (cY 0) (rr 1) 6 fW 6, [(b 12, .inl (cY 1, 6, .inr (.inl fRs)))], [(b 13, .inl (cY 0, 6, .inl fOt))], [(b 14, .inl (cY 1, 32, .inr (.inl fMi)))], [(oo, .inl (cY 1, 1, .inr (.inl fO)))]] : List va_W).flatten sz) := by
  refine mtH (Qc := fun A => qI (S := (Nat → Int64) × (Nat → Int32) × (Nat → Int64)) D cY (fun r uu => r = nI 0) (fun uu => [hO b, cO b (nI n) (nI k), tO b, oQ (cY 2) (b 3) (rr 1) 6, gI (cY 0) (rr 1) 6 fW 6, [(b 12, .inl (cY 1, 6, .inr (.inl uu.1)))], [(b 13, .inl (cY 0, 6, .inl uu.2.1))], [(b 14, .inl (cY 1, 32, .inr (.inl uu.2.2)))], [(oo, .inl (cY 1, 1, .inr (.inl (vp_updL fO 0 (WR g n k)))))]]) A) (cc := cL_rest) (maxL := 4) (ret := (some .int)) (by decide) rfl (Nat.le_of_ble_eq_true rfl) ?_
  intro p e s m below meth c A ls hx hb hr hml hts hown hlocks hsz hP hK hVK hD hS hA hX hH htb hl
  have hown : s.vm.findClass RL = some m.cls := hown
  have hl : lv_has ls 4 [(0, .ref (b 0)), (1, .int (-1)), (2, .ref oo)] := hl
  have hP : va_P D vwCl ([hO b, cO b (nI n) (nI k), tO b, oQ (cY 2) (b 3) (rr 1) 6, gI (cY 0) (rr 1) 6 fW 6, [(b 12, .inl (cY 1, 6, .inr (.inl fRs)))], [(b 13, .inl (cY 0, 6, .inl fOt))], [(b 14, .inl (cY 1, 32, .inr (.inl fMi)))], [(oo, .inl (cY 1, 1, .inr (.inl fO)))]] : List va_W).flatten s.heap := hP
  have hD : va_D A ([hO b, cO b (nI n) (nI k), tO b, oQ (cY 2) (b 3) (rr 1) 6, gI (cY 0) (rr 1) 6 fW 6, [(b 12, .inl (cY 1, 6, .inr (.inl fRs)))], [(b 13, .inl (cY 0, 6, .inl fOt))], [(b 14, .inl (cY 1, 32, .inr (.inl fMi)))], [(oo, .inl (cY 1, 1, .inr (.inl fO)))]] : List va_W).flatten := hD
  refine lv_aload_n hx hb dL_rest_0 rfl (lv_at hl 2 rfl) ?_
  refine lv_iconst (v := nI 0) hx hb dL_rest_1 (by decide) ?_
  refine lv_aload_n hx hb dL_rest_2 rfl (lv_at hl 0 rfl) ?_
  refine lv_iload_n hx hb dL_rest_3 rfl (lv_at hl 1 rfl) ?_
  refine ca_l (CL := [hO b, cO b (nI n) (nI k), tO b, oQ (cY 2) (b 3) (rr 1) 6, gI (cY 0) (rr 1) 6 fW 6, [(b 12, .inl (cY 1, 6, .inr (.inl fRs)))], [(b 13, .inl (cY 0, 6, .inl fOt))], [(b 14, .inl (cY 1, 32, .inr (.inl fMi)))]]) (va_runV (As := [.int (-1)]) (rest := [.int (nI 0), .ref oo]) ⟨hx, hb, hml, hown, hts⟩ (c_X8_rest_all l D cY s.heap.size b rr n k fW fRs fOt fMi g hn1 hn6 hk1 hk12 hW) (cwV 1 hts gL_rest_X8_rest rfl rfl rfl (by decide +kernel) ⟨Nat.le_of_ble_eq_true rfl, Nat.le_of_ble_eq_true rfl⟩) (b_preV hVK hP hD [0, 1, 2, 3, 4, 5, 6, 7] rfl rfl 0 rfl rfl) rfl rfl hl.1 rfl (lv_room (Nat.le_of_ble_eq_true rfl)) dL_rest_4 ⟨Nat.zero_le _, Nat.zero_le _⟩) hP hD hS hA [0, 1, 2, 3, 4, 5, 6, 7] rfl rfl (fun _ => rfl) (fun r4 uu H locs hq hP hD hS => ?_)
  obtain ⟨fRs1_1, fOt1_2, fMi1_3⟩ := uu
  try dsimp only at hq
  subst hq
  have hP : va_P D vwCl ([hO b, cO b (nI n) (nI k), tO b, oQ (cY 2) (b 3) (rr 1) 6, gI (cY 0) (rr 1) 6 fW 6, [(b 12, .inl (cY 1, 6, .inr (.inl fRs1_1)))], [(b 13, .inl (cY 0, 6, .inl fOt1_2))], [(b 14, .inl (cY 1, 32, .inr (.inl fMi1_3)))], [(oo, .inl (cY 1, 1, .inr (.inl fO)))]] : List va_W).flatten H := hP
  have hD : va_D A ([hO b, cO b (nI n) (nI k), tO b, oQ (cY 2) (b 3) (rr 1) 6, gI (cY 0) (rr 1) 6 fW 6, [(b 12, .inl (cY 1, 6, .inr (.inl fRs1_1)))], [(b 13, .inl (cY 0, 6, .inl fOt1_2))], [(b 14, .inl (cY 1, 32, .inr (.inl fMi1_3)))], [(oo, .inl (cY 1, 1, .inr (.inl fO)))]] : List va_W).flatten := hD
  refine b_last hx hb hK hP hD hS 8 1 rfl rfl (by omega) (by decide) dL_rest_7 (fun H locs hP hD hS => ?_)
  have hP : va_P D vwCl ([hO b, cO b (nI n) (nI k), tO b, oQ (cY 2) (b 3) (rr 1) 6, gI (cY 0) (rr 1) 6 fW 6, [(b 12, .inl (cY 1, 6, .inr (.inl fRs1_1)))], [(b 13, .inl (cY 0, 6, .inl fOt1_2))], [(b 14, .inl (cY 1, 32, .inr (.inl fMi1_3)))], [(oo, .inl (cY 1, 1, .inr (.inl (vp_updL fO 0 (WR g n k)))))]] : List va_W).flatten H := hP
  have hD : va_D A ([hO b, cO b (nI n) (nI k), tO b, oQ (cY 2) (b 3) (rr 1) 6, gI (cY 0) (rr 1) 6 fW 6, [(b 12, .inl (cY 1, 6, .inr (.inl fRs1_1)))], [(b 13, .inl (cY 0, 6, .inl fOt1_2))], [(b 14, .inl (cY 1, 32, .inr (.inl fMi1_3)))], [(oo, .inl (cY 1, 1, .inr (.inl (vp_updL fO 0 (WR g n k)))))]] : List va_W).flatten := hD
  refine lv_goto (tgt := 14) hx hb dL_rest_8 (by decide) ?_
  refine lv_iconst (v := nI 0) hx hb dL_rest_14 (by decide) ?_
  exact r_i hx hb hr hlocks hP hD hS (fRs1_1, fOt1_2, fMi1_3) rfl (rfl) dL_rest_15

set_option maxHeartbeats 4000000 in
set_option maxRecDepth 100000 in
theorem c_L_begin_bad (l : Launch) (D : va_G) (cY : Nat → ClassId) (sz : Nat) (b : Nat → Nat) (n : Nat) (k : Nat) (x : Int32) (y : Int32) (hlT : l.stackTraces = false) (hn1 : 1 ≤ n) (hn6 : n ≤ 6) (hk1 : 1 ≤ k) (hk12 : k ≤ 12) (hbad : (inR x (nI 1) (nI 6) && inR y (nI 1) (nI 12)) = false) : vx_Met l yL_begin wsL_begin ({ frames := 13, cells := 1, slots := 6, locals := 360 }) (cPH D cY [.ref (b 0), .int x, .int y] [hO b, cO b (nI n) (nI k)] sz) (qI (S := Unit) D cY (fun r uu => r = nI 1) (fun uu => [hO b, cO b (nI n) (nI k)]) (va_A ([hO b, cO b (nI n) (nI k)] : List va_W).flatten sz)) (q0 (va_A ([hO b, cO b (nI n) (nI k)] : List va_W).flatten sz)) 1 6 (va_A ([hO b, cO b (nI n) (nI k)] : List va_W).flatten sz) := by
  refine mtH (Qc := fun A => qI (S := Unit) D cY (fun r uu => r = nI 1) (fun uu => [hO b, cO b (nI n) (nI k)]) A) (cc := cL_begin) (maxL := 4) (ret := (some .int)) (by decide) rfl (Nat.le_of_ble_eq_true rfl) ?_
  intro p e s m below meth c A ls hx hb hr hml hts hown hlocks hsz hP hK hVK hD hS hA hX hH htb hl
  have hown : s.vm.findClass RL = some m.cls := hown
  have hl : lv_has ls 4 [(0, .ref (b 0)), (1, .int x), (2, .int y)] := hl
  have hP : va_P D vwCl ([hO b, cO b (nI n) (nI k)] : List va_W).flatten s.heap := hP
  have hD : va_D A ([hO b, cO b (nI n) (nI k)] : List va_W).flatten := hD
  refine lv_aload_n hx hb dL_begin_0 rfl (lv_at hl 0 rfl) ?_
  refine lv_iload_n hx hb dL_begin_1 rfl (lv_at hl 1 rfl) ?_
  refine lv_iload_n hx hb dL_begin_2 rfl (lv_at hl 2 rfl) ?_
  refine xh_v (CL := [hO b, cO b (nI n) (nI k)]) (vx_runV (As := [.int x, .int y]) (rest := []) ⟨hx, hb, hml, hown, hts⟩ (c_X8_begin_bad l D cY s.heap.size b n k x y hlT hn1 hn6 hk1 hk12 hbad) (cwV 2 hts gL_begin_X8_begin rfl rfl rfl (by decide +kernel) ⟨Nat.le_of_ble_eq_true rfl, Nat.le_of_ble_eq_true rfl⟩) (b_preXV hVK hP hD hS hA hX [0, 1] rfl rfl 0 rfl rfl) rfl rfl hl.1 rfl (lv_room (Nat.le_of_ble_eq_true rfl)) dL_begin_3 ⟨Nat.le_of_ble_eq_true rfl, Nat.le_of_ble_eq_true rfl⟩) hP hD hS hA [0, 1] rfl rfl rfl (fun H locs q9 ce hP hD hS hcell hv hcl => ?_)
  refine h_catch (E := eIA) hown [] ⟨0, 6, 9, 13⟩ [] htb (fun z hz => nomatch hz) (by decide +kernel) (by decide) (hts (.classLink RL 13 eIA) (by decide +kernel)) hH.1 hcell hv hcl ?_
  refine lv_astore_n (lv' := [(3, .ref q9), (0, .ref (b 0)), (1, .int x), (2, .int y)]) hx hb dL_begin_9 rfl hl (by decide) rfl (fun ls hl => ?_)
  refine lv_iconst (v := nI 1) hx hb dL_begin_10 (by decide) ?_
  exact r_i hx hb hr hlocks hP hD hS () rfl rfl dL_begin_11

set_option maxHeartbeats 4000000 in
set_option maxRecDepth 100000 in
theorem c_L_lead_bad (l : Launch) (D : va_G) (cY : Nat → ClassId) (sz : Nat) (b : Nat → Nat) (n : Nat) (k : Nat) (x : Int32) (y : Int32) (z : Int32) (oo : Nat) (fO : Nat → Int64) (hlT : l.stackTraces = false) (hn1 : 1 ≤ n) (hn6 : n ≤ 6) (hk1 : 1 ≤ k) (hk12 : k ≤ 12) (hbad : (inR x (nI 0) (nI (n - 1)) && inR z (nI 0) (nI (n - 1)) && inR y (nI 0) (nI (k - 1))) = false) : vx_Met l yL_lead wsL_lead ({ frames := 13, cells := 1, slots := 6, locals := 360 }) (cPH D cY [.ref (b 0), .int x, .int y, .int z, .ref oo] [hO b, cO b (nI n) (nI k), [(oo, .inl (cY 1, 1, .inr (.inl fO)))]] sz) (qI (S := Unit) D cY (fun r uu => r = nI 1) (fun uu => [hO b, cO b (nI n) (nI k), [(oo, .inl (cY 1, 1, .inr (.inl fO)))]]) (va_A ([hO b, cO b (nI n) (nI k), [(oo, .inl (cY 1, 1, .inr (.inl fO)))]] : List va_W).flatten sz)) (q0 (va_A ([hO b, cO b (nI n) (nI k), [(oo, .inl (cY 1, 1, .inr (.inl fO)))]] : List va_W).flatten sz)) 1 6 (va_A ([hO b, cO b (nI n) (nI k), [(oo, .inl (cY 1, 1, .inr (.inl fO)))]] : List va_W).flatten sz) := by
  refine mtH (Qc := fun A => qI (S := Unit) D cY (fun r uu => r = nI 1) (fun uu => [hO b, cO b (nI n) (nI k), [(oo, .inl (cY 1, 1, .inr (.inl fO)))]]) A) (cc := cL_lead) (maxL := 6) (ret := (some .int)) (by decide) rfl (Nat.le_of_ble_eq_true rfl) ?_
  intro p e s m below meth c A ls hx hb hr hml hts hown hlocks hsz hP hK hVK hD hS hA hX hH htb hl
  have hown : s.vm.findClass RL = some m.cls := hown
  have hl : lv_has ls 6 [(0, .ref (b 0)), (1, .int x), (2, .int y), (3, .int z), (4, .ref oo)] := hl
  have hP : va_P D vwCl ([hO b, cO b (nI n) (nI k), [(oo, .inl (cY 1, 1, .inr (.inl fO)))]] : List va_W).flatten s.heap := hP
  have hD : va_D A ([hO b, cO b (nI n) (nI k), [(oo, .inl (cY 1, 1, .inr (.inl fO)))]] : List va_W).flatten := hD
  refine lv_aload hx hb dL_lead_0 (lv_at hl 4 rfl) ?_
  refine lv_iconst (v := nI 0) hx hb dL_lead_2 (by decide) ?_
  refine lv_aload_n hx hb dL_lead_3 rfl (lv_at hl 0 rfl) ?_
  refine lv_iload_n hx hb dL_lead_4 rfl (lv_at hl 1 rfl) ?_
  refine lv_iload_n hx hb dL_lead_5 rfl (lv_at hl 2 rfl) ?_
  refine lv_iload_n hx hb dL_lead_6 rfl (lv_at hl 3 rfl) ?_
  refine xh_i (CL := [hO b, cO b (nI n) (nI k)]) (vx_runV (As := [.int x, .int y, .int z]) (rest := [.int (nI 0), .ref oo]) ⟨hx, hb, hml, hown, hts⟩ (c_X8_lead_bad l D cY s.heap.size b n k x y z hlT hn1 hn6 hk1 hk12 hbad) (cwV 3 hts gL_lead_X8_lead rfl rfl rfl (by decide +kernel) ⟨Nat.le_of_ble_eq_true rfl, Nat.le_of_ble_eq_true rfl⟩) (b_preXV hVK hP hD hS hA hX [0, 1] rfl rfl 0 rfl rfl) rfl rfl hl.1 rfl (lv_room (Nat.le_of_ble_eq_true rfl)) dL_lead_7 ⟨Nat.le_of_ble_eq_true rfl, Nat.le_of_ble_eq_true rfl⟩) hP hD hS hA [0, 1] rfl rfl rfl (fun H locs q9 ce hP hD hS hcell hv hcl => ?_)
  refine h_catch (E := eIB) hown [] ⟨0, 12, 15, 19⟩ [] htb (fun z hz => nomatch hz) (by decide +kernel) (by decide) (hts (.classLink RL 19 eIB) (by decide +kernel)) hH.2.1 hcell hv hcl ?_
  refine lv_astore (lv' := [(5, .ref q9), (0, .ref (b 0)), (1, .int x), (2, .int y), (3, .int z), (4, .ref oo)]) hx hb dL_lead_15 hl (by decide) rfl (fun ls hl => ?_)
  refine lv_iconst (v := nI 1) hx hb dL_lead_17 (by decide) ?_
  exact r_i hx hb hr hlocks hP hD hS () rfl rfl dL_lead_18

set_option maxHeartbeats 4000000 in
set_option maxRecDepth 100000 in
theorem c_L_swap_bad (l : Launch) (D : va_G) (cY : Nat → ClassId) (sz : Nat) (b : Nat → Nat) (n : Nat) (k : Nat) (x : Int32) (y : Int32) (z : Int32) (hlT : l.stackTraces = false) (hn1 : 1 ≤ n) (hn6 : n ≤ 6) (hk1 : 1 ≤ k) (hk12 : k ≤ 12) (hbad : (inR x (nI 0) (nI (n - 1)) && inR y (nI 0) (nI (k - 1)) && inR z (nI 0) (nI (k - 1))) = false) : vx_Met l yL_swap wsL_swap ({ frames := 13, cells := 1, slots := 6, locals := 360 }) (cPH D cY [.ref (b 0), .int x, .int y, .int z] [hO b, cO b (nI n) (nI k)] sz) (qI (S := Unit) D cY (fun r uu => r = nI 1) (fun uu => [hO b, cO b (nI n) (nI k)]) (va_A ([hO b, cO b (nI n) (nI k)] : List va_W).flatten sz)) (q0 (va_A ([hO b, cO b (nI n) (nI k)] : List va_W).flatten sz)) 1 6 (va_A ([hO b, cO b (nI n) (nI k)] : List va_W).flatten sz) := by
  refine mtH (Qc := fun A => qI (S := Unit) D cY (fun r uu => r = nI 1) (fun uu => [hO b, cO b (nI n) (nI k)]) A) (cc := cL_swap) (maxL := 5) (ret := (some .int)) (by decide) rfl (Nat.le_of_ble_eq_true rfl) ?_
  intro p e s m below meth c A ls hx hb hr hml hts hown hlocks hsz hP hK hVK hD hS hA hX hH htb hl
  have hown : s.vm.findClass RL = some m.cls := hown
  have hl : lv_has ls 5 [(0, .ref (b 0)), (1, .int x), (2, .int y), (3, .int z)] := hl
  have hP : va_P D vwCl ([hO b, cO b (nI n) (nI k)] : List va_W).flatten s.heap := hP
  have hD : va_D A ([hO b, cO b (nI n) (nI k)] : List va_W).flatten := hD
  refine lv_aload_n hx hb dL_swap_0 rfl (lv_at hl 0 rfl) ?_
  refine lv_iload_n hx hb dL_swap_1 rfl (lv_at hl 1 rfl) ?_
  refine lv_iload_n hx hb dL_swap_2 rfl (lv_at hl 2 rfl) ?_
  refine lv_iload_n hx hb dL_swap_3 rfl (lv_at hl 3 rfl) ?_
  refine xh_v (CL := [hO b, cO b (nI n) (nI k)]) (vx_runV (As := [.int x, .int y, .int z]) (rest := []) ⟨hx, hb, hml, hown, hts⟩ (c_X8_swap_bad l D cY s.heap.size b n k x y z hlT hn1 hn6 hk1 hk12 hbad) (cwV 3 hts gL_swap_X8_swap rfl rfl rfl (by decide +kernel) ⟨Nat.le_of_ble_eq_true rfl, Nat.le_of_ble_eq_true rfl⟩) (b_preXV hVK hP hD hS hA hX [0, 1] rfl rfl 0 rfl rfl) rfl rfl hl.1 rfl (lv_room (Nat.le_of_ble_eq_true rfl)) dL_swap_4 ⟨Nat.le_of_ble_eq_true rfl, Nat.le_of_ble_eq_true rfl⟩) hP hD hS hA [0, 1] rfl rfl rfl (fun H locs q9 ce hP hD hS hcell hv hcl => ?_)
  refine h_catch (E := eIB) hown [] ⟨0, 7, 10, 19⟩ [] htb (fun z hz => nomatch hz) (by decide +kernel) (by decide) (hts (.classLink RL 19 eIB) (by decide +kernel)) hH.2.1 hcell hv hcl ?_
  refine lv_astore (lv' := [(4, .ref q9), (0, .ref (b 0)), (1, .int x), (2, .int y), (3, .int z)]) hx hb dL_swap_10 hl (by decide) rfl (fun ls hl => ?_)
  refine lv_iconst (v := nI 1) hx hb dL_swap_12 (by decide) ?_
  exact r_i hx hb hr hlocks hP hD hS () rfl rfl dL_swap_13

set_option maxHeartbeats 4000000 in
set_option maxRecDepth 100000 in
theorem c_L_pay_b1 (l : Launch) (D : va_G) (cY : Nat → ClassId) (sz : Nat) (b : Nat → Nat) (n : Nat) (k : Nat) (x : Int32) (v0 : Int32) (oo : Nat) (fO : Nat → Int64) (hlT : l.stackTraces = false) (hn1 : 1 ≤ n) (hn6 : n ≤ 6) (hk1 : 1 ≤ k) (hk12 : k ≤ 12) (hbad : inR x (nI 0) (nI (n - 1)) = false) : vx_Met l yL_pay wsL_pay ({ frames := 13, cells := 1, slots := 6, locals := 360 }) (cPH D cY [.ref (b 0), .int x, .int v0, .ref oo] [hO b, cO b (nI n) (nI k), [(oo, .inl (cY 1, 1, .inr (.inl fO)))]] sz) (qI (S := Unit) D cY (fun r uu => r = nI 1) (fun uu => [hO b, cO b (nI n) (nI k), [(oo, .inl (cY 1, 1, .inr (.inl fO)))]]) (va_A ([hO b, cO b (nI n) (nI k), [(oo, .inl (cY 1, 1, .inr (.inl fO)))]] : List va_W).flatten sz)) (q0 (va_A ([hO b, cO b (nI n) (nI k), [(oo, .inl (cY 1, 1, .inr (.inl fO)))]] : List va_W).flatten sz)) 1 6 (va_A ([hO b, cO b (nI n) (nI k), [(oo, .inl (cY 1, 1, .inr (.inl fO)))]] : List va_W).flatten sz) := by
  refine mtH (Qc := fun A => qI (S := Unit) D cY (fun r uu => r = nI 1) (fun uu => [hO b, cO b (nI n) (nI k), [(oo, .inl (cY 1, 1, .inr (.inl fO)))]]) A) (cc := cL_pay) (maxL := 5) (ret := (some .int)) (by decide) rfl (Nat.le_of_ble_eq_true rfl) ?_
  intro p e s m below meth c A ls hx hb hr hml hts hown hlocks hsz hP hK hVK hD hS hA hX hH htb hl
  have hown : s.vm.findClass RL = some m.cls := hown
  have hl : lv_has ls 5 [(0, .ref (b 0)), (1, .int x), (2, .int v0), (3, .ref oo)] := hl
  have hP : va_P D vwCl ([hO b, cO b (nI n) (nI k), [(oo, .inl (cY 1, 1, .inr (.inl fO)))]] : List va_W).flatten s.heap := hP
  have hD : va_D A ([hO b, cO b (nI n) (nI k), [(oo, .inl (cY 1, 1, .inr (.inl fO)))]] : List va_W).flatten := hD
  refine lv_aload_n hx hb dL_pay_0 rfl (lv_at hl 3 rfl) ?_
  refine lv_iconst (v := nI 0) hx hb dL_pay_1 (by decide) ?_
  refine lv_aload_n hx hb dL_pay_2 rfl (lv_at hl 0 rfl) ?_
  refine lv_iload_n hx hb dL_pay_3 rfl (lv_at hl 1 rfl) ?_
  refine lv_iload_n hx hb dL_pay_4 rfl (lv_at hl 2 rfl) ?_
  refine xh_i (CL := [hO b, cO b (nI n) (nI k)]) (vx_runV (As := [.int x, .int v0]) (rest := [.int (nI 0), .ref oo]) ⟨hx, hb, hml, hown, hts⟩ (c_X8_pay_b1 l D cY s.heap.size b n k x v0 hlT hn1 hn6 hk1 hk12 hbad) (cwV 2 hts gL_pay_X8_pay rfl rfl rfl (by decide +kernel) ⟨Nat.le_of_ble_eq_true rfl, Nat.le_of_ble_eq_true rfl⟩) (b_preXV hVK hP hD hS hA hX [0, 1] rfl rfl 0 rfl rfl) rfl rfl hl.1 rfl (lv_room (Nat.le_of_ble_eq_true rfl)) dL_pay_5 ⟨Nat.le_of_ble_eq_true rfl, Nat.le_of_ble_eq_true rfl⟩) hP hD hS hA [0, 1] rfl rfl rfl (fun H locs q9 ce hP hD hS hcell hv hcl => ?_)
  refine h_catch (E := eIB) hown [] ⟨0, 10, 13, 19⟩ [⟨0, 10, 17, 13⟩] htb (fun z hz => nomatch hz) (by decide +kernel) (by decide) (hts (.classLink RL 19 eIB) (by decide +kernel)) hH.2.1 hcell hv hcl ?_
  refine lv_astore (lv' := [(4, .ref q9), (0, .ref (b 0)), (1, .int x), (2, .int v0), (3, .ref oo)]) hx hb dL_pay_13 hl (by decide) rfl (fun ls hl => ?_)
  refine lv_iconst (v := nI 1) hx hb dL_pay_15 (by decide) ?_
  exact r_i hx hb hr hlocks hP hD hS () rfl rfl dL_pay_16

set_option maxHeartbeats 4000000 in
set_option maxRecDepth 100000 in
theorem c_L_pay_b2 (l : Launch) (D : va_G) (cY : Nat → ClassId) (sz : Nat) (b : Nat → Nat) (n : Nat) (k : Nat) (x : Int32) (v0 : Int32) (oo : Nat) (fO : Nat → Int64) (hlT : l.stackTraces = false) (hn1 : 1 ≤ n) (hn6 : n ≤ 6) (hk1 : 1 ≤ k) (hk12 : k ≤ 12) (hAa : inR x (nI 0) (nI (n - 1)) = true) (hbad : inR v0 (-100000) (nI 100000) = false) : vx_Met l yL_pay wsL_pay ({ frames := 13, cells := 1, slots := 6, locals := 360 }) (cPH D cY [.ref (b 0), .int x, .int v0, .ref oo] [hO b, cO b (nI n) (nI k), [(oo, .inl (cY 1, 1, .inr (.inl fO)))]] sz) (qI (S := Unit) D cY (fun r uu => r = nI 2) (fun uu => [hO b, cO b (nI n) (nI k), [(oo, .inl (cY 1, 1, .inr (.inl fO)))]]) (va_A ([hO b, cO b (nI n) (nI k), [(oo, .inl (cY 1, 1, .inr (.inl fO)))]] : List va_W).flatten sz)) (q0 (va_A ([hO b, cO b (nI n) (nI k), [(oo, .inl (cY 1, 1, .inr (.inl fO)))]] : List va_W).flatten sz)) 1 6 (va_A ([hO b, cO b (nI n) (nI k), [(oo, .inl (cY 1, 1, .inr (.inl fO)))]] : List va_W).flatten sz) := by
  refine mtH (Qc := fun A => qI (S := Unit) D cY (fun r uu => r = nI 2) (fun uu => [hO b, cO b (nI n) (nI k), [(oo, .inl (cY 1, 1, .inr (.inl fO)))]]) A) (cc := cL_pay) (maxL := 5) (ret := (some .int)) (by decide) rfl (Nat.le_of_ble_eq_true rfl) ?_
  intro p e s m below meth c A ls hx hb hr hml hts hown hlocks hsz hP hK hVK hD hS hA hX hH htb hl
  have hown : s.vm.findClass RL = some m.cls := hown
  have hl : lv_has ls 5 [(0, .ref (b 0)), (1, .int x), (2, .int v0), (3, .ref oo)] := hl
  have hP : va_P D vwCl ([hO b, cO b (nI n) (nI k), [(oo, .inl (cY 1, 1, .inr (.inl fO)))]] : List va_W).flatten s.heap := hP
  have hD : va_D A ([hO b, cO b (nI n) (nI k), [(oo, .inl (cY 1, 1, .inr (.inl fO)))]] : List va_W).flatten := hD
  refine lv_aload_n hx hb dL_pay_0 rfl (lv_at hl 3 rfl) ?_
  refine lv_iconst (v := nI 0) hx hb dL_pay_1 (by decide) ?_
  refine lv_aload_n hx hb dL_pay_2 rfl (lv_at hl 0 rfl) ?_
  refine lv_iload_n hx hb dL_pay_3 rfl (lv_at hl 1 rfl) ?_
  refine lv_iload_n hx hb dL_pay_4 rfl (lv_at hl 2 rfl) ?_
  refine xh_i (CL := [hO b, cO b (nI n) (nI k)]) (vx_runV (As := [.int x, .int v0]) (rest := [.int (nI 0), .ref oo]) ⟨hx, hb, hml, hown, hts⟩ (c_X8_pay_b2 l D cY s.heap.size b n k x v0 hlT hn1 hn6 hk1 hk12 hAa hbad) (cwV 2 hts gL_pay_X8_pay rfl rfl rfl (by decide +kernel) ⟨Nat.le_of_ble_eq_true rfl, Nat.le_of_ble_eq_true rfl⟩) (b_preXV hVK hP hD hS hA hX [0, 1] rfl rfl 0 rfl rfl) rfl rfl hl.1 rfl (lv_room (Nat.le_of_ble_eq_true rfl)) dL_pay_5 ⟨Nat.le_of_ble_eq_true rfl, Nat.le_of_ble_eq_true rfl⟩) hP hD hS hA [0, 1] rfl rfl rfl (fun H locs q9 ce hP hD hS hcell hv hcl => ?_)
  refine h_catch (E := eIA) hown [⟨0, 10, 13, 19⟩] ⟨0, 10, 17, 13⟩ [] htb (fun z hz => by
      rw [List.mem_singleton.mp hz]
      exact ⟨by decide, eIB, hts (.classLink RL 19 eIB) (by decide +kernel), hH.2.2.2.1⟩) (by decide +kernel) (by decide) (hts (.classLink RL 13 eIA) (by decide +kernel)) hH.1 hcell hv hcl ?_
  refine lv_astore (lv' := [(4, .ref q9), (0, .ref (b 0)), (1, .int x), (2, .int v0), (3, .ref oo)]) hx hb dL_pay_17 hl (by decide) rfl (fun ls hl => ?_)
  refine lv_iconst (v := nI 2) hx hb dL_pay_19 (by decide) ?_
  exact r_i hx hb hr hlocks hP hD hS () rfl rfl dL_pay_20

set_option maxHeartbeats 4000000 in
set_option maxRecDepth 100000 in
theorem c_L_colour_b1 (l : Launch) (D : va_G) (cY : Nat → ClassId) (sz : Nat) (b : Nat → Nat) (n : Nat) (k : Nat) (x : Int32) (v0 : Int32) (oo : Nat) (fO : Nat → Int64) (hlT : l.stackTraces = false) (hn1 : 1 ≤ n) (hn6 : n ≤ 6) (hk1 : 1 ≤ k) (hk12 : k ≤ 12) (hbad : inR x (nI 0) (nI (n - 1)) = false) : vx_Met l yL_colour wsL_colour ({ frames := 13, cells := 1, slots := 6, locals := 360 }) (cPH D cY [.ref (b 0), .int x, .int v0, .ref oo] [hO b, cO b (nI n) (nI k), [(oo, .inl (cY 1, 1, .inr (.inl fO)))]] sz) (qI (S := Unit) D cY (fun r uu => r = nI 1) (fun uu => [hO b, cO b (nI n) (nI k), [(oo, .inl (cY 1, 1, .inr (.inl fO)))]]) (va_A ([hO b, cO b (nI n) (nI k), [(oo, .inl (cY 1, 1, .inr (.inl fO)))]] : List va_W).flatten sz)) (q0 (va_A ([hO b, cO b (nI n) (nI k), [(oo, .inl (cY 1, 1, .inr (.inl fO)))]] : List va_W).flatten sz)) 1 6 (va_A ([hO b, cO b (nI n) (nI k), [(oo, .inl (cY 1, 1, .inr (.inl fO)))]] : List va_W).flatten sz) := by
  refine mtH (Qc := fun A => qI (S := Unit) D cY (fun r uu => r = nI 1) (fun uu => [hO b, cO b (nI n) (nI k), [(oo, .inl (cY 1, 1, .inr (.inl fO)))]]) A) (cc := cL_colour) (maxL := 5) (ret := (some .int)) (by decide) rfl (Nat.le_of_ble_eq_true rfl) ?_
  intro p e s m below meth c A ls hx hb hr hml hts hown hlocks hsz hP hK hVK hD hS hA hX hH htb hl
  have hown : s.vm.findClass RL = some m.cls := hown
  have hl : lv_has ls 5 [(0, .ref (b 0)), (1, .int x), (2, .int v0), (3, .ref oo)] := hl
  have hP : va_P D vwCl ([hO b, cO b (nI n) (nI k), [(oo, .inl (cY 1, 1, .inr (.inl fO)))]] : List va_W).flatten s.heap := hP
  have hD : va_D A ([hO b, cO b (nI n) (nI k), [(oo, .inl (cY 1, 1, .inr (.inl fO)))]] : List va_W).flatten := hD
  refine lv_aload_n hx hb dL_colour_0 rfl (lv_at hl 3 rfl) ?_
  refine lv_iconst (v := nI 0) hx hb dL_colour_1 (by decide) ?_
  refine lv_aload_n hx hb dL_colour_2 rfl (lv_at hl 0 rfl) ?_
  refine lv_iload_n hx hb dL_colour_3 rfl (lv_at hl 1 rfl) ?_
  refine lv_iload_n hx hb dL_colour_4 rfl (lv_at hl 2 rfl) ?_
  refine xh_i (CL := [hO b, cO b (nI n) (nI k)]) (vx_runV (As := [.int x, .int v0]) (rest := [.int (nI 0), .ref oo]) ⟨hx, hb, hml, hown, hts⟩ (c_X8_colour_b1 l D cY s.heap.size b n k x v0 hlT hn1 hn6 hk1 hk12 hbad) (cwV 2 hts gL_colour_X8_colour rfl rfl rfl (by decide +kernel) ⟨Nat.le_of_ble_eq_true rfl, Nat.le_of_ble_eq_true rfl⟩) (b_preXV hVK hP hD hS hA hX [0, 1] rfl rfl 0 rfl rfl) rfl rfl hl.1 rfl (lv_room (Nat.le_of_ble_eq_true rfl)) dL_colour_5 ⟨Nat.le_of_ble_eq_true rfl, Nat.le_of_ble_eq_true rfl⟩) hP hD hS hA [0, 1] rfl rfl rfl (fun H locs q9 ce hP hD hS hcell hv hcl => ?_)
  refine h_catch (E := eIB) hown [] ⟨0, 10, 13, 19⟩ [⟨0, 10, 17, 13⟩] htb (fun z hz => nomatch hz) (by decide +kernel) (by decide) (hts (.classLink RL 19 eIB) (by decide +kernel)) hH.2.1 hcell hv hcl ?_
  refine lv_astore (lv' := [(4, .ref q9), (0, .ref (b 0)), (1, .int x), (2, .int v0), (3, .ref oo)]) hx hb dL_colour_13 hl (by decide) rfl (fun ls hl => ?_)
  refine lv_iconst (v := nI 1) hx hb dL_colour_15 (by decide) ?_
  exact r_i hx hb hr hlocks hP hD hS () rfl rfl dL_colour_16

set_option maxHeartbeats 4000000 in
set_option maxRecDepth 100000 in
theorem c_L_colour_b2 (l : Launch) (D : va_G) (cY : Nat → ClassId) (sz : Nat) (b : Nat → Nat) (n : Nat) (k : Nat) (x : Int32) (v0 : Int32) (oo : Nat) (fO : Nat → Int64) (hlT : l.stackTraces = false) (hn1 : 1 ≤ n) (hn6 : n ≤ 6) (hk1 : 1 ≤ k) (hk12 : k ≤ 12) (hAa : inR x (nI 0) (nI (n - 1)) = true) (hbad : inR v0 (nI 0) (nI 5) = false) : vx_Met l yL_colour wsL_colour ({ frames := 13, cells := 1, slots := 6, locals := 360 }) (cPH D cY [.ref (b 0), .int x, .int v0, .ref oo] [hO b, cO b (nI n) (nI k), [(oo, .inl (cY 1, 1, .inr (.inl fO)))]] sz) (qI (S := Unit) D cY (fun r uu => r = nI 2) (fun uu => [hO b, cO b (nI n) (nI k), [(oo, .inl (cY 1, 1, .inr (.inl fO)))]]) (va_A ([hO b, cO b (nI n) (nI k), [(oo, .inl (cY 1, 1, .inr (.inl fO)))]] : List va_W).flatten sz)) (q0 (va_A ([hO b, cO b (nI n) (nI k), [(oo, .inl (cY 1, 1, .inr (.inl fO)))]] : List va_W).flatten sz)) 1 6 (va_A ([hO b, cO b (nI n) (nI k), [(oo, .inl (cY 1, 1, .inr (.inl fO)))]] : List va_W).flatten sz) := by
  refine mtH (Qc := fun A => qI (S := Unit) D cY (fun r uu => r = nI 2) (fun uu => [hO b, cO b (nI n) (nI k), [(oo, .inl (cY 1, 1, .inr (.inl fO)))]]) A) (cc := cL_colour) (maxL := 5) (ret := (some .int)) (by decide) rfl (Nat.le_of_ble_eq_true rfl) ?_
  intro p e s m below meth c A ls hx hb hr hml hts hown hlocks hsz hP hK hVK hD hS hA hX hH htb hl
  have hown : s.vm.findClass RL = some m.cls := hown
  have hl : lv_has ls 5 [(0, .ref (b 0)), (1, .int x), (2, .int v0), (3, .ref oo)] := hl
  have hP : va_P D vwCl ([hO b, cO b (nI n) (nI k), [(oo, .inl (cY 1, 1, .inr (.inl fO)))]] : List va_W).flatten s.heap := hP
  have hD : va_D A ([hO b, cO b (nI n) (nI k), [(oo, .inl (cY 1, 1, .inr (.inl fO)))]] : List va_W).flatten := hD
  refine lv_aload_n hx hb dL_colour_0 rfl (lv_at hl 3 rfl) ?_
  refine lv_iconst (v := nI 0) hx hb dL_colour_1 (by decide) ?_
  refine lv_aload_n hx hb dL_colour_2 rfl (lv_at hl 0 rfl) ?_
  refine lv_iload_n hx hb dL_colour_3 rfl (lv_at hl 1 rfl) ?_
  refine lv_iload_n hx hb dL_colour_4 rfl (lv_at hl 2 rfl) ?_
  refine xh_i (CL := [hO b, cO b (nI n) (nI k)]) (vx_runV (As := [.int x, .int v0]) (rest := [.int (nI 0), .ref oo]) ⟨hx, hb, hml, hown, hts⟩ (c_X8_colour_b2 l D cY s.heap.size b n k x v0 hlT hn1 hn6 hk1 hk12 hAa hbad) (cwV 2 hts gL_colour_X8_colour rfl rfl rfl (by decide +kernel) ⟨Nat.le_of_ble_eq_true rfl, Nat.le_of_ble_eq_true rfl⟩) (b_preXV hVK hP hD hS hA hX [0, 1] rfl rfl 0 rfl rfl) rfl rfl hl.1 rfl (lv_room (Nat.le_of_ble_eq_true rfl)) dL_colour_5 ⟨Nat.le_of_ble_eq_true rfl, Nat.le_of_ble_eq_true rfl⟩) hP hD hS hA [0, 1] rfl rfl rfl (fun H locs q9 ce hP hD hS hcell hv hcl => ?_)
  refine h_catch (E := eIA) hown [⟨0, 10, 13, 19⟩] ⟨0, 10, 17, 13⟩ [] htb (fun z hz => by
      rw [List.mem_singleton.mp hz]
      exact ⟨by decide, eIB, hts (.classLink RL 19 eIB) (by decide +kernel), hH.2.2.2.1⟩) (by decide +kernel) (by decide) (hts (.classLink RL 13 eIA) (by decide +kernel)) hH.1 hcell hv hcl ?_
  refine lv_astore (lv' := [(4, .ref q9), (0, .ref (b 0)), (1, .int x), (2, .int v0), (3, .ref oo)]) hx hb dL_colour_17 hl (by decide) rfl (fun ls hl => ?_)
  refine lv_iconst (v := nI 2) hx hb dL_colour_19 (by decide) ?_
  exact r_i hx hb hr hlocks hP hD hS () rfl rfl dL_colour_20

set_option maxHeartbeats 4000000 in
set_option maxRecDepth 100000 in
theorem c_L_weight_bad (l : Launch) (D : va_G) (cY : Nat → ClassId) (sz : Nat) (b : Nat → Nat) (n : Nat) (k : Nat) (x : Int32) (y : Int32) (oo : Nat) (fO : Nat → Int64) (hlT : l.stackTraces = false) (hn1 : 1 ≤ n) (hn6 : n ≤ 6) (hk1 : 1 ≤ k) (hk12 : k ≤ 12) (hbad : (inR x (nI 0) (nI (n - 1)) && inR y (nI 0) (nI (n - 1))) = false) : vx_Met l yL_weight wsL_weight ({ frames := 13, cells := 1, slots := 6, locals := 360 }) (cPH D cY [.ref (b 0), .int x, .int y, .ref oo] [hO b, cO b (nI n) (nI k), [(oo, .inl (cY 1, 1, .inr (.inl fO)))]] sz) (qI (S := Unit) D cY (fun r uu => r = nI 1) (fun uu => [hO b, cO b (nI n) (nI k), [(oo, .inl (cY 1, 1, .inr (.inl fO)))]]) (va_A ([hO b, cO b (nI n) (nI k), [(oo, .inl (cY 1, 1, .inr (.inl fO)))]] : List va_W).flatten sz)) (q0 (va_A ([hO b, cO b (nI n) (nI k), [(oo, .inl (cY 1, 1, .inr (.inl fO)))]] : List va_W).flatten sz)) 1 6 (va_A ([hO b, cO b (nI n) (nI k), [(oo, .inl (cY 1, 1, .inr (.inl fO)))]] : List va_W).flatten sz) := by
  refine mtH (Qc := fun A => qI (S := Unit) D cY (fun r uu => r = nI 1) (fun uu => [hO b, cO b (nI n) (nI k), [(oo, .inl (cY 1, 1, .inr (.inl fO)))]]) A) (cc := cL_weight) (maxL := 5) (ret := (some .int)) (by decide) rfl (Nat.le_of_ble_eq_true rfl) ?_
  intro p e s m below meth c A ls hx hb hr hml hts hown hlocks hsz hP hK hVK hD hS hA hX hH htb hl
  have hown : s.vm.findClass RL = some m.cls := hown
  have hl : lv_has ls 5 [(0, .ref (b 0)), (1, .int x), (2, .int y), (3, .ref oo)] := hl
  have hP : va_P D vwCl ([hO b, cO b (nI n) (nI k), [(oo, .inl (cY 1, 1, .inr (.inl fO)))]] : List va_W).flatten s.heap := hP
  have hD : va_D A ([hO b, cO b (nI n) (nI k), [(oo, .inl (cY 1, 1, .inr (.inl fO)))]] : List va_W).flatten := hD
  refine lv_aload_n hx hb dL_weight_0 rfl (lv_at hl 3 rfl) ?_
  refine lv_iconst (v := nI 0) hx hb dL_weight_1 (by decide) ?_
  refine lv_aload_n hx hb dL_weight_2 rfl (lv_at hl 0 rfl) ?_
  refine lv_iload_n hx hb dL_weight_3 rfl (lv_at hl 1 rfl) ?_
  refine lv_iload_n hx hb dL_weight_4 rfl (lv_at hl 2 rfl) ?_
  refine xh_i (CL := [hO b, cO b (nI n) (nI k)]) (vx_runV (As := [.int x, .int y]) (rest := [.int (nI 0), .ref oo]) ⟨hx, hb, hml, hown, hts⟩ (c_X8_weight_bad l D cY s.heap.size b n k x y hlT hn1 hn6 hk1 hk12 hbad) (cwV 2 hts gL_weight_X8_weight rfl rfl rfl (by decide +kernel) ⟨Nat.le_of_ble_eq_true rfl, Nat.le_of_ble_eq_true rfl⟩) (b_preXV hVK hP hD hS hA hX [0, 1] rfl rfl 0 rfl rfl) rfl rfl hl.1 rfl (lv_room (Nat.le_of_ble_eq_true rfl)) dL_weight_5 ⟨Nat.le_of_ble_eq_true rfl, Nat.le_of_ble_eq_true rfl⟩) hP hD hS hA [0, 1] rfl rfl rfl (fun H locs q9 ce hP hD hS hcell hv hcl => ?_)
  refine h_catch (E := eIB) hown [] ⟨0, 10, 13, 19⟩ [] htb (fun z hz => nomatch hz) (by decide +kernel) (by decide) (hts (.classLink RL 19 eIB) (by decide +kernel)) hH.2.1 hcell hv hcl ?_
  refine lv_astore (lv' := [(4, .ref q9), (0, .ref (b 0)), (1, .int x), (2, .int y), (3, .ref oo)]) hx hb dL_weight_13 hl (by decide) rfl (fun ls hl => ?_)
  refine lv_iconst (v := nI 1) hx hb dL_weight_15 (by decide) ?_
  exact r_i hx hb hr hlocks hP hD hS () rfl rfl dL_weight_16

set_option maxHeartbeats 4000000 in
set_option maxRecDepth 100000 in
theorem c_L_words_bad (l : Launch) (D : va_G) (cY : Nat → ClassId) (sz : Nat) (b : Nat → Nat) (n : Nat) (k : Nat) (x : Int32) (oo : Nat) (fO : Nat → Int64) (hlT : l.stackTraces = false) (hn1 : 1 ≤ n) (hn6 : n ≤ 6) (hk1 : 1 ≤ k) (hk12 : k ≤ 12) (hbad : inR x (nI 0) (nI 12) = false) : vx_Met l yL_words wsL_words ({ frames := 13, cells := 1, slots := 6, locals := 360 }) (cPH D cY [.ref (b 0), .int x, .ref oo] [hO b, cO b (nI n) (nI k), [(oo, .inl (cY 1, 1, .inr (.inl fO)))]] sz) (qI (S := Unit) D cY (fun r uu => r = nI 1) (fun uu => [hO b, cO b (nI n) (nI k), [(oo, .inl (cY 1, 1, .inr (.inl fO)))]]) (va_A ([hO b, cO b (nI n) (nI k), [(oo, .inl (cY 1, 1, .inr (.inl fO)))]] : List va_W).flatten sz)) (q0 (va_A ([hO b, cO b (nI n) (nI k), [(oo, .inl (cY 1, 1, .inr (.inl fO)))]] : List va_W).flatten sz)) 1 6 (va_A ([hO b, cO b (nI n) (nI k), [(oo, .inl (cY 1, 1, .inr (.inl fO)))]] : List va_W).flatten sz) := by
  refine mtH (Qc := fun A => qI (S := Unit) D cY (fun r uu => r = nI 1) (fun uu => [hO b, cO b (nI n) (nI k), [(oo, .inl (cY 1, 1, .inr (.inl fO)))]]) A) (cc := cL_words) (maxL := 4) (ret := (some .int)) (by decide) rfl (Nat.le_of_ble_eq_true rfl) ?_
  intro p e s m below meth c A ls hx hb hr hml hts hown hlocks hsz hP hK hVK hD hS hA hX hH htb hl
  have hown : s.vm.findClass RL = some m.cls := hown
  have hl : lv_has ls 4 [(0, .ref (b 0)), (1, .int x), (2, .ref oo)] := hl
  have hP : va_P D vwCl ([hO b, cO b (nI n) (nI k), [(oo, .inl (cY 1, 1, .inr (.inl fO)))]] : List va_W).flatten s.heap := hP
  have hD : va_D A ([hO b, cO b (nI n) (nI k), [(oo, .inl (cY 1, 1, .inr (.inl fO)))]] : List va_W).flatten := hD
  refine lv_aload_n hx hb dL_words_0 rfl (lv_at hl 2 rfl) ?_
  refine lv_iconst (v := nI 0) hx hb dL_words_1 (by decide) ?_
  refine lv_aload_n hx hb dL_words_2 rfl (lv_at hl 0 rfl) ?_
  refine lv_iload_n hx hb dL_words_3 rfl (lv_at hl 1 rfl) ?_
  refine xh_l (CL := [hO b, cO b (nI n) (nI k)]) (vx_runV (As := [.int x]) (rest := [.int (nI 0), .ref oo]) ⟨hx, hb, hml, hown, hts⟩ (c_X8_words_bad l D cY s.heap.size b n k x hlT hn1 hn6 hk1 hk12 hbad) (cwV 1 hts gL_words_X8_words rfl rfl rfl (by decide +kernel) ⟨Nat.le_of_ble_eq_true rfl, Nat.le_of_ble_eq_true rfl⟩) (b_preXV hVK hP hD hS hA hX [0, 1] rfl rfl 0 rfl rfl) rfl rfl hl.1 rfl (lv_room (Nat.le_of_ble_eq_true rfl)) dL_words_4 ⟨Nat.le_of_ble_eq_true rfl, Nat.le_of_ble_eq_true rfl⟩) hP hD hS hA [0, 1] rfl rfl rfl (fun H locs q9 ce hP hD hS hcell hv hcl => ?_)
  refine h_catch (E := eIA) hown [] ⟨0, 8, 11, 13⟩ [] htb (fun z hz => nomatch hz) (by decide +kernel) (by decide) (hts (.classLink RL 13 eIA) (by decide +kernel)) hH.1 hcell hv hcl ?_
  refine lv_astore_n (lv' := [(3, .ref q9), (0, .ref (b 0)), (1, .int x), (2, .ref oo)]) hx hb dL_words_11 rfl hl (by decide) rfl (fun ls hl => ?_)
  refine lv_iconst (v := nI 1) hx hb dL_words_12 (by decide) ?_
  exact r_i hx hb hr hlocks hP hD hS () rfl rfl dL_words_13

set_option maxHeartbeats 4000000 in
set_option maxRecDepth 100000 in
theorem c_L_law_b1 (l : Launch) (D : va_G) (cY : Nat → ClassId) (sz : Nat) (b : Nat → Nat) (n : Nat) (k : Nat) (x : Int32) (y : Int32) (z : Int32) (oo : Nat) (fO : Nat → Int64) (hlT : l.stackTraces = false) (hn1 : 1 ≤ n) (hn6 : n ≤ 6) (hk1 : 1 ≤ k) (hk12 : k ≤ 12) (hbad : (inR x (nI 0) (nI (n - 1)) && inR z (nI 0) (nI (n - 1))) = false) : vx_Met l yL_law wsL_law ({ frames := 13, cells := 1, slots := 6, locals := 360 }) (cPH D cY [.ref (b 0), .int x, .int y, .int z, .ref oo] [hO b, cO b (nI n) (nI k), [(oo, .inl (cY 1, 1, .inr (.inl fO)))]] sz) (qI (S := Unit) D cY (fun r uu => r = nI 1) (fun uu => [hO b, cO b (nI n) (nI k), [(oo, .inl (cY 1, 1, .inr (.inl fO)))]]) (va_A ([hO b, cO b (nI n) (nI k), [(oo, .inl (cY 1, 1, .inr (.inl fO)))]] : List va_W).flatten sz)) (q0 (va_A ([hO b, cO b (nI n) (nI k), [(oo, .inl (cY 1, 1, .inr (.inl fO)))]] : List va_W).flatten sz)) 1 6 (va_A ([hO b, cO b (nI n) (nI k), [(oo, .inl (cY 1, 1, .inr (.inl fO)))]] : List va_W).flatten sz) := by
  refine mtH (Qc := fun A => qI (S := Unit) D cY (fun r uu => r = nI 1) (fun uu => [hO b, cO b (nI n) (nI k), [(oo, .inl (cY 1, 1, .inr (.inl fO)))]]) A) (cc := cL_law) (maxL := 6) (ret := (some .int)) (by decide) rfl (Nat.le_of_ble_eq_true rfl) ?_
  intro p e s m below meth c A ls hx hb hr hml hts hown hlocks hsz hP hK hVK hD hS hA hX hH htb hl
  have hown : s.vm.findClass RL = some m.cls := hown
  have hl : lv_has ls 6 [(0, .ref (b 0)), (1, .int x), (2, .int y), (3, .int z), (4, .ref oo)] := hl
  have hP : va_P D vwCl ([hO b, cO b (nI n) (nI k), [(oo, .inl (cY 1, 1, .inr (.inl fO)))]] : List va_W).flatten s.heap := hP
  have hD : va_D A ([hO b, cO b (nI n) (nI k), [(oo, .inl (cY 1, 1, .inr (.inl fO)))]] : List va_W).flatten := hD
  refine lv_aload hx hb dL_law_0 (lv_at hl 4 rfl) ?_
  refine lv_iconst (v := nI 0) hx hb dL_law_2 (by decide) ?_
  refine lv_aload_n hx hb dL_law_3 rfl (lv_at hl 0 rfl) ?_
  refine lv_iload_n hx hb dL_law_4 rfl (lv_at hl 1 rfl) ?_
  refine lv_iload_n hx hb dL_law_5 rfl (lv_at hl 2 rfl) ?_
  refine lv_iload_n hx hb dL_law_6 rfl (lv_at hl 3 rfl) ?_
  refine xh_l (CL := [hO b, cO b (nI n) (nI k)]) (vx_runV (As := [.int x, .int y, .int z]) (rest := [.int (nI 0), .ref oo]) ⟨hx, hb, hml, hown, hts⟩ (c_X8_law_b1 l D cY s.heap.size b n k x y z hlT hn1 hn6 hk1 hk12 hbad) (cwV 3 hts gL_law_X8_law rfl rfl rfl (by decide +kernel) ⟨Nat.le_of_ble_eq_true rfl, Nat.le_of_ble_eq_true rfl⟩) (b_preXV hVK hP hD hS hA hX [0, 1] rfl rfl 0 rfl rfl) rfl rfl hl.1 rfl (lv_room (Nat.le_of_ble_eq_true rfl)) dL_law_7 ⟨Nat.le_of_ble_eq_true rfl, Nat.le_of_ble_eq_true rfl⟩) hP hD hS hA [0, 1] rfl rfl rfl (fun H locs q9 ce hP hD hS hcell hv hcl => ?_)
  refine h_catch (E := eIB) hown [] ⟨0, 11, 14, 19⟩ [⟨0, 11, 18, 13⟩] htb (fun z hz => nomatch hz) (by decide +kernel) (by decide) (hts (.classLink RL 19 eIB) (by decide +kernel)) hH.2.1 hcell hv hcl ?_
  refine lv_astore (lv' := [(5, .ref q9), (0, .ref (b 0)), (1, .int x), (2, .int y), (3, .int z), (4, .ref oo)]) hx hb dL_law_14 hl (by decide) rfl (fun ls hl => ?_)
  refine lv_iconst (v := nI 1) hx hb dL_law_16 (by decide) ?_
  exact r_i hx hb hr hlocks hP hD hS () rfl rfl dL_law_17

set_option maxHeartbeats 4000000 in
set_option maxRecDepth 100000 in
theorem c_L_law_b2 (l : Launch) (D : va_G) (cY : Nat → ClassId) (sz : Nat) (b : Nat → Nat) (n : Nat) (k : Nat) (x : Int32) (y : Int32) (z : Int32) (oo : Nat) (fO : Nat → Int64) (hlT : l.stackTraces = false) (hn1 : 1 ≤ n) (hn6 : n ≤ 6) (hk1 : 1 ≤ k) (hk12 : k ≤ 12) (hAa : (inR x (nI 0) (nI (n - 1)) && inR z (nI 0) (nI (n - 1))) = true) (hbad : inR y (nI 0) (nI 12) = false) : vx_Met l yL_law wsL_law ({ frames := 13, cells := 1, slots := 6, locals := 360 }) (cPH D cY [.ref (b 0), .int x, .int y, .int z, .ref oo] [hO b, cO b (nI n) (nI k), [(oo, .inl (cY 1, 1, .inr (.inl fO)))]] sz) (qI (S := Unit) D cY (fun r uu => r = nI 2) (fun uu => [hO b, cO b (nI n) (nI k), [(oo, .inl (cY 1, 1, .inr (.inl fO)))]]) (va_A ([hO b, cO b (nI n) (nI k), [(oo, .inl (cY 1, 1, .inr (.inl fO)))]] : List va_W).flatten sz)) (q0 (va_A ([hO b, cO b (nI n) (nI k), [(oo, .inl (cY 1, 1, .inr (.inl fO)))]] : List va_W).flatten sz)) 1 6 (va_A ([hO b, cO b (nI n) (nI k), [(oo, .inl (cY 1, 1, .inr (.inl fO)))]] : List va_W).flatten sz) := by
  refine mtH (Qc := fun A => qI (S := Unit) D cY (fun r uu => r = nI 2) (fun uu => [hO b, cO b (nI n) (nI k), [(oo, .inl (cY 1, 1, .inr (.inl fO)))]]) A) (cc := cL_law) (maxL := 6) (ret := (some .int)) (by decide) rfl (Nat.le_of_ble_eq_true rfl) ?_
  intro p e s m below meth c A ls hx hb hr hml hts hown hlocks hsz hP hK hVK hD hS hA hX hH htb hl
  have hown : s.vm.findClass RL = some m.cls := hown
  have hl : lv_has ls 6 [(0, .ref (b 0)), (1, .int x), (2, .int y), (3, .int z), (4, .ref oo)] := hl
  have hP : va_P D vwCl ([hO b, cO b (nI n) (nI k), [(oo, .inl (cY 1, 1, .inr (.inl fO)))]] : List va_W).flatten s.heap := hP
  have hD : va_D A ([hO b, cO b (nI n) (nI k), [(oo, .inl (cY 1, 1, .inr (.inl fO)))]] : List va_W).flatten := hD
  refine lv_aload hx hb dL_law_0 (lv_at hl 4 rfl) ?_
  refine lv_iconst (v := nI 0) hx hb dL_law_2 (by decide) ?_
  refine lv_aload_n hx hb dL_law_3 rfl (lv_at hl 0 rfl) ?_
  refine lv_iload_n hx hb dL_law_4 rfl (lv_at hl 1 rfl) ?_
  refine lv_iload_n hx hb dL_law_5 rfl (lv_at hl 2 rfl) ?_
  refine lv_iload_n hx hb dL_law_6 rfl (lv_at hl 3 rfl) ?_
  refine xh_l (CL := [hO b, cO b (nI n) (nI k)]) (vx_runV (As := [.int x, .int y, .int z]) (rest := [.int (nI 0), .ref oo]) ⟨hx, hb, hml, hown, hts⟩ (c_X8_law_b2 l D cY s.heap.size b n k x y z hlT hn1 hn6 hk1 hk12 hAa hbad) (cwV 3 hts gL_law_X8_law rfl rfl rfl (by decide +kernel) ⟨Nat.le_of_ble_eq_true rfl, Nat.le_of_ble_eq_true rfl⟩) (b_preXV hVK hP hD hS hA hX [0, 1] rfl rfl 0 rfl rfl) rfl rfl hl.1 rfl (lv_room (Nat.le_of_ble_eq_true rfl)) dL_law_7 ⟨Nat.le_of_ble_eq_true rfl, Nat.le_of_ble_eq_true rfl⟩) hP hD hS hA [0, 1] rfl rfl rfl (fun H locs q9 ce hP hD hS hcell hv hcl => ?_)
  refine h_catch (E := eIA) hown [⟨0, 11, 14, 19⟩] ⟨0, 11, 18, 13⟩ [] htb (fun z hz => by
      rw [List.mem_singleton.mp hz]
      exact ⟨by decide, eIB, hts (.classLink RL 19 eIB) (by decide +kernel), hH.2.2.2.1⟩) (by decide +kernel) (by decide) (hts (.classLink RL 13 eIA) (by decide +kernel)) hH.1 hcell hv hcl ?_
  refine lv_astore (lv' := [(5, .ref q9), (0, .ref (b 0)), (1, .int x), (2, .int y), (3, .int z), (4, .ref oo)]) hx hb dL_law_18 hl (by decide) rfl (fun ls hl => ?_)
  refine lv_iconst (v := nI 2) hx hb dL_law_20 (by decide) ?_
  exact r_i hx hb hr hlocks hP hD hS () rfl rfl dL_law_21

set_option maxHeartbeats 4000000 in
set_option maxRecDepth 100000 in
theorem c_L_lawAnew_b1 (l : Launch) (D : va_G) (cY : Nat → ClassId) (sz : Nat) (b : Nat → Nat) (n : Nat) (k : Nat) (x : Int32) (y : Int32) (z : Int32) (oo : Nat) (fO : Nat → Int64) (hlT : l.stackTraces = false) (hn1 : 1 ≤ n) (hn6 : n ≤ 6) (hk1 : 1 ≤ k) (hk12 : k ≤ 12) (hbad : (inR x (nI 0) (nI (n - 1)) && inR z (nI 0) (nI (n - 1))) = false) : vx_Met l yL_lawAnew wsL_lawAnew ({ frames := 13, cells := 1, slots := 6, locals := 360 }) (cPH D cY [.ref (b 0), .int x, .int y, .int z, .ref oo] [hO b, cO b (nI n) (nI k), [(oo, .inl (cY 1, 1, .inr (.inl fO)))]] sz) (qI (S := Unit) D cY (fun r uu => r = nI 1) (fun uu => [hO b, cO b (nI n) (nI k), [(oo, .inl (cY 1, 1, .inr (.inl fO)))]]) (va_A ([hO b, cO b (nI n) (nI k), [(oo, .inl (cY 1, 1, .inr (.inl fO)))]] : List va_W).flatten sz)) (q0 (va_A ([hO b, cO b (nI n) (nI k), [(oo, .inl (cY 1, 1, .inr (.inl fO)))]] : List va_W).flatten sz)) 1 6 (va_A ([hO b, cO b (nI n) (nI k), [(oo, .inl (cY 1, 1, .inr (.inl fO)))]] : List va_W).flatten sz) := by
  refine mtH (Qc := fun A => qI (S := Unit) D cY (fun r uu => r = nI 1) (fun uu => [hO b, cO b (nI n) (nI k), [(oo, .inl (cY 1, 1, .inr (.inl fO)))]]) A) (cc := cL_lawAnew) (maxL := 6) (ret := (some .int)) (by decide) rfl (Nat.le_of_ble_eq_true rfl) ?_
  intro p e s m below meth c A ls hx hb hr hml hts hown hlocks hsz hP hK hVK hD hS hA hX hH htb hl
  have hown : s.vm.findClass RL = some m.cls := hown
  have hl : lv_has ls 6 [(0, .ref (b 0)), (1, .int x), (2, .int y), (3, .int z), (4, .ref oo)] := hl
  have hP : va_P D vwCl ([hO b, cO b (nI n) (nI k), [(oo, .inl (cY 1, 1, .inr (.inl fO)))]] : List va_W).flatten s.heap := hP
  have hD : va_D A ([hO b, cO b (nI n) (nI k), [(oo, .inl (cY 1, 1, .inr (.inl fO)))]] : List va_W).flatten := hD
  refine lv_aload hx hb dL_lawAnew_0 (lv_at hl 4 rfl) ?_
  refine lv_iconst (v := nI 0) hx hb dL_lawAnew_2 (by decide) ?_
  refine lv_aload_n hx hb dL_lawAnew_3 rfl (lv_at hl 0 rfl) ?_
  refine lv_iload_n hx hb dL_lawAnew_4 rfl (lv_at hl 1 rfl) ?_
  refine lv_iload_n hx hb dL_lawAnew_5 rfl (lv_at hl 2 rfl) ?_
  refine lv_iload_n hx hb dL_lawAnew_6 rfl (lv_at hl 3 rfl) ?_
  refine xh_l (CL := [hO b, cO b (nI n) (nI k)]) (vx_runV (As := [.int x, .int y, .int z]) (rest := [.int (nI 0), .ref oo]) ⟨hx, hb, hml, hown, hts⟩ (c_X8_lawAnew_b1 l D cY s.heap.size b n k x y z hlT hn1 hn6 hk1 hk12 hbad) (cwV 3 hts gL_lawAnew_X8_lawAnew rfl rfl rfl (by decide +kernel) ⟨Nat.le_of_ble_eq_true rfl, Nat.le_of_ble_eq_true rfl⟩) (b_preXV hVK hP hD hS hA hX [0, 1] rfl rfl 0 rfl rfl) rfl rfl hl.1 rfl (lv_room (Nat.le_of_ble_eq_true rfl)) dL_lawAnew_7 ⟨Nat.le_of_ble_eq_true rfl, Nat.le_of_ble_eq_true rfl⟩) hP hD hS hA [0, 1] rfl rfl rfl (fun H locs q9 ce hP hD hS hcell hv hcl => ?_)
  refine h_catch (E := eIB) hown [] ⟨0, 11, 14, 19⟩ [⟨0, 11, 18, 13⟩] htb (fun z hz => nomatch hz) (by decide +kernel) (by decide) (hts (.classLink RL 19 eIB) (by decide +kernel)) hH.2.1 hcell hv hcl ?_
  refine lv_astore (lv' := [(5, .ref q9), (0, .ref (b 0)), (1, .int x), (2, .int y), (3, .int z), (4, .ref oo)]) hx hb dL_lawAnew_14 hl (by decide) rfl (fun ls hl => ?_)
  refine lv_iconst (v := nI 1) hx hb dL_lawAnew_16 (by decide) ?_
  exact r_i hx hb hr hlocks hP hD hS () rfl rfl dL_lawAnew_17

set_option maxHeartbeats 4000000 in
set_option maxRecDepth 100000 in
theorem c_L_lawAnew_b2 (l : Launch) (D : va_G) (cY : Nat → ClassId) (sz : Nat) (b : Nat → Nat) (n : Nat) (k : Nat) (x : Int32) (y : Int32) (z : Int32) (oo : Nat) (fO : Nat → Int64) (hlT : l.stackTraces = false) (hn1 : 1 ≤ n) (hn6 : n ≤ 6) (hk1 : 1 ≤ k) (hk12 : k ≤ 12) (hAa : (inR x (nI 0) (nI (n - 1)) && inR z (nI 0) (nI (n - 1))) = true) (hbad : inR y (nI 0) (nI 4) = false) : vx_Met l yL_lawAnew wsL_lawAnew ({ frames := 13, cells := 1, slots := 6, locals := 360 }) (cPH D cY [.ref (b 0), .int x, .int y, .int z, .ref oo] [hO b, cO b (nI n) (nI k), [(oo, .inl (cY 1, 1, .inr (.inl fO)))]] sz) (qI (S := Unit) D cY (fun r uu => r = nI 2) (fun uu => [hO b, cO b (nI n) (nI k), [(oo, .inl (cY 1, 1, .inr (.inl fO)))]]) (va_A ([hO b, cO b (nI n) (nI k), [(oo, .inl (cY 1, 1, .inr (.inl fO)))]] : List va_W).flatten sz)) (q0 (va_A ([hO b, cO b (nI n) (nI k), [(oo, .inl (cY 1, 1, .inr (.inl fO)))]] : List va_W).flatten sz)) 1 6 (va_A ([hO b, cO b (nI n) (nI k), [(oo, .inl (cY 1, 1, .inr (.inl fO)))]] : List va_W).flatten sz) := by
  refine mtH (Qc := fun A => qI (S := Unit) D cY (fun r uu => r = nI 2) (fun uu => [hO b, cO b (nI n) (nI k), [(oo, .inl (cY 1, 1, .inr (.inl fO)))]]) A) (cc := cL_lawAnew) (maxL := 6) (ret := (some .int)) (by decide) rfl (Nat.le_of_ble_eq_true rfl) ?_
  intro p e s m below meth c A ls hx hb hr hml hts hown hlocks hsz hP hK hVK hD hS hA hX hH htb hl
  have hown : s.vm.findClass RL = some m.cls := hown
  have hl : lv_has ls 6 [(0, .ref (b 0)), (1, .int x), (2, .int y), (3, .int z), (4, .ref oo)] := hl
  have hP : va_P D vwCl ([hO b, cO b (nI n) (nI k), [(oo, .inl (cY 1, 1, .inr (.inl fO)))]] : List va_W).flatten s.heap := hP
  have hD : va_D A ([hO b, cO b (nI n) (nI k), [(oo, .inl (cY 1, 1, .inr (.inl fO)))]] : List va_W).flatten := hD
  refine lv_aload hx hb dL_lawAnew_0 (lv_at hl 4 rfl) ?_
  refine lv_iconst (v := nI 0) hx hb dL_lawAnew_2 (by decide) ?_
  refine lv_aload_n hx hb dL_lawAnew_3 rfl (lv_at hl 0 rfl) ?_
  refine lv_iload_n hx hb dL_lawAnew_4 rfl (lv_at hl 1 rfl) ?_
  refine lv_iload_n hx hb dL_lawAnew_5 rfl (lv_at hl 2 rfl) ?_
  refine lv_iload_n hx hb dL_lawAnew_6 rfl (lv_at hl 3 rfl) ?_
  refine xh_l (CL := [hO b, cO b (nI n) (nI k)]) (vx_runV (As := [.int x, .int y, .int z]) (rest := [.int (nI 0), .ref oo]) ⟨hx, hb, hml, hown, hts⟩ (c_X8_lawAnew_b2 l D cY s.heap.size b n k x y z hlT hn1 hn6 hk1 hk12 hAa hbad) (cwV 3 hts gL_lawAnew_X8_lawAnew rfl rfl rfl (by decide +kernel) ⟨Nat.le_of_ble_eq_true rfl, Nat.le_of_ble_eq_true rfl⟩) (b_preXV hVK hP hD hS hA hX [0, 1] rfl rfl 0 rfl rfl) rfl rfl hl.1 rfl (lv_room (Nat.le_of_ble_eq_true rfl)) dL_lawAnew_7 ⟨Nat.le_of_ble_eq_true rfl, Nat.le_of_ble_eq_true rfl⟩) hP hD hS hA [0, 1] rfl rfl rfl (fun H locs q9 ce hP hD hS hcell hv hcl => ?_)
  refine h_catch (E := eIA) hown [⟨0, 11, 14, 19⟩] ⟨0, 11, 18, 13⟩ [] htb (fun z hz => by
      rw [List.mem_singleton.mp hz]
      exact ⟨by decide, eIB, hts (.classLink RL 19 eIB) (by decide +kernel), hH.2.2.2.1⟩) (by decide +kernel) (by decide) (hts (.classLink RL 13 eIA) (by decide +kernel)) hH.1 hcell hv hcl ?_
  refine lv_astore (lv' := [(5, .ref q9), (0, .ref (b 0)), (1, .int x), (2, .int y), (3, .int z), (4, .ref oo)]) hx hb dL_lawAnew_18 hl (by decide) rfl (fun ls hl => ?_)
  refine lv_iconst (v := nI 2) hx hb dL_lawAnew_20 (by decide) ?_
  exact r_i hx hb hr hlocks hP hD hS () rfl rfl dL_lawAnew_21

set_option maxHeartbeats 4000000 in
set_option maxRecDepth 100000 in
theorem c_L_distance_b1 (l : Launch) (D : va_G) (cY : Nat → ClassId) (sz : Nat) (b : Nat → Nat) (n : Nat) (k : Nat) (x : Int32) (z : Int32) (y : Int32) (oo : Nat) (fO : Nat → Int64) (hlT : l.stackTraces = false) (hn1 : 1 ≤ n) (hn6 : n ≤ 6) (hk1 : 1 ≤ k) (hk12 : k ≤ 12) (hbad : (inR x (nI 0) (nI (n - 1)) && inR z (nI 0) (nI (n - 1))) = false) : vx_Met l yL_distance wsL_distance ({ frames := 13, cells := 1, slots := 6, locals := 360 }) (cPH D cY [.ref (b 0), .int x, .int z, .int y, .ref oo] [hO b, cO b (nI n) (nI k), [(oo, .inl (cY 1, 1, .inr (.inl fO)))]] sz) (qI (S := Unit) D cY (fun r uu => r = nI 1) (fun uu => [hO b, cO b (nI n) (nI k), [(oo, .inl (cY 1, 1, .inr (.inl fO)))]]) (va_A ([hO b, cO b (nI n) (nI k), [(oo, .inl (cY 1, 1, .inr (.inl fO)))]] : List va_W).flatten sz)) (q0 (va_A ([hO b, cO b (nI n) (nI k), [(oo, .inl (cY 1, 1, .inr (.inl fO)))]] : List va_W).flatten sz)) 1 6 (va_A ([hO b, cO b (nI n) (nI k), [(oo, .inl (cY 1, 1, .inr (.inl fO)))]] : List va_W).flatten sz) := by
  refine mtH (Qc := fun A => qI (S := Unit) D cY (fun r uu => r = nI 1) (fun uu => [hO b, cO b (nI n) (nI k), [(oo, .inl (cY 1, 1, .inr (.inl fO)))]]) A) (cc := cL_distance) (maxL := 6) (ret := (some .int)) (by decide) rfl (Nat.le_of_ble_eq_true rfl) ?_
  intro p e s m below meth c A ls hx hb hr hml hts hown hlocks hsz hP hK hVK hD hS hA hX hH htb hl
  have hown : s.vm.findClass RL = some m.cls := hown
  have hl : lv_has ls 6 [(0, .ref (b 0)), (1, .int x), (2, .int z), (3, .int y), (4, .ref oo)] := hl
  have hP : va_P D vwCl ([hO b, cO b (nI n) (nI k), [(oo, .inl (cY 1, 1, .inr (.inl fO)))]] : List va_W).flatten s.heap := hP
  have hD : va_D A ([hO b, cO b (nI n) (nI k), [(oo, .inl (cY 1, 1, .inr (.inl fO)))]] : List va_W).flatten := hD
  refine lv_aload hx hb dL_distance_0 (lv_at hl 4 rfl) ?_
  refine lv_iconst (v := nI 0) hx hb dL_distance_2 (by decide) ?_
  refine lv_aload_n hx hb dL_distance_3 rfl (lv_at hl 0 rfl) ?_
  refine lv_iload_n hx hb dL_distance_4 rfl (lv_at hl 1 rfl) ?_
  refine lv_iload_n hx hb dL_distance_5 rfl (lv_at hl 2 rfl) ?_
  refine lv_iload_n hx hb dL_distance_6 rfl (lv_at hl 3 rfl) ?_
  refine xh_l (CL := [hO b, cO b (nI n) (nI k)]) (vx_runV (As := [.int x, .int z, .int y]) (rest := [.int (nI 0), .ref oo]) ⟨hx, hb, hml, hown, hts⟩ (c_X8_distance_b1 l D cY s.heap.size b n k x z y hlT hn1 hn6 hk1 hk12 hbad) (cwV 3 hts gL_distance_X8_distance rfl rfl rfl (by decide +kernel) ⟨Nat.le_of_ble_eq_true rfl, Nat.le_of_ble_eq_true rfl⟩) (b_preXV hVK hP hD hS hA hX [0, 1] rfl rfl 0 rfl rfl) rfl rfl hl.1 rfl (lv_room (Nat.le_of_ble_eq_true rfl)) dL_distance_7 ⟨Nat.le_of_ble_eq_true rfl, Nat.le_of_ble_eq_true rfl⟩) hP hD hS hA [0, 1] rfl rfl rfl (fun H locs q9 ce hP hD hS hcell hv hcl => ?_)
  refine h_catch (E := eIB) hown [] ⟨0, 11, 14, 19⟩ [⟨0, 11, 18, 13⟩] htb (fun z hz => nomatch hz) (by decide +kernel) (by decide) (hts (.classLink RL 19 eIB) (by decide +kernel)) hH.2.1 hcell hv hcl ?_
  refine lv_astore (lv' := [(5, .ref q9), (0, .ref (b 0)), (1, .int x), (2, .int z), (3, .int y), (4, .ref oo)]) hx hb dL_distance_14 hl (by decide) rfl (fun ls hl => ?_)
  refine lv_iconst (v := nI 1) hx hb dL_distance_16 (by decide) ?_
  exact r_i hx hb hr hlocks hP hD hS () rfl rfl dL_distance_17

set_option maxHeartbeats 4000000 in
set_option maxRecDepth 100000 in
theorem c_L_distance_b2 (l : Launch) (D : va_G) (cY : Nat → ClassId) (sz : Nat) (b : Nat → Nat) (n : Nat) (k : Nat) (x : Int32) (z : Int32) (y : Int32) (oo : Nat) (fO : Nat → Int64) (hlT : l.stackTraces = false) (hn1 : 1 ≤ n) (hn6 : n ≤ 6) (hk1 : 1 ≤ k) (hk12 : k ≤ 12) (hAa : (inR x (nI 0) (nI (n - 1)) && inR z (nI 0) (nI (n - 1))) = true) (hbad : inR y (nI 0) (nI 12) = false) : vx_Met l yL_distance wsL_distance ({ frames := 13, cells := 1, slots := 6, locals := 360 }) (cPH D cY [.ref (b 0), .int x, .int z, .int y, .ref oo] [hO b, cO b (nI n) (nI k), [(oo, .inl (cY 1, 1, .inr (.inl fO)))]] sz) (qI (S := Unit) D cY (fun r uu => r = nI 2) (fun uu => [hO b, cO b (nI n) (nI k), [(oo, .inl (cY 1, 1, .inr (.inl fO)))]]) (va_A ([hO b, cO b (nI n) (nI k), [(oo, .inl (cY 1, 1, .inr (.inl fO)))]] : List va_W).flatten sz)) (q0 (va_A ([hO b, cO b (nI n) (nI k), [(oo, .inl (cY 1, 1, .inr (.inl fO)))]] : List va_W).flatten sz)) 1 6 (va_A ([hO b, cO b (nI n) (nI k), [(oo, .inl (cY 1, 1, .inr (.inl fO)))]] : List va_W).flatten sz) := by
  refine mtH (Qc := fun A => qI (S := Unit) D cY (fun r uu => r = nI 2) (fun uu => [hO b, cO b (nI n) (nI k), [(oo, .inl (cY 1, 1, .inr (.inl fO)))]]) A) (cc := cL_distance) (maxL := 6) (ret := (some .int)) (by decide) rfl (Nat.le_of_ble_eq_true rfl) ?_
  intro p e s m below meth c A ls hx hb hr hml hts hown hlocks hsz hP hK hVK hD hS hA hX hH htb hl
  have hown : s.vm.findClass RL = some m.cls := hown
  have hl : lv_has ls 6 [(0, .ref (b 0)), (1, .int x), (2, .int z), (3, .int y), (4, .ref oo)] := hl
  have hP : va_P D vwCl ([hO b, cO b (nI n) (nI k), [(oo, .inl (cY 1, 1, .inr (.inl fO)))]] : List va_W).flatten s.heap := hP
  have hD : va_D A ([hO b, cO b (nI n) (nI k), [(oo, .inl (cY 1, 1, .inr (.inl fO)))]] : List va_W).flatten := hD
  refine lv_aload hx hb dL_distance_0 (lv_at hl 4 rfl) ?_
  refine lv_iconst (v := nI 0) hx hb dL_distance_2 (by decide) ?_
  refine lv_aload_n hx hb dL_distance_3 rfl (lv_at hl 0 rfl) ?_
  refine lv_iload_n hx hb dL_distance_4 rfl (lv_at hl 1 rfl) ?_
  refine lv_iload_n hx hb dL_distance_5 rfl (lv_at hl 2 rfl) ?_
  refine lv_iload_n hx hb dL_distance_6 rfl (lv_at hl 3 rfl) ?_
  refine xh_l (CL := [hO b, cO b (nI n) (nI k)]) (vx_runV (As := [.int x, .int z, .int y]) (rest := [.int (nI 0), .ref oo]) ⟨hx, hb, hml, hown, hts⟩ (c_X8_distance_b2 l D cY s.heap.size b n k x z y hlT hn1 hn6 hk1 hk12 hAa hbad) (cwV 3 hts gL_distance_X8_distance rfl rfl rfl (by decide +kernel) ⟨Nat.le_of_ble_eq_true rfl, Nat.le_of_ble_eq_true rfl⟩) (b_preXV hVK hP hD hS hA hX [0, 1] rfl rfl 0 rfl rfl) rfl rfl hl.1 rfl (lv_room (Nat.le_of_ble_eq_true rfl)) dL_distance_7 ⟨Nat.le_of_ble_eq_true rfl, Nat.le_of_ble_eq_true rfl⟩) hP hD hS hA [0, 1] rfl rfl rfl (fun H locs q9 ce hP hD hS hcell hv hcl => ?_)
  refine h_catch (E := eIA) hown [⟨0, 11, 14, 19⟩] ⟨0, 11, 18, 13⟩ [] htb (fun z hz => by
      rw [List.mem_singleton.mp hz]
      exact ⟨by decide, eIB, hts (.classLink RL 19 eIB) (by decide +kernel), hH.2.2.2.1⟩) (by decide +kernel) (by decide) (hts (.classLink RL 13 eIA) (by decide +kernel)) hH.1 hcell hv hcl ?_
  refine lv_astore (lv' := [(5, .ref q9), (0, .ref (b 0)), (1, .int x), (2, .int z), (3, .int y), (4, .ref oo)]) hx hb dL_distance_18 hl (by decide) rfl (fun ls hl => ?_)
  refine lv_iconst (v := nI 2) hx hb dL_distance_20 (by decide) ?_
  exact r_i hx hb hr hlocks hP hD hS () rfl rfl dL_distance_21

set_option maxHeartbeats 4000000 in
set_option maxRecDepth 100000 in
theorem c_L_apart_b1 (l : Launch) (D : va_G) (cY : Nat → ClassId) (sz : Nat) (b : Nat → Nat) (n : Nat) (k : Nat) (x : Int32) (z : Int32) (y : Int32) (oo : Nat) (fO : Nat → Int64) (hlT : l.stackTraces = false) (hn1 : 1 ≤ n) (hn6 : n ≤ 6) (hk1 : 1 ≤ k) (hk12 : k ≤ 12) (hbad : (inR x (nI 0) (nI (n - 1)) && inR z (nI 0) (nI (n - 1))) = false) : vx_Met l yL_apart wsL_apart ({ frames := 13, cells := 1, slots := 6, locals := 360 }) (cPH D cY [.ref (b 0), .int x, .int z, .int y, .ref oo] [hO b, cO b (nI n) (nI k), [(oo, .inl (cY 1, 1, .inr (.inl fO)))]] sz) (qI (S := Unit) D cY (fun r uu => r = nI 1) (fun uu => [hO b, cO b (nI n) (nI k), [(oo, .inl (cY 1, 1, .inr (.inl fO)))]]) (va_A ([hO b, cO b (nI n) (nI k), [(oo, .inl (cY 1, 1, .inr (.inl fO)))]] : List va_W).flatten sz)) (q0 (va_A ([hO b, cO b (nI n) (nI k), [(oo, .inl (cY 1, 1, .inr (.inl fO)))]] : List va_W).flatten sz)) 1 6 (va_A ([hO b, cO b (nI n) (nI k), [(oo, .inl (cY 1, 1, .inr (.inl fO)))]] : List va_W).flatten sz) := by
  refine mtH (Qc := fun A => qI (S := Unit) D cY (fun r uu => r = nI 1) (fun uu => [hO b, cO b (nI n) (nI k), [(oo, .inl (cY 1, 1, .inr (.inl fO)))]]) A) (cc := cL_apart) (maxL := 6) (ret := (some .int)) (by decide) rfl (Nat.le_of_ble_eq_true rfl) ?_
  intro p e s m below meth c A ls hx hb hr hml hts hown hlocks hsz hP hK hVK hD hS hA hX hH htb hl
  have hown : s.vm.findClass RL = some m.cls := hown
  have hl : lv_has ls 6 [(0, .ref (b 0)), (1, .int x), (2, .int z), (3, .int y), (4, .ref oo)] := hl
  have hP : va_P D vwCl ([hO b, cO b (nI n) (nI k), [(oo, .inl (cY 1, 1, .inr (.inl fO)))]] : List va_W).flatten s.heap := hP
  have hD : va_D A ([hO b, cO b (nI n) (nI k), [(oo, .inl (cY 1, 1, .inr (.inl fO)))]] : List va_W).flatten := hD
  refine lv_aload hx hb dL_apart_0 (lv_at hl 4 rfl) ?_
  refine lv_iconst (v := nI 0) hx hb dL_apart_2 (by decide) ?_
  refine lv_aload_n hx hb dL_apart_3 rfl (lv_at hl 0 rfl) ?_
  refine lv_iload_n hx hb dL_apart_4 rfl (lv_at hl 1 rfl) ?_
  refine lv_iload_n hx hb dL_apart_5 rfl (lv_at hl 2 rfl) ?_
  refine lv_iload_n hx hb dL_apart_6 rfl (lv_at hl 3 rfl) ?_
  refine xh_l (CL := [hO b, cO b (nI n) (nI k)]) (vx_runV (As := [.int x, .int z, .int y]) (rest := [.int (nI 0), .ref oo]) ⟨hx, hb, hml, hown, hts⟩ (c_X8_apart_b1 l D cY s.heap.size b n k x z y hlT hn1 hn6 hk1 hk12 hbad) (cwV 3 hts gL_apart_X8_apart rfl rfl rfl (by decide +kernel) ⟨Nat.le_of_ble_eq_true rfl, Nat.le_of_ble_eq_true rfl⟩) (b_preXV hVK hP hD hS hA hX [0, 1] rfl rfl 0 rfl rfl) rfl rfl hl.1 rfl (lv_room (Nat.le_of_ble_eq_true rfl)) dL_apart_7 ⟨Nat.le_of_ble_eq_true rfl, Nat.le_of_ble_eq_true rfl⟩) hP hD hS hA [0, 1] rfl rfl rfl (fun H locs q9 ce hP hD hS hcell hv hcl => ?_)
  refine h_catch (E := eIB) hown [] ⟨0, 11, 14, 19⟩ [⟨0, 11, 18, 13⟩] htb (fun z hz => nomatch hz) (by decide +kernel) (by decide) (hts (.classLink RL 19 eIB) (by decide +kernel)) hH.2.1 hcell hv hcl ?_
  refine lv_astore (lv' := [(5, .ref q9), (0, .ref (b 0)), (1, .int x), (2, .int z), (3, .int y), (4, .ref oo)]) hx hb dL_apart_14 hl (by decide) rfl (fun ls hl => ?_)
  refine lv_iconst (v := nI 1) hx hb dL_apart_16 (by decide) ?_
  exact r_i hx hb hr hlocks hP hD hS () rfl rfl dL_apart_17

set_option maxHeartbeats 4000000 in
set_option maxRecDepth 100000 in
theorem c_L_apart_b2 (l : Launch) (D : va_G) (cY : Nat → ClassId) (sz : Nat) (b : Nat → Nat) (n : Nat) (k : Nat) (x : Int32) (z : Int32) (y : Int32) (oo : Nat) (fO : Nat → Int64) (hlT : l.stackTraces = false) (hn1 : 1 ≤ n) (hn6 : n ≤ 6) (hk1 : 1 ≤ k) (hk12 : k ≤ 12) (hAa : (inR x (nI 0) (nI (n - 1)) && inR z (nI 0) (nI (n - 1))) = true) (hbad : inR y (nI 0) (nI 12) = false) : vx_Met l yL_apart wsL_apart ({ frames := 13, cells := 1, slots := 6, locals := 360 }) (cPH D cY [.ref (b 0), .int x, .int z, .int y, .ref oo] [hO b, cO b (nI n) (nI k), [(oo, .inl (cY 1, 1, .inr (.inl fO)))]] sz) (qI (S := Unit) D cY (fun r uu => r = nI 2) (fun uu => [hO b, cO b (nI n) (nI k), [(oo, .inl (cY 1, 1, .inr (.inl fO)))]]) (va_A ([hO b, cO b (nI n) (nI k), [(oo, .inl (cY 1, 1, .inr (.inl fO)))]] : List va_W).flatten sz)) (q0 (va_A ([hO b, cO b (nI n) (nI k), [(oo, .inl (cY 1, 1, .inr (.inl fO)))]] : List va_W).flatten sz)) 1 6 (va_A ([hO b, cO b (nI n) (nI k), [(oo, .inl (cY 1, 1, .inr (.inl fO)))]] : List va_W).flatten sz) := by
  refine mtH (Qc := fun A => qI (S := Unit) D cY (fun r uu => r = nI 2) (fun uu => [hO b, cO b (nI n) (nI k), [(oo, .inl (cY 1, 1, .inr (.inl fO)))]]) A) (cc := cL_apart) (maxL := 6) (ret := (some .int)) (by decide) rfl (Nat.le_of_ble_eq_true rfl) ?_
  intro p e s m below meth c A ls hx hb hr hml hts hown hlocks hsz hP hK hVK hD hS hA hX hH htb hl
  have hown : s.vm.findClass RL = some m.cls := hown
  have hl : lv_has ls 6 [(0, .ref (b 0)), (1, .int x), (2, .int z), (3, .int y), (4, .ref oo)] := hl
  have hP : va_P D vwCl ([hO b, cO b (nI n) (nI k), [(oo, .inl (cY 1, 1, .inr (.inl fO)))]] : List va_W).flatten s.heap := hP
  have hD : va_D A ([hO b, cO b (nI n) (nI k), [(oo, .inl (cY 1, 1, .inr (.inl fO)))]] : List va_W).flatten := hD
  refine lv_aload hx hb dL_apart_0 (lv_at hl 4 rfl) ?_
  refine lv_iconst (v := nI 0) hx hb dL_apart_2 (by decide) ?_
  refine lv_aload_n hx hb dL_apart_3 rfl (lv_at hl 0 rfl) ?_
  refine lv_iload_n hx hb dL_apart_4 rfl (lv_at hl 1 rfl) ?_
  refine lv_iload_n hx hb dL_apart_5 rfl (lv_at hl 2 rfl) ?_
  refine lv_iload_n hx hb dL_apart_6 rfl (lv_at hl 3 rfl) ?_
  refine xh_l (CL := [hO b, cO b (nI n) (nI k)]) (vx_runV (As := [.int x, .int z, .int y]) (rest := [.int (nI 0), .ref oo]) ⟨hx, hb, hml, hown, hts⟩ (c_X8_apart_b2 l D cY s.heap.size b n k x z y hlT hn1 hn6 hk1 hk12 hAa hbad) (cwV 3 hts gL_apart_X8_apart rfl rfl rfl (by decide +kernel) ⟨Nat.le_of_ble_eq_true rfl, Nat.le_of_ble_eq_true rfl⟩) (b_preXV hVK hP hD hS hA hX [0, 1] rfl rfl 0 rfl rfl) rfl rfl hl.1 rfl (lv_room (Nat.le_of_ble_eq_true rfl)) dL_apart_7 ⟨Nat.le_of_ble_eq_true rfl, Nat.le_of_ble_eq_true rfl⟩) hP hD hS hA [0, 1] rfl rfl rfl (fun H locs q9 ce hP hD hS hcell hv hcl => ?_)
  refine h_catch (E := eIA) hown [⟨0, 11, 14, 19⟩] ⟨0, 11, 18, 13⟩ [] htb (fun z hz => by
      rw [List.mem_singleton.mp hz]
      exact ⟨by decide, eIB, hts (.classLink RL 19 eIB) (by decide +kernel), hH.2.2.2.1⟩) (by decide +kernel) (by decide) (hts (.classLink RL 13 eIA) (by decide +kernel)) hH.1 hcell hv hcl ?_
  refine lv_astore (lv' := [(5, .ref q9), (0, .ref (b 0)), (1, .int x), (2, .int z), (3, .int y), (4, .ref oo)]) hx hb dL_apart_18 hl (by decide) rfl (fun ls hl => ?_)
  refine lv_iconst (v := nI 2) hx hb dL_apart_20 (by decide) ?_
  exact r_i hx hb hr hlocks hP hD hS () rfl rfl dL_apart_21

set_option maxHeartbeats 4000000 in
set_option maxRecDepth 100000 in
theorem c_L_hits_b1 (l : Launch) (D : va_G) (cY : Nat → ClassId) (sz : Nat) (b : Nat → Nat) (n : Nat) (k : Nat) (x : Int32) (y : Int32) (z : Int32) (oo : Nat) (fO : Nat → Int64) (hlT : l.stackTraces = false) (hn1 : 1 ≤ n) (hn6 : n ≤ 6) (hk1 : 1 ≤ k) (hk12 : k ≤ 12) (hbad : (inR x (nI 0) (nI (n - 1)) && inR z (nI 0) (nI (n - 1))) = false) : vx_Met l yL_hits wsL_hits ({ frames := 13, cells := 1, slots := 6, locals := 360 }) (cPH D cY [.ref (b 0), .int x, .int y, .int z, .ref oo] [hO b, cO b (nI n) (nI k), [(oo, .inl (cY 1, 1, .inr (.inl fO)))]] sz) (qI (S := Unit) D cY (fun r uu => r = nI 1) (fun uu => [hO b, cO b (nI n) (nI k), [(oo, .inl (cY 1, 1, .inr (.inl fO)))]]) (va_A ([hO b, cO b (nI n) (nI k), [(oo, .inl (cY 1, 1, .inr (.inl fO)))]] : List va_W).flatten sz)) (q0 (va_A ([hO b, cO b (nI n) (nI k), [(oo, .inl (cY 1, 1, .inr (.inl fO)))]] : List va_W).flatten sz)) 1 6 (va_A ([hO b, cO b (nI n) (nI k), [(oo, .inl (cY 1, 1, .inr (.inl fO)))]] : List va_W).flatten sz) := by
  refine mtH (Qc := fun A => qI (S := Unit) D cY (fun r uu => r = nI 1) (fun uu => [hO b, cO b (nI n) (nI k), [(oo, .inl (cY 1, 1, .inr (.inl fO)))]]) A) (cc := cL_hits) (maxL := 6) (ret := (some .int)) (by decide) rfl (Nat.le_of_ble_eq_true rfl) ?_
  intro p e s m below meth c A ls hx hb hr hml hts hown hlocks hsz hP hK hVK hD hS hA hX hH htb hl
  have hown : s.vm.findClass RL = some m.cls := hown
  have hl : lv_has ls 6 [(0, .ref (b 0)), (1, .int x), (2, .int y), (3, .int z), (4, .ref oo)] := hl
  have hP : va_P D vwCl ([hO b, cO b (nI n) (nI k), [(oo, .inl (cY 1, 1, .inr (.inl fO)))]] : List va_W).flatten s.heap := hP
  have hD : va_D A ([hO b, cO b (nI n) (nI k), [(oo, .inl (cY 1, 1, .inr (.inl fO)))]] : List va_W).flatten := hD
  refine lv_aload hx hb dL_hits_0 (lv_at hl 4 rfl) ?_
  refine lv_iconst (v := nI 0) hx hb dL_hits_2 (by decide) ?_
  refine lv_aload_n hx hb dL_hits_3 rfl (lv_at hl 0 rfl) ?_
  refine lv_iload_n hx hb dL_hits_4 rfl (lv_at hl 1 rfl) ?_
  refine lv_iload_n hx hb dL_hits_5 rfl (lv_at hl 2 rfl) ?_
  refine lv_iload_n hx hb dL_hits_6 rfl (lv_at hl 3 rfl) ?_
  refine xh_l (CL := [hO b, cO b (nI n) (nI k)]) (vx_runV (As := [.int x, .int y, .int z]) (rest := [.int (nI 0), .ref oo]) ⟨hx, hb, hml, hown, hts⟩ (c_X8_hits_b1 l D cY s.heap.size b n k x y z hlT hn1 hn6 hk1 hk12 hbad) (cwV 3 hts gL_hits_X8_hits rfl rfl rfl (by decide +kernel) ⟨Nat.le_of_ble_eq_true rfl, Nat.le_of_ble_eq_true rfl⟩) (b_preXV hVK hP hD hS hA hX [0, 1] rfl rfl 0 rfl rfl) rfl rfl hl.1 rfl (lv_room (Nat.le_of_ble_eq_true rfl)) dL_hits_7 ⟨Nat.le_of_ble_eq_true rfl, Nat.le_of_ble_eq_true rfl⟩) hP hD hS hA [0, 1] rfl rfl rfl (fun H locs q9 ce hP hD hS hcell hv hcl => ?_)
  refine h_catch (E := eIB) hown [] ⟨0, 11, 14, 19⟩ [⟨0, 11, 18, 13⟩] htb (fun z hz => nomatch hz) (by decide +kernel) (by decide) (hts (.classLink RL 19 eIB) (by decide +kernel)) hH.2.1 hcell hv hcl ?_
  refine lv_astore (lv' := [(5, .ref q9), (0, .ref (b 0)), (1, .int x), (2, .int y), (3, .int z), (4, .ref oo)]) hx hb dL_hits_14 hl (by decide) rfl (fun ls hl => ?_)
  refine lv_iconst (v := nI 1) hx hb dL_hits_16 (by decide) ?_
  exact r_i hx hb hr hlocks hP hD hS () rfl rfl dL_hits_17

set_option maxHeartbeats 4000000 in
set_option maxRecDepth 100000 in
theorem c_L_hits_b2 (l : Launch) (D : va_G) (cY : Nat → ClassId) (sz : Nat) (b : Nat → Nat) (n : Nat) (k : Nat) (x : Int32) (y : Int32) (z : Int32) (oo : Nat) (fO : Nat → Int64) (hlT : l.stackTraces = false) (hn1 : 1 ≤ n) (hn6 : n ≤ 6) (hk1 : 1 ≤ k) (hk12 : k ≤ 12) (hAa : (inR x (nI 0) (nI (n - 1)) && inR z (nI 0) (nI (n - 1))) = true) (hbad : inR y (nI 0) (nI 12) = false) : vx_Met l yL_hits wsL_hits ({ frames := 13, cells := 1, slots := 6, locals := 360 }) (cPH D cY [.ref (b 0), .int x, .int y, .int z, .ref oo] [hO b, cO b (nI n) (nI k), [(oo, .inl (cY 1, 1, .inr (.inl fO)))]] sz) (qI (S := Unit) D cY (fun r uu => r = nI 2) (fun uu => [hO b, cO b (nI n) (nI k), [(oo, .inl (cY 1, 1, .inr (.inl fO)))]]) (va_A ([hO b, cO b (nI n) (nI k), [(oo, .inl (cY 1, 1, .inr (.inl fO)))]] : List va_W).flatten sz)) (q0 (va_A ([hO b, cO b (nI n) (nI k), [(oo, .inl (cY 1, 1, .inr (.inl fO)))]] : List va_W).flatten sz)) 1 6 (va_A ([hO b, cO b (nI n) (nI k), [(oo, .inl (cY 1, 1, .inr (.inl fO)))]] : List va_W).flatten sz) := by
  refine mtH (Qc := fun A => qI (S := Unit) D cY (fun r uu => r = nI 2) (fun uu => [hO b, cO b (nI n) (nI k), [(oo, .inl (cY 1, 1, .inr (.inl fO)))]]) A) (cc := cL_hits) (maxL := 6) (ret := (some .int)) (by decide) rfl (Nat.le_of_ble_eq_true rfl) ?_
  intro p e s m below meth c A ls hx hb hr hml hts hown hlocks hsz hP hK hVK hD hS hA hX hH htb hl
  have hown : s.vm.findClass RL = some m.cls := hown
  have hl : lv_has ls 6 [(0, .ref (b 0)), (1, .int x), (2, .int y), (3, .int z), (4, .ref oo)] := hl
  have hP : va_P D vwCl ([hO b, cO b (nI n) (nI k), [(oo, .inl (cY 1, 1, .inr (.inl fO)))]] : List va_W).flatten s.heap := hP
  have hD : va_D A ([hO b, cO b (nI n) (nI k), [(oo, .inl (cY 1, 1, .inr (.inl fO)))]] : List va_W).flatten := hD
  refine lv_aload hx hb dL_hits_0 (lv_at hl 4 rfl) ?_
  refine lv_iconst (v := nI 0) hx hb dL_hits_2 (by decide) ?_
  refine lv_aload_n hx hb dL_hits_3 rfl (lv_at hl 0 rfl) ?_
  refine lv_iload_n hx hb dL_hits_4 rfl (lv_at hl 1 rfl) ?_
  refine lv_iload_n hx hb dL_hits_5 rfl (lv_at hl 2 rfl) ?_
  refine lv_iload_n hx hb dL_hits_6 rfl (lv_at hl 3 rfl) ?_
  refine xh_l (CL := [hO b, cO b (nI n) (nI k)]) (vx_runV (As := [.int x, .int y, .int z]) (rest := [.int (nI 0), .ref oo]) ⟨hx, hb, hml, hown, hts⟩ (c_X8_hits_b2 l D cY s.heap.size b n k x y z hlT hn1 hn6 hk1 hk12 hAa hbad) (cwV 3 hts gL_hits_X8_hits rfl rfl rfl (by decide +kernel) ⟨Nat.le_of_ble_eq_true rfl, Nat.le_of_ble_eq_true rfl⟩) (b_preXV hVK hP hD hS hA hX [0, 1] rfl rfl 0 rfl rfl) rfl rfl hl.1 rfl (lv_room (Nat.le_of_ble_eq_true rfl)) dL_hits_7 ⟨Nat.le_of_ble_eq_true rfl, Nat.le_of_ble_eq_true rfl⟩) hP hD hS hA [0, 1] rfl rfl rfl (fun H locs q9 ce hP hD hS hcell hv hcl => ?_)
  refine h_catch (E := eIA) hown [⟨0, 11, 14, 19⟩] ⟨0, 11, 18, 13⟩ [] htb (fun z hz => by
      rw [List.mem_singleton.mp hz]
      exact ⟨by decide, eIB, hts (.classLink RL 19 eIB) (by decide +kernel), hH.2.2.2.1⟩) (by decide +kernel) (by decide) (hts (.classLink RL 13 eIA) (by decide +kernel)) hH.1 hcell hv hcl ?_
  refine lv_astore (lv' := [(5, .ref q9), (0, .ref (b 0)), (1, .int x), (2, .int y), (3, .int z), (4, .ref oo)]) hx hb dL_hits_18 hl (by decide) rfl (fun ls hl => ?_)
  refine lv_iconst (v := nI 2) hx hb dL_hits_20 (by decide) ?_
  exact r_i hx hb hr hlocks hP hD hS () rfl rfl dL_hits_21

set_option maxHeartbeats 4000000 in
set_option maxRecDepth 100000 in
theorem c_L_together_b1 (l : Launch) (D : va_G) (cY : Nat → ClassId) (sz : Nat) (b : Nat → Nat) (n : Nat) (k : Nat) (y : Int32) (x : Int32) (oo : Nat) (fO : Nat → Int64) (hlT : l.stackTraces = false) (hn1 : 1 ≤ n) (hn6 : n ≤ 6) (hk1 : 1 ≤ k) (hk12 : k ≤ 12) (hbad : inR x (nI 0) (nI (n - 1)) = false) : vx_Met l yL_together wsL_together ({ frames := 13, cells := 1, slots := 6, locals := 360 }) (cPH D cY [.ref (b 0), .int y, .int x, .ref oo] [hO b, cO b (nI n) (nI k), [(oo, .inl (cY 1, 1, .inr (.inl fO)))]] sz) (qI (S := Unit) D cY (fun r uu => r = nI 1) (fun uu => [hO b, cO b (nI n) (nI k), [(oo, .inl (cY 1, 1, .inr (.inl fO)))]]) (va_A ([hO b, cO b (nI n) (nI k), [(oo, .inl (cY 1, 1, .inr (.inl fO)))]] : List va_W).flatten sz)) (q0 (va_A ([hO b, cO b (nI n) (nI k), [(oo, .inl (cY 1, 1, .inr (.inl fO)))]] : List va_W).flatten sz)) 1 6 (va_A ([hO b, cO b (nI n) (nI k), [(oo, .inl (cY 1, 1, .inr (.inl fO)))]] : List va_W).flatten sz) := by
  refine mtH (Qc := fun A => qI (S := Unit) D cY (fun r uu => r = nI 1) (fun uu => [hO b, cO b (nI n) (nI k), [(oo, .inl (cY 1, 1, .inr (.inl fO)))]]) A) (cc := cL_together) (maxL := 5) (ret := (some .int)) (by decide) rfl (Nat.le_of_ble_eq_true rfl) ?_
  intro p e s m below meth c A ls hx hb hr hml hts hown hlocks hsz hP hK hVK hD hS hA hX hH htb hl
  have hown : s.vm.findClass RL = some m.cls := hown
  have hl : lv_has ls 5 [(0, .ref (b 0)), (1, .int y), (2, .int x), (3, .ref oo)] := hl
  have hP : va_P D vwCl ([hO b, cO b (nI n) (nI k), [(oo, .inl (cY 1, 1, .inr (.inl fO)))]] : List va_W).flatten s.heap := hP
  have hD : va_D A ([hO b, cO b (nI n) (nI k), [(oo, .inl (cY 1, 1, .inr (.inl fO)))]] : List va_W).flatten := hD
  refine lv_aload_n hx hb dL_together_0 rfl (lv_at hl 3 rfl) ?_
  refine lv_iconst (v := nI 0) hx hb dL_together_1 (by decide) ?_
  refine lv_aload_n hx hb dL_together_2 rfl (lv_at hl 0 rfl) ?_
  refine lv_iload_n hx hb dL_together_3 rfl (lv_at hl 1 rfl) ?_
  refine lv_iload_n hx hb dL_together_4 rfl (lv_at hl 2 rfl) ?_
  refine xh_l (CL := [hO b, cO b (nI n) (nI k)]) (vx_runV (As := [.int y, .int x]) (rest := [.int (nI 0), .ref oo]) ⟨hx, hb, hml, hown, hts⟩ (c_X8_together_b1 l D cY s.heap.size b n k y x hlT hn1 hn6 hk1 hk12 hbad) (cwV 2 hts gL_together_X8_together rfl rfl rfl (by decide +kernel) ⟨Nat.le_of_ble_eq_true rfl, Nat.le_of_ble_eq_true rfl⟩) (b_preXV hVK hP hD hS hA hX [0, 1] rfl rfl 0 rfl rfl) rfl rfl hl.1 rfl (lv_room (Nat.le_of_ble_eq_true rfl)) dL_together_5 ⟨Nat.le_of_ble_eq_true rfl, Nat.le_of_ble_eq_true rfl⟩) hP hD hS hA [0, 1] rfl rfl rfl (fun H locs q9 ce hP hD hS hcell hv hcl => ?_)
  refine h_catch (E := eIB) hown [] ⟨0, 9, 12, 19⟩ [⟨0, 9, 16, 13⟩] htb (fun z hz => nomatch hz) (by decide +kernel) (by decide) (hts (.classLink RL 19 eIB) (by decide +kernel)) hH.2.1 hcell hv hcl ?_
  refine lv_astore (lv' := [(4, .ref q9), (0, .ref (b 0)), (1, .int y), (2, .int x), (3, .ref oo)]) hx hb dL_together_12 hl (by decide) rfl (fun ls hl => ?_)
  refine lv_iconst (v := nI 1) hx hb dL_together_14 (by decide) ?_
  exact r_i hx hb hr hlocks hP hD hS () rfl rfl dL_together_15

set_option maxHeartbeats 4000000 in
set_option maxRecDepth 100000 in
theorem c_L_together_b2 (l : Launch) (D : va_G) (cY : Nat → ClassId) (sz : Nat) (b : Nat → Nat) (n : Nat) (k : Nat) (y : Int32) (x : Int32) (oo : Nat) (fO : Nat → Int64) (hlT : l.stackTraces = false) (hn1 : 1 ≤ n) (hn6 : n ≤ 6) (hk1 : 1 ≤ k) (hk12 : k ≤ 12) (hAa : inR x (nI 0) (nI (n - 1)) = true) (hbad : inR y (nI 0) (nI 12) = false) : vx_Met l yL_together wsL_together ({ frames := 13, cells := 1, slots := 6, locals := 360 }) (cPH D cY [.ref (b 0), .int y, .int x, .ref oo] [hO b, cO b (nI n) (nI k), [(oo, .inl (cY 1, 1, .inr (.inl fO)))]] sz) (qI (S := Unit) D cY (fun r uu => r = nI 2) (fun uu => [hO b, cO b (nI n) (nI k), [(oo, .inl (cY 1, 1, .inr (.inl fO)))]]) (va_A ([hO b, cO b (nI n) (nI k), [(oo, .inl (cY 1, 1, .inr (.inl fO)))]] : List va_W).flatten sz)) (q0 (va_A ([hO b, cO b (nI n) (nI k), [(oo, .inl (cY 1, 1, .inr (.inl fO)))]] : List va_W).flatten sz)) 1 6 (va_A ([hO b, cO b (nI n) (nI k), [(oo, .inl (cY 1, 1, .inr (.inl fO)))]] : List va_W).flatten sz) := by
  refine mtH (Qc := fun A => qI (S := Unit) D cY (fun r uu => r = nI 2) (fun uu => [hO b, cO b (nI n) (nI k), [(oo, .inl (cY 1, 1, .inr (.inl fO)))]]) A) (cc := cL_together) (maxL := 5) (ret := (some .int)) (by decide) rfl (Nat.le_of_ble_eq_true rfl) ?_
  intro p e s m below meth c A ls hx hb hr hml hts hown hlocks hsz hP hK hVK hD hS hA hX hH htb hl
  have hown : s.vm.findClass RL = some m.cls := hown
  have hl : lv_has ls 5 [(0, .ref (b 0)), (1, .int y), (2, .int x), (3, .ref oo)] := hl
  have hP : va_P D vwCl ([hO b, cO b (nI n) (nI k), [(oo, .inl (cY 1, 1, .inr (.inl fO)))]] : List va_W).flatten s.heap := hP
  have hD : va_D A ([hO b, cO b (nI n) (nI k), [(oo, .inl (cY 1, 1, .inr (.inl fO)))]] : List va_W).flatten := hD
  refine lv_aload_n hx hb dL_together_0 rfl (lv_at hl 3 rfl) ?_
  refine lv_iconst (v := nI 0) hx hb dL_together_1 (by decide) ?_
  refine lv_aload_n hx hb dL_together_2 rfl (lv_at hl 0 rfl) ?_
  refine lv_iload_n hx hb dL_together_3 rfl (lv_at hl 1 rfl) ?_
  refine lv_iload_n hx hb dL_together_4 rfl (lv_at hl 2 rfl) ?_
  refine xh_l (CL := [hO b, cO b (nI n) (nI k)]) (vx_runV (As := [.int y, .int x]) (rest := [.int (nI 0), .ref oo]) ⟨hx, hb, hml, hown, hts⟩ (c_X8_together_b2 l D cY s.heap.size b n k y x hlT hn1 hn6 hk1 hk12 hAa hbad) (cwV 2 hts gL_together_X8_together rfl rfl rfl (by decide +kernel) ⟨Nat.le_of_ble_eq_true rfl, Nat.le_of_ble_eq_true rfl⟩) (b_preXV hVK hP hD hS hA hX [0, 1] rfl rfl 0 rfl rfl) rfl rfl hl.1 rfl (lv_room (Nat.le_of_ble_eq_true rfl)) dL_together_5 ⟨Nat.le_of_ble_eq_true rfl, Nat.le_of_ble_eq_true rfl⟩) hP hD hS hA [0, 1] rfl rfl rfl (fun H locs q9 ce hP hD hS hcell hv hcl => ?_)
  refine h_catch (E := eIA) hown [⟨0, 9, 12, 19⟩] ⟨0, 9, 16, 13⟩ [] htb (fun z hz => by
      rw [List.mem_singleton.mp hz]
      exact ⟨by decide, eIB, hts (.classLink RL 19 eIB) (by decide +kernel), hH.2.2.2.1⟩) (by decide +kernel) (by decide) (hts (.classLink RL 13 eIA) (by decide +kernel)) hH.1 hcell hv hcl ?_
  refine lv_astore (lv' := [(4, .ref q9), (0, .ref (b 0)), (1, .int y), (2, .int x), (3, .ref oo)]) hx hb dL_together_16 hl (by decide) rfl (fun ls hl => ?_)
  refine lv_iconst (v := nI 2) hx hb dL_together_18 (by decide) ?_
  exact r_i hx hb hr hlocks hP hD hS () rfl rfl dL_together_19

set_option maxHeartbeats 4000000 in
set_option maxRecDepth 100000 in
theorem c_L_best_b1 (l : Launch) (D : va_G) (cY : Nat → ClassId) (sz : Nat) (b : Nat → Nat) (n : Nat) (k : Nat) (x : Int32) (y : Int32) (oo : Nat) (fO : Nat → Int64) (hlT : l.stackTraces = false) (hn1 : 1 ≤ n) (hn6 : n ≤ 6) (hk1 : 1 ≤ k) (hk12 : k ≤ 12) (hbad : inR x (nI 0) (nI (n - 1)) = false) : vx_Met l yL_best wsL_best ({ frames := 13, cells := 1, slots := 6, locals := 360 }) (cPH D cY [.ref (b 0), .int x, .int y, .ref oo] [hO b, cO b (nI n) (nI k), [(oo, .inl (cY 1, 1, .inr (.inl fO)))]] sz) (qI (S := Unit) D cY (fun r uu => r = nI 1) (fun uu => [hO b, cO b (nI n) (nI k), [(oo, .inl (cY 1, 1, .inr (.inl fO)))]]) (va_A ([hO b, cO b (nI n) (nI k), [(oo, .inl (cY 1, 1, .inr (.inl fO)))]] : List va_W).flatten sz)) (q0 (va_A ([hO b, cO b (nI n) (nI k), [(oo, .inl (cY 1, 1, .inr (.inl fO)))]] : List va_W).flatten sz)) 1 6 (va_A ([hO b, cO b (nI n) (nI k), [(oo, .inl (cY 1, 1, .inr (.inl fO)))]] : List va_W).flatten sz) := by
  refine mtH (Qc := fun A => qI (S := Unit) D cY (fun r uu => r = nI 1) (fun uu => [hO b, cO b (nI n) (nI k), [(oo, .inl (cY 1, 1, .inr (.inl fO)))]]) A) (cc := cL_best) (maxL := 5) (ret := (some .int)) (by decide) rfl (Nat.le_of_ble_eq_true rfl) ?_
  intro p e s m below meth c A ls hx hb hr hml hts hown hlocks hsz hP hK hVK hD hS hA hX hH htb hl
  have hown : s.vm.findClass RL = some m.cls := hown
  have hl : lv_has ls 5 [(0, .ref (b 0)), (1, .int x), (2, .int y), (3, .ref oo)] := hl
  have hP : va_P D vwCl ([hO b, cO b (nI n) (nI k), [(oo, .inl (cY 1, 1, .inr (.inl fO)))]] : List va_W).flatten s.heap := hP
  have hD : va_D A ([hO b, cO b (nI n) (nI k), [(oo, .inl (cY 1, 1, .inr (.inl fO)))]] : List va_W).flatten := hD
  refine lv_aload_n hx hb dL_best_0 rfl (lv_at hl 3 rfl) ?_
  refine lv_iconst (v := nI 0) hx hb dL_best_1 (by decide) ?_
  refine lv_aload_n hx hb dL_best_2 rfl (lv_at hl 0 rfl) ?_
  refine lv_iload_n hx hb dL_best_3 rfl (lv_at hl 1 rfl) ?_
  refine lv_iload_n hx hb dL_best_4 rfl (lv_at hl 2 rfl) ?_
  refine xh_l (CL := [hO b, cO b (nI n) (nI k)]) (vx_runV (As := [.int x, .int y]) (rest := [.int (nI 0), .ref oo]) ⟨hx, hb, hml, hown, hts⟩ (c_X8_best_b1 l D cY s.heap.size b n k x y hlT hn1 hn6 hk1 hk12 hbad) (cwV 2 hts gL_best_X8_best rfl rfl rfl (by decide +kernel) ⟨Nat.le_of_ble_eq_true rfl, Nat.le_of_ble_eq_true rfl⟩) (b_preXV hVK hP hD hS hA hX [0, 1] rfl rfl 0 rfl rfl) rfl rfl hl.1 rfl (lv_room (Nat.le_of_ble_eq_true rfl)) dL_best_5 ⟨Nat.le_of_ble_eq_true rfl, Nat.le_of_ble_eq_true rfl⟩) hP hD hS hA [0, 1] rfl rfl rfl (fun H locs q9 ce hP hD hS hcell hv hcl => ?_)
  refine h_catch (E := eIB) hown [] ⟨0, 9, 12, 19⟩ [⟨0, 9, 16, 13⟩] htb (fun z hz => nomatch hz) (by decide +kernel) (by decide) (hts (.classLink RL 19 eIB) (by decide +kernel)) hH.2.1 hcell hv hcl ?_
  refine lv_astore (lv' := [(4, .ref q9), (0, .ref (b 0)), (1, .int x), (2, .int y), (3, .ref oo)]) hx hb dL_best_12 hl (by decide) rfl (fun ls hl => ?_)
  refine lv_iconst (v := nI 1) hx hb dL_best_14 (by decide) ?_
  exact r_i hx hb hr hlocks hP hD hS () rfl rfl dL_best_15

set_option maxHeartbeats 4000000 in
set_option maxRecDepth 100000 in
theorem c_L_best_b2 (l : Launch) (D : va_G) (cY : Nat → ClassId) (sz : Nat) (b : Nat → Nat) (n : Nat) (k : Nat) (x : Int32) (y : Int32) (oo : Nat) (fO : Nat → Int64) (hlT : l.stackTraces = false) (hn1 : 1 ≤ n) (hn6 : n ≤ 6) (hk1 : 1 ≤ k) (hk12 : k ≤ 12) (hAa : inR x (nI 0) (nI (n - 1)) = true) (hbad : inR y (nI 0) (nI 12) = false) : vx_Met l yL_best wsL_best ({ frames := 13, cells := 1, slots := 6, locals := 360 }) (cPH D cY [.ref (b 0), .int x, .int y, .ref oo] [hO b, cO b (nI n) (nI k), [(oo, .inl (cY 1, 1, .inr (.inl fO)))]] sz) (qI (S := Unit) D cY (fun r uu => r = nI 2) (fun uu => [hO b, cO b (nI n) (nI k), [(oo, .inl (cY 1, 1, .inr (.inl fO)))]]) (va_A ([hO b, cO b (nI n) (nI k), [(oo, .inl (cY 1, 1, .inr (.inl fO)))]] : List va_W).flatten sz)) (q0 (va_A ([hO b, cO b (nI n) (nI k), [(oo, .inl (cY 1, 1, .inr (.inl fO)))]] : List va_W).flatten sz)) 1 6 (va_A ([hO b, cO b (nI n) (nI k), [(oo, .inl (cY 1, 1, .inr (.inl fO)))]] : List va_W).flatten sz) := by
  refine mtH (Qc := fun A => qI (S := Unit) D cY (fun r uu => r = nI 2) (fun uu => [hO b, cO b (nI n) (nI k), [(oo, .inl (cY 1, 1, .inr (.inl fO)))]]) A) (cc := cL_best) (maxL := 5) (ret := (some .int)) (by decide) rfl (Nat.le_of_ble_eq_true rfl) ?_
  intro p e s m below meth c A ls hx hb hr hml hts hown hlocks hsz hP hK hVK hD hS hA hX hH htb hl
  have hown : s.vm.findClass RL = some m.cls := hown
  have hl : lv_has ls 5 [(0, .ref (b 0)), (1, .int x), (2, .int y), (3, .ref oo)] := hl
  have hP : va_P D vwCl ([hO b, cO b (nI n) (nI k), [(oo, .inl (cY 1, 1, .inr (.inl fO)))]] : List va_W).flatten s.heap := hP
  have hD : va_D A ([hO b, cO b (nI n) (nI k), [(oo, .inl (cY 1, 1, .inr (.inl fO)))]] : List va_W).flatten := hD
  refine lv_aload_n hx hb dL_best_0 rfl (lv_at hl 3 rfl) ?_
  refine lv_iconst (v := nI 0) hx hb dL_best_1 (by decide) ?_
  refine lv_aload_n hx hb dL_best_2 rfl (lv_at hl 0 rfl) ?_
  refine lv_iload_n hx hb dL_best_3 rfl (lv_at hl 1 rfl) ?_
  refine lv_iload_n hx hb dL_best_4 rfl (lv_at hl 2 rfl) ?_
  refine xh_l (CL := [hO b, cO b (nI n) (nI k)]) (vx_runV (As := [.int x, .int y]) (rest := [.int (nI 0), .ref oo]) ⟨hx, hb, hml, hown, hts⟩ (c_X8_best_b2 l D cY s.heap.size b n k x y hlT hn1 hn6 hk1 hk12 hAa hbad) (cwV 2 hts gL_best_X8_best rfl rfl rfl (by decide +kernel) ⟨Nat.le_of_ble_eq_true rfl, Nat.le_of_ble_eq_true rfl⟩) (b_preXV hVK hP hD hS hA hX [0, 1] rfl rfl 0 rfl rfl) rfl rfl hl.1 rfl (lv_room (Nat.le_of_ble_eq_true rfl)) dL_best_5 ⟨Nat.le_of_ble_eq_true rfl, Nat.le_of_ble_eq_true rfl⟩) hP hD hS hA [0, 1] rfl rfl rfl (fun H locs q9 ce hP hD hS hcell hv hcl => ?_)
  refine h_catch (E := eIA) hown [⟨0, 9, 12, 19⟩] ⟨0, 9, 16, 13⟩ [] htb (fun z hz => by
      rw [List.mem_singleton.mp hz]
      exact ⟨by decide, eIB, hts (.classLink RL 19 eIB) (by decide +kernel), hH.2.2.2.1⟩) (by decide +kernel) (by decide) (hts (.classLink RL 13 eIA) (by decide +kernel)) hH.1 hcell hv hcl ?_
  refine lv_astore (lv' := [(4, .ref q9), (0, .ref (b 0)), (1, .int x), (2, .int y), (3, .ref oo)]) hx hb dL_best_16 hl (by decide) rfl (fun ls hl => ?_)
  refine lv_iconst (v := nI 2) hx hb dL_best_18 (by decide) ?_
  exact r_i hx hb hr hlocks hP hD hS () rfl rfl dL_best_19

set_option maxHeartbeats 4000000 in
set_option maxRecDepth 100000 in
theorem c_L_stops_b1 (l : Launch) (D : va_G) (cY : Nat → ClassId) (sz : Nat) (b : Nat → Nat) (n : Nat) (k : Nat) (x : Int32) (y : Int32) (oo : Nat) (fO : Nat → Int64) (hlT : l.stackTraces = false) (hn1 : 1 ≤ n) (hn6 : n ≤ 6) (hk1 : 1 ≤ k) (hk12 : k ≤ 12) (hbad : inR x (nI 0) (nI (n - 1)) = false) : vx_Met l yL_stops wsL_stops ({ frames := 13, cells := 1, slots := 6, locals := 360 }) (cPH D cY [.ref (b 0), .int x, .int y, .ref oo] [hO b, cO b (nI n) (nI k), [(oo, .inl (cY 1, 1, .inr (.inl fO)))]] sz) (qI (S := Unit) D cY (fun r uu => r = nI 1) (fun uu => [hO b, cO b (nI n) (nI k), [(oo, .inl (cY 1, 1, .inr (.inl fO)))]]) (va_A ([hO b, cO b (nI n) (nI k), [(oo, .inl (cY 1, 1, .inr (.inl fO)))]] : List va_W).flatten sz)) (q0 (va_A ([hO b, cO b (nI n) (nI k), [(oo, .inl (cY 1, 1, .inr (.inl fO)))]] : List va_W).flatten sz)) 1 6 (va_A ([hO b, cO b (nI n) (nI k), [(oo, .inl (cY 1, 1, .inr (.inl fO)))]] : List va_W).flatten sz) := by
  refine mtH (Qc := fun A => qI (S := Unit) D cY (fun r uu => r = nI 1) (fun uu => [hO b, cO b (nI n) (nI k), [(oo, .inl (cY 1, 1, .inr (.inl fO)))]]) A) (cc := cL_stops) (maxL := 5) (ret := (some .int)) (by decide) rfl (Nat.le_of_ble_eq_true rfl) ?_
  intro p e s m below meth c A ls hx hb hr hml hts hown hlocks hsz hP hK hVK hD hS hA hX hH htb hl
  have hown : s.vm.findClass RL = some m.cls := hown
  have hl : lv_has ls 5 [(0, .ref (b 0)), (1, .int x), (2, .int y), (3, .ref oo)] := hl
  have hP : va_P D vwCl ([hO b, cO b (nI n) (nI k), [(oo, .inl (cY 1, 1, .inr (.inl fO)))]] : List va_W).flatten s.heap := hP
  have hD : va_D A ([hO b, cO b (nI n) (nI k), [(oo, .inl (cY 1, 1, .inr (.inl fO)))]] : List va_W).flatten := hD
  refine lv_aload_n hx hb dL_stops_0 rfl (lv_at hl 3 rfl) ?_
  refine lv_iconst (v := nI 0) hx hb dL_stops_1 (by decide) ?_
  refine lv_aload_n hx hb dL_stops_2 rfl (lv_at hl 0 rfl) ?_
  refine lv_iload_n hx hb dL_stops_3 rfl (lv_at hl 1 rfl) ?_
  refine lv_iload_n hx hb dL_stops_4 rfl (lv_at hl 2 rfl) ?_
  refine xh_i (CL := [hO b, cO b (nI n) (nI k)]) (vx_runV (As := [.int x, .int y]) (rest := [.int (nI 0), .ref oo]) ⟨hx, hb, hml, hown, hts⟩ (c_X8_stops_b1 l D cY s.heap.size b n k x y hlT hn1 hn6 hk1 hk12 hbad) (cwV 2 hts gL_stops_X8_stops rfl rfl rfl (by decide +kernel) ⟨Nat.le_of_ble_eq_true rfl, Nat.le_of_ble_eq_true rfl⟩) (b_preXV hVK hP hD hS hA hX [0, 1] rfl rfl 0 rfl rfl) rfl rfl hl.1 rfl (lv_room (Nat.le_of_ble_eq_true rfl)) dL_stops_5 ⟨Nat.le_of_ble_eq_true rfl, Nat.le_of_ble_eq_true rfl⟩) hP hD hS hA [0, 1] rfl rfl rfl (fun H locs q9 ce hP hD hS hcell hv hcl => ?_)
  refine h_catch (E := eIB) hown [] ⟨0, 17, 20, 19⟩ [⟨0, 17, 24, 13⟩] htb (fun z hz => nomatch hz) (by decide +kernel) (by decide) (hts (.classLink RL 19 eIB) (by decide +kernel)) hH.2.1 hcell hv hcl ?_
  refine lv_astore (lv' := [(4, .ref q9), (0, .ref (b 0)), (1, .int x), (2, .int y), (3, .ref oo)]) hx hb dL_stops_20 hl (by decide) rfl (fun ls hl => ?_)
  refine lv_iconst (v := nI 1) hx hb dL_stops_22 (by decide) ?_
  exact r_i hx hb hr hlocks hP hD hS () rfl rfl dL_stops_23

set_option maxHeartbeats 4000000 in
set_option maxRecDepth 100000 in
theorem c_L_stops_b2 (l : Launch) (D : va_G) (cY : Nat → ClassId) (sz : Nat) (b : Nat → Nat) (n : Nat) (k : Nat) (x : Int32) (y : Int32) (oo : Nat) (fO : Nat → Int64) (hlT : l.stackTraces = false) (hn1 : 1 ≤ n) (hn6 : n ≤ 6) (hk1 : 1 ≤ k) (hk12 : k ≤ 12) (hAa : inR x (nI 0) (nI (n - 1)) = true) (hbad : inR y (nI 0) (nI 12) = false) : vx_Met l yL_stops wsL_stops ({ frames := 13, cells := 1, slots := 6, locals := 360 }) (cPH D cY [.ref (b 0), .int x, .int y, .ref oo] [hO b, cO b (nI n) (nI k), [(oo, .inl (cY 1, 1, .inr (.inl fO)))]] sz) (qI (S := Unit) D cY (fun r uu => r = nI 2) (fun uu => [hO b, cO b (nI n) (nI k), [(oo, .inl (cY 1, 1, .inr (.inl fO)))]]) (va_A ([hO b, cO b (nI n) (nI k), [(oo, .inl (cY 1, 1, .inr (.inl fO)))]] : List va_W).flatten sz)) (q0 (va_A ([hO b, cO b (nI n) (nI k), [(oo, .inl (cY 1, 1, .inr (.inl fO)))]] : List va_W).flatten sz)) 1 6 (va_A ([hO b, cO b (nI n) (nI k), [(oo, .inl (cY 1, 1, .inr (.inl fO)))]] : List va_W).flatten sz) := by
  refine mtH (Qc := fun A => qI (S := Unit) D cY (fun r uu => r = nI 2) (fun uu => [hO b, cO b (nI n) (nI k), [(oo, .inl (cY 1, 1, .inr (.inl fO)))]]) A) (cc := cL_stops) (maxL := 5) (ret := (some .int)) (by decide) rfl (Nat.le_of_ble_eq_true rfl) ?_
  intro p e s m below meth c A ls hx hb hr hml hts hown hlocks hsz hP hK hVK hD hS hA hX hH htb hl
  have hown : s.vm.findClass RL = some m.cls := hown
  have hl : lv_has ls 5 [(0, .ref (b 0)), (1, .int x), (2, .int y), (3, .ref oo)] := hl
  have hP : va_P D vwCl ([hO b, cO b (nI n) (nI k), [(oo, .inl (cY 1, 1, .inr (.inl fO)))]] : List va_W).flatten s.heap := hP
  have hD : va_D A ([hO b, cO b (nI n) (nI k), [(oo, .inl (cY 1, 1, .inr (.inl fO)))]] : List va_W).flatten := hD
  refine lv_aload_n hx hb dL_stops_0 rfl (lv_at hl 3 rfl) ?_
  refine lv_iconst (v := nI 0) hx hb dL_stops_1 (by decide) ?_
  refine lv_aload_n hx hb dL_stops_2 rfl (lv_at hl 0 rfl) ?_
  refine lv_iload_n hx hb dL_stops_3 rfl (lv_at hl 1 rfl) ?_
  refine lv_iload_n hx hb dL_stops_4 rfl (lv_at hl 2 rfl) ?_
  refine xh_i (CL := [hO b, cO b (nI n) (nI k)]) (vx_runV (As := [.int x, .int y]) (rest := [.int (nI 0), .ref oo]) ⟨hx, hb, hml, hown, hts⟩ (c_X8_stops_b2 l D cY s.heap.size b n k x y hlT hn1 hn6 hk1 hk12 hAa hbad) (cwV 2 hts gL_stops_X8_stops rfl rfl rfl (by decide +kernel) ⟨Nat.le_of_ble_eq_true rfl, Nat.le_of_ble_eq_true rfl⟩) (b_preXV hVK hP hD hS hA hX [0, 1] rfl rfl 0 rfl rfl) rfl rfl hl.1 rfl (lv_room (Nat.le_of_ble_eq_true rfl)) dL_stops_5 ⟨Nat.le_of_ble_eq_true rfl, Nat.le_of_ble_eq_true rfl⟩) hP hD hS hA [0, 1] rfl rfl rfl (fun H locs q9 ce hP hD hS hcell hv hcl => ?_)
  refine h_catch (E := eIA) hown [⟨0, 17, 20, 19⟩] ⟨0, 17, 24, 13⟩ [] htb (fun z hz => by
      rw [List.mem_singleton.mp hz]
      exact ⟨by decide, eIB, hts (.classLink RL 19 eIB) (by decide +kernel), hH.2.2.2.1⟩) (by decide +kernel) (by decide) (hts (.classLink RL 13 eIA) (by decide +kernel)) hH.1 hcell hv hcl ?_
  refine lv_astore (lv' := [(4, .ref q9), (0, .ref (b 0)), (1, .int x), (2, .int y), (3, .ref oo)]) hx hb dL_stops_24 hl (by decide) rfl (fun ls hl => ?_)
  refine lv_iconst (v := nI 2) hx hb dL_stops_26 (by decide) ?_
  exact r_i hx hb hr hlocks hP hD hS () rfl rfl dL_stops_27

set_option maxHeartbeats 4000000 in
set_option maxRecDepth 100000 in
theorem c_L_reach_bad (l : Launch) (D : va_G) (cY : Nat → ClassId) (sz : Nat) (b : Nat → Nat) (n : Nat) (k : Nat) (x : Int32) (oo : Nat) (fO : Nat → Int64) (hlT : l.stackTraces = false) (hn1 : 1 ≤ n) (hn6 : n ≤ 6) (hk1 : 1 ≤ k) (hk12 : k ≤ 12) (hbad : inR x (nI 0) (nI (n - 1)) = false) : vx_Met l yL_reach wsL_reach ({ frames := 13, cells := 1, slots := 6, locals := 360 }) (cPH D cY [.ref (b 0), .int x, .ref oo] [hO b, cO b (nI n) (nI k), [(oo, .inl (cY 1, 1, .inr (.inl fO)))]] sz) (qI (S := Unit) D cY (fun r uu => r = nI 1) (fun uu => [hO b, cO b (nI n) (nI k), [(oo, .inl (cY 1, 1, .inr (.inl fO)))]]) (va_A ([hO b, cO b (nI n) (nI k), [(oo, .inl (cY 1, 1, .inr (.inl fO)))]] : List va_W).flatten sz)) (q0 (va_A ([hO b, cO b (nI n) (nI k), [(oo, .inl (cY 1, 1, .inr (.inl fO)))]] : List va_W).flatten sz)) 1 6 (va_A ([hO b, cO b (nI n) (nI k), [(oo, .inl (cY 1, 1, .inr (.inl fO)))]] : List va_W).flatten sz) := by
  refine mtH (Qc := fun A => qI (S := Unit) D cY (fun r uu => r = nI 1) (fun uu => [hO b, cO b (nI n) (nI k), [(oo, .inl (cY 1, 1, .inr (.inl fO)))]]) A) (cc := cL_reach) (maxL := 4) (ret := (some .int)) (by decide) rfl (Nat.le_of_ble_eq_true rfl) ?_
  intro p e s m below meth c A ls hx hb hr hml hts hown hlocks hsz hP hK hVK hD hS hA hX hH htb hl
  have hown : s.vm.findClass RL = some m.cls := hown
  have hl : lv_has ls 4 [(0, .ref (b 0)), (1, .int x), (2, .ref oo)] := hl
  have hP : va_P D vwCl ([hO b, cO b (nI n) (nI k), [(oo, .inl (cY 1, 1, .inr (.inl fO)))]] : List va_W).flatten s.heap := hP
  have hD : va_D A ([hO b, cO b (nI n) (nI k), [(oo, .inl (cY 1, 1, .inr (.inl fO)))]] : List va_W).flatten := hD
  refine lv_aload_n hx hb dL_reach_0 rfl (lv_at hl 2 rfl) ?_
  refine lv_iconst (v := nI 0) hx hb dL_reach_1 (by decide) ?_
  refine lv_aload_n hx hb dL_reach_2 rfl (lv_at hl 0 rfl) ?_
  refine lv_iload_n hx hb dL_reach_3 rfl (lv_at hl 1 rfl) ?_
  refine xh_i (CL := [hO b, cO b (nI n) (nI k)]) (vx_runV (As := [.int x]) (rest := [.int (nI 0), .ref oo]) ⟨hx, hb, hml, hown, hts⟩ (c_X8_reach_bad l D cY s.heap.size b n k x hlT hn1 hn6 hk1 hk12 hbad) (cwV 1 hts gL_reach_X8_reach rfl rfl rfl (by decide +kernel) ⟨Nat.le_of_ble_eq_true rfl, Nat.le_of_ble_eq_true rfl⟩) (b_preXV hVK hP hD hS hA hX [0, 1] rfl rfl 0 rfl rfl) rfl rfl hl.1 rfl (lv_room (Nat.le_of_ble_eq_true rfl)) dL_reach_4 ⟨Nat.le_of_ble_eq_true rfl, Nat.le_of_ble_eq_true rfl⟩) hP hD hS hA [0, 1] rfl rfl rfl (fun H locs q9 ce hP hD hS hcell hv hcl => ?_)
  refine h_catch (E := eIB) hown [] ⟨0, 9, 12, 19⟩ [] htb (fun z hz => nomatch hz) (by decide +kernel) (by decide) (hts (.classLink RL 19 eIB) (by decide +kernel)) hH.2.1 hcell hv hcl ?_
  refine lv_astore_n (lv' := [(3, .ref q9), (0, .ref (b 0)), (1, .int x), (2, .ref oo)]) hx hb dL_reach_12 rfl hl (by decide) rfl (fun ls hl => ?_)
  refine lv_iconst (v := nI 1) hx hb dL_reach_13 (by decide) ?_
  exact r_i hx hb hr hlocks hP hD hS () rfl rfl dL_reach_14

set_option maxHeartbeats 4000000 in
set_option maxRecDepth 100000 in
theorem c_L_period_bad (l : Launch) (D : va_G) (cY : Nat → ClassId) (sz : Nat) (b : Nat → Nat) (n : Nat) (k : Nat) (x : Int32) (oo : Nat) (fO : Nat → Int64) (hlT : l.stackTraces = false) (hn1 : 1 ≤ n) (hn6 : n ≤ 6) (hk1 : 1 ≤ k) (hk12 : k ≤ 12) (hbad : inR x (nI 0) (nI (n - 1)) = false) : vx_Met l yL_period wsL_period ({ frames := 13, cells := 1, slots := 6, locals := 360 }) (cPH D cY [.ref (b 0), .int x, .ref oo] [hO b, cO b (nI n) (nI k), [(oo, .inl (cY 1, 1, .inr (.inl fO)))]] sz) (qI (S := Unit) D cY (fun r uu => r = nI 1) (fun uu => [hO b, cO b (nI n) (nI k), [(oo, .inl (cY 1, 1, .inr (.inl fO)))]]) (va_A ([hO b, cO b (nI n) (nI k), [(oo, .inl (cY 1, 1, .inr (.inl fO)))]] : List va_W).flatten sz)) (q0 (va_A ([hO b, cO b (nI n) (nI k), [(oo, .inl (cY 1, 1, .inr (.inl fO)))]] : List va_W).flatten sz)) 1 6 (va_A ([hO b, cO b (nI n) (nI k), [(oo, .inl (cY 1, 1, .inr (.inl fO)))]] : List va_W).flatten sz) := by
  refine mtH (Qc := fun A => qI (S := Unit) D cY (fun r uu => r = nI 1) (fun uu => [hO b, cO b (nI n) (nI k), [(oo, .inl (cY 1, 1, .inr (.inl fO)))]]) A) (cc := cL_period) (maxL := 4) (ret := (some .int)) (by decide) rfl (Nat.le_of_ble_eq_true rfl) ?_
  intro p e s m below meth c A ls hx hb hr hml hts hown hlocks hsz hP hK hVK hD hS hA hX hH htb hl
  have hown : s.vm.findClass RL = some m.cls := hown
  have hl : lv_has ls 4 [(0, .ref (b 0)), (1, .int x), (2, .ref oo)] := hl
  have hP : va_P D vwCl ([hO b, cO b (nI n) (nI k), [(oo, .inl (cY 1, 1, .inr (.inl fO)))]] : List va_W).flatten s.heap := hP
  have hD : va_D A ([hO b, cO b (nI n) (nI k), [(oo, .inl (cY 1, 1, .inr (.inl fO)))]] : List va_W).flatten := hD
  refine lv_aload_n hx hb dL_period_0 rfl (lv_at hl 2 rfl) ?_
  refine lv_iconst (v := nI 0) hx hb dL_period_1 (by decide) ?_
  refine lv_aload_n hx hb dL_period_2 rfl (lv_at hl 0 rfl) ?_
  refine lv_iload_n hx hb dL_period_3 rfl (lv_at hl 1 rfl) ?_
  refine xh_i (CL := [hO b, cO b (nI n) (nI k)]) (vx_runV (As := [.int x]) (rest := [.int (nI 0), .ref oo]) ⟨hx, hb, hml, hown, hts⟩ (c_X8_period_bad l D cY s.heap.size b n k x hlT hn1 hn6 hk1 hk12 hbad) (cwV 1 hts gL_period_X8_period rfl rfl rfl (by decide +kernel) ⟨Nat.le_of_ble_eq_true rfl, Nat.le_of_ble_eq_true rfl⟩) (b_preXV hVK hP hD hS hA hX [0, 1] rfl rfl 0 rfl rfl) rfl rfl hl.1 rfl (lv_room (Nat.le_of_ble_eq_true rfl)) dL_period_4 ⟨Nat.le_of_ble_eq_true rfl, Nat.le_of_ble_eq_true rfl⟩) hP hD hS hA [0, 1] rfl rfl rfl (fun H locs q9 ce hP hD hS hcell hv hcl => ?_)
  refine h_catch (E := eIB) hown [] ⟨0, 9, 12, 19⟩ [] htb (fun z hz => nomatch hz) (by decide +kernel) (by decide) (hts (.classLink RL 19 eIB) (by decide +kernel)) hH.2.1 hcell hv hcl ?_
  refine lv_astore_n (lv' := [(3, .ref q9), (0, .ref (b 0)), (1, .int x), (2, .ref oo)]) hx hb dL_period_12 rfl hl (by decide) rfl (fun ls hl => ?_)
  refine lv_iconst (v := nI 1) hx hb dL_period_13 (by decide) ?_
  exact r_i hx hb hr hlocks hP hD hS () rfl rfl dL_period_14

set_option maxHeartbeats 4000000 in
set_option maxRecDepth 100000 in
theorem c_L_drift_bad (l : Launch) (D : va_G) (cY : Nat → ClassId) (sz : Nat) (b : Nat → Nat) (n : Nat) (k : Nat) (x : Int32) (oo : Nat) (fO : Nat → Int64) (hlT : l.stackTraces = false) (hn1 : 1 ≤ n) (hn6 : n ≤ 6) (hk1 : 1 ≤ k) (hk12 : k ≤ 12) (hbad : inR x (nI 0) (nI (n - 1)) = false) : vx_Met l yL_drift wsL_drift ({ frames := 13, cells := 1, slots := 6, locals := 360 }) (cPH D cY [.ref (b 0), .int x, .ref oo] [hO b, cO b (nI n) (nI k), [(oo, .inl (cY 1, 1, .inr (.inl fO)))]] sz) (qI (S := Unit) D cY (fun r uu => r = nI 1) (fun uu => [hO b, cO b (nI n) (nI k), [(oo, .inl (cY 1, 1, .inr (.inl fO)))]]) (va_A ([hO b, cO b (nI n) (nI k), [(oo, .inl (cY 1, 1, .inr (.inl fO)))]] : List va_W).flatten sz)) (q0 (va_A ([hO b, cO b (nI n) (nI k), [(oo, .inl (cY 1, 1, .inr (.inl fO)))]] : List va_W).flatten sz)) 1 6 (va_A ([hO b, cO b (nI n) (nI k), [(oo, .inl (cY 1, 1, .inr (.inl fO)))]] : List va_W).flatten sz) := by
  refine mtH (Qc := fun A => qI (S := Unit) D cY (fun r uu => r = nI 1) (fun uu => [hO b, cO b (nI n) (nI k), [(oo, .inl (cY 1, 1, .inr (.inl fO)))]]) A) (cc := cL_drift) (maxL := 4) (ret := (some .int)) (by decide) rfl (Nat.le_of_ble_eq_true rfl) ?_
  intro p e s m below meth c A ls hx hb hr hml hts hown hlocks hsz hP hK hVK hD hS hA hX hH htb hl
  have hown : s.vm.findClass RL = some m.cls := hown
  have hl : lv_has ls 4 [(0, .ref (b 0)), (1, .int x), (2, .ref oo)] := hl
  have hP : va_P D vwCl ([hO b, cO b (nI n) (nI k), [(oo, .inl (cY 1, 1, .inr (.inl fO)))]] : List va_W).flatten s.heap := hP
  have hD : va_D A ([hO b, cO b (nI n) (nI k), [(oo, .inl (cY 1, 1, .inr (.inl fO)))]] : List va_W).flatten := hD
  refine lv_aload_n hx hb dL_drift_0 rfl (lv_at hl 2 rfl) ?_
  refine lv_iconst (v := nI 0) hx hb dL_drift_1 (by decide) ?_
  refine lv_aload_n hx hb dL_drift_2 rfl (lv_at hl 0 rfl) ?_
  refine lv_iload_n hx hb dL_drift_3 rfl (lv_at hl 1 rfl) ?_
  refine xh_l (CL := [hO b, cO b (nI n) (nI k)]) (vx_runV (As := [.int x]) (rest := [.int (nI 0), .ref oo]) ⟨hx, hb, hml, hown, hts⟩ (c_X8_drift_bad l D cY s.heap.size b n k x hlT hn1 hn6 hk1 hk12 hbad) (cwV 1 hts gL_drift_X8_drift rfl rfl rfl (by decide +kernel) ⟨Nat.le_of_ble_eq_true rfl, Nat.le_of_ble_eq_true rfl⟩) (b_preXV hVK hP hD hS hA hX [0, 1] rfl rfl 0 rfl rfl) rfl rfl hl.1 rfl (lv_room (Nat.le_of_ble_eq_true rfl)) dL_drift_4 ⟨Nat.le_of_ble_eq_true rfl, Nat.le_of_ble_eq_true rfl⟩) hP hD hS hA [0, 1] rfl rfl rfl (fun H locs q9 ce hP hD hS hcell hv hcl => ?_)
  refine h_catch (E := eIB) hown [] ⟨0, 8, 11, 19⟩ [] htb (fun z hz => nomatch hz) (by decide +kernel) (by decide) (hts (.classLink RL 19 eIB) (by decide +kernel)) hH.2.1 hcell hv hcl ?_
  refine lv_astore_n (lv' := [(3, .ref q9), (0, .ref (b 0)), (1, .int x), (2, .ref oo)]) hx hb dL_drift_11 rfl hl (by decide) rfl (fun ls hl => ?_)
  refine lv_iconst (v := nI 1) hx hb dL_drift_12 (by decide) ?_
  exact r_i hx hb hr hlocks hP hD hS () rfl rfl dL_drift_13

set_option maxHeartbeats 4000000 in
set_option maxRecDepth 100000 in
theorem c_L_rest_bad (l : Launch) (D : va_G) (cY : Nat → ClassId) (sz : Nat) (b : Nat → Nat) (n : Nat) (k : Nat) (x : Int32) (oo : Nat) (fO : Nat → Int64) (hlT : l.stackTraces = false) (hn1 : 1 ≤ n) (hn6 : n ≤ 6) (hk1 : 1 ≤ k) (hk12 : k ≤ 12) (hm1 : ¬ x = (-1)) (hbad : inR x (nI 0) (nI (n - 1)) = false) : vx_Met l yL_rest wsL_rest ({ frames := 13, cells := 1, slots := 6, locals := 360 }) (cPH D cY [.ref (b 0), .int x, .ref oo] [hO b, cO b (nI n) (nI k), [(oo, .inl (cY 1, 1, .inr (.inl fO)))]] sz) (qI (S := Unit) D cY (fun r uu => r = nI 1) (fun uu => [hO b, cO b (nI n) (nI k), [(oo, .inl (cY 1, 1, .inr (.inl fO)))]]) (va_A ([hO b, cO b (nI n) (nI k), [(oo, .inl (cY 1, 1, .inr (.inl fO)))]] : List va_W).flatten sz)) (q0 (va_A ([hO b, cO b (nI n) (nI k), [(oo, .inl (cY 1, 1, .inr (.inl fO)))]] : List va_W).flatten sz)) 1 6 (va_A ([hO b, cO b (nI n) (nI k), [(oo, .inl (cY 1, 1, .inr (.inl fO)))]] : List va_W).flatten sz) := by
  refine mtH (Qc := fun A => qI (S := Unit) D cY (fun r uu => r = nI 1) (fun uu => [hO b, cO b (nI n) (nI k), [(oo, .inl (cY 1, 1, .inr (.inl fO)))]]) A) (cc := cL_rest) (maxL := 4) (ret := (some .int)) (by decide) rfl (Nat.le_of_ble_eq_true rfl) ?_
  intro p e s m below meth c A ls hx hb hr hml hts hown hlocks hsz hP hK hVK hD hS hA hX hH htb hl
  have hown : s.vm.findClass RL = some m.cls := hown
  have hl : lv_has ls 4 [(0, .ref (b 0)), (1, .int x), (2, .ref oo)] := hl
  have hP : va_P D vwCl ([hO b, cO b (nI n) (nI k), [(oo, .inl (cY 1, 1, .inr (.inl fO)))]] : List va_W).flatten s.heap := hP
  have hD : va_D A ([hO b, cO b (nI n) (nI k), [(oo, .inl (cY 1, 1, .inr (.inl fO)))]] : List va_W).flatten := hD
  refine lv_aload_n hx hb dL_rest_0 rfl (lv_at hl 2 rfl) ?_
  refine lv_iconst (v := nI 0) hx hb dL_rest_1 (by decide) ?_
  refine lv_aload_n hx hb dL_rest_2 rfl (lv_at hl 0 rfl) ?_
  refine lv_iload_n hx hb dL_rest_3 rfl (lv_at hl 1 rfl) ?_
  refine xh_l (CL := [hO b, cO b (nI n) (nI k)]) (vx_runV (As := [.int x]) (rest := [.int (nI 0), .ref oo]) ⟨hx, hb, hml, hown, hts⟩ (c_X8_rest_bad l D cY s.heap.size b n k x hlT hn1 hn6 hk1 hk12 hm1 hbad) (cwV 1 hts gL_rest_X8_rest rfl rfl rfl (by decide +kernel) ⟨Nat.le_of_ble_eq_true rfl, Nat.le_of_ble_eq_true rfl⟩) (b_preXV hVK hP hD hS hA hX [0, 1] rfl rfl 0 rfl rfl) rfl rfl hl.1 rfl (lv_room (Nat.le_of_ble_eq_true rfl)) dL_rest_4 ⟨Nat.le_of_ble_eq_true rfl, Nat.le_of_ble_eq_true rfl⟩) hP hD hS hA [0, 1] rfl rfl rfl (fun H locs q9 ce hP hD hS hcell hv hcl => ?_)
  refine h_catch (E := eIB) hown [] ⟨0, 8, 11, 19⟩ [] htb (fun z hz => nomatch hz) (by decide +kernel) (by decide) (hts (.classLink RL 19 eIB) (by decide +kernel)) hH.2.1 hcell hv hcl ?_
  refine lv_astore_n (lv' := [(3, .ref q9), (0, .ref (b 0)), (1, .int x), (2, .ref oo)]) hx hb dL_rest_11 rfl hl (by decide) rfl (fun ls hl => ?_)
  refine lv_iconst (v := nI 1) hx hb dL_rest_12 (by decide) ?_
  exact r_i hx hb hr hlocks hP hD hS () rfl rfl dL_rest_13

set_option maxHeartbeats 4000000 in
set_option maxRecDepth 100000 in
theorem c_L_mixing_bad (l : Launch) (D : va_G) (cY : Nat → ClassId) (sz : Nat) (b : Nat → Nat) (n : Nat) (k : Nat) (x : Int32) (oo : Nat) (fO : Nat → Int64) (hlT : l.stackTraces = false) (hn1 : 1 ≤ n) (hn6 : n ≤ 6) (hk1 : 1 ≤ k) (hk12 : k ≤ 12) (hbad : inR x (nI 0) (nI 1000) = false) : vx_Met l yL_mixing wsL_mixing ({ frames := 13, cells := 1, slots := 6, locals := 360 }) (cPH D cY [.ref (b 0), .int x, .ref oo] [hO b, cO b (nI n) (nI k), [(oo, .inl (cY 1, 1, .inr (.inl fO)))]] sz) (qI (S := Unit) D cY (fun r uu => r = nI 1) (fun uu => [hO b, cO b (nI n) (nI k), [(oo, .inl (cY 1, 1, .inr (.inl fO)))]]) (va_A ([hO b, cO b (nI n) (nI k), [(oo, .inl (cY 1, 1, .inr (.inl fO)))]] : List va_W).flatten sz)) (q0 (va_A ([hO b, cO b (nI n) (nI k), [(oo, .inl (cY 1, 1, .inr (.inl fO)))]] : List va_W).flatten sz)) 1 6 (va_A ([hO b, cO b (nI n) (nI k), [(oo, .inl (cY 1, 1, .inr (.inl fO)))]] : List va_W).flatten sz) := by
  refine mtH (Qc := fun A => qI (S := Unit) D cY (fun r uu => r = nI 1) (fun uu => [hO b, cO b (nI n) (nI k), [(oo, .inl (cY 1, 1, .inr (.inl fO)))]]) A) (cc := cL_mixing) (maxL := 4) (ret := (some .int)) (by decide) rfl (Nat.le_of_ble_eq_true rfl) ?_
  intro p e s m below meth c A ls hx hb hr hml hts hown hlocks hsz hP hK hVK hD hS hA hX hH htb hl
  have hown : s.vm.findClass RL = some m.cls := hown
  have hl : lv_has ls 4 [(0, .ref (b 0)), (1, .int x), (2, .ref oo)] := hl
  have hP : va_P D vwCl ([hO b, cO b (nI n) (nI k), [(oo, .inl (cY 1, 1, .inr (.inl fO)))]] : List va_W).flatten s.heap := hP
  have hD : va_D A ([hO b, cO b (nI n) (nI k), [(oo, .inl (cY 1, 1, .inr (.inl fO)))]] : List va_W).flatten := hD
  refine lv_aload_n hx hb dL_mixing_0 rfl (lv_at hl 2 rfl) ?_
  refine lv_iconst (v := nI 0) hx hb dL_mixing_1 (by decide) ?_
  refine lv_aload_n hx hb dL_mixing_2 rfl (lv_at hl 0 rfl) ?_
  refine lv_iload_n hx hb dL_mixing_3 rfl (lv_at hl 1 rfl) ?_
  refine xh_i (CL := [hO b, cO b (nI n) (nI k)]) (vx_runV (As := [.int x]) (rest := [.int (nI 0), .ref oo]) ⟨hx, hb, hml, hown, hts⟩ (c_X8_mixing_bad l D cY s.heap.size b n k x hlT hn1 hn6 hk1 hk12 hbad) (cwV 1 hts gL_mixing_X8_mixing rfl rfl rfl (by decide +kernel) ⟨Nat.le_of_ble_eq_true rfl, Nat.le_of_ble_eq_true rfl⟩) (b_preXV hVK hP hD hS hA hX [0, 1] rfl rfl 0 rfl rfl) rfl rfl hl.1 rfl (lv_room (Nat.le_of_ble_eq_true rfl)) dL_mixing_4 ⟨Nat.le_of_ble_eq_true rfl, Nat.le_of_ble_eq_true rfl⟩) hP hD hS hA [0, 1] rfl rfl rfl (fun H locs q9 ce hP hD hS hcell hv hcl => ?_)
  refine h_catch (E := eIA) hown [] ⟨0, 9, 12, 13⟩ [] htb (fun z hz => nomatch hz) (by decide +kernel) (by decide) (hts (.classLink RL 13 eIA) (by decide +kernel)) hH.1 hcell hv hcl ?_
  refine lv_astore_n (lv' := [(3, .ref q9), (0, .ref (b 0)), (1, .int x), (2, .ref oo)]) hx hb dL_mixing_12 rfl hl (by decide) rfl (fun ls hl => ?_)
  refine lv_iconst (v := nI 1) hx hb dL_mixing_13 (by decide) ?_
  exact r_i hx hb hr hlocks hP hD hS () rfl rfl dL_mixing_14

set_option maxHeartbeats 4000000 in
set_option maxRecDepth 100000 in
theorem c_L_draw_bad (l : Launch) (D : va_G) (cY : Nat → ClassId) (sz : Nat) (b : Nat → Nat) (n : Nat) (k : Nat) (x : Int32) (oo : Nat) (fO : Nat → Int64) (hlT : l.stackTraces = false) (hn1 : 1 ≤ n) (hn6 : n ≤ 6) (hk1 : 1 ≤ k) (hk12 : k ≤ 12) (hbad : inR x (nI 0) (nI 65520) = false) : vx_Met l yL_draw wsL_draw ({ frames := 13, cells := 1, slots := 6, locals := 360 }) (cPH D cY [.ref (b 0), .int x, .ref oo] [hO b, cO b (nI n) (nI k), [(oo, .inl (cY 1, 1, .inr (.inl fO)))]] sz) (qI (S := Unit) D cY (fun r uu => r = nI 1) (fun uu => [hO b, cO b (nI n) (nI k), [(oo, .inl (cY 1, 1, .inr (.inl fO)))]]) (va_A ([hO b, cO b (nI n) (nI k), [(oo, .inl (cY 1, 1, .inr (.inl fO)))]] : List va_W).flatten sz)) (q0 (va_A ([hO b, cO b (nI n) (nI k), [(oo, .inl (cY 1, 1, .inr (.inl fO)))]] : List va_W).flatten sz)) 1 6 (va_A ([hO b, cO b (nI n) (nI k), [(oo, .inl (cY 1, 1, .inr (.inl fO)))]] : List va_W).flatten sz) := by
  refine mtH (Qc := fun A => qI (S := Unit) D cY (fun r uu => r = nI 1) (fun uu => [hO b, cO b (nI n) (nI k), [(oo, .inl (cY 1, 1, .inr (.inl fO)))]]) A) (cc := cL_draw) (maxL := 4) (ret := (some .int)) (by decide) rfl (Nat.le_of_ble_eq_true rfl) ?_
  intro p e s m below meth c A ls hx hb hr hml hts hown hlocks hsz hP hK hVK hD hS hA hX hH htb hl
  have hown : s.vm.findClass RL = some m.cls := hown
  have hl : lv_has ls 4 [(0, .ref (b 0)), (1, .int x), (2, .ref oo)] := hl
  have hP : va_P D vwCl ([hO b, cO b (nI n) (nI k), [(oo, .inl (cY 1, 1, .inr (.inl fO)))]] : List va_W).flatten s.heap := hP
  have hD : va_D A ([hO b, cO b (nI n) (nI k), [(oo, .inl (cY 1, 1, .inr (.inl fO)))]] : List va_W).flatten := hD
  refine lv_aload_n hx hb dL_draw_0 rfl (lv_at hl 2 rfl) ?_
  refine lv_iconst (v := nI 0) hx hb dL_draw_1 (by decide) ?_
  refine lv_aload_n hx hb dL_draw_2 rfl (lv_at hl 0 rfl) ?_
  refine lv_iload_n hx hb dL_draw_3 rfl (lv_at hl 1 rfl) ?_
  refine xh_i (CL := [hO b, cO b (nI n) (nI k)]) (vx_runV (As := [.int x]) (rest := [.int (nI 0), .ref oo]) ⟨hx, hb, hml, hown, hts⟩ (c_X8_draw_bad l D cY s.heap.size b n k x hlT hn1 hn6 hk1 hk12 hbad) (cwV 1 hts gL_draw_X8_draw rfl rfl rfl (by decide +kernel) ⟨Nat.le_of_ble_eq_true rfl, Nat.le_of_ble_eq_true rfl⟩) (b_preXV hVK hP hD hS hA hX [0, 1] rfl rfl 0 rfl rfl) rfl rfl hl.1 rfl (lv_room (Nat.le_of_ble_eq_true rfl)) dL_draw_4 ⟨Nat.le_of_ble_eq_true rfl, Nat.le_of_ble_eq_true rfl⟩) hP hD hS hA [0, 1] rfl rfl rfl (fun H locs q9 ce hP hD hS hcell hv hcl => ?_)
  refine h_catch (E := eIA) hown [] ⟨0, 9, 12, 13⟩ [] htb (fun z hz => nomatch hz) (by decide +kernel) (by decide) (hts (.classLink RL 13 eIA) (by decide +kernel)) hH.1 hcell hv hcl ?_
  refine lv_astore_n (lv' := [(3, .ref q9), (0, .ref (b 0)), (1, .int x), (2, .ref oo)]) hx hb dL_draw_12 rfl hl (by decide) rfl (fun ls hl => ?_)
  refine lv_iconst (v := nI 1) hx hb dL_draw_13 (by decide) ?_
  exact r_i hx hb hr hlocks hP hD hS () rfl rfl dL_draw_14

set_option maxHeartbeats 4000000 in
set_option maxRecDepth 100000 in
theorem c_L_walk_b1 (l : Launch) (D : va_G) (cY : Nat → ClassId) (sz : Nat) (b : Nat → Nat) (n : Nat) (k : Nat) (x : Int32) (y : Int32) (z : Int32) (oo : Nat) (fO : Nat → Int64) (hlT : l.stackTraces = false) (hn1 : 1 ≤ n) (hn6 : n ≤ 6) (hk1 : 1 ≤ k) (hk12 : k ≤ 12) (hbad : inR x (nI 0) (nI (n - 1)) = false) : vx_Met l yL_walk wsL_walk ({ frames := 13, cells := 1, slots := 6, locals := 360 }) (cPH D cY [.ref (b 0), .int x, .int y, .int z, .ref oo] [hO b, cO b (nI n) (nI k), [(oo, .inl (cY 1, 1, .inr (.inl fO)))]] sz) (qI (S := Unit) D cY (fun r uu => r = nI 1) (fun uu => [hO b, cO b (nI n) (nI k), [(oo, .inl (cY 1, 1, .inr (.inl fO)))]]) (va_A ([hO b, cO b (nI n) (nI k), [(oo, .inl (cY 1, 1, .inr (.inl fO)))]] : List va_W).flatten sz)) (q0 (va_A ([hO b, cO b (nI n) (nI k), [(oo, .inl (cY 1, 1, .inr (.inl fO)))]] : List va_W).flatten sz)) 1 6 (va_A ([hO b, cO b (nI n) (nI k), [(oo, .inl (cY 1, 1, .inr (.inl fO)))]] : List va_W).flatten sz) := by
  refine mtH (Qc := fun A => qI (S := Unit) D cY (fun r uu => r = nI 1) (fun uu => [hO b, cO b (nI n) (nI k), [(oo, .inl (cY 1, 1, .inr (.inl fO)))]]) A) (cc := cL_walk) (maxL := 6) (ret := (some .int)) (by decide) rfl (Nat.le_of_ble_eq_true rfl) ?_
  intro p e s m below meth c A ls hx hb hr hml hts hown hlocks hsz hP hK hVK hD hS hA hX hH htb hl
  have hown : s.vm.findClass RL = some m.cls := hown
  have hl : lv_has ls 6 [(0, .ref (b 0)), (1, .int x), (2, .int y), (3, .int z), (4, .ref oo)] := hl
  have hP : va_P D vwCl ([hO b, cO b (nI n) (nI k), [(oo, .inl (cY 1, 1, .inr (.inl fO)))]] : List va_W).flatten s.heap := hP
  have hD : va_D A ([hO b, cO b (nI n) (nI k), [(oo, .inl (cY 1, 1, .inr (.inl fO)))]] : List va_W).flatten := hD
  refine lv_aload hx hb dL_walk_0 (lv_at hl 4 rfl) ?_
  refine lv_iconst (v := nI 0) hx hb dL_walk_2 (by decide) ?_
  refine lv_aload_n hx hb dL_walk_3 rfl (lv_at hl 0 rfl) ?_
  refine lv_iload_n hx hb dL_walk_4 rfl (lv_at hl 1 rfl) ?_
  refine lv_iload_n hx hb dL_walk_5 rfl (lv_at hl 2 rfl) ?_
  refine lv_iload_n hx hb dL_walk_6 rfl (lv_at hl 3 rfl) ?_
  refine xh_i (CL := [hO b, cO b (nI n) (nI k)]) (vx_runV (As := [.int x, .int y, .int z]) (rest := [.int (nI 0), .ref oo]) ⟨hx, hb, hml, hown, hts⟩ (c_X8_walk_b1 l D cY s.heap.size b n k x y z hlT hn1 hn6 hk1 hk12 hbad) (cwV 3 hts gL_walk_X8_walk rfl rfl rfl (by decide +kernel) ⟨Nat.le_of_ble_eq_true rfl, Nat.le_of_ble_eq_true rfl⟩) (b_preXV hVK hP hD hS hA hX [0, 1] rfl rfl 0 rfl rfl) rfl rfl hl.1 rfl (lv_room (Nat.le_of_ble_eq_true rfl)) dL_walk_7 ⟨Nat.le_of_ble_eq_true rfl, Nat.le_of_ble_eq_true rfl⟩) hP hD hS hA [0, 1] rfl rfl rfl (fun H locs q9 ce hP hD hS hcell hv hcl => ?_)
  refine h_catch (E := eIB) hown [] ⟨0, 12, 15, 19⟩ [⟨0, 12, 19, 13⟩] htb (fun z hz => nomatch hz) (by decide +kernel) (by decide) (hts (.classLink RL 19 eIB) (by decide +kernel)) hH.2.1 hcell hv hcl ?_
  refine lv_astore (lv' := [(5, .ref q9), (0, .ref (b 0)), (1, .int x), (2, .int y), (3, .int z), (4, .ref oo)]) hx hb dL_walk_15 hl (by decide) rfl (fun ls hl => ?_)
  refine lv_iconst (v := nI 1) hx hb dL_walk_17 (by decide) ?_
  exact r_i hx hb hr hlocks hP hD hS () rfl rfl dL_walk_18

set_option maxHeartbeats 4000000 in
set_option maxRecDepth 100000 in
theorem c_L_walk_b2 (l : Launch) (D : va_G) (cY : Nat → ClassId) (sz : Nat) (b : Nat → Nat) (n : Nat) (k : Nat) (x : Int32) (y : Int32) (z : Int32) (oo : Nat) (fO : Nat → Int64) (hlT : l.stackTraces = false) (hn1 : 1 ≤ n) (hn6 : n ≤ 6) (hk1 : 1 ≤ k) (hk12 : k ≤ 12) (hAa : inR x (nI 0) (nI (n - 1)) = true) (hbad : (inR y (nI 0) (nI 65520) && inR z (nI 0) (nI 1000)) = false) : vx_Met l yL_walk wsL_walk ({ frames := 13, cells := 1, slots := 6, locals := 360 }) (cPH D cY [.ref (b 0), .int x, .int y, .int z, .ref oo] [hO b, cO b (nI n) (nI k), [(oo, .inl (cY 1, 1, .inr (.inl fO)))]] sz) (qI (S := Unit) D cY (fun r uu => r = nI 2) (fun uu => [hO b, cO b (nI n) (nI k), [(oo, .inl (cY 1, 1, .inr (.inl fO)))]]) (va_A ([hO b, cO b (nI n) (nI k), [(oo, .inl (cY 1, 1, .inr (.inl fO)))]] : List va_W).flatten sz)) (q0 (va_A ([hO b, cO b (nI n) (nI k), [(oo, .inl (cY 1, 1, .inr (.inl fO)))]] : List va_W).flatten sz)) 1 6 (va_A ([hO b, cO b (nI n) (nI k), [(oo, .inl (cY 1, 1, .inr (.inl fO)))]] : List va_W).flatten sz) := by
  refine mtH (Qc := fun A => qI (S := Unit) D cY (fun r uu => r = nI 2) (fun uu => [hO b, cO b (nI n) (nI k), [(oo, .inl (cY 1, 1, .inr (.inl fO)))]]) A) (cc := cL_walk) (maxL := 6) (ret := (some .int)) (by decide) rfl (Nat.le_of_ble_eq_true rfl) ?_
  intro p e s m below meth c A ls hx hb hr hml hts hown hlocks hsz hP hK hVK hD hS hA hX hH htb hl
  have hown : s.vm.findClass RL = some m.cls := hown
  have hl : lv_has ls 6 [(0, .ref (b 0)), (1, .int x), (2, .int y), (3, .int z), (4, .ref oo)] := hl
  have hP : va_P D vwCl ([hO b, cO b (nI n) (nI k), [(oo, .inl (cY 1, 1, .inr (.inl fO)))]] : List va_W).flatten s.heap := hP
  have hD : va_D A ([hO b, cO b (nI n) (nI k), [(oo, .inl (cY 1, 1, .inr (.inl fO)))]] : List va_W).flatten := hD
  refine lv_aload hx hb dL_walk_0 (lv_at hl 4 rfl) ?_
  refine lv_iconst (v := nI 0) hx hb dL_walk_2 (by decide) ?_
  refine lv_aload_n hx hb dL_walk_3 rfl (lv_at hl 0 rfl) ?_
  refine lv_iload_n hx hb dL_walk_4 rfl (lv_at hl 1 rfl) ?_
  refine lv_iload_n hx hb dL_walk_5 rfl (lv_at hl 2 rfl) ?_
  refine lv_iload_n hx hb dL_walk_6 rfl (lv_at hl 3 rfl) ?_
  refine xh_i (CL := [hO b, cO b (nI n) (nI k)]) (vx_runV (As := [.int x, .int y, .int z]) (rest := [.int (nI 0), .ref oo]) ⟨hx, hb, hml, hown, hts⟩ (c_X8_walk_b2 l D cY s.heap.size b n k x y z hlT hn1 hn6 hk1 hk12 hAa hbad) (cwV 3 hts gL_walk_X8_walk rfl rfl rfl (by decide +kernel) ⟨Nat.le_of_ble_eq_true rfl, Nat.le_of_ble_eq_true rfl⟩) (b_preXV hVK hP hD hS hA hX [0, 1] rfl rfl 0 rfl rfl) rfl rfl hl.1 rfl (lv_room (Nat.le_of_ble_eq_true rfl)) dL_walk_7 ⟨Nat.le_of_ble_eq_true rfl, Nat.le_of_ble_eq_true rfl⟩) hP hD hS hA [0, 1] rfl rfl rfl (fun H locs q9 ce hP hD hS hcell hv hcl => ?_)
  refine h_catch (E := eIA) hown [⟨0, 12, 15, 19⟩] ⟨0, 12, 19, 13⟩ [] htb (fun z hz => by
      rw [List.mem_singleton.mp hz]
      exact ⟨by decide, eIB, hts (.classLink RL 19 eIB) (by decide +kernel), hH.2.2.2.1⟩) (by decide +kernel) (by decide) (hts (.classLink RL 13 eIA) (by decide +kernel)) hH.1 hcell hv hcl ?_
  refine lv_astore (lv' := [(5, .ref q9), (0, .ref (b 0)), (1, .int x), (2, .int y), (3, .int z), (4, .ref oo)]) hx hb dL_walk_19 hl (by decide) rfl (fun ls hl => ?_)
  refine lv_iconst (v := nI 2) hx hb dL_walk_21 (by decide) ?_
  exact r_i hx hb hr hlocks hP hD hS () rfl rfl dL_walk_22

set_option maxHeartbeats 4000000 in
set_option maxRecDepth 100000 in
theorem c_L_ranked_bad (l : Launch) (D : va_G) (cY : Nat → ClassId) (sz : Nat) (b : Nat → Nat) (n : Nat) (k : Nat) (x : Int32) (oo : Nat) (fO : Nat → Int64) (hlT : l.stackTraces = false) (hn1 : 1 ≤ n) (hn6 : n ≤ 6) (hk1 : 1 ≤ k) (hk12 : k ≤ 12) (hbad : x < 0) : vx_Met l yL_ranked wsL_ranked ({ frames := 13, cells := 1, slots := 6, locals := 360 }) (cPH D cY [.ref (b 0), .int x, .ref oo] [hO b, cO b (nI n) (nI k), [(oo, .inl (cY 1, 1, .inr (.inl fO)))]] sz) (qI (S := Unit) D cY (fun r uu => r = nI 1) (fun uu => [hO b, cO b (nI n) (nI k), [(oo, .inl (cY 1, 1, .inr (.inl fO)))]]) (va_A ([hO b, cO b (nI n) (nI k), [(oo, .inl (cY 1, 1, .inr (.inl fO)))]] : List va_W).flatten sz)) (q0 (va_A ([hO b, cO b (nI n) (nI k), [(oo, .inl (cY 1, 1, .inr (.inl fO)))]] : List va_W).flatten sz)) 1 6 (va_A ([hO b, cO b (nI n) (nI k), [(oo, .inl (cY 1, 1, .inr (.inl fO)))]] : List va_W).flatten sz) := by
  refine mtH (Qc := fun A => qI (S := Unit) D cY (fun r uu => r = nI 1) (fun uu => [hO b, cO b (nI n) (nI k), [(oo, .inl (cY 1, 1, .inr (.inl fO)))]]) A) (cc := cL_ranked) (maxL := 4) (ret := (some .int)) (by decide) rfl (Nat.le_of_ble_eq_true rfl) ?_
  intro p e s m below meth c A ls hx hb hr hml hts hown hlocks hsz hP hK hVK hD hS hA hX hH htb hl
  have hown : s.vm.findClass RL = some m.cls := hown
  have hl : lv_has ls 4 [(0, .ref (b 0)), (1, .int x), (2, .ref oo)] := hl
  have hP : va_P D vwCl ([hO b, cO b (nI n) (nI k), [(oo, .inl (cY 1, 1, .inr (.inl fO)))]] : List va_W).flatten s.heap := hP
  have hD : va_D A ([hO b, cO b (nI n) (nI k), [(oo, .inl (cY 1, 1, .inr (.inl fO)))]] : List va_W).flatten := hD
  refine lv_aload_n hx hb dL_ranked_0 rfl (lv_at hl 2 rfl) ?_
  refine lv_iconst (v := nI 0) hx hb dL_ranked_1 (by decide) ?_
  refine lv_aload_n hx hb dL_ranked_2 rfl (lv_at hl 0 rfl) ?_
  refine lv_iload_n hx hb dL_ranked_3 rfl (lv_at hl 1 rfl) ?_
  refine xh_i (CL := [hO b, cO b (nI n) (nI k)]) (vx_runV (As := [.int x]) (rest := [.int (nI 0), .ref oo]) ⟨hx, hb, hml, hown, hts⟩ (c_X8_ranked_bad l D cY s.heap.size b n k x hlT hn1 hn6 hk1 hk12 hbad) (cwV 1 hts gL_ranked_X8_ranked rfl rfl rfl (by decide +kernel) ⟨Nat.le_of_ble_eq_true rfl, Nat.le_of_ble_eq_true rfl⟩) (b_preXV hVK hP hD hS hA hX [0, 1] rfl rfl 0 rfl rfl) rfl rfl hl.1 rfl (lv_room (Nat.le_of_ble_eq_true rfl)) dL_ranked_4 ⟨Nat.le_of_ble_eq_true rfl, Nat.le_of_ble_eq_true rfl⟩) hP hD hS hA [0, 1] rfl rfl rfl (fun H locs q9 ce hP hD hS hcell hv hcl => ?_)
  refine h_catch (E := eIB) hown [] ⟨0, 9, 12, 19⟩ [] htb (fun z hz => nomatch hz) (by decide +kernel) (by decide) (hts (.classLink RL 19 eIB) (by decide +kernel)) hH.2.1 hcell hv hcl ?_
  refine lv_astore_n (lv' := [(3, .ref q9), (0, .ref (b 0)), (1, .int x), (2, .ref oo)]) hx hb dL_ranked_12 rfl hl (by decide) rfl (fun ls hl => ?_)
  refine lv_iconst (v := nI 1) hx hb dL_ranked_13 (by decide) ?_
  exact r_i hx hb hr hlocks hP hD hS () rfl rfl dL_ranked_14

set_option maxHeartbeats 4000000 in
set_option maxRecDepth 100000 in
theorem c_L_share_b1 (l : Launch) (D : va_G) (cY : Nat → ClassId) (sz : Nat) (b : Nat → Nat) (n : Nat) (k : Nat) (x : Int32) (oo : Nat) (fO : Nat → UInt64) (hlT : l.stackTraces = false) (hn1 : 1 ≤ n) (hn6 : n ≤ 6) (hk1 : 1 ≤ k) (hk12 : k ≤ 12) (hbad : inR x (nI 0) (nI (n - 1)) = false) : vx_Met l yL_share wsL_share ({ frames := 13, cells := 1, slots := 6, locals := 360 }) (cPH D cY [.ref (b 0), .int x, .ref oo] [hO b, cO b (nI n) (nI k), [(oo, .inl (cY 4, 1, .inr (.inr (.inr (.inl fO)))))]] sz) (qI (S := Unit) D cY (fun r uu => r = nI 1) (fun uu => [hO b, cO b (nI n) (nI k), [(oo, .inl (cY 4, 1, .inr (.inr (.inr (.inl fO)))))]]) (va_A ([hO b, cO b (nI n) (nI k), [(oo, .inl (cY 4, 1, .inr (.inr (.inr (.inl fO)))))]] : List va_W).flatten sz)) (q0 (va_A ([hO b, cO b (nI n) (nI k), [(oo, .inl (cY 4, 1, .inr (.inr (.inr (.inl fO)))))]] : List va_W).flatten sz)) 1 6 (va_A ([hO b, cO b (nI n) (nI k), [(oo, .inl (cY 4, 1, .inr (.inr (.inr (.inl fO)))))]] : List va_W).flatten sz) := by
  refine mtH (Qc := fun A => qI (S := Unit) D cY (fun r uu => r = nI 1) (fun uu => [hO b, cO b (nI n) (nI k), [(oo, .inl (cY 4, 1, .inr (.inr (.inr (.inl fO)))))]]) A) (cc := cL_share) (maxL := 4) (ret := (some .int)) (by decide) rfl (Nat.le_of_ble_eq_true rfl) ?_
  intro p e s m below meth c A ls hx hb hr hml hts hown hlocks hsz hP hK hVK hD hS hA hX hH htb hl
  have hown : s.vm.findClass RL = some m.cls := hown
  have hl : lv_has ls 4 [(0, .ref (b 0)), (1, .int x), (2, .ref oo)] := hl
  have hP : va_P D vwCl ([hO b, cO b (nI n) (nI k), [(oo, .inl (cY 4, 1, .inr (.inr (.inr (.inl fO)))))]] : List va_W).flatten s.heap := hP
  have hD : va_D A ([hO b, cO b (nI n) (nI k), [(oo, .inl (cY 4, 1, .inr (.inr (.inr (.inl fO)))))]] : List va_W).flatten := hD
  refine lv_aload_n hx hb dL_share_0 rfl (lv_at hl 2 rfl) ?_
  refine lv_iconst (v := nI 0) hx hb dL_share_1 (by decide) ?_
  refine lv_aload_n hx hb dL_share_2 rfl (lv_at hl 0 rfl) ?_
  refine lv_iload_n hx hb dL_share_3 rfl (lv_at hl 1 rfl) ?_
  refine xh_f (CL := [hO b, cO b (nI n) (nI k)]) (vx_runV (As := [.int x]) (rest := [.int (nI 0), .ref oo]) ⟨hx, hb, hml, hown, hts⟩ (c_X8_share_b1 l D cY s.heap.size b n k x hlT hn1 hn6 hk1 hk12 hbad) (cwV 1 hts gL_share_X8_share rfl rfl rfl (by decide +kernel) ⟨Nat.le_of_ble_eq_true rfl, Nat.le_of_ble_eq_true rfl⟩) (b_preXV hVK hP hD hS hA hX [0, 1] rfl rfl 0 rfl rfl) rfl rfl hl.1 rfl (lv_room (Nat.le_of_ble_eq_true rfl)) dL_share_4 ⟨Nat.le_of_ble_eq_true rfl, Nat.le_of_ble_eq_true rfl⟩) hP hD hS hA [0, 1] rfl rfl (fun _ => rfl) (fun uu H locs q9 ce hP hD hS hcell hv hcl => ?_)
  have hP : va_P D vwCl ([hO b, cO b (nI n) (nI k), [(oo, .inl (cY 4, 1, .inr (.inr (.inr (.inl fO)))))]] : List va_W).flatten H := hP
  have hD : va_D A ([hO b, cO b (nI n) (nI k), [(oo, .inl (cY 4, 1, .inr (.inr (.inr (.inl fO)))))]] : List va_W).flatten := hD
  refine h_catch (E := eIB) hown [] ⟨0, 9, 12, 19⟩ [⟨0, 9, 15, 76⟩] htb (fun z hz => nomatch hz) (by decide +kernel) (by decide) (hts (.classLink RL 19 eIB) (by decide +kernel)) hH.2.1 hcell hv hcl ?_
  refine lv_astore_n (lv' := [(3, .ref q9), (0, .ref (b 0)), (1, .int x), (2, .ref oo)]) hx hb dL_share_12 rfl hl (by decide) rfl (fun ls hl => ?_)
  refine lv_iconst (v := nI 1) hx hb dL_share_13 (by decide) ?_
  exact r_i hx hb hr hlocks hP hD hS () rfl rfl dL_share_14

set_option maxHeartbeats 4000000 in
set_option maxRecDepth 100000 in
theorem c_L_share_b2 (l : Launch) (D : va_G) (cY : Nat → ClassId) (sz : Nat) (b : Nat → Nat) (rr : Nat → Nat → Nat) (n : Nat) (k : Nat) (fW : Nat → Nat → Int32) (fRs : Nat → Int64) (fOt : Nat → Int32) (fMi : Nat → Int64) (g : Nat → Nat → Nat) (i : Nat) (oo : Nat) (fO : Nat → UInt64) (hlT : l.stackTraces = false) (hn1 : 1 ≤ n) (hn6 : n ≤ 6) (hk1 : 1 ≤ k) (hk12 : k ≤ 12) (hW : ∀ i j, i < n → j < n → fW i j = nI (cnt (g i) j k)) (hi : i < n) (hbad : WR g n k = lN 0) : vx_Met l yL_share wsL_share ({ frames := 13, cells := 1, slots := 6, locals := 360 }) (cPH D cY [.ref (b 0), .int (nI i), .ref oo] [hO b, cO b (nI n) (nI k), tO b, oQ (cY 2) (b 3) (rr 1) 6, gI (cY 0) (rr 1) 6 fW 6, [(b 12, .inl (cY 1, 6, .inr (.inl fRs)))], [(b 13, .inl (cY 0, 6, .inl fOt))], [(b 14, .inl (cY 1, 32, .inr (.inl fMi)))], [(oo, .inl (cY 4, 1, .inr (.inr (.inr (.inl fO)))))]] sz) (qI (S := (Nat → Int64) × (Nat → Int32) × (Nat → Int64)) D cY (fun r uu => r = nI 2) (fun uu => [hO b, cO b (nI n) (nI k), tO b, oQ (cY 2) (b 3) (rr 1) 6, gI (cY 0) (rr 1) 6 fW 6, [(b 12, .inl (cY 1, 6, .inr (.inl uu.1)))], [(b 13, .inl (cY 0, 6, .inl uu.2.1))], [(b 14, .inl (cY 1, 32, .inr (.inl uu.2.2)))], [(oo, .inl (cY 4, 1, .inr (.inr (.inr (.inl fO)))))]]) (va_A ([hO b, cO b (nI n) (nI k), tO b, oQ (cY 2) (b 3) (rr 1) 6, gI (cY 0) (rr 1) 6 fW 6, [(b 12, .inl (cY 1, 6, .inr (.inl fRs)))], [(b 13, .inl (cY 0, 6, .inl fOt))], [(b 14, .inl (cY 1, 32, .inr (.inl fMi)))], [(oo, .inl (cY 4, 1, .inr (.inr (.inr (.inl fO)))))]] : List va_W).flatten sz)) (q0 (va_A ([hO b, cO b (nI n) (nI k), tO b, oQ (cY 2) (b 3) (rr 1) 6, gI (cY 0) (rr 1) 6 fW 6, [(b 12, .inl (cY 1, 6, .inr (.inl fRs)))], [(b 13, .inl (cY 0, 6, .inl fOt))], [(b 14, .inl (cY 1, 32, .inr (.inl fMi)))], [(oo, .inl (cY 4, 1, .inr (.inr (.inr (.inl fO)))))]] : List va_W).flatten sz)) 1 6 (va_A ([hO b, cO b (nI n) (nI k), tO b, oQ (cY 2) (b 3) (rr 1) 6, gI (cY 0) (rr 1) 6 fW 6, [(b 12, .inl (cY 1, 6, .inr (.inl fRs)))], [(b 13, .inl (cY 0, 6, .inl fOt))], [(b 14, .inl (cY 1, 32, .inr (.inl fMi)))], [(oo, .inl (cY 4, 1, .inr (.inr (.inr (.inl fO)))))]] : List va_W).flatten sz) := by
  refine mtH (Qc := fun A => qI (S := (Nat → Int64) × (Nat → Int32) × (Nat → Int64)) D cY (fun r uu => r = nI 2) (fun uu => [hO b, cO b (nI n) (nI k), tO b, oQ (cY 2) (b 3) (rr 1) 6, gI (cY 0) (rr 1) 6 fW 6, [(b 12, .inl (cY 1, 6, .inr (.inl uu.1)))], [(b 13, .inl (cY 0, 6, .inl uu.2.1))], [(b 14, .inl (cY 1, 32, .inr (.inl uu.2.2)))], [(oo, .inl (cY 4, 1, .inr (.inr (.inr (.inl fO)))))]]) A) (cc := cL_share) (maxL := 4) (ret := (some .int)) (by decide) rfl (Nat.le_of_ble_eq_true rfl) ?_
  intro p e s m below meth c A ls hx hb hr hml hts hown hlocks hsz hP hK hVK hD hS hA hX hH htb hl
  have hown : s.vm.findClass RL = some m.cls := hown
  have hl : lv_has ls 4 [(0, .ref (b 0)), (1, .int (nI i)), (2, .ref oo)] := hl
  have hP : va_P D vwCl ([hO b, cO b (nI n) (nI k), tO b, oQ (cY 2) (b 3) (rr 1) 6, gI (cY 0) (rr 1) 6 fW 6, [(b 12, .inl (cY 1, 6, .inr (.inl fRs)))], [(b 13, .inl (cY 0, 6, .inl fOt))], [(b 14, .inl (cY 1, 32, .inr (.inl fMi)))], [(oo, .inl (cY 4, 1, .inr (.inr (.inr (.inl fO)))))]] : List va_W).flatten s.heap := hP
  have hD : va_D A ([hO b, cO b (nI n) (nI k), tO b, oQ (cY 2) (b 3) (rr 1) 6, gI (cY 0) (rr 1) 6 fW 6, [(b 12, .inl (cY 1, 6, .inr (.inl fRs)))], [(b 13, .inl (cY 0, 6, .inl fOt))], [(b 14, .inl (cY 1, 32, .inr (.inl fMi)))], [(oo, .inl (cY 4, 1, .inr (.inr (.inr (.inl fO)))))]] : List va_W).flatten := hD
  refine lv_aload_n hx hb dL_share_0 rfl (lv_at hl 2 rfl) ?_
  refine lv_iconst (v := nI 0) hx hb dL_share_1 (by decide) ?_
  refine lv_aload_n hx hb dL_share_2 rfl (lv_at hl 0 rfl) ?_
  refine lv_iload_n hx hb dL_share_3 rfl (lv_at hl 1 rfl) ?_
  refine xh_f (CL := [hO b, cO b (nI n) (nI k), tO b, oQ (cY 2) (b 3) (rr 1) 6, gI (cY 0) (rr 1) 6 fW 6, [(b 12, .inl (cY 1, 6, .inr (.inl fRs)))], [(b 13, .inl (cY 0, 6, .inl fOt))], [(b 14, .inl (cY 1, 32, .inr (.inl fMi)))]]) (vx_runV (As := [.int (nI i)]) (rest := [.int (nI 0), .ref oo]) ⟨hx, hb, hml, hown, hts⟩ (c_X8_share_b2 l D cY s.heap.size b rr n k fW fRs fOt fMi g i hlT hn1 hn6 hk1 hk12 hW hi hbad) (cwV 1 hts gL_share_X8_share rfl rfl rfl (by decide +kernel) ⟨Nat.le_of_ble_eq_true rfl, Nat.le_of_ble_eq_true rfl⟩) (b_preXV hVK hP hD hS hA hX [0, 1, 2, 3, 4, 5, 6, 7] rfl rfl 0 rfl rfl) rfl rfl hl.1 rfl (lv_room (Nat.le_of_ble_eq_true rfl)) dL_share_4 ⟨Nat.le_of_ble_eq_true rfl, Nat.le_of_ble_eq_true rfl⟩) hP hD hS hA [0, 1, 2, 3, 4, 5, 6, 7] rfl rfl (fun _ => rfl) (fun uu H locs q9 ce hP hD hS hcell hv hcl => ?_)
  obtain ⟨fRs1_1, fOt1_2, fMi1_3⟩ := uu
  have hP : va_P D vwCl ([hO b, cO b (nI n) (nI k), tO b, oQ (cY 2) (b 3) (rr 1) 6, gI (cY 0) (rr 1) 6 fW 6, [(b 12, .inl (cY 1, 6, .inr (.inl fRs1_1)))], [(b 13, .inl (cY 0, 6, .inl fOt1_2))], [(b 14, .inl (cY 1, 32, .inr (.inl fMi1_3)))], [(oo, .inl (cY 4, 1, .inr (.inr (.inr (.inl fO)))))]] : List va_W).flatten H := hP
  have hD : va_D A ([hO b, cO b (nI n) (nI k), tO b, oQ (cY 2) (b 3) (rr 1) 6, gI (cY 0) (rr 1) 6 fW 6, [(b 12, .inl (cY 1, 6, .inr (.inl fRs1_1)))], [(b 13, .inl (cY 0, 6, .inl fOt1_2))], [(b 14, .inl (cY 1, 32, .inr (.inl fMi1_3)))], [(oo, .inl (cY 4, 1, .inr (.inr (.inr (.inl fO)))))]] : List va_W).flatten := hD
  refine h_catch (E := eIS) hown [⟨0, 9, 12, 19⟩] ⟨0, 9, 15, 76⟩ [] htb (fun z hz => by
      rw [List.mem_singleton.mp hz]
      exact ⟨by decide, eIB, hts (.classLink RL 19 eIB) (by decide +kernel), hH.2.2.2.2⟩) (by decide +kernel) (by decide) (hts (.classLink RL 76 eIS) (by decide +kernel)) hH.2.2.1 hcell hv hcl ?_
  refine lv_astore_n (lv' := [(3, .ref q9), (0, .ref (b 0)), (1, .int (nI i)), (2, .ref oo)]) hx hb dL_share_15 rfl hl (by decide) rfl (fun ls hl => ?_)
  refine lv_iconst (v := nI 2) hx hb dL_share_16 (by decide) ?_
  exact r_i hx hb hr hlocks hP hD hS (fRs1_1, fOt1_2, fMi1_3) rfl rfl dL_share_17

