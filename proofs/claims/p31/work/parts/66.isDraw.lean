set_option maxHeartbeats 4000000 in
set_option maxRecDepth 100000 in
theorem c_L_isDraw_far (l : Launch) (D : va_G) (cY : Nat → ClassId) (sz : Nat) (b : Nat → Nat) (rr : Nat → Nat → Nat) (n : Nat) (k : Nat) (fG : Nat → Nat → Int32) (fEn : Nat → Int32) (fEb : Nat → Int32) (g : Nat → Nat → Nat) (cc0 : Nat) (fc : Nat → Int32) (ll0 : Nat) (fl : Nat → Int32) (x : Nat) (q0 : Nat) (e0 : Nat) (hn1 : 1 ≤ n) (hn6 : n ≤ 6) (hk1 : 1 ≤ k) (hk12 : k ≤ 12) (hcn : fc 0 = nI n) (hck : fc 1 = nI k) (hG : ∀ i j, i < n → j < k → fG i j = nI (g i j)) (hgn : ∀ i j, i < n → j < k → g i j < n) (hk10 : k ≤ 10) (hL : LL n k g fl) (hx1 : x < 65521) (hq0 : 60 < q0) (hq1 : q0 ≤ 200) (hel : e0 < n) (he0 : e0 = mpq g k x q0 0) (hdg : dgo g n k x 200 0 = nI (6 * q0 + e0)) : Met l yL_isDraw wsL_isDraw ({ frames := 4, cells := 1, slots := 64, locals := 160 }) (cP D cY [.ref (b 0), .int (nI x), .ref cc0, .ref ll0] [hO b, cO b (nI n) (nI k), dO b, oQ (cY 2) (b 2) (rr 0) 6, gI (cY 0) (rr 0) 12 fG 6, [(b 16, .inl (cY 0, 6, .inl fEn))], [(b 17, .inl (cY 0, 6, .inl fEb))], [(cc0, .inl (cY 0, 2, .inl fc))], [(ll0, .inl (cY 0, 60, .inl fl))]] sz) (qI (S := (Nat → Int32) × (Nat → Int32)) D cY (fun r uu => r = bI true) (fun uu => [hO b, cO b (nI n) (nI k), dO b, oQ (cY 2) (b 2) (rr 0) 6, gI (cY 0) (rr 0) 12 fG 6, [(b 16, .inl (cY 0, 6, .inl uu.1))], [(b 17, .inl (cY 0, 6, .inl uu.2))], [(cc0, .inl (cY 0, 2, .inl fc))], [(ll0, .inl (cY 0, 60, .inl fl))]]) (va_A ([hO b, cO b (nI n) (nI k), dO b, oQ (cY 2) (b 2) (rr 0) 6, gI (cY 0) (rr 0) 12 fG 6, [(b 16, .inl (cY 0, 6, .inl fEn))], [(b 17, .inl (cY 0, 6, .inl fEb))], [(cc0, .inl (cY 0, 2, .inl fc))], [(ll0, .inl (cY 0, 60, .inl fl))]] : List va_W).flatten sz)) 1 64 (va_A ([hO b, cO b (nI n) (nI k), dO b, oQ (cY 2) (b 2) (rr 0) 6, gI (cY 0) (rr 0) 12 fG 6, [(b 16, .inl (cY 0, 6, .inl fEn))], [(b 17, .inl (cY 0, 6, .inl fEb))], [(cc0, .inl (cY 0, 2, .inl fc))], [(ll0, .inl (cY 0, 60, .inl fl))]] : List va_W).flatten sz) := by
  refine mtB (Qc := fun A => qI (S := (Nat → Int32) × (Nat → Int32)) D cY (fun r uu => r = bI true) (fun uu => [hO b, cO b (nI n) (nI k), dO b, oQ (cY 2) (b 2) (rr 0) 6, gI (cY 0) (rr 0) 12 fG 6, [(b 16, .inl (cY 0, 6, .inl uu.1))], [(b 17, .inl (cY 0, 6, .inl uu.2))], [(cc0, .inl (cY 0, 2, .inl fc))], [(ll0, .inl (cY 0, 60, .inl fl))]]) A) (cc := cL_isDraw) (maxL := 14) (ret := (some .boolean)) (by decide) rfl (Nat.le_of_ble_eq_true rfl) ?_
  intro p e s m below meth c A ls hx hb hr hml hts hown hlocks hnm hsz hP hK hVK hD hS hA hl
  have hown : s.vm.findClass RL = some m.cls := hown
  have hl : lv_has ls 14 [(0, .ref (b 0)), (1, .int (nI x)), (2, .ref cc0), (3, .ref ll0)] := hl
  have hP : va_P D vwCl ([hO b, cO b (nI n) (nI k), dO b, oQ (cY 2) (b 2) (rr 0) 6, gI (cY 0) (rr 0) 12 fG 6, [(b 16, .inl (cY 0, 6, .inl fEn))], [(b 17, .inl (cY 0, 6, .inl fEb))], [(cc0, .inl (cY 0, 2, .inl fc))], [(ll0, .inl (cY 0, 60, .inl fl))]] : List va_W).flatten s.heap := hP
  have hD : va_D A ([hO b, cO b (nI n) (nI k), dO b, oQ (cY 2) (b 2) (rr 0) 6, gI (cY 0) (rr 0) 12 fG 6, [(b 16, .inl (cY 0, 6, .inl fEn))], [(b 17, .inl (cY 0, 6, .inl fEb))], [(cc0, .inl (cY 0, 2, .inl fc))], [(ll0, .inl (cY 0, 60, .inl fl))]] : List va_W).flatten := hD
  refine lv_aload_n hx hb dL_isDraw_0 rfl (lv_at hl 0 rfl) ?_
  refine lv_iload_n hx hb dL_isDraw_1 rfl (lv_at hl 1 rfl) ?_
  refine ca_i (CL := [hO b, cO b (nI n) (nI k), dO b, oQ (cY 2) (b 2) (rr 0) 6, gI (cY 0) (rr 0) 12 fG 6, [(b 16, .inl (cY 0, 6, .inl fEn))], [(b 17, .inl (cY 0, 6, .inl fEb))]]) (va_runV (As := [.int (nI x)]) (rest := []) ⟨hx, hb, hml, hown, hts⟩ (c_X8_draw_ok l D cY s.heap.size b rr n k fG fEn fEb g x (by omega) (by omega) (by omega) (by omega) hG hgn (by omega)) (cwV 1 hts gL_isDraw_X8_draw rfl rfl rfl (by decide +kernel) ⟨Nat.le_of_ble_eq_true rfl, Nat.le_of_ble_eq_true rfl⟩) (b_preV hVK hP hD [0, 1, 2, 3, 4, 5, 6] rfl rfl 0 rfl rfl) rfl rfl hl.1 rfl (lv_room (Nat.le_of_ble_eq_true rfl)) dL_isDraw_2 ⟨Nat.zero_le _, Nat.zero_le _⟩) hP hD hS hA [0, 1, 2, 3, 4, 5, 6] rfl rfl (fun _ => rfl) (fun r2 uu H locs hq hP hD hS => ?_)
  obtain ⟨fEn1_1, fEb1_2⟩ := uu
  try dsimp only at hq
  subst hq
  have hP : va_P D vwCl ([hO b, cO b (nI n) (nI k), dO b, oQ (cY 2) (b 2) (rr 0) 6, gI (cY 0) (rr 0) 12 fG 6, [(b 16, .inl (cY 0, 6, .inl fEn1_1))], [(b 17, .inl (cY 0, 6, .inl fEb1_2))], [(cc0, .inl (cY 0, 2, .inl fc))], [(ll0, .inl (cY 0, 60, .inl fl))]] : List va_W).flatten H := hP
  have hD : va_D A ([hO b, cO b (nI n) (nI k), dO b, oQ (cY 2) (b 2) (rr 0) 6, gI (cY 0) (rr 0) 12 fG 6, [(b 16, .inl (cY 0, 6, .inl fEn1_1))], [(b 17, .inl (cY 0, 6, .inl fEb1_2))], [(cc0, .inl (cY 0, 2, .inl fc))], [(ll0, .inl (cY 0, 60, .inl fl))]] : List va_W).flatten := hD
  refine eqi (x' := nI (6 * q0 + e0)) (hdg) ?_
  refine lv_istore (lv' := [(4, .int (nI (6 * q0 + e0))), (0, .ref (b 0)), (1, .int (nI x)), (2, .ref cc0), (3, .ref ll0)]) hx hb dL_isDraw_5 hl (by decide) rfl (fun ls hl => ?_)
  refine lv_bipush (v := nI 64) hx hb dL_isDraw_7 (by decide) ?_
  refine b_newI hx hb (hts (.arrayClass .int) (by decide +kernel)) hK hP hD hS hA 64 (by decide) rfl (by decide) 1 64 (Nat.le_of_ble_eq_true rfl) (Nat.le_of_ble_eq_true rfl) (Nat.le_of_ble_eq_true rfl) (Nat.le_of_ble_eq_true rfl) dL_isDraw_9 (fun qn9 H hP hD hS => ?_)
  have hP : va_P D vwCl ([hO b, cO b (nI n) (nI k), dO b, oQ (cY 2) (b 2) (rr 0) 6, gI (cY 0) (rr 0) 12 fG 6, [(b 16, .inl (cY 0, 6, .inl fEn1_1))], [(b 17, .inl (cY 0, 6, .inl fEb1_2))], [(cc0, .inl (cY 0, 2, .inl fc))], [(ll0, .inl (cY 0, 60, .inl fl))], [(qn9, .inl (cY 0, 64, .inl (fun _ => nI 0)))]] : List va_W).flatten H := hP
  have hD : va_D A ([hO b, cO b (nI n) (nI k), dO b, oQ (cY 2) (b 2) (rr 0) 6, gI (cY 0) (rr 0) 12 fG 6, [(b 16, .inl (cY 0, 6, .inl fEn1_1))], [(b 17, .inl (cY 0, 6, .inl fEb1_2))], [(cc0, .inl (cY 0, 2, .inl fc))], [(ll0, .inl (cY 0, 60, .inl fl))], [(qn9, .inl (cY 0, 64, .inl (fun _ => nI 0)))]] : List va_W).flatten := hD
  refine lv_astore (lv' := [(5, .ref qn9), (4, .int (nI (6 * q0 + e0))), (0, .ref (b 0)), (1, .int (nI x)), (2, .ref cc0), (3, .ref ll0)]) hx hb dL_isDraw_11 hl (by decide) rfl (fun ls hl => ?_)
  refine lv_iload hx hb dL_isDraw_13 (lv_at hl 1 rfl) ?_
  refine n_if_ge (tgt := 23) hx hb dL_isDraw_15 (by decide) (by omega) (fun h15 => ?_) (fun h15 => ?_)
  · -- t
    refine lv_iload hx hb dL_isDraw_23 (lv_at hl 1 rfl) ?_
    refine lv_bipush (v := nI 6) hx hb dL_isDraw_25 (by decide) ?_
    refine lv_idiv hx hb dL_isDraw_27 (nI_ne0 (by omega) (by omega)) ?_
    refine eqi (x' := nI ((6 * q0 + e0) / 6)) (pk_div (by omega) (by omega) (by omega)) ?_
    refine eqi (x' := nI q0) (congrArg nI (by omega)) ?_
    refine lv_istore (lv' := [(6, .int (nI q0)), (5, .ref qn9), (4, .int (nI (6 * q0 + e0))), (0, .ref (b 0)), (1, .int (nI x)), (2, .ref cc0), (3, .ref ll0)]) hx hb dL_isDraw_28 hl (by decide) rfl (fun ls hl => ?_)
    refine lv_iload_n hx hb dL_isDraw_30 rfl (lv_at hl 4 rfl) ?_
    refine lv_istore (lv' := [(7, .int (nI x)), (6, .int (nI q0)), (5, .ref qn9), (4, .int (nI (6 * q0 + e0))), (0, .ref (b 0)), (1, .int (nI x)), (2, .ref cc0), (3, .ref ll0)]) hx hb dL_isDraw_31 hl (by decide) rfl (fun ls hl => ?_)
    refine lv_iload hx hb dL_isDraw_33 (lv_at hl 1 rfl) ?_
    refine lv_bipush (v := nI 60) hx hb dL_isDraw_35 (by decide) ?_
    refine n_icmp_le (tgt := 54) hx hb dL_isDraw_37 (by decide) (by omega) (by omega) (fun h37 => ?_) (fun h37 => ?_)
    · -- t
      exact absurd h37 (by omega)
    · -- f
      refine lv_iload hx hb dL_isDraw_40 (lv_at hl 1 rfl) ?_
      refine lv_sipush (v := nI 200) hx hb dL_isDraw_42 (by decide) ?_
      refine n_icmp_gt (tgt := 52) hx hb dL_isDraw_45 (by decide) (by omega) (by omega) (fun h45 => ?_) (fun h45 => ?_)
      · -- t
        exact absurd h45 (by omega)
      · -- f
        refine lv_iconst (v := nI 1) hx hb dL_isDraw_48 (by decide) ?_
        refine lv_goto (tgt := 53) hx hb dL_isDraw_49 (by decide) ?_
        have hP : va_P D vwCl ([hO b, cO b (nI n) (nI k), dO b, oQ (cY 2) (b 2) (rr 0) 6, gI (cY 0) (rr 0) 12 fG 6, [(b 16, .inl (cY 0, 6, .inl fEn1_1))], [(b 17, .inl (cY 0, 6, .inl fEb1_2))], [(cc0, .inl (cY 0, 2, .inl fc))], [(ll0, .inl (cY 0, 60, .inl fl))]] : List va_W).flatten H := bl_cutP (CL := [hO b, cO b (nI n) (nI k), dO b, oQ (cY 2) (b 2) (rr 0) 6, gI (cY 0) (rr 0) 12 fG 6, [(b 16, .inl (cY 0, 6, .inl fEn1_1))], [(b 17, .inl (cY 0, 6, .inl fEb1_2))], [(cc0, .inl (cY 0, 2, .inl fc))], [(ll0, .inl (cY 0, 60, .inl fl))]]) hP [0, 1, 2, 3, 4, 5, 6, 7, 8] rfl rfl
        have hD : va_D A ([hO b, cO b (nI n) (nI k), dO b, oQ (cY 2) (b 2) (rr 0) 6, gI (cY 0) (rr 0) 12 fG 6, [(b 16, .inl (cY 0, 6, .inl fEn1_1))], [(b 17, .inl (cY 0, 6, .inl fEb1_2))], [(cc0, .inl (cY 0, 2, .inl fc))], [(ll0, .inl (cY 0, 60, .inl fl))]] : List va_W).flatten := bl_cutD (CL := [hO b, cO b (nI n) (nI k), dO b, oQ (cY 2) (b 2) (rr 0) 6, gI (cY 0) (rr 0) 12 fG 6, [(b 16, .inl (cY 0, 6, .inl fEn1_1))], [(b 17, .inl (cY 0, 6, .inl fEb1_2))], [(cc0, .inl (cY 0, 2, .inl fc))], [(ll0, .inl (cY 0, 60, .inl fl))]]) hD [0, 1, 2, 3, 4, 5, 6, 7, 8] rfl rfl
        refine eqi (x' := bI true) rfl ?_
        exact r_z hx hb hr hlocks hP hD hS (fEn1_1, fEb1_2) rfl (rfl) dL_isDraw_53
  · -- f
    exact h15.elim

set_option maxHeartbeats 4000000 in
set_option maxRecDepth 100000 in
theorem c_L_isDraw_near (l : Launch) (D : va_G) (cY : Nat → ClassId) (sz : Nat) (b : Nat → Nat) (rr : Nat → Nat → Nat) (n : Nat) (k : Nat) (fG : Nat → Nat → Int32) (fEn : Nat → Int32) (fEb : Nat → Int32) (g : Nat → Nat → Nat) (cc0 : Nat) (fc : Nat → Int32) (ll0 : Nat) (fl : Nat → Int32) (x : Nat) (q0 : Nat) (e0 : Nat) (hn1 : 1 ≤ n) (hn6 : n ≤ 6) (hk1 : 1 ≤ k) (hk12 : k ≤ 12) (hcn : fc 0 = nI n) (hck : fc 1 = nI k) (hG : ∀ i j, i < n → j < k → fG i j = nI (g i j)) (hgn : ∀ i j, i < n → j < k → g i j < n) (hk10 : k ≤ 10) (hL : LL n k g fl) (hx1 : x < 65521) (hq0 : q0 ≤ 60) (hel : e0 < n) (he0 : e0 = mpq g k x q0 0) (hdg : dgo g n k x 200 0 = nI (6 * q0 + e0)) (hone : oneB (mpq g k x q0) n = true) (hmin : ∀ r, r < q0 → oneB (mpq g k x r) n = false) : Met l yL_isDraw wsL_isDraw ({ frames := 4, cells := 1, slots := 64, locals := 160 }) (cP D cY [.ref (b 0), .int (nI x), .ref cc0, .ref ll0] [hO b, cO b (nI n) (nI k), dO b, oQ (cY 2) (b 2) (rr 0) 6, gI (cY 0) (rr 0) 12 fG 6, [(b 16, .inl (cY 0, 6, .inl fEn))], [(b 17, .inl (cY 0, 6, .inl fEb))], [(cc0, .inl (cY 0, 2, .inl fc))], [(ll0, .inl (cY 0, 60, .inl fl))]] sz) (qI (S := (Nat → Int32) × (Nat → Int32)) D cY (fun r uu => r = bI true) (fun uu => [hO b, cO b (nI n) (nI k), dO b, oQ (cY 2) (b 2) (rr 0) 6, gI (cY 0) (rr 0) 12 fG 6, [(b 16, .inl (cY 0, 6, .inl uu.1))], [(b 17, .inl (cY 0, 6, .inl uu.2))], [(cc0, .inl (cY 0, 2, .inl fc))], [(ll0, .inl (cY 0, 60, .inl fl))]]) (va_A ([hO b, cO b (nI n) (nI k), dO b, oQ (cY 2) (b 2) (rr 0) 6, gI (cY 0) (rr 0) 12 fG 6, [(b 16, .inl (cY 0, 6, .inl fEn))], [(b 17, .inl (cY 0, 6, .inl fEb))], [(cc0, .inl (cY 0, 2, .inl fc))], [(ll0, .inl (cY 0, 60, .inl fl))]] : List va_W).flatten sz)) 1 64 (va_A ([hO b, cO b (nI n) (nI k), dO b, oQ (cY 2) (b 2) (rr 0) 6, gI (cY 0) (rr 0) 12 fG 6, [(b 16, .inl (cY 0, 6, .inl fEn))], [(b 17, .inl (cY 0, 6, .inl fEb))], [(cc0, .inl (cY 0, 2, .inl fc))], [(ll0, .inl (cY 0, 60, .inl fl))]] : List va_W).flatten sz) := by
  refine mtB (Qc := fun A => qI (S := (Nat → Int32) × (Nat → Int32)) D cY (fun r uu => r = bI true) (fun uu => [hO b, cO b (nI n) (nI k), dO b, oQ (cY 2) (b 2) (rr 0) 6, gI (cY 0) (rr 0) 12 fG 6, [(b 16, .inl (cY 0, 6, .inl uu.1))], [(b 17, .inl (cY 0, 6, .inl uu.2))], [(cc0, .inl (cY 0, 2, .inl fc))], [(ll0, .inl (cY 0, 60, .inl fl))]]) A) (cc := cL_isDraw) (maxL := 14) (ret := (some .boolean)) (by decide) rfl (Nat.le_of_ble_eq_true rfl) ?_
  intro p e s m below meth c A ls hx hb hr hml hts hown hlocks hnm hsz hP hK hVK hD hS hA hl
  have hown : s.vm.findClass RL = some m.cls := hown
  have hl : lv_has ls 14 [(0, .ref (b 0)), (1, .int (nI x)), (2, .ref cc0), (3, .ref ll0)] := hl
  have hP : va_P D vwCl ([hO b, cO b (nI n) (nI k), dO b, oQ (cY 2) (b 2) (rr 0) 6, gI (cY 0) (rr 0) 12 fG 6, [(b 16, .inl (cY 0, 6, .inl fEn))], [(b 17, .inl (cY 0, 6, .inl fEb))], [(cc0, .inl (cY 0, 2, .inl fc))], [(ll0, .inl (cY 0, 60, .inl fl))]] : List va_W).flatten s.heap := hP
  have hD : va_D A ([hO b, cO b (nI n) (nI k), dO b, oQ (cY 2) (b 2) (rr 0) 6, gI (cY 0) (rr 0) 12 fG 6, [(b 16, .inl (cY 0, 6, .inl fEn))], [(b 17, .inl (cY 0, 6, .inl fEb))], [(cc0, .inl (cY 0, 2, .inl fc))], [(ll0, .inl (cY 0, 60, .inl fl))]] : List va_W).flatten := hD
  refine lv_aload_n hx hb dL_isDraw_0 rfl (lv_at hl 0 rfl) ?_
  refine lv_iload_n hx hb dL_isDraw_1 rfl (lv_at hl 1 rfl) ?_
  refine ca_i (CL := [hO b, cO b (nI n) (nI k), dO b, oQ (cY 2) (b 2) (rr 0) 6, gI (cY 0) (rr 0) 12 fG 6, [(b 16, .inl (cY 0, 6, .inl fEn))], [(b 17, .inl (cY 0, 6, .inl fEb))]]) (va_runV (As := [.int (nI x)]) (rest := []) ⟨hx, hb, hml, hown, hts⟩ (c_X8_draw_ok l D cY s.heap.size b rr n k fG fEn fEb g x (by omega) (by omega) (by omega) (by omega) hG hgn (by omega)) (cwV 1 hts gL_isDraw_X8_draw rfl rfl rfl (by decide +kernel) ⟨Nat.le_of_ble_eq_true rfl, Nat.le_of_ble_eq_true rfl⟩) (b_preV hVK hP hD [0, 1, 2, 3, 4, 5, 6] rfl rfl 0 rfl rfl) rfl rfl hl.1 rfl (lv_room (Nat.le_of_ble_eq_true rfl)) dL_isDraw_2 ⟨Nat.zero_le _, Nat.zero_le _⟩) hP hD hS hA [0, 1, 2, 3, 4, 5, 6] rfl rfl (fun _ => rfl) (fun r2 uu H locs hq hP hD hS => ?_)
  obtain ⟨fEn1_1, fEb1_2⟩ := uu
  try dsimp only at hq
  subst hq
  have hP : va_P D vwCl ([hO b, cO b (nI n) (nI k), dO b, oQ (cY 2) (b 2) (rr 0) 6, gI (cY 0) (rr 0) 12 fG 6, [(b 16, .inl (cY 0, 6, .inl fEn1_1))], [(b 17, .inl (cY 0, 6, .inl fEb1_2))], [(cc0, .inl (cY 0, 2, .inl fc))], [(ll0, .inl (cY 0, 60, .inl fl))]] : List va_W).flatten H := hP
  have hD : va_D A ([hO b, cO b (nI n) (nI k), dO b, oQ (cY 2) (b 2) (rr 0) 6, gI (cY 0) (rr 0) 12 fG 6, [(b 16, .inl (cY 0, 6, .inl fEn1_1))], [(b 17, .inl (cY 0, 6, .inl fEb1_2))], [(cc0, .inl (cY 0, 2, .inl fc))], [(ll0, .inl (cY 0, 60, .inl fl))]] : List va_W).flatten := hD
  refine eqi (x' := nI (6 * q0 + e0)) (hdg) ?_
  refine lv_istore (lv' := [(4, .int (nI (6 * q0 + e0))), (0, .ref (b 0)), (1, .int (nI x)), (2, .ref cc0), (3, .ref ll0)]) hx hb dL_isDraw_5 hl (by decide) rfl (fun ls hl => ?_)
  refine lv_bipush (v := nI 64) hx hb dL_isDraw_7 (by decide) ?_
  refine b_newI hx hb (hts (.arrayClass .int) (by decide +kernel)) hK hP hD hS hA 64 (by decide) rfl (by decide) 1 64 (Nat.le_of_ble_eq_true rfl) (Nat.le_of_ble_eq_true rfl) (Nat.le_of_ble_eq_true rfl) (Nat.le_of_ble_eq_true rfl) dL_isDraw_9 (fun qn9 H hP hD hS => ?_)
  have hP : va_P D vwCl ([hO b, cO b (nI n) (nI k), dO b, oQ (cY 2) (b 2) (rr 0) 6, gI (cY 0) (rr 0) 12 fG 6, [(b 16, .inl (cY 0, 6, .inl fEn1_1))], [(b 17, .inl (cY 0, 6, .inl fEb1_2))], [(cc0, .inl (cY 0, 2, .inl fc))], [(ll0, .inl (cY 0, 60, .inl fl))], [(qn9, .inl (cY 0, 64, .inl (fun _ => nI 0)))]] : List va_W).flatten H := hP
  have hD : va_D A ([hO b, cO b (nI n) (nI k), dO b, oQ (cY 2) (b 2) (rr 0) 6, gI (cY 0) (rr 0) 12 fG 6, [(b 16, .inl (cY 0, 6, .inl fEn1_1))], [(b 17, .inl (cY 0, 6, .inl fEb1_2))], [(cc0, .inl (cY 0, 2, .inl fc))], [(ll0, .inl (cY 0, 60, .inl fl))], [(qn9, .inl (cY 0, 64, .inl (fun _ => nI 0)))]] : List va_W).flatten := hD
  refine lv_astore (lv' := [(5, .ref qn9), (4, .int (nI (6 * q0 + e0))), (0, .ref (b 0)), (1, .int (nI x)), (2, .ref cc0), (3, .ref ll0)]) hx hb dL_isDraw_11 hl (by decide) rfl (fun ls hl => ?_)
  refine lv_iload hx hb dL_isDraw_13 (lv_at hl 1 rfl) ?_
  refine n_if_ge (tgt := 23) hx hb dL_isDraw_15 (by decide) (by omega) (fun h15 => ?_) (fun h15 => ?_)
  · -- t
    refine lv_iload hx hb dL_isDraw_23 (lv_at hl 1 rfl) ?_
    refine lv_bipush (v := nI 6) hx hb dL_isDraw_25 (by decide) ?_
    refine lv_idiv hx hb dL_isDraw_27 (nI_ne0 (by omega) (by omega)) ?_
    refine eqi (x' := nI ((6 * q0 + e0) / 6)) (pk_div (by omega) (by omega) (by omega)) ?_
    refine eqi (x' := nI q0) (congrArg nI (by omega)) ?_
    refine lv_istore (lv' := [(6, .int (nI q0)), (5, .ref qn9), (4, .int (nI (6 * q0 + e0))), (0, .ref (b 0)), (1, .int (nI x)), (2, .ref cc0), (3, .ref ll0)]) hx hb dL_isDraw_28 hl (by decide) rfl (fun ls hl => ?_)
    refine lv_iload_n hx hb dL_isDraw_30 rfl (lv_at hl 4 rfl) ?_
    refine lv_istore (lv' := [(7, .int (nI x)), (6, .int (nI q0)), (5, .ref qn9), (4, .int (nI (6 * q0 + e0))), (0, .ref (b 0)), (1, .int (nI x)), (2, .ref cc0), (3, .ref ll0)]) hx hb dL_isDraw_31 hl (by decide) rfl (fun ls hl => ?_)
    refine lv_iload hx hb dL_isDraw_33 (lv_at hl 1 rfl) ?_
    refine lv_bipush (v := nI 60) hx hb dL_isDraw_35 (by decide) ?_
    refine n_icmp_le (tgt := 54) hx hb dL_isDraw_37 (by decide) (by omega) (by omega) (fun h37 => ?_) (fun h37 => ?_)
    · -- t
      refine lv_iconst (v := nI 0) hx hb dL_isDraw_54 (by decide) ?_
      refine lv_istore (lv' := [(8, .int (nI 0)), (7, .int (nI x)), (6, .int (nI q0)), (5, .ref qn9), (4, .int (nI (6 * q0 + e0))), (0, .ref (b 0)), (1, .int (nI x)), (2, .ref cc0), (3, .ref ll0)]) hx hb dL_isDraw_55 hl (by decide) rfl (fun ls hl => ?_)
      have L57 : ∀ q : Nat, q ≤ q0 → ∀ (gs : Nat → Int32), (∀ j, j < q → gs j = nI (sdq x (j + 1) % k)) → ∀ (H : Heap) (locs : List Loc), va_P D vwCl ([hO b, cO b (nI n) (nI k), dO b, oQ (cY 2) (b 2) (rr 0) 6, gI (cY 0) (rr 0) 12 fG 6, [(b 16, .inl (cY 0, 6, .inl fEn1_1))], [(b 17, .inl (cY 0, 6, .inl fEb1_2))], [(cc0, .inl (cY 0, 2, .inl fc))], [(ll0, .inl (cY 0, 60, .inl fl))], [(qn9, .inl (cY 0, 64, .inl gs))]] : List va_W).flatten H → va_D A ([hO b, cO b (nI n) (nI k), dO b, oQ (cY 2) (b 2) (rr 0) 6, gI (cY 0) (rr 0) 12 fG 6, [(b 16, .inl (cY 0, 6, .inl fEn1_1))], [(b 17, .inl (cY 0, 6, .inl fEb1_2))], [(cc0, .inl (cY 0, 2, .inl fc))], [(ll0, .inl (cY 0, 60, .inl fl))], [(qn9, .inl (cY 0, 64, .inl gs))]] : List va_W).flatten → va_S A s.heap H locs → ∀ (ls : Array Slot), lv_has ls 14 [(0, .ref (b 0)), (1, .int (nI x)), (2, .ref cc0), (3, .ref ll0), (4, .int (nI (6 * q0 + e0))), (5, .ref qn9), (6, .int (nI q0)), (7, .int (nI (sdq x q))), (8, .int (nI q))] → W p l e ({ frames := 4, cells := 1, slots := 64, locals := 160 }) s m ([.ref (b 0), .int (nI x), .ref cc0, .ref ll0] : List Value).toArray below meth c H locs 1 64 (MQ below (qI (S := (Nat → Int32) × (Nat → Int32)) D cY (fun r uu => r = bI true) (fun uu => [hO b, cO b (nI n) (nI k), dO b, oQ (cY 2) (b 2) (rr 0) 6, gI (cY 0) (rr 0) 12 fG 6, [(b 16, .inl (cY 0, 6, .inl uu.1))], [(b 17, .inl (cY 0, 6, .inl uu.2))], [(cc0, .inl (cY 0, 2, .inl fc))], [(ll0, .inl (cY 0, 60, .inl fl))]]) A) ([.ref (b 0), .int (nI x), .ref cc0, .ref ll0] : List Value).toArray s 1 64 A) (F0 m 57 ls []) := by
        refine lpW q0 ?_
        intro q bdq ih57 gs hs H locs hP hD hS ls hl
        refine lv_iload hx hb dL_isDraw_57 (lv_at hl 8 rfl) ?_
        refine lv_iload hx hb dL_isDraw_59 (lv_at hl 6 rfl) ?_
        refine n_icmp_ge (tgt := 96) hx hb dL_isDraw_61 (by decide) (by omega) (by omega) (fun h61 => ?_) (fun h61 => ?_)
        · -- t
          refine lv_iconst (v := nI 0) hx hb dL_isDraw_96 (by decide) ?_
          refine lv_istore (lv' := [(8, .int (nI 0)), (0, .ref (b 0)), (1, .int (nI x)), (2, .ref cc0), (3, .ref ll0), (4, .int (nI (6 * q0 + e0))), (5, .ref qn9), (6, .int (nI q0)), (7, .int (nI (sdq x q)))]) hx hb dL_isDraw_97 hl (by decide) rfl (fun ls hl => ?_)
          refine lv_iconst (v := nI 0) hx hb dL_isDraw_99 (by decide) ?_
          refine lv_istore (lv' := [(9, .int (nI 0)), (8, .int (nI 0)), (0, .ref (b 0)), (1, .int (nI x)), (2, .ref cc0), (3, .ref ll0), (4, .int (nI (6 * q0 + e0))), (5, .ref qn9), (6, .int (nI q0)), (7, .int (nI (sdq x q)))]) hx hb dL_isDraw_100 hl (by decide) rfl (fun ls hl => ?_)
          refine lv_iconst (v := nI 0) hx hb dL_isDraw_102 (by decide) ?_
          refine lv_istore (lv' := [(10, .int (nI 0)), (9, .int (nI 0)), (8, .int (nI 0)), (0, .ref (b 0)), (1, .int (nI x)), (2, .ref cc0), (3, .ref ll0), (4, .int (nI (6 * q0 + e0))), (5, .ref qn9), (6, .int (nI q0)), (7, .int (nI (sdq x q)))]) hx hb dL_isDraw_103 hl (by decide) rfl (fun ls hl => ?_)
          have L105 : ∀ u : Nat, u ≤ n →  ∀ (H : Heap) (locs : List Loc), va_P D vwCl ([hO b, cO b (nI n) (nI k), dO b, oQ (cY 2) (b 2) (rr 0) 6, gI (cY 0) (rr 0) 12 fG 6, [(b 16, .inl (cY 0, 6, .inl fEn1_1))], [(b 17, .inl (cY 0, 6, .inl fEb1_2))], [(cc0, .inl (cY 0, 2, .inl fc))], [(ll0, .inl (cY 0, 60, .inl fl))], [(qn9, .inl (cY 0, 64, .inl gs))]] : List va_W).flatten H → va_D A ([hO b, cO b (nI n) (nI k), dO b, oQ (cY 2) (b 2) (rr 0) 6, gI (cY 0) (rr 0) 12 fG 6, [(b 16, .inl (cY 0, 6, .inl fEn1_1))], [(b 17, .inl (cY 0, 6, .inl fEb1_2))], [(cc0, .inl (cY 0, 2, .inl fc))], [(ll0, .inl (cY 0, 60, .inl fl))], [(qn9, .inl (cY 0, 64, .inl gs))]] : List va_W).flatten → va_S A s.heap H locs → ∀ (ls : Array Slot), lv_has ls 14 [(0, .ref (b 0)), (1, .int (nI x)), (2, .ref cc0), (3, .ref ll0), (4, .int (nI (6 * q0 + e0))), (5, .ref qn9), (6, .int (nI q0)), (7, .int (nI (sdq x q))), (8, .int (nI (orS (fun i => mpq g k x q0 i) u))), (9, .int (nI (orS (fun i => mpq g k x (q0 - 1) i) u))), (10, .int (nI u))] → W p l e ({ frames := 4, cells := 1, slots := 64, locals := 160 }) s m ([.ref (b 0), .int (nI x), .ref cc0, .ref ll0] : List Value).toArray below meth c H locs 1 64 (MQ below (qI (S := (Nat → Int32) × (Nat → Int32)) D cY (fun r uu => r = bI true) (fun uu => [hO b, cO b (nI n) (nI k), dO b, oQ (cY 2) (b 2) (rr 0) 6, gI (cY 0) (rr 0) 12 fG 6, [(b 16, .inl (cY 0, 6, .inl uu.1))], [(b 17, .inl (cY 0, 6, .inl uu.2))], [(cc0, .inl (cY 0, 2, .inl fc))], [(ll0, .inl (cY 0, 60, .inl fl))]]) A) ([.ref (b 0), .int (nI x), .ref cc0, .ref ll0] : List Value).toArray s 1 64 A) (F0 m 105 ls []) := by
            refine lpW n ?_
            intro u bdu ih105   H locs hP hD hS ls hl
            refine lv_iload hx hb dL_isDraw_105 (lv_at hl 10 rfl) ?_
            refine lv_aload_n hx hb dL_isDraw_107 rfl (lv_at hl 2 rfl) ?_
            refine lv_iconst (v := nI 0) hx hb dL_isDraw_108 (by decide) ?_
            refine b_iald hx hb hK hP 7 0 rfl rfl (by omega) (by decide) dL_isDraw_109 ?_
            refine eqi (x' := nI n) (hcn) ?_
            refine n_icmp_ge (tgt := 206) hx hb dL_isDraw_110 (by decide) (by omega) (by omega) (fun h110 => ?_) (fun h110 => ?_)
            · -- t
              have hun : u = n := by omega
              have hF1 : ∀ i, i < n → mpq g k x q0 i < 6 := fun i hi => Nat.lt_of_lt_of_le (mpq_lt hgn (by omega) q0 i hi) hn6
              have hF2 : ∀ i, i < n → mpq g k x (q0 - 1) i < 6 := fun i hi => Nat.lt_of_lt_of_le (mpq_lt hgn (by omega) (q0 - 1) i hi) hn6
              have hA1 : orS (fun i => mpq g k x q0 i) n < 64 := orS_lt hF1 n (Nat.le_refl n)
              have hA2 : orS (fun i => mpq g k x (q0 - 1) i) n < 64 := orS_lt hF2 n (Nat.le_refl n)
              have hA3 : orS (fun i => mpq g k x q0 i) n ≠ 0 := orS_pos hn1
              have hA4 : orS (fun i => mpq g k x (q0 - 1) i) n ≠ 0 := orS_pos hn1
              have hA5 : orS (fun i => mpq g k x q0 i) n &&& (orS (fun i => mpq g k x q0 i) n - 1) ≤ orS (fun i => mpq g k x q0 i) n := Nat.and_le_left
              have hA6 : orS (fun i => mpq g k x (q0 - 1) i) n &&& (orS (fun i => mpq g k x (q0 - 1) i) n - 1) ≤ orS (fun i => mpq g k x (q0 - 1) i) n := Nat.and_le_left
              refine lv_iload hx hb dL_isDraw_206 (lv_at hl 8 rfl) ?_
              refine eqi (x' := nI (orS (fun i => mpq g k x q0 i) n)) (congrArg nI (by rw [hun])) ?_
              refine lv_iload hx hb dL_isDraw_208 (lv_at hl 8 rfl) ?_
              refine eqi (x' := nI (orS (fun i => mpq g k x q0 i) n)) (congrArg nI (by rw [hun])) ?_
              refine lv_iconst (v := nI 1) hx hb dL_isDraw_210 (by decide) ?_
              refine lv_isub hx hb dL_isDraw_211 ?_
              refine eqi (x' := nI ((orS (fun i => mpq g k x q0 i) n) - 1)) (pk_sub (by omega)) ?_
              refine lv_iand hx hb dL_isDraw_212 ?_
              refine eqi (x' := nI ((orS (fun i => mpq g k x q0 i) n) &&& ((orS (fun i => mpq g k x q0 i) n) - 1))) (nI_and _ _) ?_
              refine n_if_ne (tgt := 220) hx hb dL_isDraw_213 (by decide) (by omega) (fun h213 => ?_) (fun h213 => ?_)
              · -- t
                exact absurd (orS_yes hn1 hF1 hone) h213
              · -- f
                refine lv_iconst (v := nI 1) hx hb dL_isDraw_216 (by decide) ?_
                refine lv_goto (tgt := 221) hx hb dL_isDraw_217 (by decide) ?_
                refine lv_istore (lv' := [(10, .int (nI 1)), (0, .ref (b 0)), (1, .int (nI x)), (2, .ref cc0), (3, .ref ll0), (4, .int (nI (6 * q0 + e0))), (5, .ref qn9), (6, .int (nI q0)), (7, .int (nI (sdq x q))), (8, .int (nI (orS (fun i => mpq g k x q0 i) u))), (9, .int (nI (orS (fun i => mpq g k x (q0 - 1) i) u)))]) hx hb dL_isDraw_221 hl (by decide) rfl (fun ls hl => ?_)
                refine lv_iload hx hb dL_isDraw_223 (lv_at hl 10 rfl) ?_
                refine eqi (x' := nI (orS (fun i => mpq g k x (q0 - 1) i) n)) (congrArg nI (by rw [hun])) ?_
                refine lv_iload hx hb dL_isDraw_225 (lv_at hl 10 rfl) ?_
                refine eqi (x' := nI (orS (fun i => mpq g k x (q0 - 1) i) n)) (congrArg nI (by rw [hun])) ?_
                refine lv_iconst (v := nI 1) hx hb dL_isDraw_227 (by decide) ?_
                refine lv_isub hx hb dL_isDraw_228 ?_
                refine eqi (x' := nI ((orS (fun i => mpq g k x (q0 - 1) i) n) - 1)) (pk_sub (by omega)) ?_
                refine lv_iand hx hb dL_isDraw_229 ?_
                refine eqi (x' := nI ((orS (fun i => mpq g k x (q0 - 1) i) n) &&& ((orS (fun i => mpq g k x (q0 - 1) i) n) - 1))) (nI_and _ _) ?_
                refine n_if_ne (tgt := 237) hx hb dL_isDraw_230 (by decide) (by omega) (fun h230 => ?_) (fun h230 => ?_)
                · -- t
                  refine lv_iconst (v := nI 0) hx hb dL_isDraw_237 (by decide) ?_
                  refine lv_istore (lv' := [(11, .int (nI 0)), (10, .int (nI 1)), (0, .ref (b 0)), (1, .int (nI x)), (2, .ref cc0), (3, .ref ll0), (4, .int (nI (6 * q0 + e0))), (5, .ref qn9), (6, .int (nI q0)), (7, .int (nI (sdq x q))), (8, .int (nI (orS (fun i => mpq g k x q0 i) u))), (9, .int (nI (orS (fun i => mpq g k x (q0 - 1) i) u)))]) hx hb dL_isDraw_238 hl (by decide) rfl (fun ls hl => ?_)
                  refine lv_iload hx hb dL_isDraw_240 (lv_at hl 6 rfl) ?_
                  refine n_if_ge (tgt := 258) hx hb dL_isDraw_242 (by decide) (by omega) (fun h242 => ?_) (fun h242 => ?_)
                  · -- t
                    refine lv_iload hx hb dL_isDraw_258 (lv_at hl 1 rfl) ?_
                    refine n_if_eq (tgt := 289) hx hb dL_isDraw_260 (by decide) (by omega) (fun h260 => ?_) (fun h260 => ?_)
                    · -- t
                      exact absurd h260 (by decide)
                    · -- f
                      refine lv_iload hx hb dL_isDraw_263 (lv_at hl 10 rfl) ?_
                      refine eqi (x' := nI (orS (fun i => mpq g k x q0 i) n)) (congrArg nI (by rw [hun])) ?_
                      refine lv_iconst (v := nI 1) hx hb dL_isDraw_265 (by decide) ?_
                      refine lv_iload hx hb dL_isDraw_266 (lv_at hl 6 rfl) ?_
                      refine lv_bipush (v := nI 6) hx hb dL_isDraw_268 (by decide) ?_
                      refine lv_irem hx hb dL_isDraw_270 (nI_ne0 (by omega) (by omega)) ?_
                      refine eqi (x' := nI ((6 * q0 + e0) % 6)) (pk_rem (by omega) (by omega) (by omega)) ?_
                      refine eqi (x' := nI e0) (congrArg nI (by omega)) ?_
                      refine lv_ishl hx hb dL_isDraw_271 ?_
                      refine eqi (x' := nI (2 ^ e0)) (nI_shl1 (by omega)) ?_
                      have hA7 : 2 ^ e0 < 64 := pow64 (show e0 < 6 by omega) (Nat.le_refl 6)
                      refine n_icmp_ne (tgt := 289) hx hb dL_isDraw_272 (by decide) (by omega) (by omega) (fun h272 => ?_) (fun h272 => ?_)
                      · -- t
                        exact absurd ((orS_one hn1 hone).trans (by rw [he0])) h272
                      · -- f
                        refine lv_iload hx hb dL_isDraw_275 (lv_at hl 8 rfl) ?_
                        refine n_if_eq (tgt := 285) hx hb dL_isDraw_277 (by decide) (by omega) (fun h277 => ?_) (fun h277 => ?_)
                        · -- t
                          refine lv_iconst (v := nI 1) hx hb dL_isDraw_285 (by decide) ?_
                          refine lv_goto (tgt := 290) hx hb dL_isDraw_286 (by decide) ?_
                          have hP : va_P D vwCl ([hO b, cO b (nI n) (nI k), dO b, oQ (cY 2) (b 2) (rr 0) 6, gI (cY 0) (rr 0) 12 fG 6, [(b 16, .inl (cY 0, 6, .inl fEn1_1))], [(b 17, .inl (cY 0, 6, .inl fEb1_2))], [(cc0, .inl (cY 0, 2, .inl fc))], [(ll0, .inl (cY 0, 60, .inl fl))]] : List va_W).flatten H := bl_cutP (CL := [hO b, cO b (nI n) (nI k), dO b, oQ (cY 2) (b 2) (rr 0) 6, gI (cY 0) (rr 0) 12 fG 6, [(b 16, .inl (cY 0, 6, .inl fEn1_1))], [(b 17, .inl (cY 0, 6, .inl fEb1_2))], [(cc0, .inl (cY 0, 2, .inl fc))], [(ll0, .inl (cY 0, 60, .inl fl))]]) hP [0, 1, 2, 3, 4, 5, 6, 7, 8] rfl rfl
                          have hD : va_D A ([hO b, cO b (nI n) (nI k), dO b, oQ (cY 2) (b 2) (rr 0) 6, gI (cY 0) (rr 0) 12 fG 6, [(b 16, .inl (cY 0, 6, .inl fEn1_1))], [(b 17, .inl (cY 0, 6, .inl fEb1_2))], [(cc0, .inl (cY 0, 2, .inl fc))], [(ll0, .inl (cY 0, 60, .inl fl))]] : List va_W).flatten := bl_cutD (CL := [hO b, cO b (nI n) (nI k), dO b, oQ (cY 2) (b 2) (rr 0) 6, gI (cY 0) (rr 0) 12 fG 6, [(b 16, .inl (cY 0, 6, .inl fEn1_1))], [(b 17, .inl (cY 0, 6, .inl fEb1_2))], [(cc0, .inl (cY 0, 2, .inl fc))], [(ll0, .inl (cY 0, 60, .inl fl))]]) hD [0, 1, 2, 3, 4, 5, 6, 7, 8] rfl rfl
                          refine eqi (x' := bI true) rfl ?_
                          exact r_z hx hb hr hlocks hP hD hS (fEn1_1, fEb1_2) rfl (rfl) dL_isDraw_290
                        · -- f
                          refine lv_iload hx hb dL_isDraw_280 (lv_at hl 0 rfl) ?_
                          refine n_if_ne (tgt := 289) hx hb dL_isDraw_282 (by decide) (by omega) (fun h282 => ?_) (fun h282 => ?_)
                          · -- t
                            first | exact absurd rfl h282 | exact absurd h230 (orS_no hn1 hF2 (hmin (q0 - 1) (by omega)))
                          · -- f
                            refine lv_iconst (v := nI 1) hx hb dL_isDraw_285 (by decide) ?_
                            refine lv_goto (tgt := 290) hx hb dL_isDraw_286 (by decide) ?_
                            have hP : va_P D vwCl ([hO b, cO b (nI n) (nI k), dO b, oQ (cY 2) (b 2) (rr 0) 6, gI (cY 0) (rr 0) 12 fG 6, [(b 16, .inl (cY 0, 6, .inl fEn1_1))], [(b 17, .inl (cY 0, 6, .inl fEb1_2))], [(cc0, .inl (cY 0, 2, .inl fc))], [(ll0, .inl (cY 0, 60, .inl fl))]] : List va_W).flatten H := bl_cutP (CL := [hO b, cO b (nI n) (nI k), dO b, oQ (cY 2) (b 2) (rr 0) 6, gI (cY 0) (rr 0) 12 fG 6, [(b 16, .inl (cY 0, 6, .inl fEn1_1))], [(b 17, .inl (cY 0, 6, .inl fEb1_2))], [(cc0, .inl (cY 0, 2, .inl fc))], [(ll0, .inl (cY 0, 60, .inl fl))]]) hP [0, 1, 2, 3, 4, 5, 6, 7, 8] rfl rfl
                            have hD : va_D A ([hO b, cO b (nI n) (nI k), dO b, oQ (cY 2) (b 2) (rr 0) 6, gI (cY 0) (rr 0) 12 fG 6, [(b 16, .inl (cY 0, 6, .inl fEn1_1))], [(b 17, .inl (cY 0, 6, .inl fEb1_2))], [(cc0, .inl (cY 0, 2, .inl fc))], [(ll0, .inl (cY 0, 60, .inl fl))]] : List va_W).flatten := bl_cutD (CL := [hO b, cO b (nI n) (nI k), dO b, oQ (cY 2) (b 2) (rr 0) 6, gI (cY 0) (rr 0) 12 fG 6, [(b 16, .inl (cY 0, 6, .inl fEn1_1))], [(b 17, .inl (cY 0, 6, .inl fEb1_2))], [(cc0, .inl (cY 0, 2, .inl fc))], [(ll0, .inl (cY 0, 60, .inl fl))]]) hD [0, 1, 2, 3, 4, 5, 6, 7, 8] rfl rfl
                            refine eqi (x' := bI true) rfl ?_
                            exact r_z hx hb hr hlocks hP hD hS (fEn1_1, fEb1_2) rfl (rfl) dL_isDraw_290
                  · -- f
                    exact h242.elim
                · -- f
                  refine lv_iconst (v := nI 1) hx hb dL_isDraw_233 (by decide) ?_
                  refine lv_goto (tgt := 238) hx hb dL_isDraw_234 (by decide) ?_
                  refine lv_istore (lv' := [(11, .int (nI 1)), (10, .int (nI 1)), (0, .ref (b 0)), (1, .int (nI x)), (2, .ref cc0), (3, .ref ll0), (4, .int (nI (6 * q0 + e0))), (5, .ref qn9), (6, .int (nI q0)), (7, .int (nI (sdq x q))), (8, .int (nI (orS (fun i => mpq g k x q0 i) u))), (9, .int (nI (orS (fun i => mpq g k x (q0 - 1) i) u)))]) hx hb dL_isDraw_238 hl (by decide) rfl (fun ls hl => ?_)
                  refine lv_iload hx hb dL_isDraw_240 (lv_at hl 6 rfl) ?_
                  refine n_if_ge (tgt := 258) hx hb dL_isDraw_242 (by decide) (by omega) (fun h242 => ?_) (fun h242 => ?_)
                  · -- t
                    refine lv_iload hx hb dL_isDraw_258 (lv_at hl 1 rfl) ?_
                    refine n_if_eq (tgt := 289) hx hb dL_isDraw_260 (by decide) (by omega) (fun h260 => ?_) (fun h260 => ?_)
                    · -- t
                      exact absurd h260 (by decide)
                    · -- f
                      refine lv_iload hx hb dL_isDraw_263 (lv_at hl 10 rfl) ?_
                      refine eqi (x' := nI (orS (fun i => mpq g k x q0 i) n)) (congrArg nI (by rw [hun])) ?_
                      refine lv_iconst (v := nI 1) hx hb dL_isDraw_265 (by decide) ?_
                      refine lv_iload hx hb dL_isDraw_266 (lv_at hl 6 rfl) ?_
                      refine lv_bipush (v := nI 6) hx hb dL_isDraw_268 (by decide) ?_
                      refine lv_irem hx hb dL_isDraw_270 (nI_ne0 (by omega) (by omega)) ?_
                      refine eqi (x' := nI ((6 * q0 + e0) % 6)) (pk_rem (by omega) (by omega) (by omega)) ?_
                      refine eqi (x' := nI e0) (congrArg nI (by omega)) ?_
                      refine lv_ishl hx hb dL_isDraw_271 ?_
                      refine eqi (x' := nI (2 ^ e0)) (nI_shl1 (by omega)) ?_
                      have hA7 : 2 ^ e0 < 64 := pow64 (show e0 < 6 by omega) (Nat.le_refl 6)
                      refine n_icmp_ne (tgt := 289) hx hb dL_isDraw_272 (by decide) (by omega) (by omega) (fun h272 => ?_) (fun h272 => ?_)
                      · -- t
                        exact absurd ((orS_one hn1 hone).trans (by rw [he0])) h272
                      · -- f
                        refine lv_iload hx hb dL_isDraw_275 (lv_at hl 8 rfl) ?_
                        refine n_if_eq (tgt := 285) hx hb dL_isDraw_277 (by decide) (by omega) (fun h277 => ?_) (fun h277 => ?_)
                        · -- t
                          refine lv_iconst (v := nI 1) hx hb dL_isDraw_285 (by decide) ?_
                          refine lv_goto (tgt := 290) hx hb dL_isDraw_286 (by decide) ?_
                          have hP : va_P D vwCl ([hO b, cO b (nI n) (nI k), dO b, oQ (cY 2) (b 2) (rr 0) 6, gI (cY 0) (rr 0) 12 fG 6, [(b 16, .inl (cY 0, 6, .inl fEn1_1))], [(b 17, .inl (cY 0, 6, .inl fEb1_2))], [(cc0, .inl (cY 0, 2, .inl fc))], [(ll0, .inl (cY 0, 60, .inl fl))]] : List va_W).flatten H := bl_cutP (CL := [hO b, cO b (nI n) (nI k), dO b, oQ (cY 2) (b 2) (rr 0) 6, gI (cY 0) (rr 0) 12 fG 6, [(b 16, .inl (cY 0, 6, .inl fEn1_1))], [(b 17, .inl (cY 0, 6, .inl fEb1_2))], [(cc0, .inl (cY 0, 2, .inl fc))], [(ll0, .inl (cY 0, 60, .inl fl))]]) hP [0, 1, 2, 3, 4, 5, 6, 7, 8] rfl rfl
                          have hD : va_D A ([hO b, cO b (nI n) (nI k), dO b, oQ (cY 2) (b 2) (rr 0) 6, gI (cY 0) (rr 0) 12 fG 6, [(b 16, .inl (cY 0, 6, .inl fEn1_1))], [(b 17, .inl (cY 0, 6, .inl fEb1_2))], [(cc0, .inl (cY 0, 2, .inl fc))], [(ll0, .inl (cY 0, 60, .inl fl))]] : List va_W).flatten := bl_cutD (CL := [hO b, cO b (nI n) (nI k), dO b, oQ (cY 2) (b 2) (rr 0) 6, gI (cY 0) (rr 0) 12 fG 6, [(b 16, .inl (cY 0, 6, .inl fEn1_1))], [(b 17, .inl (cY 0, 6, .inl fEb1_2))], [(cc0, .inl (cY 0, 2, .inl fc))], [(ll0, .inl (cY 0, 60, .inl fl))]]) hD [0, 1, 2, 3, 4, 5, 6, 7, 8] rfl rfl
                          refine eqi (x' := bI true) rfl ?_
                          exact r_z hx hb hr hlocks hP hD hS (fEn1_1, fEb1_2) rfl (rfl) dL_isDraw_290
                        · -- f
                          refine lv_iload hx hb dL_isDraw_280 (lv_at hl 0 rfl) ?_
                          refine n_if_ne (tgt := 289) hx hb dL_isDraw_282 (by decide) (by omega) (fun h282 => ?_) (fun h282 => ?_)
                          · -- t
                            first | exact absurd rfl h282 | exact absurd h230 (orS_no hn1 hF2 (hmin (q0 - 1) (by omega)))
                          · -- f
                            refine lv_iconst (v := nI 1) hx hb dL_isDraw_285 (by decide) ?_
                            refine lv_goto (tgt := 290) hx hb dL_isDraw_286 (by decide) ?_
                            have hP : va_P D vwCl ([hO b, cO b (nI n) (nI k), dO b, oQ (cY 2) (b 2) (rr 0) 6, gI (cY 0) (rr 0) 12 fG 6, [(b 16, .inl (cY 0, 6, .inl fEn1_1))], [(b 17, .inl (cY 0, 6, .inl fEb1_2))], [(cc0, .inl (cY 0, 2, .inl fc))], [(ll0, .inl (cY 0, 60, .inl fl))]] : List va_W).flatten H := bl_cutP (CL := [hO b, cO b (nI n) (nI k), dO b, oQ (cY 2) (b 2) (rr 0) 6, gI (cY 0) (rr 0) 12 fG 6, [(b 16, .inl (cY 0, 6, .inl fEn1_1))], [(b 17, .inl (cY 0, 6, .inl fEb1_2))], [(cc0, .inl (cY 0, 2, .inl fc))], [(ll0, .inl (cY 0, 60, .inl fl))]]) hP [0, 1, 2, 3, 4, 5, 6, 7, 8] rfl rfl
                            have hD : va_D A ([hO b, cO b (nI n) (nI k), dO b, oQ (cY 2) (b 2) (rr 0) 6, gI (cY 0) (rr 0) 12 fG 6, [(b 16, .inl (cY 0, 6, .inl fEn1_1))], [(b 17, .inl (cY 0, 6, .inl fEb1_2))], [(cc0, .inl (cY 0, 2, .inl fc))], [(ll0, .inl (cY 0, 60, .inl fl))]] : List va_W).flatten := bl_cutD (CL := [hO b, cO b (nI n) (nI k), dO b, oQ (cY 2) (b 2) (rr 0) 6, gI (cY 0) (rr 0) 12 fG 6, [(b 16, .inl (cY 0, 6, .inl fEn1_1))], [(b 17, .inl (cY 0, 6, .inl fEb1_2))], [(cc0, .inl (cY 0, 2, .inl fc))], [(ll0, .inl (cY 0, 60, .inl fl))]]) hD [0, 1, 2, 3, 4, 5, 6, 7, 8] rfl rfl
                            refine eqi (x' := bI true) rfl ?_
                            exact r_z hx hb hr hlocks hP hD hS (fEn1_1, fEb1_2) rfl (rfl) dL_isDraw_290
                  · -- f
                    exact h242.elim
            · -- f
              refine lv_iload hx hb dL_isDraw_113 (lv_at hl 10 rfl) ?_
              refine lv_istore (lv' := [(11, .int (nI u)), (0, .ref (b 0)), (1, .int (nI x)), (2, .ref cc0), (3, .ref ll0), (4, .int (nI (6 * q0 + e0))), (5, .ref qn9), (6, .int (nI q0)), (7, .int (nI (sdq x q))), (8, .int (nI (orS (fun i => mpq g k x q0 i) u))), (9, .int (nI (orS (fun i => mpq g k x (q0 - 1) i) u))), (10, .int (nI u))]) hx hb dL_isDraw_115 hl (by decide) rfl (fun ls hl => ?_)
              refine lv_iload hx hb dL_isDraw_117 (lv_at hl 11 rfl) ?_
              refine lv_istore (lv' := [(12, .int (nI u)), (11, .int (nI u)), (0, .ref (b 0)), (1, .int (nI x)), (2, .ref cc0), (3, .ref ll0), (4, .int (nI (6 * q0 + e0))), (5, .ref qn9), (6, .int (nI q0)), (7, .int (nI (sdq x q))), (8, .int (nI (orS (fun i => mpq g k x q0 i) u))), (9, .int (nI (orS (fun i => mpq g k x (q0 - 1) i) u))), (10, .int (nI u))]) hx hb dL_isDraw_119 hl (by decide) rfl (fun ls hl => ?_)
              refine lv_iload hx hb dL_isDraw_121 (lv_at hl 8 rfl) ?_
              refine lv_iconst (v := nI 1) hx hb dL_isDraw_123 (by decide) ?_
              refine lv_isub hx hb dL_isDraw_124 ?_
              refine eqi (x' := zJ q0) (rfl) ?_
              refine lv_istore (lv' := [(13, .int (zJ q0)), (12, .int (nI u)), (11, .int (nI u)), (0, .ref (b 0)), (1, .int (nI x)), (2, .ref cc0), (3, .ref ll0), (4, .int (nI (6 * q0 + e0))), (5, .ref qn9), (6, .int (nI q0)), (7, .int (nI (sdq x q))), (8, .int (nI (orS (fun i => mpq g k x q0 i) u))), (9, .int (nI (orS (fun i => mpq g k x (q0 - 1) i) u))), (10, .int (nI u))]) hx hb dL_isDraw_125 hl (by decide) rfl (fun ls hl => ?_)
              have L127 : ∀ z : Nat, ∀ (y1 : Nat) (y2 : Nat), (z ≤ q0) → (mpq g k x z y1 = mpq g k x q0 u ∧ y1 < n) → (mpq g k x (min z (q0 - 1)) y2 = mpq g k x (q0 - 1) u ∧ y2 < n) → ∀ (H : Heap) (locs : List Loc), va_P D vwCl ([hO b, cO b (nI n) (nI k), dO b, oQ (cY 2) (b 2) (rr 0) 6, gI (cY 0) (rr 0) 12 fG 6, [(b 16, .inl (cY 0, 6, .inl fEn1_1))], [(b 17, .inl (cY 0, 6, .inl fEb1_2))], [(cc0, .inl (cY 0, 2, .inl fc))], [(ll0, .inl (cY 0, 60, .inl fl))], [(qn9, .inl (cY 0, 64, .inl gs))]] : List va_W).flatten H → va_D A ([hO b, cO b (nI n) (nI k), dO b, oQ (cY 2) (b 2) (rr 0) 6, gI (cY 0) (rr 0) 12 fG 6, [(b 16, .inl (cY 0, 6, .inl fEn1_1))], [(b 17, .inl (cY 0, 6, .inl fEb1_2))], [(cc0, .inl (cY 0, 2, .inl fc))], [(ll0, .inl (cY 0, 60, .inl fl))], [(qn9, .inl (cY 0, 64, .inl gs))]] : List va_W).flatten → va_S A s.heap H locs → ∀ (ls : Array Slot), lv_has ls 14 [(0, .ref (b 0)), (1, .int (nI x)), (2, .ref cc0), (3, .ref ll0), (4, .int (nI (6 * q0 + e0))), (5, .ref qn9), (6, .int (nI q0)), (7, .int (nI (sdq x q))), (8, .int (nI (orS (fun i => mpq g k x q0 i) u))), (9, .int (nI (orS (fun i => mpq g k x (q0 - 1) i) u))), (10, .int (nI u)), (11, .int (nI y1)), (12, .int (nI y2)), (13, .int (zJ z))] → W p l e ({ frames := 4, cells := 1, slots := 64, locals := 160 }) s m ([.ref (b 0), .int (nI x), .ref cc0, .ref ll0] : List Value).toArray below meth c H locs 1 64 (MQ below (qI (S := (Nat → Int32) × (Nat → Int32)) D cY (fun r uu => r = bI true) (fun uu => [hO b, cO b (nI n) (nI k), dO b, oQ (cY 2) (b 2) (rr 0) 6, gI (cY 0) (rr 0) 12 fG 6, [(b 16, .inl (cY 0, 6, .inl uu.1))], [(b 17, .inl (cY 0, 6, .inl uu.2))], [(cc0, .inl (cY 0, 2, .inl fc))], [(ll0, .inl (cY 0, 60, .inl fl))]]) A) ([.ref (b 0), .int (nI x), .ref cc0, .ref ll0] : List Value).toArray s 1 64 A) (F0 m 127 ls []) := by
                refine lpSt ?_
                intro z ih127 y1 y2 hzM hy1 hy2 H locs hP hD hS ls hl
                refine lv_iload hx hb dL_isDraw_127 (lv_at hl 13 rfl) ?_
                refine lv_if_lt (tgt := 182) hx hb dL_isDraw_129 (by decide) (fun h129 => ?_) (fun h129 => ?_)
                · -- t
                  have ez : z = 0 := zJ_z (by omega) h129
                  have hy1e : y1 = mpq g k x q0 u := by
                    have q1 := hy1.1
                    rw [ez] at q1
                    exact q1
                  have hy2e : y2 = mpq g k x (q0 - 1) u := by
                    have q1 := hy2.1
                    rw [ez, Nat.zero_min] at q1
                    exact q1
                  have hy1l := hy1.2
                  have hy2l := hy2.2
                  refine lv_iload hx hb dL_isDraw_182 (lv_at hl 8 rfl) ?_
                  refine lv_iconst (v := nI 1) hx hb dL_isDraw_184 (by decide) ?_
                  refine lv_iload hx hb dL_isDraw_185 (lv_at hl 11 rfl) ?_
                  refine lv_ishl hx hb dL_isDraw_187 ?_
                  refine eqi (x' := nI (2 ^ y1)) (nI_shl1 (by omega)) ?_
                  refine lv_ior hx hb dL_isDraw_188 ?_
                  refine eqi (x' := nI ((orS (fun i => mpq g k x q0 i) u) ||| (2 ^ y1))) (nI_or _ _) ?_
                  refine eqi (x' := nI (orS (fun i => mpq g k x q0 i) (u + 1))) (congrArg nI (by rw [hy1e]; rfl)) ?_
                  refine lv_istore (lv' := [(8, .int (nI (orS (fun i => mpq g k x q0 i) (u + 1)))), (0, .ref (b 0)), (1, .int (nI x)), (2, .ref cc0), (3, .ref ll0), (4, .int (nI (6 * q0 + e0))), (5, .ref qn9), (6, .int (nI q0)), (7, .int (nI (sdq x q))), (9, .int (nI (orS (fun i => mpq g k x (q0 - 1) i) u))), (10, .int (nI u)), (11, .int (nI y1)), (12, .int (nI y2)), (13, .int (zJ z))]) hx hb dL_isDraw_189 hl (by decide) rfl (fun ls hl => ?_)
                  refine lv_iload hx hb dL_isDraw_191 (lv_at hl 9 rfl) ?_
                  refine lv_iconst (v := nI 1) hx hb dL_isDraw_193 (by decide) ?_
                  refine lv_iload hx hb dL_isDraw_194 (lv_at hl 12 rfl) ?_
                  refine lv_ishl hx hb dL_isDraw_196 ?_
                  refine eqi (x' := nI (2 ^ y2)) (nI_shl1 (by omega)) ?_
                  refine lv_ior hx hb dL_isDraw_197 ?_
                  refine eqi (x' := nI ((orS (fun i => mpq g k x (q0 - 1) i) u) ||| (2 ^ y2))) (nI_or _ _) ?_
                  refine eqi (x' := nI (orS (fun i => mpq g k x (q0 - 1) i) (u + 1))) (congrArg nI (by rw [hy2e]; rfl)) ?_
                  refine lv_istore (lv' := [(9, .int (nI (orS (fun i => mpq g k x (q0 - 1) i) (u + 1)))), (8, .int (nI (orS (fun i => mpq g k x q0 i) (u + 1)))), (0, .ref (b 0)), (1, .int (nI x)), (2, .ref cc0), (3, .ref ll0), (4, .int (nI (6 * q0 + e0))), (5, .ref qn9), (6, .int (nI q0)), (7, .int (nI (sdq x q))), (10, .int (nI u)), (11, .int (nI y1)), (12, .int (nI y2)), (13, .int (zJ z))]) hx hb dL_isDraw_198 hl (by decide) rfl (fun ls hl => ?_)
                  refine lv_iinc (v := nI (u + 1)) (lv' := [(10, .int (nI (u + 1))), (9, .int (nI (orS (fun i => mpq g k x (q0 - 1) i) (u + 1)))), (8, .int (nI (orS (fun i => mpq g k x q0 i) (u + 1)))), (0, .ref (b 0)), (1, .int (nI x)), (2, .ref cc0), (3, .ref ll0), (4, .int (nI (6 * q0 + e0))), (5, .ref qn9), (6, .int (nI q0)), (7, .int (nI (sdq x q))), (11, .int (nI y1)), (12, .int (nI y2)), (13, .int (zJ z))]) hx hb dL_isDraw_200 hl (k := 10) rfl (nI_1 u) (by decide) rfl (fun ls hl => ?_)
                  refine lv_goto (tgt := 105) hx hb dL_isDraw_203 (by decide) ?_
                  exact ih105 (by omega)   _ _ hP hD hS _ (lv_sub hl [3, 4, 5, 6, 7, 8, 9, 10, 2, 1, 0] rfl)
                · -- f
                  have ez : 1 ≤ z := zJ_q h129
                  have hmd := Nat.mod_lt (sdq x z) (show 0 < k by omega)
                  have hy1l := hy1.2
                  have hy2l := hy2.2
                  have hsz : gs (z - 1) = nI (sdq x z % k) := by rw [hs (z - 1) (by omega), show z - 1 + 1 = z by omega]
                  refine lv_aload_n hx hb dL_isDraw_132 rfl (lv_at hl 3 rfl) ?_
                  refine lv_bipush (v := nI 10) hx hb dL_isDraw_133 (by decide) ?_
                  refine lv_iload hx hb dL_isDraw_135 (lv_at hl 11 rfl) ?_
                  refine lv_imul hx hb dL_isDraw_137 ?_
                  refine eqi (x' := nI (10 * y1)) (pk_mul _ _) ?_
                  refine lv_aload hx hb dL_isDraw_138 (lv_at hl 5 rfl) ?_
                  refine lv_iload hx hb dL_isDraw_140 (lv_at hl 13 rfl) ?_
                  refine eqi (x' := nI (z - 1)) (zJ_n ez) ?_
                  refine b_iald hx hb hK hP 9 0 rfl rfl (by omega) (by decide) dL_isDraw_142 ?_
                  refine eqi (x' := nI (sdq x z % k)) (hsz) ?_
                  refine lv_iadd hx hb dL_isDraw_143 ?_
                  refine eqi (x' := nI (10 * y1 + sdq x z % k)) (nI_add _ _) ?_
                  refine b_iald hx hb hK hP 8 0 rfl rfl (by omega) (by decide) dL_isDraw_144 ?_
                  refine eqi (x' := nI (g y1 (sdq x z % k))) (hL _ _ hy1l hmd) ?_
                  refine lv_istore (lv' := [(11, .int (nI (g y1 (sdq x z % k)))), (0, .ref (b 0)), (1, .int (nI x)), (2, .ref cc0), (3, .ref ll0), (4, .int (nI (6 * q0 + e0))), (5, .ref qn9), (6, .int (nI q0)), (7, .int (nI (sdq x q))), (8, .int (nI (orS (fun i => mpq g k x q0 i) u))), (9, .int (nI (orS (fun i => mpq g k x (q0 - 1) i) u))), (10, .int (nI u)), (12, .int (nI y2)), (13, .int (zJ z))]) hx hb dL_isDraw_145 hl (by decide) rfl (fun ls hl => ?_)
                  refine lv_iload hx hb dL_isDraw_147 (lv_at hl 13 rfl) ?_
                  refine eqi (x' := nI (z - 1)) (zJ_n ez) ?_
                  refine lv_iload hx hb dL_isDraw_149 (lv_at hl 7 rfl) ?_
                  refine lv_iconst (v := nI 1) hx hb dL_isDraw_151 (by decide) ?_
                  refine lv_isub hx hb dL_isDraw_152 ?_
                  refine eqi (x' := nI (q0 - 1)) (pk_sub (by omega)) ?_
                  refine n_icmp_ge (tgt := 172) hx hb dL_isDraw_153 (by decide) (by omega) (by omega) (fun h153 => ?_) (fun h153 => ?_)
                  · -- t
                    refine lv_iload hx hb dL_isDraw_172 (lv_at hl 12 rfl) ?_
                    refine lv_istore (lv' := [(12, .int (nI y2)), (11, .int (nI (g y1 (sdq x z % k)))), (0, .ref (b 0)), (1, .int (nI x)), (2, .ref cc0), (3, .ref ll0), (4, .int (nI (6 * q0 + e0))), (5, .ref qn9), (6, .int (nI q0)), (7, .int (nI (sdq x q))), (8, .int (nI (orS (fun i => mpq g k x q0 i) u))), (9, .int (nI (orS (fun i => mpq g k x (q0 - 1) i) u))), (10, .int (nI u)), (13, .int (zJ z))]) hx hb dL_isDraw_174 hl (by decide) rfl (fun ls hl => ?_)
                    refine lv_iinc (v := zJ (z - 1)) (lv' := [(13, .int (zJ (z - 1))), (12, .int (nI y2)), (11, .int (nI (g y1 (sdq x z % k)))), (0, .ref (b 0)), (1, .int (nI x)), (2, .ref cc0), (3, .ref ll0), (4, .int (nI (6 * q0 + e0))), (5, .ref qn9), (6, .int (nI q0)), (7, .int (nI (sdq x q))), (8, .int (nI (orS (fun i => mpq g k x q0 i) u))), (9, .int (nI (orS (fun i => mpq g k x (q0 - 1) i) u))), (10, .int (nI u))]) hx hb dL_isDraw_176 hl (k := 13) rfl (zJ_s ez) (by decide) rfl (fun ls hl => ?_)
                    refine lv_goto (tgt := 127) hx hb dL_isDraw_179 (by decide) ?_
                    exact ih127 (z - 1) (by omega) (g y1 (sdq x z % k)) y2 (by omega) (⟨(mpq_z ez).symm.trans hy1.1, hgn _ _ hy1.2 hmd⟩) (by first | exact my2_t hy2 h153 hzM | exact my2_f hgn hk1 hy2 ez h153) _ _ hP hD hS _ (lv_sub hl [3, 4, 5, 6, 7, 8, 9, 10, 11, 12, 13, 2, 1, 0] rfl)
                  · -- f
                    refine lv_aload_n hx hb dL_isDraw_156 rfl (lv_at hl 4 rfl) ?_
                    refine lv_bipush (v := nI 10) hx hb dL_isDraw_157 (by decide) ?_
                    refine lv_iload hx hb dL_isDraw_159 (lv_at hl 12 rfl) ?_
                    refine lv_imul hx hb dL_isDraw_161 ?_
                    refine eqi (x' := nI (10 * y2)) (pk_mul _ _) ?_
                    refine lv_aload hx hb dL_isDraw_162 (lv_at hl 6 rfl) ?_
                    refine lv_iload hx hb dL_isDraw_164 (lv_at hl 13 rfl) ?_
                    refine eqi (x' := nI (z - 1)) (zJ_n ez) ?_
                    refine b_iald hx hb hK hP 9 0 rfl rfl (by omega) (by decide) dL_isDraw_166 ?_
                    refine eqi (x' := nI (sdq x z % k)) (hsz) ?_
                    refine lv_iadd hx hb dL_isDraw_167 ?_
                    refine eqi (x' := nI (10 * y2 + sdq x z % k)) (nI_add _ _) ?_
                    refine b_iald hx hb hK hP 8 0 rfl rfl (by omega) (by decide) dL_isDraw_168 ?_
                    refine eqi (x' := nI (g y2 (sdq x z % k))) (hL _ _ hy2l hmd) ?_
                    refine lv_goto (tgt := 174) hx hb dL_isDraw_169 (by decide) ?_
                    refine lv_istore (lv' := [(12, .int (nI (g y2 (sdq x z % k)))), (11, .int (nI (g y1 (sdq x z % k)))), (0, .ref (b 0)), (1, .int (nI x)), (2, .ref cc0), (3, .ref ll0), (4, .int (nI (6 * q0 + e0))), (5, .ref qn9), (6, .int (nI q0)), (7, .int (nI (sdq x q))), (8, .int (nI (orS (fun i => mpq g k x q0 i) u))), (9, .int (nI (orS (fun i => mpq g k x (q0 - 1) i) u))), (10, .int (nI u)), (13, .int (zJ z))]) hx hb dL_isDraw_174 hl (by decide) rfl (fun ls hl => ?_)
                    refine lv_iinc (v := zJ (z - 1)) (lv' := [(13, .int (zJ (z - 1))), (12, .int (nI (g y2 (sdq x z % k)))), (11, .int (nI (g y1 (sdq x z % k)))), (0, .ref (b 0)), (1, .int (nI x)), (2, .ref cc0), (3, .ref ll0), (4, .int (nI (6 * q0 + e0))), (5, .ref qn9), (6, .int (nI q0)), (7, .int (nI (sdq x q))), (8, .int (nI (orS (fun i => mpq g k x q0 i) u))), (9, .int (nI (orS (fun i => mpq g k x (q0 - 1) i) u))), (10, .int (nI u))]) hx hb dL_isDraw_176 hl (k := 13) rfl (zJ_s ez) (by decide) rfl (fun ls hl => ?_)
                    refine lv_goto (tgt := 127) hx hb dL_isDraw_179 (by decide) ?_
                    exact ih127 (z - 1) (by omega) (g y1 (sdq x z % k)) (g y2 (sdq x z % k)) (by omega) (⟨(mpq_z ez).symm.trans hy1.1, hgn _ _ hy1.2 hmd⟩) (by first | exact my2_t hy2 h153 hzM | exact my2_f hgn hk1 hy2 ez h153) _ _ hP hD hS _ (lv_sub hl [3, 4, 5, 6, 7, 8, 9, 10, 11, 12, 13, 2, 1, 0] rfl)
              exact L127 q0 u u (by omega) (⟨rfl, by omega⟩) (⟨by rw [show min q0 (q0 - 1) = (q0 - 1) by omega], by omega⟩) _ _ hP hD hS _ (lv_sub hl [3, 4, 5, 6, 7, 8, 9, 10, 11, 12, 13, 2, 1, 0] rfl)
          exact L105 0 (by omega)   _ _ hP hD hS _ (lv_sub hl [3, 4, 5, 6, 7, 8, 9, 10, 2, 1, 0] rfl)
        · -- f
          refine lv_sipush (v := nI 7919) hx hb dL_isDraw_64 (by decide) ?_
          have hsq := sdq_lt hx1 q
          refine lv_iload hx hb dL_isDraw_67 (lv_at hl 7 rfl) ?_
          refine lv_imul hx hb dL_isDraw_69 ?_
          refine eqi (x' := nI (7919 * (sdq x q))) (pk_mul _ _) ?_
          refine lv_sipush (v := nI 12345) hx hb dL_isDraw_70 (by decide) ?_
          refine lv_iadd hx hb dL_isDraw_73 ?_
          refine eqi (x' := nI (7919 * (sdq x q) + 12345)) (nI_add _ _) ?_
          refine lv_ldc (v := 65521) hx hb hown (hts (.constant RL 66 65521) (by decide +kernel)) dL_isDraw_74 ?_
          refine eqi (x' := nI 65521) (by decide) ?_
          refine lv_irem hx hb dL_isDraw_76 (nI_ne0 (by omega) (by omega)) ?_
          refine eqi (x' := nI ((7919 * (sdq x q) + 12345) % 65521)) (pk_rem (by omega) (by omega) (by omega)) ?_
          refine eqi (x' := nI (sdq x (q + 1))) (rfl) ?_
          have hsl := sdq_lt hx1 (q + 1)
          refine lv_istore (lv' := [(7, .int (nI (sdq x (q + 1)))), (0, .ref (b 0)), (1, .int (nI x)), (2, .ref cc0), (3, .ref ll0), (4, .int (nI (6 * q0 + e0))), (5, .ref qn9), (6, .int (nI q0)), (8, .int (nI q))]) hx hb dL_isDraw_77 hl (by decide) rfl (fun ls hl => ?_)
          refine lv_aload hx hb dL_isDraw_79 (lv_at hl 6 rfl) ?_
          refine lv_iload hx hb dL_isDraw_81 (lv_at hl 8 rfl) ?_
          refine lv_iload hx hb dL_isDraw_83 (lv_at hl 0 rfl) ?_
          refine lv_aload_n hx hb dL_isDraw_85 rfl (lv_at hl 3 rfl) ?_
          refine lv_iconst (v := nI 1) hx hb dL_isDraw_86 (by decide) ?_
          refine b_iald hx hb hK hP 7 0 rfl rfl (by omega) (by decide) dL_isDraw_87 ?_
          refine eqi (x' := nI k) (hck) ?_
          refine lv_irem hx hb dL_isDraw_88 (nI_ne0 (by omega) (by omega)) ?_
          refine eqi (x' := nI ((sdq x (q + 1)) % k)) (pk_rem (by omega) (by omega) (by omega)) ?_
          refine b_iast hx hb hK hP hD hS 9 0 rfl rfl (by omega) (by decide) dL_isDraw_89 (fun H locs hP hD hS => ?_)
          have hP : va_P D vwCl ([hO b, cO b (nI n) (nI k), dO b, oQ (cY 2) (b 2) (rr 0) 6, gI (cY 0) (rr 0) 12 fG 6, [(b 16, .inl (cY 0, 6, .inl fEn1_1))], [(b 17, .inl (cY 0, 6, .inl fEb1_2))], [(cc0, .inl (cY 0, 2, .inl fc))], [(ll0, .inl (cY 0, 60, .inl fl))], [(qn9, .inl (cY 0, 64, .inl (upd gs q (nI ((sdq x (q + 1)) % k)))))]] : List va_W).flatten H := hP
          have hD : va_D A ([hO b, cO b (nI n) (nI k), dO b, oQ (cY 2) (b 2) (rr 0) 6, gI (cY 0) (rr 0) 12 fG 6, [(b 16, .inl (cY 0, 6, .inl fEn1_1))], [(b 17, .inl (cY 0, 6, .inl fEb1_2))], [(cc0, .inl (cY 0, 2, .inl fc))], [(ll0, .inl (cY 0, 60, .inl fl))], [(qn9, .inl (cY 0, 64, .inl (upd gs q (nI ((sdq x (q + 1)) % k)))))]] : List va_W).flatten := hD
          refine lv_iinc (v := nI (q + 1)) (lv' := [(8, .int (nI (q + 1))), (7, .int (nI (sdq x (q + 1)))), (0, .ref (b 0)), (1, .int (nI x)), (2, .ref cc0), (3, .ref ll0), (4, .int (nI (6 * q0 + e0))), (5, .ref qn9), (6, .int (nI q0))]) hx hb dL_isDraw_90 hl (k := 8) rfl (nI_1 q) (by decide) rfl (fun ls hl => ?_)
          refine lv_goto (tgt := 57) hx hb dL_isDraw_93 (by decide) ?_
          exact ih57 (by omega) (upd gs q (nI ((sdq x (q + 1)) % k))) (fun j hj => by
  by_cases e : j = q
  · subst e; rw [pk_us]
  · rw [pk_un e]; exact hs j (by omega)) _ _ hP hD hS _ (lv_sub hl [2, 3, 4, 5, 6, 7, 8, 1, 0] rfl)
      exact L57 0 (by omega) (fun _ => nI 0) (fun j h => by omega) _ _ hP hD hS _ (lv_sub hl [5, 6, 7, 8, 4, 3, 2, 1, 0] rfl)
    · -- f
      exact absurd h37 (by omega)
  · -- f
    exact h15.elim

set_option maxHeartbeats 4000000 in
set_option maxRecDepth 100000 in
theorem c_L_isDraw_none (l : Launch) (D : va_G) (cY : Nat → ClassId) (sz : Nat) (b : Nat → Nat) (rr : Nat → Nat → Nat) (n : Nat) (k : Nat) (fG : Nat → Nat → Int32) (fEn : Nat → Int32) (fEb : Nat → Int32) (g : Nat → Nat → Nat) (cc0 : Nat) (fc : Nat → Int32) (ll0 : Nat) (fl : Nat → Int32) (x : Nat) (hn1 : 1 ≤ n) (hn6 : n ≤ 6) (hk1 : 1 ≤ k) (hk12 : k ≤ 12) (hcn : fc 0 = nI n) (hck : fc 1 = nI k) (hG : ∀ i j, i < n → j < k → fG i j = nI (g i j)) (hgn : ∀ i j, i < n → j < k → g i j < n) (hk10 : k ≤ 10) (hL : LL n k g fl) (hx1 : x < 65521) (hdg : dgo g n k x 200 0 = -1) (hno : oneB (mpq g k x 60) n = false) : Met l yL_isDraw wsL_isDraw ({ frames := 4, cells := 1, slots := 64, locals := 160 }) (cP D cY [.ref (b 0), .int (nI x), .ref cc0, .ref ll0] [hO b, cO b (nI n) (nI k), dO b, oQ (cY 2) (b 2) (rr 0) 6, gI (cY 0) (rr 0) 12 fG 6, [(b 16, .inl (cY 0, 6, .inl fEn))], [(b 17, .inl (cY 0, 6, .inl fEb))], [(cc0, .inl (cY 0, 2, .inl fc))], [(ll0, .inl (cY 0, 60, .inl fl))]] sz) (qI (S := (Nat → Int32) × (Nat → Int32)) D cY (fun r uu => r = bI true) (fun uu => [hO b, cO b (nI n) (nI k), dO b, oQ (cY 2) (b 2) (rr 0) 6, gI (cY 0) (rr 0) 12 fG 6, [(b 16, .inl (cY 0, 6, .inl uu.1))], [(b 17, .inl (cY 0, 6, .inl uu.2))], [(cc0, .inl (cY 0, 2, .inl fc))], [(ll0, .inl (cY 0, 60, .inl fl))]]) (va_A ([hO b, cO b (nI n) (nI k), dO b, oQ (cY 2) (b 2) (rr 0) 6, gI (cY 0) (rr 0) 12 fG 6, [(b 16, .inl (cY 0, 6, .inl fEn))], [(b 17, .inl (cY 0, 6, .inl fEb))], [(cc0, .inl (cY 0, 2, .inl fc))], [(ll0, .inl (cY 0, 60, .inl fl))]] : List va_W).flatten sz)) 1 64 (va_A ([hO b, cO b (nI n) (nI k), dO b, oQ (cY 2) (b 2) (rr 0) 6, gI (cY 0) (rr 0) 12 fG 6, [(b 16, .inl (cY 0, 6, .inl fEn))], [(b 17, .inl (cY 0, 6, .inl fEb))], [(cc0, .inl (cY 0, 2, .inl fc))], [(ll0, .inl (cY 0, 60, .inl fl))]] : List va_W).flatten sz) := by
  refine mtB (Qc := fun A => qI (S := (Nat → Int32) × (Nat → Int32)) D cY (fun r uu => r = bI true) (fun uu => [hO b, cO b (nI n) (nI k), dO b, oQ (cY 2) (b 2) (rr 0) 6, gI (cY 0) (rr 0) 12 fG 6, [(b 16, .inl (cY 0, 6, .inl uu.1))], [(b 17, .inl (cY 0, 6, .inl uu.2))], [(cc0, .inl (cY 0, 2, .inl fc))], [(ll0, .inl (cY 0, 60, .inl fl))]]) A) (cc := cL_isDraw) (maxL := 14) (ret := (some .boolean)) (by decide) rfl (Nat.le_of_ble_eq_true rfl) ?_
  intro p e s m below meth c A ls hx hb hr hml hts hown hlocks hnm hsz hP hK hVK hD hS hA hl
  have hown : s.vm.findClass RL = some m.cls := hown
  have hl : lv_has ls 14 [(0, .ref (b 0)), (1, .int (nI x)), (2, .ref cc0), (3, .ref ll0)] := hl
  have hP : va_P D vwCl ([hO b, cO b (nI n) (nI k), dO b, oQ (cY 2) (b 2) (rr 0) 6, gI (cY 0) (rr 0) 12 fG 6, [(b 16, .inl (cY 0, 6, .inl fEn))], [(b 17, .inl (cY 0, 6, .inl fEb))], [(cc0, .inl (cY 0, 2, .inl fc))], [(ll0, .inl (cY 0, 60, .inl fl))]] : List va_W).flatten s.heap := hP
  have hD : va_D A ([hO b, cO b (nI n) (nI k), dO b, oQ (cY 2) (b 2) (rr 0) 6, gI (cY 0) (rr 0) 12 fG 6, [(b 16, .inl (cY 0, 6, .inl fEn))], [(b 17, .inl (cY 0, 6, .inl fEb))], [(cc0, .inl (cY 0, 2, .inl fc))], [(ll0, .inl (cY 0, 60, .inl fl))]] : List va_W).flatten := hD
  refine lv_aload_n hx hb dL_isDraw_0 rfl (lv_at hl 0 rfl) ?_
  refine lv_iload_n hx hb dL_isDraw_1 rfl (lv_at hl 1 rfl) ?_
  refine ca_i (CL := [hO b, cO b (nI n) (nI k), dO b, oQ (cY 2) (b 2) (rr 0) 6, gI (cY 0) (rr 0) 12 fG 6, [(b 16, .inl (cY 0, 6, .inl fEn))], [(b 17, .inl (cY 0, 6, .inl fEb))]]) (va_runV (As := [.int (nI x)]) (rest := []) ⟨hx, hb, hml, hown, hts⟩ (c_X8_draw_ok l D cY s.heap.size b rr n k fG fEn fEb g x (by omega) (by omega) (by omega) (by omega) hG hgn (by omega)) (cwV 1 hts gL_isDraw_X8_draw rfl rfl rfl (by decide +kernel) ⟨Nat.le_of_ble_eq_true rfl, Nat.le_of_ble_eq_true rfl⟩) (b_preV hVK hP hD [0, 1, 2, 3, 4, 5, 6] rfl rfl 0 rfl rfl) rfl rfl hl.1 rfl (lv_room (Nat.le_of_ble_eq_true rfl)) dL_isDraw_2 ⟨Nat.zero_le _, Nat.zero_le _⟩) hP hD hS hA [0, 1, 2, 3, 4, 5, 6] rfl rfl (fun _ => rfl) (fun r2 uu H locs hq hP hD hS => ?_)
  obtain ⟨fEn1_1, fEb1_2⟩ := uu
  try dsimp only at hq
  subst hq
  have hP : va_P D vwCl ([hO b, cO b (nI n) (nI k), dO b, oQ (cY 2) (b 2) (rr 0) 6, gI (cY 0) (rr 0) 12 fG 6, [(b 16, .inl (cY 0, 6, .inl fEn1_1))], [(b 17, .inl (cY 0, 6, .inl fEb1_2))], [(cc0, .inl (cY 0, 2, .inl fc))], [(ll0, .inl (cY 0, 60, .inl fl))]] : List va_W).flatten H := hP
  have hD : va_D A ([hO b, cO b (nI n) (nI k), dO b, oQ (cY 2) (b 2) (rr 0) 6, gI (cY 0) (rr 0) 12 fG 6, [(b 16, .inl (cY 0, 6, .inl fEn1_1))], [(b 17, .inl (cY 0, 6, .inl fEb1_2))], [(cc0, .inl (cY 0, 2, .inl fc))], [(ll0, .inl (cY 0, 60, .inl fl))]] : List va_W).flatten := hD
  refine eqi (x' := (-1)) (hdg) ?_
  refine lv_istore (lv' := [(4, .int (-1)), (0, .ref (b 0)), (1, .int (nI x)), (2, .ref cc0), (3, .ref ll0)]) hx hb dL_isDraw_5 hl (by decide) rfl (fun ls hl => ?_)
  refine lv_bipush (v := nI 64) hx hb dL_isDraw_7 (by decide) ?_
  refine b_newI hx hb (hts (.arrayClass .int) (by decide +kernel)) hK hP hD hS hA 64 (by decide) rfl (by decide) 1 64 (Nat.le_of_ble_eq_true rfl) (Nat.le_of_ble_eq_true rfl) (Nat.le_of_ble_eq_true rfl) (Nat.le_of_ble_eq_true rfl) dL_isDraw_9 (fun qn9 H hP hD hS => ?_)
  have hP : va_P D vwCl ([hO b, cO b (nI n) (nI k), dO b, oQ (cY 2) (b 2) (rr 0) 6, gI (cY 0) (rr 0) 12 fG 6, [(b 16, .inl (cY 0, 6, .inl fEn1_1))], [(b 17, .inl (cY 0, 6, .inl fEb1_2))], [(cc0, .inl (cY 0, 2, .inl fc))], [(ll0, .inl (cY 0, 60, .inl fl))], [(qn9, .inl (cY 0, 64, .inl (fun _ => nI 0)))]] : List va_W).flatten H := hP
  have hD : va_D A ([hO b, cO b (nI n) (nI k), dO b, oQ (cY 2) (b 2) (rr 0) 6, gI (cY 0) (rr 0) 12 fG 6, [(b 16, .inl (cY 0, 6, .inl fEn1_1))], [(b 17, .inl (cY 0, 6, .inl fEb1_2))], [(cc0, .inl (cY 0, 2, .inl fc))], [(ll0, .inl (cY 0, 60, .inl fl))], [(qn9, .inl (cY 0, 64, .inl (fun _ => nI 0)))]] : List va_W).flatten := hD
  refine lv_astore (lv' := [(5, .ref qn9), (4, .int (-1)), (0, .ref (b 0)), (1, .int (nI x)), (2, .ref cc0), (3, .ref ll0)]) hx hb dL_isDraw_11 hl (by decide) rfl (fun ls hl => ?_)
  refine lv_iload hx hb dL_isDraw_13 (lv_at hl 1 rfl) ?_
  refine lv_if_ge (tgt := 23) hx hb dL_isDraw_15 (by decide) (fun h15 => ?_) (fun h15 => ?_)
  · -- t
    exact absurd h15 (by decide)
  · -- f
    refine lv_bipush (v := nI 60) hx hb dL_isDraw_18 (by decide) ?_
    refine lv_goto (tgt := 28) hx hb dL_isDraw_20 (by decide) ?_
    refine lv_istore (lv' := [(6, .int (nI 60)), (5, .ref qn9), (4, .int (-1)), (0, .ref (b 0)), (1, .int (nI x)), (2, .ref cc0), (3, .ref ll0)]) hx hb dL_isDraw_28 hl (by decide) rfl (fun ls hl => ?_)
    refine lv_iload_n hx hb dL_isDraw_30 rfl (lv_at hl 4 rfl) ?_
    refine lv_istore (lv' := [(7, .int (nI x)), (6, .int (nI 60)), (5, .ref qn9), (4, .int (-1)), (0, .ref (b 0)), (1, .int (nI x)), (2, .ref cc0), (3, .ref ll0)]) hx hb dL_isDraw_31 hl (by decide) rfl (fun ls hl => ?_)
    refine lv_iload hx hb dL_isDraw_33 (lv_at hl 1 rfl) ?_
    refine lv_bipush (v := nI 60) hx hb dL_isDraw_35 (by decide) ?_
    refine n_icmp_le (tgt := 54) hx hb dL_isDraw_37 (by decide) (by omega) (by omega) (fun h37 => ?_) (fun h37 => ?_)
    · -- t
      refine lv_iconst (v := nI 0) hx hb dL_isDraw_54 (by decide) ?_
      refine lv_istore (lv' := [(8, .int (nI 0)), (7, .int (nI x)), (6, .int (nI 60)), (5, .ref qn9), (4, .int (-1)), (0, .ref (b 0)), (1, .int (nI x)), (2, .ref cc0), (3, .ref ll0)]) hx hb dL_isDraw_55 hl (by decide) rfl (fun ls hl => ?_)
      have L57 : ∀ q : Nat, q ≤ 60 → ∀ (gs : Nat → Int32), (∀ j, j < q → gs j = nI (sdq x (j + 1) % k)) → ∀ (H : Heap) (locs : List Loc), va_P D vwCl ([hO b, cO b (nI n) (nI k), dO b, oQ (cY 2) (b 2) (rr 0) 6, gI (cY 0) (rr 0) 12 fG 6, [(b 16, .inl (cY 0, 6, .inl fEn1_1))], [(b 17, .inl (cY 0, 6, .inl fEb1_2))], [(cc0, .inl (cY 0, 2, .inl fc))], [(ll0, .inl (cY 0, 60, .inl fl))], [(qn9, .inl (cY 0, 64, .inl gs))]] : List va_W).flatten H → va_D A ([hO b, cO b (nI n) (nI k), dO b, oQ (cY 2) (b 2) (rr 0) 6, gI (cY 0) (rr 0) 12 fG 6, [(b 16, .inl (cY 0, 6, .inl fEn1_1))], [(b 17, .inl (cY 0, 6, .inl fEb1_2))], [(cc0, .inl (cY 0, 2, .inl fc))], [(ll0, .inl (cY 0, 60, .inl fl))], [(qn9, .inl (cY 0, 64, .inl gs))]] : List va_W).flatten → va_S A s.heap H locs → ∀ (ls : Array Slot), lv_has ls 14 [(0, .ref (b 0)), (1, .int (nI x)), (2, .ref cc0), (3, .ref ll0), (4, .int (-1)), (5, .ref qn9), (6, .int (nI 60)), (7, .int (nI (sdq x q))), (8, .int (nI q))] → W p l e ({ frames := 4, cells := 1, slots := 64, locals := 160 }) s m ([.ref (b 0), .int (nI x), .ref cc0, .ref ll0] : List Value).toArray below meth c H locs 1 64 (MQ below (qI (S := (Nat → Int32) × (Nat → Int32)) D cY (fun r uu => r = bI true) (fun uu => [hO b, cO b (nI n) (nI k), dO b, oQ (cY 2) (b 2) (rr 0) 6, gI (cY 0) (rr 0) 12 fG 6, [(b 16, .inl (cY 0, 6, .inl uu.1))], [(b 17, .inl (cY 0, 6, .inl uu.2))], [(cc0, .inl (cY 0, 2, .inl fc))], [(ll0, .inl (cY 0, 60, .inl fl))]]) A) ([.ref (b 0), .int (nI x), .ref cc0, .ref ll0] : List Value).toArray s 1 64 A) (F0 m 57 ls []) := by
        refine lpW 60 ?_
        intro q bdq ih57 gs hs H locs hP hD hS ls hl
        refine lv_iload hx hb dL_isDraw_57 (lv_at hl 8 rfl) ?_
        refine lv_iload hx hb dL_isDraw_59 (lv_at hl 6 rfl) ?_
        refine n_icmp_ge (tgt := 96) hx hb dL_isDraw_61 (by decide) (by omega) (by omega) (fun h61 => ?_) (fun h61 => ?_)
        · -- t
          refine lv_iconst (v := nI 0) hx hb dL_isDraw_96 (by decide) ?_
          refine lv_istore (lv' := [(8, .int (nI 0)), (0, .ref (b 0)), (1, .int (nI x)), (2, .ref cc0), (3, .ref ll0), (4, .int (-1)), (5, .ref qn9), (6, .int (nI 60)), (7, .int (nI (sdq x q)))]) hx hb dL_isDraw_97 hl (by decide) rfl (fun ls hl => ?_)
          refine lv_iconst (v := nI 0) hx hb dL_isDraw_99 (by decide) ?_
          refine lv_istore (lv' := [(9, .int (nI 0)), (8, .int (nI 0)), (0, .ref (b 0)), (1, .int (nI x)), (2, .ref cc0), (3, .ref ll0), (4, .int (-1)), (5, .ref qn9), (6, .int (nI 60)), (7, .int (nI (sdq x q)))]) hx hb dL_isDraw_100 hl (by decide) rfl (fun ls hl => ?_)
          refine lv_iconst (v := nI 0) hx hb dL_isDraw_102 (by decide) ?_
          refine lv_istore (lv' := [(10, .int (nI 0)), (9, .int (nI 0)), (8, .int (nI 0)), (0, .ref (b 0)), (1, .int (nI x)), (2, .ref cc0), (3, .ref ll0), (4, .int (-1)), (5, .ref qn9), (6, .int (nI 60)), (7, .int (nI (sdq x q)))]) hx hb dL_isDraw_103 hl (by decide) rfl (fun ls hl => ?_)
          have L105 : ∀ u : Nat, u ≤ n →  ∀ (H : Heap) (locs : List Loc), va_P D vwCl ([hO b, cO b (nI n) (nI k), dO b, oQ (cY 2) (b 2) (rr 0) 6, gI (cY 0) (rr 0) 12 fG 6, [(b 16, .inl (cY 0, 6, .inl fEn1_1))], [(b 17, .inl (cY 0, 6, .inl fEb1_2))], [(cc0, .inl (cY 0, 2, .inl fc))], [(ll0, .inl (cY 0, 60, .inl fl))], [(qn9, .inl (cY 0, 64, .inl gs))]] : List va_W).flatten H → va_D A ([hO b, cO b (nI n) (nI k), dO b, oQ (cY 2) (b 2) (rr 0) 6, gI (cY 0) (rr 0) 12 fG 6, [(b 16, .inl (cY 0, 6, .inl fEn1_1))], [(b 17, .inl (cY 0, 6, .inl fEb1_2))], [(cc0, .inl (cY 0, 2, .inl fc))], [(ll0, .inl (cY 0, 60, .inl fl))], [(qn9, .inl (cY 0, 64, .inl gs))]] : List va_W).flatten → va_S A s.heap H locs → ∀ (ls : Array Slot), lv_has ls 14 [(0, .ref (b 0)), (1, .int (nI x)), (2, .ref cc0), (3, .ref ll0), (4, .int (-1)), (5, .ref qn9), (6, .int (nI 60)), (7, .int (nI (sdq x q))), (8, .int (nI (orS (fun i => mpq g k x 60 i) u))), (9, .int (nI (orS (fun i => mpq g k x (60 - 1) i) u))), (10, .int (nI u))] → W p l e ({ frames := 4, cells := 1, slots := 64, locals := 160 }) s m ([.ref (b 0), .int (nI x), .ref cc0, .ref ll0] : List Value).toArray below meth c H locs 1 64 (MQ below (qI (S := (Nat → Int32) × (Nat → Int32)) D cY (fun r uu => r = bI true) (fun uu => [hO b, cO b (nI n) (nI k), dO b, oQ (cY 2) (b 2) (rr 0) 6, gI (cY 0) (rr 0) 12 fG 6, [(b 16, .inl (cY 0, 6, .inl uu.1))], [(b 17, .inl (cY 0, 6, .inl uu.2))], [(cc0, .inl (cY 0, 2, .inl fc))], [(ll0, .inl (cY 0, 60, .inl fl))]]) A) ([.ref (b 0), .int (nI x), .ref cc0, .ref ll0] : List Value).toArray s 1 64 A) (F0 m 105 ls []) := by
            refine lpW n ?_
            intro u bdu ih105   H locs hP hD hS ls hl
            refine lv_iload hx hb dL_isDraw_105 (lv_at hl 10 rfl) ?_
            refine lv_aload_n hx hb dL_isDraw_107 rfl (lv_at hl 2 rfl) ?_
            refine lv_iconst (v := nI 0) hx hb dL_isDraw_108 (by decide) ?_
            refine b_iald hx hb hK hP 7 0 rfl rfl (by omega) (by decide) dL_isDraw_109 ?_
            refine eqi (x' := nI n) (hcn) ?_
            refine n_icmp_ge (tgt := 206) hx hb dL_isDraw_110 (by decide) (by omega) (by omega) (fun h110 => ?_) (fun h110 => ?_)
            · -- t
              have hun : u = n := by omega
              have hF1 : ∀ i, i < n → mpq g k x 60 i < 6 := fun i hi => Nat.lt_of_lt_of_le (mpq_lt hgn (by omega) 60 i hi) hn6
              have hF2 : ∀ i, i < n → mpq g k x (60 - 1) i < 6 := fun i hi => Nat.lt_of_lt_of_le (mpq_lt hgn (by omega) (60 - 1) i hi) hn6
              have hA1 : orS (fun i => mpq g k x 60 i) n < 64 := orS_lt hF1 n (Nat.le_refl n)
              have hA2 : orS (fun i => mpq g k x (60 - 1) i) n < 64 := orS_lt hF2 n (Nat.le_refl n)
              have hA3 : orS (fun i => mpq g k x 60 i) n ≠ 0 := orS_pos hn1
              have hA4 : orS (fun i => mpq g k x (60 - 1) i) n ≠ 0 := orS_pos hn1
              have hA5 : orS (fun i => mpq g k x 60 i) n &&& (orS (fun i => mpq g k x 60 i) n - 1) ≤ orS (fun i => mpq g k x 60 i) n := Nat.and_le_left
              have hA6 : orS (fun i => mpq g k x (60 - 1) i) n &&& (orS (fun i => mpq g k x (60 - 1) i) n - 1) ≤ orS (fun i => mpq g k x (60 - 1) i) n := Nat.and_le_left
              refine lv_iload hx hb dL_isDraw_206 (lv_at hl 8 rfl) ?_
              refine eqi (x' := nI (orS (fun i => mpq g k x 60 i) n)) (congrArg nI (by rw [hun])) ?_
              refine lv_iload hx hb dL_isDraw_208 (lv_at hl 8 rfl) ?_
              refine eqi (x' := nI (orS (fun i => mpq g k x 60 i) n)) (congrArg nI (by rw [hun])) ?_
              refine lv_iconst (v := nI 1) hx hb dL_isDraw_210 (by decide) ?_
              refine lv_isub hx hb dL_isDraw_211 ?_
              refine eqi (x' := nI ((orS (fun i => mpq g k x 60 i) n) - 1)) (pk_sub (by omega)) ?_
              refine lv_iand hx hb dL_isDraw_212 ?_
              refine eqi (x' := nI ((orS (fun i => mpq g k x 60 i) n) &&& ((orS (fun i => mpq g k x 60 i) n) - 1))) (nI_and _ _) ?_
              refine n_if_ne (tgt := 220) hx hb dL_isDraw_213 (by decide) (by omega) (fun h213 => ?_) (fun h213 => ?_)
              · -- t
                refine lv_iconst (v := nI 0) hx hb dL_isDraw_220 (by decide) ?_
                refine lv_istore (lv' := [(10, .int (nI 0)), (0, .ref (b 0)), (1, .int (nI x)), (2, .ref cc0), (3, .ref ll0), (4, .int (-1)), (5, .ref qn9), (6, .int (nI 60)), (7, .int (nI (sdq x q))), (8, .int (nI (orS (fun i => mpq g k x 60 i) u))), (9, .int (nI (orS (fun i => mpq g k x (60 - 1) i) u)))]) hx hb dL_isDraw_221 hl (by decide) rfl (fun ls hl => ?_)
                refine lv_iload hx hb dL_isDraw_223 (lv_at hl 10 rfl) ?_
                refine eqi (x' := nI (orS (fun i => mpq g k x (60 - 1) i) n)) (congrArg nI (by rw [hun])) ?_
                refine lv_iload hx hb dL_isDraw_225 (lv_at hl 10 rfl) ?_
                refine eqi (x' := nI (orS (fun i => mpq g k x (60 - 1) i) n)) (congrArg nI (by rw [hun])) ?_
                refine lv_iconst (v := nI 1) hx hb dL_isDraw_227 (by decide) ?_
                refine lv_isub hx hb dL_isDraw_228 ?_
                refine eqi (x' := nI ((orS (fun i => mpq g k x (60 - 1) i) n) - 1)) (pk_sub (by omega)) ?_
                refine lv_iand hx hb dL_isDraw_229 ?_
                refine eqi (x' := nI ((orS (fun i => mpq g k x (60 - 1) i) n) &&& ((orS (fun i => mpq g k x (60 - 1) i) n) - 1))) (nI_and _ _) ?_
                refine n_if_ne (tgt := 237) hx hb dL_isDraw_230 (by decide) (by omega) (fun h230 => ?_) (fun h230 => ?_)
                · -- t
                  refine lv_iconst (v := nI 0) hx hb dL_isDraw_237 (by decide) ?_
                  refine lv_istore (lv' := [(11, .int (nI 0)), (10, .int (nI 0)), (0, .ref (b 0)), (1, .int (nI x)), (2, .ref cc0), (3, .ref ll0), (4, .int (-1)), (5, .ref qn9), (6, .int (nI 60)), (7, .int (nI (sdq x q))), (8, .int (nI (orS (fun i => mpq g k x 60 i) u))), (9, .int (nI (orS (fun i => mpq g k x (60 - 1) i) u)))]) hx hb dL_isDraw_238 hl (by decide) rfl (fun ls hl => ?_)
                  refine lv_iload hx hb dL_isDraw_240 (lv_at hl 6 rfl) ?_
                  refine lv_if_ge (tgt := 258) hx hb dL_isDraw_242 (by decide) (fun h242 => ?_) (fun h242 => ?_)
                  · -- t
                    exact absurd h242 (by decide)
                  · -- f
                    refine lv_iload hx hb dL_isDraw_245 (lv_at hl 1 rfl) ?_
                    refine n_if_ne (tgt := 254) hx hb dL_isDraw_247 (by decide) (by omega) (fun h247 => ?_) (fun h247 => ?_)
                    · -- t
                      exact absurd rfl h247
                    · -- f
                      refine lv_iconst (v := nI 1) hx hb dL_isDraw_250 (by decide) ?_
                      refine lv_goto (tgt := 290) hx hb dL_isDraw_251 (by decide) ?_
                      have hP : va_P D vwCl ([hO b, cO b (nI n) (nI k), dO b, oQ (cY 2) (b 2) (rr 0) 6, gI (cY 0) (rr 0) 12 fG 6, [(b 16, .inl (cY 0, 6, .inl fEn1_1))], [(b 17, .inl (cY 0, 6, .inl fEb1_2))], [(cc0, .inl (cY 0, 2, .inl fc))], [(ll0, .inl (cY 0, 60, .inl fl))]] : List va_W).flatten H := bl_cutP (CL := [hO b, cO b (nI n) (nI k), dO b, oQ (cY 2) (b 2) (rr 0) 6, gI (cY 0) (rr 0) 12 fG 6, [(b 16, .inl (cY 0, 6, .inl fEn1_1))], [(b 17, .inl (cY 0, 6, .inl fEb1_2))], [(cc0, .inl (cY 0, 2, .inl fc))], [(ll0, .inl (cY 0, 60, .inl fl))]]) hP [0, 1, 2, 3, 4, 5, 6, 7, 8] rfl rfl
                      have hD : va_D A ([hO b, cO b (nI n) (nI k), dO b, oQ (cY 2) (b 2) (rr 0) 6, gI (cY 0) (rr 0) 12 fG 6, [(b 16, .inl (cY 0, 6, .inl fEn1_1))], [(b 17, .inl (cY 0, 6, .inl fEb1_2))], [(cc0, .inl (cY 0, 2, .inl fc))], [(ll0, .inl (cY 0, 60, .inl fl))]] : List va_W).flatten := bl_cutD (CL := [hO b, cO b (nI n) (nI k), dO b, oQ (cY 2) (b 2) (rr 0) 6, gI (cY 0) (rr 0) 12 fG 6, [(b 16, .inl (cY 0, 6, .inl fEn1_1))], [(b 17, .inl (cY 0, 6, .inl fEb1_2))], [(cc0, .inl (cY 0, 2, .inl fc))], [(ll0, .inl (cY 0, 60, .inl fl))]]) hD [0, 1, 2, 3, 4, 5, 6, 7, 8] rfl rfl
                      refine eqi (x' := bI true) rfl ?_
                      exact r_z hx hb hr hlocks hP hD hS (fEn1_1, fEb1_2) rfl (rfl) dL_isDraw_290
                · -- f
                  refine lv_iconst (v := nI 1) hx hb dL_isDraw_233 (by decide) ?_
                  refine lv_goto (tgt := 238) hx hb dL_isDraw_234 (by decide) ?_
                  refine lv_istore (lv' := [(11, .int (nI 1)), (10, .int (nI 0)), (0, .ref (b 0)), (1, .int (nI x)), (2, .ref cc0), (3, .ref ll0), (4, .int (-1)), (5, .ref qn9), (6, .int (nI 60)), (7, .int (nI (sdq x q))), (8, .int (nI (orS (fun i => mpq g k x 60 i) u))), (9, .int (nI (orS (fun i => mpq g k x (60 - 1) i) u)))]) hx hb dL_isDraw_238 hl (by decide) rfl (fun ls hl => ?_)
                  refine lv_iload hx hb dL_isDraw_240 (lv_at hl 6 rfl) ?_
                  refine lv_if_ge (tgt := 258) hx hb dL_isDraw_242 (by decide) (fun h242 => ?_) (fun h242 => ?_)
                  · -- t
                    exact absurd h242 (by decide)
                  · -- f
                    refine lv_iload hx hb dL_isDraw_245 (lv_at hl 1 rfl) ?_
                    refine n_if_ne (tgt := 254) hx hb dL_isDraw_247 (by decide) (by omega) (fun h247 => ?_) (fun h247 => ?_)
                    · -- t
                      exact absurd rfl h247
                    · -- f
                      refine lv_iconst (v := nI 1) hx hb dL_isDraw_250 (by decide) ?_
                      refine lv_goto (tgt := 290) hx hb dL_isDraw_251 (by decide) ?_
                      have hP : va_P D vwCl ([hO b, cO b (nI n) (nI k), dO b, oQ (cY 2) (b 2) (rr 0) 6, gI (cY 0) (rr 0) 12 fG 6, [(b 16, .inl (cY 0, 6, .inl fEn1_1))], [(b 17, .inl (cY 0, 6, .inl fEb1_2))], [(cc0, .inl (cY 0, 2, .inl fc))], [(ll0, .inl (cY 0, 60, .inl fl))]] : List va_W).flatten H := bl_cutP (CL := [hO b, cO b (nI n) (nI k), dO b, oQ (cY 2) (b 2) (rr 0) 6, gI (cY 0) (rr 0) 12 fG 6, [(b 16, .inl (cY 0, 6, .inl fEn1_1))], [(b 17, .inl (cY 0, 6, .inl fEb1_2))], [(cc0, .inl (cY 0, 2, .inl fc))], [(ll0, .inl (cY 0, 60, .inl fl))]]) hP [0, 1, 2, 3, 4, 5, 6, 7, 8] rfl rfl
                      have hD : va_D A ([hO b, cO b (nI n) (nI k), dO b, oQ (cY 2) (b 2) (rr 0) 6, gI (cY 0) (rr 0) 12 fG 6, [(b 16, .inl (cY 0, 6, .inl fEn1_1))], [(b 17, .inl (cY 0, 6, .inl fEb1_2))], [(cc0, .inl (cY 0, 2, .inl fc))], [(ll0, .inl (cY 0, 60, .inl fl))]] : List va_W).flatten := bl_cutD (CL := [hO b, cO b (nI n) (nI k), dO b, oQ (cY 2) (b 2) (rr 0) 6, gI (cY 0) (rr 0) 12 fG 6, [(b 16, .inl (cY 0, 6, .inl fEn1_1))], [(b 17, .inl (cY 0, 6, .inl fEb1_2))], [(cc0, .inl (cY 0, 2, .inl fc))], [(ll0, .inl (cY 0, 60, .inl fl))]]) hD [0, 1, 2, 3, 4, 5, 6, 7, 8] rfl rfl
                      refine eqi (x' := bI true) rfl ?_
                      exact r_z hx hb hr hlocks hP hD hS (fEn1_1, fEb1_2) rfl (rfl) dL_isDraw_290
              · -- f
                exact absurd h213 (orS_no hn1 hF1 hno)
            · -- f
              refine lv_iload hx hb dL_isDraw_113 (lv_at hl 10 rfl) ?_
              refine lv_istore (lv' := [(11, .int (nI u)), (0, .ref (b 0)), (1, .int (nI x)), (2, .ref cc0), (3, .ref ll0), (4, .int (-1)), (5, .ref qn9), (6, .int (nI 60)), (7, .int (nI (sdq x q))), (8, .int (nI (orS (fun i => mpq g k x 60 i) u))), (9, .int (nI (orS (fun i => mpq g k x (60 - 1) i) u))), (10, .int (nI u))]) hx hb dL_isDraw_115 hl (by decide) rfl (fun ls hl => ?_)
              refine lv_iload hx hb dL_isDraw_117 (lv_at hl 11 rfl) ?_
              refine lv_istore (lv' := [(12, .int (nI u)), (11, .int (nI u)), (0, .ref (b 0)), (1, .int (nI x)), (2, .ref cc0), (3, .ref ll0), (4, .int (-1)), (5, .ref qn9), (6, .int (nI 60)), (7, .int (nI (sdq x q))), (8, .int (nI (orS (fun i => mpq g k x 60 i) u))), (9, .int (nI (orS (fun i => mpq g k x (60 - 1) i) u))), (10, .int (nI u))]) hx hb dL_isDraw_119 hl (by decide) rfl (fun ls hl => ?_)
              refine lv_iload hx hb dL_isDraw_121 (lv_at hl 8 rfl) ?_
              refine lv_iconst (v := nI 1) hx hb dL_isDraw_123 (by decide) ?_
              refine lv_isub hx hb dL_isDraw_124 ?_
              refine eqi (x' := zJ 60) (rfl) ?_
              refine lv_istore (lv' := [(13, .int (zJ 60)), (12, .int (nI u)), (11, .int (nI u)), (0, .ref (b 0)), (1, .int (nI x)), (2, .ref cc0), (3, .ref ll0), (4, .int (-1)), (5, .ref qn9), (6, .int (nI 60)), (7, .int (nI (sdq x q))), (8, .int (nI (orS (fun i => mpq g k x 60 i) u))), (9, .int (nI (orS (fun i => mpq g k x (60 - 1) i) u))), (10, .int (nI u))]) hx hb dL_isDraw_125 hl (by decide) rfl (fun ls hl => ?_)
              have L127 : ∀ z : Nat, ∀ (y1 : Nat) (y2 : Nat), (z ≤ 60) → (mpq g k x z y1 = mpq g k x 60 u ∧ y1 < n) → (mpq g k x (min z (60 - 1)) y2 = mpq g k x (60 - 1) u ∧ y2 < n) → ∀ (H : Heap) (locs : List Loc), va_P D vwCl ([hO b, cO b (nI n) (nI k), dO b, oQ (cY 2) (b 2) (rr 0) 6, gI (cY 0) (rr 0) 12 fG 6, [(b 16, .inl (cY 0, 6, .inl fEn1_1))], [(b 17, .inl (cY 0, 6, .inl fEb1_2))], [(cc0, .inl (cY 0, 2, .inl fc))], [(ll0, .inl (cY 0, 60, .inl fl))], [(qn9, .inl (cY 0, 64, .inl gs))]] : List va_W).flatten H → va_D A ([hO b, cO b (nI n) (nI k), dO b, oQ (cY 2) (b 2) (rr 0) 6, gI (cY 0) (rr 0) 12 fG 6, [(b 16, .inl (cY 0, 6, .inl fEn1_1))], [(b 17, .inl (cY 0, 6, .inl fEb1_2))], [(cc0, .inl (cY 0, 2, .inl fc))], [(ll0, .inl (cY 0, 60, .inl fl))], [(qn9, .inl (cY 0, 64, .inl gs))]] : List va_W).flatten → va_S A s.heap H locs → ∀ (ls : Array Slot), lv_has ls 14 [(0, .ref (b 0)), (1, .int (nI x)), (2, .ref cc0), (3, .ref ll0), (4, .int (-1)), (5, .ref qn9), (6, .int (nI 60)), (7, .int (nI (sdq x q))), (8, .int (nI (orS (fun i => mpq g k x 60 i) u))), (9, .int (nI (orS (fun i => mpq g k x (60 - 1) i) u))), (10, .int (nI u)), (11, .int (nI y1)), (12, .int (nI y2)), (13, .int (zJ z))] → W p l e ({ frames := 4, cells := 1, slots := 64, locals := 160 }) s m ([.ref (b 0), .int (nI x), .ref cc0, .ref ll0] : List Value).toArray below meth c H locs 1 64 (MQ below (qI (S := (Nat → Int32) × (Nat → Int32)) D cY (fun r uu => r = bI true) (fun uu => [hO b, cO b (nI n) (nI k), dO b, oQ (cY 2) (b 2) (rr 0) 6, gI (cY 0) (rr 0) 12 fG 6, [(b 16, .inl (cY 0, 6, .inl uu.1))], [(b 17, .inl (cY 0, 6, .inl uu.2))], [(cc0, .inl (cY 0, 2, .inl fc))], [(ll0, .inl (cY 0, 60, .inl fl))]]) A) ([.ref (b 0), .int (nI x), .ref cc0, .ref ll0] : List Value).toArray s 1 64 A) (F0 m 127 ls []) := by
                refine lpSt ?_
                intro z ih127 y1 y2 hzM hy1 hy2 H locs hP hD hS ls hl
                refine lv_iload hx hb dL_isDraw_127 (lv_at hl 13 rfl) ?_
                refine lv_if_lt (tgt := 182) hx hb dL_isDraw_129 (by decide) (fun h129 => ?_) (fun h129 => ?_)
                · -- t
                  have ez : z = 0 := zJ_z (by omega) h129
                  have hy1e : y1 = mpq g k x 60 u := by
                    have q1 := hy1.1
                    rw [ez] at q1
                    exact q1
                  have hy2e : y2 = mpq g k x (60 - 1) u := by
                    have q1 := hy2.1
                    rw [ez, Nat.zero_min] at q1
                    exact q1
                  have hy1l := hy1.2
                  have hy2l := hy2.2
                  refine lv_iload hx hb dL_isDraw_182 (lv_at hl 8 rfl) ?_
                  refine lv_iconst (v := nI 1) hx hb dL_isDraw_184 (by decide) ?_
                  refine lv_iload hx hb dL_isDraw_185 (lv_at hl 11 rfl) ?_
                  refine lv_ishl hx hb dL_isDraw_187 ?_
                  refine eqi (x' := nI (2 ^ y1)) (nI_shl1 (by omega)) ?_
                  refine lv_ior hx hb dL_isDraw_188 ?_
                  refine eqi (x' := nI ((orS (fun i => mpq g k x 60 i) u) ||| (2 ^ y1))) (nI_or _ _) ?_
                  refine eqi (x' := nI (orS (fun i => mpq g k x 60 i) (u + 1))) (congrArg nI (by rw [hy1e]; rfl)) ?_
                  refine lv_istore (lv' := [(8, .int (nI (orS (fun i => mpq g k x 60 i) (u + 1)))), (0, .ref (b 0)), (1, .int (nI x)), (2, .ref cc0), (3, .ref ll0), (4, .int (-1)), (5, .ref qn9), (6, .int (nI 60)), (7, .int (nI (sdq x q))), (9, .int (nI (orS (fun i => mpq g k x (60 - 1) i) u))), (10, .int (nI u)), (11, .int (nI y1)), (12, .int (nI y2)), (13, .int (zJ z))]) hx hb dL_isDraw_189 hl (by decide) rfl (fun ls hl => ?_)
                  refine lv_iload hx hb dL_isDraw_191 (lv_at hl 9 rfl) ?_
                  refine lv_iconst (v := nI 1) hx hb dL_isDraw_193 (by decide) ?_
                  refine lv_iload hx hb dL_isDraw_194 (lv_at hl 12 rfl) ?_
                  refine lv_ishl hx hb dL_isDraw_196 ?_
                  refine eqi (x' := nI (2 ^ y2)) (nI_shl1 (by omega)) ?_
                  refine lv_ior hx hb dL_isDraw_197 ?_
                  refine eqi (x' := nI ((orS (fun i => mpq g k x (60 - 1) i) u) ||| (2 ^ y2))) (nI_or _ _) ?_
                  refine eqi (x' := nI (orS (fun i => mpq g k x (60 - 1) i) (u + 1))) (congrArg nI (by rw [hy2e]; rfl)) ?_
                  refine lv_istore (lv' := [(9, .int (nI (orS (fun i => mpq g k x (60 - 1) i) (u + 1)))), (8, .int (nI (orS (fun i => mpq g k x 60 i) (u + 1)))), (0, .ref (b 0)), (1, .int (nI x)), (2, .ref cc0), (3, .ref ll0), (4, .int (-1)), (5, .ref qn9), (6, .int (nI 60)), (7, .int (nI (sdq x q))), (10, .int (nI u)), (11, .int (nI y1)), (12, .int (nI y2)), (13, .int (zJ z))]) hx hb dL_isDraw_198 hl (by decide) rfl (fun ls hl => ?_)
                  refine lv_iinc (v := nI (u + 1)) (lv' := [(10, .int (nI (u + 1))), (9, .int (nI (orS (fun i => mpq g k x (60 - 1) i) (u + 1)))), (8, .int (nI (orS (fun i => mpq g k x 60 i) (u + 1)))), (0, .ref (b 0)), (1, .int (nI x)), (2, .ref cc0), (3, .ref ll0), (4, .int (-1)), (5, .ref qn9), (6, .int (nI 60)), (7, .int (nI (sdq x q))), (11, .int (nI y1)), (12, .int (nI y2)), (13, .int (zJ z))]) hx hb dL_isDraw_200 hl (k := 10) rfl (nI_1 u) (by decide) rfl (fun ls hl => ?_)
                  refine lv_goto (tgt := 105) hx hb dL_isDraw_203 (by decide) ?_
                  exact ih105 (by omega)   _ _ hP hD hS _ (lv_sub hl [3, 4, 5, 6, 7, 8, 9, 10, 2, 1, 0] rfl)
                · -- f
                  have ez : 1 ≤ z := zJ_q h129
                  have hmd := Nat.mod_lt (sdq x z) (show 0 < k by omega)
                  have hy1l := hy1.2
                  have hy2l := hy2.2
                  have hsz : gs (z - 1) = nI (sdq x z % k) := by rw [hs (z - 1) (by omega), show z - 1 + 1 = z by omega]
                  refine lv_aload_n hx hb dL_isDraw_132 rfl (lv_at hl 3 rfl) ?_
                  refine lv_bipush (v := nI 10) hx hb dL_isDraw_133 (by decide) ?_
                  refine lv_iload hx hb dL_isDraw_135 (lv_at hl 11 rfl) ?_
                  refine lv_imul hx hb dL_isDraw_137 ?_
                  refine eqi (x' := nI (10 * y1)) (pk_mul _ _) ?_
                  refine lv_aload hx hb dL_isDraw_138 (lv_at hl 5 rfl) ?_
                  refine lv_iload hx hb dL_isDraw_140 (lv_at hl 13 rfl) ?_
                  refine eqi (x' := nI (z - 1)) (zJ_n ez) ?_
                  refine b_iald hx hb hK hP 9 0 rfl rfl (by omega) (by decide) dL_isDraw_142 ?_
                  refine eqi (x' := nI (sdq x z % k)) (hsz) ?_
                  refine lv_iadd hx hb dL_isDraw_143 ?_
                  refine eqi (x' := nI (10 * y1 + sdq x z % k)) (nI_add _ _) ?_
                  refine b_iald hx hb hK hP 8 0 rfl rfl (by omega) (by decide) dL_isDraw_144 ?_
                  refine eqi (x' := nI (g y1 (sdq x z % k))) (hL _ _ hy1l hmd) ?_
                  refine lv_istore (lv' := [(11, .int (nI (g y1 (sdq x z % k)))), (0, .ref (b 0)), (1, .int (nI x)), (2, .ref cc0), (3, .ref ll0), (4, .int (-1)), (5, .ref qn9), (6, .int (nI 60)), (7, .int (nI (sdq x q))), (8, .int (nI (orS (fun i => mpq g k x 60 i) u))), (9, .int (nI (orS (fun i => mpq g k x (60 - 1) i) u))), (10, .int (nI u)), (12, .int (nI y2)), (13, .int (zJ z))]) hx hb dL_isDraw_145 hl (by decide) rfl (fun ls hl => ?_)
                  refine lv_iload hx hb dL_isDraw_147 (lv_at hl 13 rfl) ?_
                  refine eqi (x' := nI (z - 1)) (zJ_n ez) ?_
                  refine lv_iload hx hb dL_isDraw_149 (lv_at hl 7 rfl) ?_
                  refine lv_iconst (v := nI 1) hx hb dL_isDraw_151 (by decide) ?_
                  refine lv_isub hx hb dL_isDraw_152 ?_
                  refine eqi (x' := nI (60 - 1)) (pk_sub (by omega)) ?_
                  refine n_icmp_ge (tgt := 172) hx hb dL_isDraw_153 (by decide) (by omega) (by omega) (fun h153 => ?_) (fun h153 => ?_)
                  · -- t
                    refine lv_iload hx hb dL_isDraw_172 (lv_at hl 12 rfl) ?_
                    refine lv_istore (lv' := [(12, .int (nI y2)), (11, .int (nI (g y1 (sdq x z % k)))), (0, .ref (b 0)), (1, .int (nI x)), (2, .ref cc0), (3, .ref ll0), (4, .int (-1)), (5, .ref qn9), (6, .int (nI 60)), (7, .int (nI (sdq x q))), (8, .int (nI (orS (fun i => mpq g k x 60 i) u))), (9, .int (nI (orS (fun i => mpq g k x (60 - 1) i) u))), (10, .int (nI u)), (13, .int (zJ z))]) hx hb dL_isDraw_174 hl (by decide) rfl (fun ls hl => ?_)
                    refine lv_iinc (v := zJ (z - 1)) (lv' := [(13, .int (zJ (z - 1))), (12, .int (nI y2)), (11, .int (nI (g y1 (sdq x z % k)))), (0, .ref (b 0)), (1, .int (nI x)), (2, .ref cc0), (3, .ref ll0), (4, .int (-1)), (5, .ref qn9), (6, .int (nI 60)), (7, .int (nI (sdq x q))), (8, .int (nI (orS (fun i => mpq g k x 60 i) u))), (9, .int (nI (orS (fun i => mpq g k x (60 - 1) i) u))), (10, .int (nI u))]) hx hb dL_isDraw_176 hl (k := 13) rfl (zJ_s ez) (by decide) rfl (fun ls hl => ?_)
                    refine lv_goto (tgt := 127) hx hb dL_isDraw_179 (by decide) ?_
                    exact ih127 (z - 1) (by omega) (g y1 (sdq x z % k)) y2 (by omega) (⟨(mpq_z ez).symm.trans hy1.1, hgn _ _ hy1.2 hmd⟩) (by first | exact my2_t hy2 h153 hzM | exact my2_f hgn hk1 hy2 ez h153) _ _ hP hD hS _ (lv_sub hl [3, 4, 5, 6, 7, 8, 9, 10, 11, 12, 13, 2, 1, 0] rfl)
                  · -- f
                    refine lv_aload_n hx hb dL_isDraw_156 rfl (lv_at hl 4 rfl) ?_
                    refine lv_bipush (v := nI 10) hx hb dL_isDraw_157 (by decide) ?_
                    refine lv_iload hx hb dL_isDraw_159 (lv_at hl 12 rfl) ?_
                    refine lv_imul hx hb dL_isDraw_161 ?_
                    refine eqi (x' := nI (10 * y2)) (pk_mul _ _) ?_
                    refine lv_aload hx hb dL_isDraw_162 (lv_at hl 6 rfl) ?_
                    refine lv_iload hx hb dL_isDraw_164 (lv_at hl 13 rfl) ?_
                    refine eqi (x' := nI (z - 1)) (zJ_n ez) ?_
                    refine b_iald hx hb hK hP 9 0 rfl rfl (by omega) (by decide) dL_isDraw_166 ?_
                    refine eqi (x' := nI (sdq x z % k)) (hsz) ?_
                    refine lv_iadd hx hb dL_isDraw_167 ?_
                    refine eqi (x' := nI (10 * y2 + sdq x z % k)) (nI_add _ _) ?_
                    refine b_iald hx hb hK hP 8 0 rfl rfl (by omega) (by decide) dL_isDraw_168 ?_
                    refine eqi (x' := nI (g y2 (sdq x z % k))) (hL _ _ hy2l hmd) ?_
                    refine lv_goto (tgt := 174) hx hb dL_isDraw_169 (by decide) ?_
                    refine lv_istore (lv' := [(12, .int (nI (g y2 (sdq x z % k)))), (11, .int (nI (g y1 (sdq x z % k)))), (0, .ref (b 0)), (1, .int (nI x)), (2, .ref cc0), (3, .ref ll0), (4, .int (-1)), (5, .ref qn9), (6, .int (nI 60)), (7, .int (nI (sdq x q))), (8, .int (nI (orS (fun i => mpq g k x 60 i) u))), (9, .int (nI (orS (fun i => mpq g k x (60 - 1) i) u))), (10, .int (nI u)), (13, .int (zJ z))]) hx hb dL_isDraw_174 hl (by decide) rfl (fun ls hl => ?_)
                    refine lv_iinc (v := zJ (z - 1)) (lv' := [(13, .int (zJ (z - 1))), (12, .int (nI (g y2 (sdq x z % k)))), (11, .int (nI (g y1 (sdq x z % k)))), (0, .ref (b 0)), (1, .int (nI x)), (2, .ref cc0), (3, .ref ll0), (4, .int (-1)), (5, .ref qn9), (6, .int (nI 60)), (7, .int (nI (sdq x q))), (8, .int (nI (orS (fun i => mpq g k x 60 i) u))), (9, .int (nI (orS (fun i => mpq g k x (60 - 1) i) u))), (10, .int (nI u))]) hx hb dL_isDraw_176 hl (k := 13) rfl (zJ_s ez) (by decide) rfl (fun ls hl => ?_)
                    refine lv_goto (tgt := 127) hx hb dL_isDraw_179 (by decide) ?_
                    exact ih127 (z - 1) (by omega) (g y1 (sdq x z % k)) (g y2 (sdq x z % k)) (by omega) (⟨(mpq_z ez).symm.trans hy1.1, hgn _ _ hy1.2 hmd⟩) (by first | exact my2_t hy2 h153 hzM | exact my2_f hgn hk1 hy2 ez h153) _ _ hP hD hS _ (lv_sub hl [3, 4, 5, 6, 7, 8, 9, 10, 11, 12, 13, 2, 1, 0] rfl)
              exact L127 60 u u (by omega) (⟨rfl, by omega⟩) (⟨by rw [show min 60 (60 - 1) = (60 - 1) by omega], by omega⟩) _ _ hP hD hS _ (lv_sub hl [3, 4, 5, 6, 7, 8, 9, 10, 11, 12, 13, 2, 1, 0] rfl)
          exact L105 0 (by omega)   _ _ hP hD hS _ (lv_sub hl [3, 4, 5, 6, 7, 8, 9, 10, 2, 1, 0] rfl)
        · -- f
          refine lv_sipush (v := nI 7919) hx hb dL_isDraw_64 (by decide) ?_
          have hsq := sdq_lt hx1 q
          refine lv_iload hx hb dL_isDraw_67 (lv_at hl 7 rfl) ?_
          refine lv_imul hx hb dL_isDraw_69 ?_
          refine eqi (x' := nI (7919 * (sdq x q))) (pk_mul _ _) ?_
          refine lv_sipush (v := nI 12345) hx hb dL_isDraw_70 (by decide) ?_
          refine lv_iadd hx hb dL_isDraw_73 ?_
          refine eqi (x' := nI (7919 * (sdq x q) + 12345)) (nI_add _ _) ?_
          refine lv_ldc (v := 65521) hx hb hown (hts (.constant RL 66 65521) (by decide +kernel)) dL_isDraw_74 ?_
          refine eqi (x' := nI 65521) (by decide) ?_
          refine lv_irem hx hb dL_isDraw_76 (nI_ne0 (by omega) (by omega)) ?_
          refine eqi (x' := nI ((7919 * (sdq x q) + 12345) % 65521)) (pk_rem (by omega) (by omega) (by omega)) ?_
          refine eqi (x' := nI (sdq x (q + 1))) (rfl) ?_
          have hsl := sdq_lt hx1 (q + 1)
          refine lv_istore (lv' := [(7, .int (nI (sdq x (q + 1)))), (0, .ref (b 0)), (1, .int (nI x)), (2, .ref cc0), (3, .ref ll0), (4, .int (-1)), (5, .ref qn9), (6, .int (nI 60)), (8, .int (nI q))]) hx hb dL_isDraw_77 hl (by decide) rfl (fun ls hl => ?_)
          refine lv_aload hx hb dL_isDraw_79 (lv_at hl 6 rfl) ?_
          refine lv_iload hx hb dL_isDraw_81 (lv_at hl 8 rfl) ?_
          refine lv_iload hx hb dL_isDraw_83 (lv_at hl 0 rfl) ?_
          refine lv_aload_n hx hb dL_isDraw_85 rfl (lv_at hl 3 rfl) ?_
          refine lv_iconst (v := nI 1) hx hb dL_isDraw_86 (by decide) ?_
          refine b_iald hx hb hK hP 7 0 rfl rfl (by omega) (by decide) dL_isDraw_87 ?_
          refine eqi (x' := nI k) (hck) ?_
          refine lv_irem hx hb dL_isDraw_88 (nI_ne0 (by omega) (by omega)) ?_
          refine eqi (x' := nI ((sdq x (q + 1)) % k)) (pk_rem (by omega) (by omega) (by omega)) ?_
          refine b_iast hx hb hK hP hD hS 9 0 rfl rfl (by omega) (by decide) dL_isDraw_89 (fun H locs hP hD hS => ?_)
          have hP : va_P D vwCl ([hO b, cO b (nI n) (nI k), dO b, oQ (cY 2) (b 2) (rr 0) 6, gI (cY 0) (rr 0) 12 fG 6, [(b 16, .inl (cY 0, 6, .inl fEn1_1))], [(b 17, .inl (cY 0, 6, .inl fEb1_2))], [(cc0, .inl (cY 0, 2, .inl fc))], [(ll0, .inl (cY 0, 60, .inl fl))], [(qn9, .inl (cY 0, 64, .inl (upd gs q (nI ((sdq x (q + 1)) % k)))))]] : List va_W).flatten H := hP
          have hD : va_D A ([hO b, cO b (nI n) (nI k), dO b, oQ (cY 2) (b 2) (rr 0) 6, gI (cY 0) (rr 0) 12 fG 6, [(b 16, .inl (cY 0, 6, .inl fEn1_1))], [(b 17, .inl (cY 0, 6, .inl fEb1_2))], [(cc0, .inl (cY 0, 2, .inl fc))], [(ll0, .inl (cY 0, 60, .inl fl))], [(qn9, .inl (cY 0, 64, .inl (upd gs q (nI ((sdq x (q + 1)) % k)))))]] : List va_W).flatten := hD
          refine lv_iinc (v := nI (q + 1)) (lv' := [(8, .int (nI (q + 1))), (7, .int (nI (sdq x (q + 1)))), (0, .ref (b 0)), (1, .int (nI x)), (2, .ref cc0), (3, .ref ll0), (4, .int (-1)), (5, .ref qn9), (6, .int (nI 60))]) hx hb dL_isDraw_90 hl (k := 8) rfl (nI_1 q) (by decide) rfl (fun ls hl => ?_)
          refine lv_goto (tgt := 57) hx hb dL_isDraw_93 (by decide) ?_
          exact ih57 (by omega) (upd gs q (nI ((sdq x (q + 1)) % k))) (fun j hj => by
  by_cases e : j = q
  · subst e; rw [pk_us]
  · rw [pk_un e]; exact hs j (by omega)) _ _ hP hD hS _ (lv_sub hl [2, 3, 4, 5, 6, 7, 8, 1, 0] rfl)
      exact L57 0 (by omega) (fun _ => nI 0) (fun j h => by omega) _ _ hP hD hS _ (lv_sub hl [5, 6, 7, 8, 4, 3, 2, 1, 0] rfl)
    · -- f
      exact absurd h37 (by omega)

