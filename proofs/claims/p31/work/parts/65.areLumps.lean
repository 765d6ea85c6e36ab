set_option maxHeartbeats 4000000 in
set_option maxRecDepth 100000 in
theorem c_L_areLumps (l : Launch) (D : va_G) (cY : Nat → ClassId) (sz : Nat) (b : Nat → Nat) (rr : Nat → Nat → Nat) (n : Nat) (k : Nat) (fW : Nat → Nat → Int32) (fRs : Nat → Int64) (fOt : Nat → Int32) (fMi : Nat → Int64) (fCc : Nat → Int32) (g : Nat → Nat → Nat) (cc0 : Nat) (fc : Nat → Int32) (pp0 : Nat) (fp : Nat → Int32) (col : Nat → Nat) (hn1 : 1 ≤ n) (hn6 : n ≤ 6) (hk1 : 1 ≤ k) (hk12 : k ≤ 12) (hcn : fc 0 = nI n) (hck : fc 1 = nI k) (hgn : ∀ i j, i < n → j < k → g i j < n) (hW : ∀ i j, i < n → j < n → fW i j = nI (cnt (g i) j k)) (hCq : ∀ q, q < 6 → fCc q = fp (6 + q) ∧ fp (6 + q) = nI (col q) ∧ col q < 6) : Met l yL_areLumps wsL_areLumps ({ frames := 7, cells := 0, slots := 0, locals := 280 }) (cP D cY [.ref (b 0), .ref cc0, .ref pp0] [hO b, cO b (nI n) (nI k), tO b, oQ (cY 2) (b 3) (rr 1) 6, gI (cY 0) (rr 1) 6 fW 6, [(b 12, .inl (cY 1, 6, .inr (.inl fRs)))], [(b 13, .inl (cY 0, 6, .inl fOt))], [(b 14, .inl (cY 1, 32, .inr (.inl fMi)))], uO b, [(b 22, .inl (cY 0, 6, .inl fCc))], [(cc0, .inl (cY 0, 2, .inl fc))], [(pp0, .inl (cY 0, 12, .inl fp))]] sz) (qI (S := (Nat → Int64) × (Nat → Int32) × (Nat → Int64)) D cY (fun r uu => r = bI true) (fun uu => [hO b, cO b (nI n) (nI k), tO b, oQ (cY 2) (b 3) (rr 1) 6, gI (cY 0) (rr 1) 6 fW 6, [(b 12, .inl (cY 1, 6, .inr (.inl uu.1)))], [(b 13, .inl (cY 0, 6, .inl uu.2.1))], [(b 14, .inl (cY 1, 32, .inr (.inl uu.2.2)))], uO b, [(b 22, .inl (cY 0, 6, .inl fCc))], [(cc0, .inl (cY 0, 2, .inl fc))], [(pp0, .inl (cY 0, 12, .inl fp))]]) (va_A ([hO b, cO b (nI n) (nI k), tO b, oQ (cY 2) (b 3) (rr 1) 6, gI (cY 0) (rr 1) 6 fW 6, [(b 12, .inl (cY 1, 6, .inr (.inl fRs)))], [(b 13, .inl (cY 0, 6, .inl fOt))], [(b 14, .inl (cY 1, 32, .inr (.inl fMi)))], uO b, [(b 22, .inl (cY 0, 6, .inl fCc))], [(cc0, .inl (cY 0, 2, .inl fc))], [(pp0, .inl (cY 0, 12, .inl fp))]] : List va_W).flatten sz)) 0 0 (va_A ([hO b, cO b (nI n) (nI k), tO b, oQ (cY 2) (b 3) (rr 1) 6, gI (cY 0) (rr 1) 6 fW 6, [(b 12, .inl (cY 1, 6, .inr (.inl fRs)))], [(b 13, .inl (cY 0, 6, .inl fOt))], [(b 14, .inl (cY 1, 32, .inr (.inl fMi)))], uO b, [(b 22, .inl (cY 0, 6, .inl fCc))], [(cc0, .inl (cY 0, 2, .inl fc))], [(pp0, .inl (cY 0, 12, .inl fp))]] : List va_W).flatten sz) := by
  refine mtB (Qc := fun A => qI (S := (Nat → Int64) × (Nat → Int32) × (Nat → Int64)) D cY (fun r uu => r = bI true) (fun uu => [hO b, cO b (nI n) (nI k), tO b, oQ (cY 2) (b 3) (rr 1) 6, gI (cY 0) (rr 1) 6 fW 6, [(b 12, .inl (cY 1, 6, .inr (.inl uu.1)))], [(b 13, .inl (cY 0, 6, .inl uu.2.1))], [(b 14, .inl (cY 1, 32, .inr (.inl uu.2.2)))], uO b, [(b 22, .inl (cY 0, 6, .inl fCc))], [(cc0, .inl (cY 0, 2, .inl fc))], [(pp0, .inl (cY 0, 12, .inl fp))]]) A) (cc := cL_areLumps) (maxL := 10) (ret := (some .boolean)) (by decide) rfl (Nat.le_of_ble_eq_true rfl) ?_
  intro p e s m below meth c A ls hx hb hr hml hts hown hlocks hnm hsz hP hK hVK hD hS hA hl
  have hown : s.vm.findClass RL = some m.cls := hown
  have hl : lv_has ls 10 [(0, .ref (b 0)), (1, .ref cc0), (2, .ref pp0)] := hl
  have hP : va_P D vwCl ([hO b, cO b (nI n) (nI k), tO b, oQ (cY 2) (b 3) (rr 1) 6, gI (cY 0) (rr 1) 6 fW 6, [(b 12, .inl (cY 1, 6, .inr (.inl fRs)))], [(b 13, .inl (cY 0, 6, .inl fOt))], [(b 14, .inl (cY 1, 32, .inr (.inl fMi)))], uO b, [(b 22, .inl (cY 0, 6, .inl fCc))], [(cc0, .inl (cY 0, 2, .inl fc))], [(pp0, .inl (cY 0, 12, .inl fp))]] : List va_W).flatten s.heap := hP
  have hD : va_D A ([hO b, cO b (nI n) (nI k), tO b, oQ (cY 2) (b 3) (rr 1) 6, gI (cY 0) (rr 1) 6 fW 6, [(b 12, .inl (cY 1, 6, .inr (.inl fRs)))], [(b 13, .inl (cY 0, 6, .inl fOt))], [(b 14, .inl (cY 1, 32, .inr (.inl fMi)))], uO b, [(b 22, .inl (cY 0, 6, .inl fCc))], [(cc0, .inl (cY 0, 2, .inl fc))], [(pp0, .inl (cY 0, 12, .inl fp))]] : List va_W).flatten := hD
  have hC : ∀ j, j < n → fCc j = nI (col j) := fun j hj => (hCq j (by omega)).1.trans (hCq j (by omega)).2.1
  have hcl : ∀ j, j < n → col j < 6 := fun j hj => (hCq j (by omega)).2.2
  refine lv_iconst (v := nI 1) hx hb dL_areLumps_0 (by decide) ?_
  refine eqi (x' := bI true) (rfl) ?_
  refine lv_istore_n (lv' := [(3, .int (bI true)), (0, .ref (b 0)), (1, .ref cc0), (2, .ref pp0)]) hx hb dL_areLumps_1 rfl hl (by decide) rfl (fun ls hl => ?_)
  have L19 : ∀ (gRs0 : Nat → Int64) (gOt0 : Nat → Int32) (gMi0 : Nat → Int64), ∀ (H : Heap) (locs : List Loc), va_P D vwCl ([hO b, cO b (nI n) (nI k), tO b, oQ (cY 2) (b 3) (rr 1) 6, gI (cY 0) (rr 1) 6 fW 6, [(b 12, .inl (cY 1, 6, .inr (.inl gRs0)))], [(b 13, .inl (cY 0, 6, .inl gOt0))], [(b 14, .inl (cY 1, 32, .inr (.inl gMi0)))], uO b, [(b 22, .inl (cY 0, 6, .inl fCc))], [(cc0, .inl (cY 0, 2, .inl fc))], [(pp0, .inl (cY 0, 12, .inl fp))]] : List va_W).flatten H → va_D A ([hO b, cO b (nI n) (nI k), tO b, oQ (cY 2) (b 3) (rr 1) 6, gI (cY 0) (rr 1) 6 fW 6, [(b 12, .inl (cY 1, 6, .inr (.inl gRs0)))], [(b 13, .inl (cY 0, 6, .inl gOt0))], [(b 14, .inl (cY 1, 32, .inr (.inl gMi0)))], uO b, [(b 22, .inl (cY 0, 6, .inl fCc))], [(cc0, .inl (cY 0, 2, .inl fc))], [(pp0, .inl (cY 0, 12, .inl fp))]] : List va_W).flatten → va_S A s.heap H locs → ∀ (ls : Array Slot), lv_has ls 10 [(0, .ref (b 0)), (1, .ref cc0), (2, .ref pp0), (3, .int (bI true)), (4, .int (bI (!decide (WR g n k = lN 0))))] → W p l e ({ frames := 7, cells := 0, slots := 0, locals := 280 }) s m ([.ref (b 0), .ref cc0, .ref pp0] : List Value).toArray below meth c H locs 0 0 (MQ below (qI (S := (Nat → Int64) × (Nat → Int32) × (Nat → Int64)) D cY (fun r uu => r = bI true) (fun uu => [hO b, cO b (nI n) (nI k), tO b, oQ (cY 2) (b 3) (rr 1) 6, gI (cY 0) (rr 1) 6 fW 6, [(b 12, .inl (cY 1, 6, .inr (.inl uu.1)))], [(b 13, .inl (cY 0, 6, .inl uu.2.1))], [(b 14, .inl (cY 1, 32, .inr (.inl uu.2.2)))], uO b, [(b 22, .inl (cY 0, 6, .inl fCc))], [(cc0, .inl (cY 0, 2, .inl fc))], [(pp0, .inl (cY 0, 12, .inl fp))]]) A) ([.ref (b 0), .ref cc0, .ref pp0] : List Value).toArray s 0 0 A) (F0 m 19 ls []) := by
    intro gRs0 gOt0 gMi0  H locs hP hD hS ls hl
    refine lv_iconst (v := nI 0) hx hb dL_areLumps_19 (by decide) ?_
    refine lv_istore (lv' := [(5, .int (nI 0)), (0, .ref (b 0)), (1, .ref cc0), (2, .ref pp0), (3, .int (bI true)), (4, .int (bI (!decide (WR g n k = lN 0))))]) hx hb dL_areLumps_20 hl (by decide) rfl (fun ls hl => ?_)
    have L22 : ∀ u : Nat, u ≤ n → ∀ (B_ : Bool) (B2 : Bool) (gRs1 : Nat → Int64) (gOt1 : Nat → Int32) (gMi1 : Nat → Int64), (B_ = allB (fun u => allB (fun w => allB (lmK g n k col u w) 6) n) u) → (B2 = (allB (fun u => allB (rvG g n k u) n) u && (!decide (WR g n k = lN 0)))) → ∀ (H : Heap) (locs : List Loc), va_P D vwCl ([hO b, cO b (nI n) (nI k), tO b, oQ (cY 2) (b 3) (rr 1) 6, gI (cY 0) (rr 1) 6 fW 6, [(b 12, .inl (cY 1, 6, .inr (.inl gRs1)))], [(b 13, .inl (cY 0, 6, .inl gOt1))], [(b 14, .inl (cY 1, 32, .inr (.inl gMi1)))], uO b, [(b 22, .inl (cY 0, 6, .inl fCc))], [(cc0, .inl (cY 0, 2, .inl fc))], [(pp0, .inl (cY 0, 12, .inl fp))]] : List va_W).flatten H → va_D A ([hO b, cO b (nI n) (nI k), tO b, oQ (cY 2) (b 3) (rr 1) 6, gI (cY 0) (rr 1) 6 fW 6, [(b 12, .inl (cY 1, 6, .inr (.inl gRs1)))], [(b 13, .inl (cY 0, 6, .inl gOt1))], [(b 14, .inl (cY 1, 32, .inr (.inl gMi1)))], uO b, [(b 22, .inl (cY 0, 6, .inl fCc))], [(cc0, .inl (cY 0, 2, .inl fc))], [(pp0, .inl (cY 0, 12, .inl fp))]] : List va_W).flatten → va_S A s.heap H locs → ∀ (ls : Array Slot), lv_has ls 10 [(0, .ref (b 0)), (1, .ref cc0), (2, .ref pp0), (3, .int (bI B_)), (4, .int (bI B2)), (5, .int (nI u))] → W p l e ({ frames := 7, cells := 0, slots := 0, locals := 280 }) s m ([.ref (b 0), .ref cc0, .ref pp0] : List Value).toArray below meth c H locs 0 0 (MQ below (qI (S := (Nat → Int64) × (Nat → Int32) × (Nat → Int64)) D cY (fun r uu => r = bI true) (fun uu => [hO b, cO b (nI n) (nI k), tO b, oQ (cY 2) (b 3) (rr 1) 6, gI (cY 0) (rr 1) 6 fW 6, [(b 12, .inl (cY 1, 6, .inr (.inl uu.1)))], [(b 13, .inl (cY 0, 6, .inl uu.2.1))], [(b 14, .inl (cY 1, 32, .inr (.inl uu.2.2)))], uO b, [(b 22, .inl (cY 0, 6, .inl fCc))], [(cc0, .inl (cY 0, 2, .inl fc))], [(pp0, .inl (cY 0, 12, .inl fp))]]) A) ([.ref (b 0), .ref cc0, .ref pp0] : List Value).toArray s 0 0 A) (F0 m 22 ls []) := by
      refine lpW n ?_
      intro u bdu ih22 B_ B2 gRs1 gOt1 gMi1 hB hB2 H locs hP hD hS ls hl
      refine lv_iload hx hb dL_areLumps_22 (lv_at hl 5 rfl) ?_
      refine lv_aload_n hx hb dL_areLumps_24 rfl (lv_at hl 1 rfl) ?_
      refine lv_iconst (v := nI 0) hx hb dL_areLumps_25 (by decide) ?_
      refine b_iald hx hb hK hP 10 0 rfl rfl (by omega) (by decide) dL_areLumps_26 ?_
      refine eqi (x' := nI n) (hcn) ?_
      refine n_icmp_ge (tgt := 207) hx hb dL_areLumps_27 (by decide) (by omega) (by omega) (fun h27 => ?_) (fun h27 => ?_)
      · -- t
        refine lv_aload_n hx hb dL_areLumps_207 rfl (lv_at hl 0 rfl) ?_
        refine ca_i (CL := [hO b, cO b (nI n) (nI k), uO b, oQ (cY 2) (b 3) (rr 1) 6, gI (cY 0) (rr 1) 6 fW 6, [(b 22, .inl (cY 0, 6, .inl fCc))]]) (va_runV (As := []) (rest := []) ⟨hx, hb, hml, hown, hts⟩ (c_X8_isLumped_ok l D cY H.size b rr n k fW fCc g col (by omega) (by omega) (by omega) (by omega) hW hC hcl) (cwV 0 hts gL_areLumps_X8_isLumped rfl rfl rfl (by decide +kernel) ⟨Nat.le_of_ble_eq_true rfl, Nat.le_of_ble_eq_true rfl⟩) (b_preV hVK hP hD [0, 1, 8, 3, 4, 9] rfl rfl 0 rfl rfl) rfl rfl hl.1 rfl (lv_room (Nat.le_of_ble_eq_true rfl)) dL_areLumps_208 ⟨Nat.le_refl _, Nat.le_refl _⟩) hP hD hS hA [0, 1, 8, 3, 4, 9] rfl rfl (fun _ => rfl) (fun r208 uu H locs hq hP hD hS => ?_)
        subst hq
        have hP : va_P D vwCl ([hO b, cO b (nI n) (nI k), tO b, oQ (cY 2) (b 3) (rr 1) 6, gI (cY 0) (rr 1) 6 fW 6, [(b 12, .inl (cY 1, 6, .inr (.inl gRs1)))], [(b 13, .inl (cY 0, 6, .inl gOt1))], [(b 14, .inl (cY 1, 32, .inr (.inl gMi1)))], uO b, [(b 22, .inl (cY 0, 6, .inl fCc))], [(cc0, .inl (cY 0, 2, .inl fc))], [(pp0, .inl (cY 0, 12, .inl fp))]] : List va_W).flatten H := hP
        have hD : va_D A ([hO b, cO b (nI n) (nI k), tO b, oQ (cY 2) (b 3) (rr 1) 6, gI (cY 0) (rr 1) 6 fW 6, [(b 12, .inl (cY 1, 6, .inr (.inl gRs1)))], [(b 13, .inl (cY 0, 6, .inl gOt1))], [(b 14, .inl (cY 1, 32, .inr (.inl gMi1)))], uO b, [(b 22, .inl (cY 0, 6, .inl fCc))], [(cc0, .inl (cY 0, 2, .inl fc))], [(pp0, .inl (cY 0, 12, .inl fp))]] : List va_W).flatten := hD
        refine lv_iload_n hx hb dL_areLumps_211 rfl (lv_at hl 3 rfl) ?_
        refine lv_icmp_ne (tgt := 228) hx hb dL_areLumps_212 (by decide) (fun h212 => ?_) (fun h212 => ?_)
        · -- t
          exact absurd (congrArg bI (by rw [hB, show u = n by omega]; exact lm_full)) h212
        · -- f
          refine lv_aload_n hx hb dL_areLumps_215 rfl (lv_at hl 0 rfl) ?_
          refine ca_i (CL := [hO b, cO b (nI n) (nI k), tO b, oQ (cY 2) (b 3) (rr 1) 6, gI (cY 0) (rr 1) 6 fW 6, [(b 12, .inl (cY 1, 6, .inr (.inl gRs1)))], [(b 13, .inl (cY 0, 6, .inl gOt1))], [(b 14, .inl (cY 1, 32, .inr (.inl gMi1)))]]) (va_runV (As := []) (rest := []) ⟨hx, hb, hml, hown, hts⟩ (c_X8_reverses_ok l D cY H.size b rr n k fW gRs1 gOt1 gMi1 g (by omega) (by omega) (by omega) (by omega) hW) (cwV 0 hts gL_areLumps_X8_reverses rfl rfl rfl (by decide +kernel) ⟨Nat.le_of_ble_eq_true rfl, Nat.le_of_ble_eq_true rfl⟩) (b_preV hVK hP hD [0, 1, 2, 3, 4, 5, 6, 7] rfl rfl 0 rfl rfl) rfl rfl hl.1 rfl (lv_room (Nat.le_of_ble_eq_true rfl)) dL_areLumps_216 ⟨Nat.le_refl _, Nat.le_refl _⟩) hP hD hS hA [0, 1, 2, 3, 4, 5, 6, 7] rfl rfl (fun _ => rfl) (fun r216 uu H locs hq hP hD hS => ?_)
          obtain ⟨fRs1_1, fOt1_2, fMi1_3⟩ := uu
          try dsimp only at hq
          subst hq
          have hP : va_P D vwCl ([hO b, cO b (nI n) (nI k), tO b, oQ (cY 2) (b 3) (rr 1) 6, gI (cY 0) (rr 1) 6 fW 6, [(b 12, .inl (cY 1, 6, .inr (.inl fRs1_1)))], [(b 13, .inl (cY 0, 6, .inl fOt1_2))], [(b 14, .inl (cY 1, 32, .inr (.inl fMi1_3)))], uO b, [(b 22, .inl (cY 0, 6, .inl fCc))], [(cc0, .inl (cY 0, 2, .inl fc))], [(pp0, .inl (cY 0, 12, .inl fp))]] : List va_W).flatten H := hP
          have hD : va_D A ([hO b, cO b (nI n) (nI k), tO b, oQ (cY 2) (b 3) (rr 1) 6, gI (cY 0) (rr 1) 6 fW 6, [(b 12, .inl (cY 1, 6, .inr (.inl fRs1_1)))], [(b 13, .inl (cY 0, 6, .inl fOt1_2))], [(b 14, .inl (cY 1, 32, .inr (.inl fMi1_3)))], uO b, [(b 22, .inl (cY 0, 6, .inl fCc))], [(cc0, .inl (cY 0, 2, .inl fc))], [(pp0, .inl (cY 0, 12, .inl fp))]] : List va_W).flatten := hD
          refine lv_iload hx hb dL_areLumps_219 (lv_at hl 4 rfl) ?_
          refine lv_icmp_ne (tgt := 228) hx hb dL_areLumps_221 (by decide) (fun h221 => ?_) (fun h221 => ?_)
          · -- t
            exact absurd (congrArg bI (by rw [hB2, show u = n by omega]; exact rv_full)) h221
          · -- f
            refine lv_iconst (v := nI 1) hx hb dL_areLumps_224 (by decide) ?_
            refine lv_goto (tgt := 229) hx hb dL_areLumps_225 (by decide) ?_
            refine eqi (x' := bI true) rfl ?_
            exact r_z hx hb hr hlocks hP hD hS (fRs1_1, fOt1_2, fMi1_3) rfl (rfl) dL_areLumps_229
      · -- f
        refine lv_iconst (v := nI 0) hx hb dL_areLumps_30 (by decide) ?_
        refine lv_istore (lv' := [(6, .int (nI 0)), (0, .ref (b 0)), (1, .ref cc0), (2, .ref pp0), (3, .int (bI B_)), (4, .int (bI B2)), (5, .int (nI u))]) hx hb dL_areLumps_31 hl (by decide) rfl (fun ls hl => ?_)
        have L33 : ∀ w : Nat, w ≤ n → ∀ (B3 : Bool) (B4 : Bool) (gRs2 : Nat → Int64) (gOt2 : Nat → Int32) (gMi2 : Nat → Int64), (B3 = (allB (fun w => allB (lmK g n k col u w) 6) w && allB (fun u => allB (fun w => allB (lmK g n k col u w) 6) n) u)) → (B4 = (allB (rvG g n k u) w && (allB (fun u => allB (rvG g n k u) n) u && (!decide (WR g n k = lN 0))))) → ∀ (H : Heap) (locs : List Loc), va_P D vwCl ([hO b, cO b (nI n) (nI k), tO b, oQ (cY 2) (b 3) (rr 1) 6, gI (cY 0) (rr 1) 6 fW 6, [(b 12, .inl (cY 1, 6, .inr (.inl gRs2)))], [(b 13, .inl (cY 0, 6, .inl gOt2))], [(b 14, .inl (cY 1, 32, .inr (.inl gMi2)))], uO b, [(b 22, .inl (cY 0, 6, .inl fCc))], [(cc0, .inl (cY 0, 2, .inl fc))], [(pp0, .inl (cY 0, 12, .inl fp))]] : List va_W).flatten H → va_D A ([hO b, cO b (nI n) (nI k), tO b, oQ (cY 2) (b 3) (rr 1) 6, gI (cY 0) (rr 1) 6 fW 6, [(b 12, .inl (cY 1, 6, .inr (.inl gRs2)))], [(b 13, .inl (cY 0, 6, .inl gOt2))], [(b 14, .inl (cY 1, 32, .inr (.inl gMi2)))], uO b, [(b 22, .inl (cY 0, 6, .inl fCc))], [(cc0, .inl (cY 0, 2, .inl fc))], [(pp0, .inl (cY 0, 12, .inl fp))]] : List va_W).flatten → va_S A s.heap H locs → ∀ (ls : Array Slot), lv_has ls 10 [(0, .ref (b 0)), (1, .ref cc0), (2, .ref pp0), (3, .int (bI B3)), (4, .int (bI B4)), (5, .int (nI u)), (6, .int (nI w))] → W p l e ({ frames := 7, cells := 0, slots := 0, locals := 280 }) s m ([.ref (b 0), .ref cc0, .ref pp0] : List Value).toArray below meth c H locs 0 0 (MQ below (qI (S := (Nat → Int64) × (Nat → Int32) × (Nat → Int64)) D cY (fun r uu => r = bI true) (fun uu => [hO b, cO b (nI n) (nI k), tO b, oQ (cY 2) (b 3) (rr 1) 6, gI (cY 0) (rr 1) 6 fW 6, [(b 12, .inl (cY 1, 6, .inr (.inl uu.1)))], [(b 13, .inl (cY 0, 6, .inl uu.2.1))], [(b 14, .inl (cY 1, 32, .inr (.inl uu.2.2)))], uO b, [(b 22, .inl (cY 0, 6, .inl fCc))], [(cc0, .inl (cY 0, 2, .inl fc))], [(pp0, .inl (cY 0, 12, .inl fp))]]) A) ([.ref (b 0), .ref cc0, .ref pp0] : List Value).toArray s 0 0 A) (F0 m 33 ls []) := by
          refine lpW n ?_
          intro w bdw ih33 B3 B4 gRs2 gOt2 gMi2 hB3 hB4 H locs hP hD hS ls hl
          refine lv_iload hx hb dL_areLumps_33 (lv_at hl 6 rfl) ?_
          refine lv_aload_n hx hb dL_areLumps_35 rfl (lv_at hl 1 rfl) ?_
          refine lv_iconst (v := nI 0) hx hb dL_areLumps_36 (by decide) ?_
          refine b_iald hx hb hK hP 10 0 rfl rfl (by omega) (by decide) dL_areLumps_37 ?_
          refine eqi (x' := nI n) (hcn) ?_
          refine n_icmp_ge (tgt := 201) hx hb dL_areLumps_38 (by decide) (by omega) (by omega) (fun h38 => ?_) (fun h38 => ?_)
          · -- t
            refine lv_iinc (v := nI (u + 1)) (lv' := [(5, .int (nI (u + 1))), (0, .ref (b 0)), (1, .ref cc0), (2, .ref pp0), (3, .int (bI B3)), (4, .int (bI B4)), (6, .int (nI w))]) hx hb dL_areLumps_201 hl (k := 5) rfl (nI_1 u) (by decide) rfl (fun ls hl => ?_)
            refine lv_goto (tgt := 22) hx hb dL_areLumps_204 (by decide) ?_
            exact ih22 (by omega) B3 B4 gRs2 gOt2 gMi2 (by rw [hB3, show w = n by omega]; rfl) (by rw [hB4, show w = n by omega]; exact (Bool.and_assoc _ _ _).symm) _ _ hP hD hS _ (lv_sub hl [1, 2, 3, 4, 5, 0] rfl)
          · -- f
            refine lv_iconst (v := nI 0) hx hb dL_areLumps_41 (by decide) ?_
            refine lv_istore (lv' := [(7, .int (nI 0)), (0, .ref (b 0)), (1, .ref cc0), (2, .ref pp0), (3, .int (bI B3)), (4, .int (bI B4)), (5, .int (nI u)), (6, .int (nI w))]) hx hb dL_areLumps_42 hl (by decide) rfl (fun ls hl => ?_)
            have L44 : ∀ x : Nat, x ≤ 6 → ∀ (E_ : Bool), (E_ = (allB (lmK g n k col u w) x && (allB (fun w => allB (lmK g n k col u w) 6) w && allB (fun u => allB (fun w => allB (lmK g n k col u w) 6) n) u))) → ∀ (H : Heap) (locs : List Loc), va_P D vwCl ([hO b, cO b (nI n) (nI k), tO b, oQ (cY 2) (b 3) (rr 1) 6, gI (cY 0) (rr 1) 6 fW 6, [(b 12, .inl (cY 1, 6, .inr (.inl gRs2)))], [(b 13, .inl (cY 0, 6, .inl gOt2))], [(b 14, .inl (cY 1, 32, .inr (.inl gMi2)))], uO b, [(b 22, .inl (cY 0, 6, .inl fCc))], [(cc0, .inl (cY 0, 2, .inl fc))], [(pp0, .inl (cY 0, 12, .inl fp))]] : List va_W).flatten H → va_D A ([hO b, cO b (nI n) (nI k), tO b, oQ (cY 2) (b 3) (rr 1) 6, gI (cY 0) (rr 1) 6 fW 6, [(b 12, .inl (cY 1, 6, .inr (.inl gRs2)))], [(b 13, .inl (cY 0, 6, .inl gOt2))], [(b 14, .inl (cY 1, 32, .inr (.inl gMi2)))], uO b, [(b 22, .inl (cY 0, 6, .inl fCc))], [(cc0, .inl (cY 0, 2, .inl fc))], [(pp0, .inl (cY 0, 12, .inl fp))]] : List va_W).flatten → va_S A s.heap H locs → ∀ (ls : Array Slot), lv_has ls 10 [(0, .ref (b 0)), (1, .ref cc0), (2, .ref pp0), (3, .int (bI E_)), (4, .int (bI B4)), (5, .int (nI u)), (6, .int (nI w)), (7, .int (nI x))] → W p l e ({ frames := 7, cells := 0, slots := 0, locals := 280 }) s m ([.ref (b 0), .ref cc0, .ref pp0] : List Value).toArray below meth c H locs 0 0 (MQ below (qI (S := (Nat → Int64) × (Nat → Int32) × (Nat → Int64)) D cY (fun r uu => r = bI true) (fun uu => [hO b, cO b (nI n) (nI k), tO b, oQ (cY 2) (b 3) (rr 1) 6, gI (cY 0) (rr 1) 6 fW 6, [(b 12, .inl (cY 1, 6, .inr (.inl uu.1)))], [(b 13, .inl (cY 0, 6, .inl uu.2.1))], [(b 14, .inl (cY 1, 32, .inr (.inl uu.2.2)))], uO b, [(b 22, .inl (cY 0, 6, .inl fCc))], [(cc0, .inl (cY 0, 2, .inl fc))], [(pp0, .inl (cY 0, 12, .inl fp))]]) A) ([.ref (b 0), .ref cc0, .ref pp0] : List Value).toArray s 0 0 A) (F0 m 44 ls []) := by
              refine lpW 6 ?_
              intro x bdx ih44 E_ hE H locs hP hD hS ls hl
              refine lv_iload hx hb dL_areLumps_44 (lv_at hl 7 rfl) ?_
              refine lv_bipush (v := nI 6) hx hb dL_areLumps_46 (by decide) ?_
              refine n_icmp_ge (tgt := 147) hx hb dL_areLumps_48 (by decide) (by omega) (by omega) (fun h48 => ?_) (fun h48 => ?_)
              · -- t
                have L195 : ∀ (C3 : Bool) (gRs4 : Nat → Int64) (gOt4 : Nat → Int32) (gMi4 : Nat → Int64), (C3 = (allB (rvG g n k u) (w + 1) && (allB (fun u => allB (rvG g n k u) n) u && (!decide (WR g n k = lN 0))))) → ∀ (H : Heap) (locs : List Loc), va_P D vwCl ([hO b, cO b (nI n) (nI k), tO b, oQ (cY 2) (b 3) (rr 1) 6, gI (cY 0) (rr 1) 6 fW 6, [(b 12, .inl (cY 1, 6, .inr (.inl gRs4)))], [(b 13, .inl (cY 0, 6, .inl gOt4))], [(b 14, .inl (cY 1, 32, .inr (.inl gMi4)))], uO b, [(b 22, .inl (cY 0, 6, .inl fCc))], [(cc0, .inl (cY 0, 2, .inl fc))], [(pp0, .inl (cY 0, 12, .inl fp))]] : List va_W).flatten H → va_D A ([hO b, cO b (nI n) (nI k), tO b, oQ (cY 2) (b 3) (rr 1) 6, gI (cY 0) (rr 1) 6 fW 6, [(b 12, .inl (cY 1, 6, .inr (.inl gRs4)))], [(b 13, .inl (cY 0, 6, .inl gOt4))], [(b 14, .inl (cY 1, 32, .inr (.inl gMi4)))], uO b, [(b 22, .inl (cY 0, 6, .inl fCc))], [(cc0, .inl (cY 0, 2, .inl fc))], [(pp0, .inl (cY 0, 12, .inl fp))]] : List va_W).flatten → va_S A s.heap H locs → ∀ (ls : Array Slot), lv_has ls 10 [(0, .ref (b 0)), (1, .ref cc0), (2, .ref pp0), (3, .int (bI E_)), (4, .int (bI C3)), (5, .int (nI u)), (6, .int (nI w)), (7, .int (nI x))] → W p l e ({ frames := 7, cells := 0, slots := 0, locals := 280 }) s m ([.ref (b 0), .ref cc0, .ref pp0] : List Value).toArray below meth c H locs 0 0 (MQ below (qI (S := (Nat → Int64) × (Nat → Int32) × (Nat → Int64)) D cY (fun r uu => r = bI true) (fun uu => [hO b, cO b (nI n) (nI k), tO b, oQ (cY 2) (b 3) (rr 1) 6, gI (cY 0) (rr 1) 6 fW 6, [(b 12, .inl (cY 1, 6, .inr (.inl uu.1)))], [(b 13, .inl (cY 0, 6, .inl uu.2.1))], [(b 14, .inl (cY 1, 32, .inr (.inl uu.2.2)))], uO b, [(b 22, .inl (cY 0, 6, .inl fCc))], [(cc0, .inl (cY 0, 2, .inl fc))], [(pp0, .inl (cY 0, 12, .inl fp))]]) A) ([.ref (b 0), .ref cc0, .ref pp0] : List Value).toArray s 0 0 A) (F0 m 195 ls []) := by
                  intro C3 gRs4 gOt4 gMi4 hC3 H locs hP hD hS ls hl
                  refine lv_iinc (v := nI (w + 1)) (lv' := [(6, .int (nI (w + 1))), (0, .ref (b 0)), (1, .ref cc0), (2, .ref pp0), (3, .int (bI E_)), (4, .int (bI C3)), (5, .int (nI u)), (7, .int (nI x))]) hx hb dL_areLumps_195 hl (k := 6) rfl (nI_1 w) (by decide) rfl (fun ls hl => ?_)
                  refine lv_goto (tgt := 33) hx hb dL_areLumps_198 (by decide) ?_
                  exact ih33 (by omega) E_ C3 gRs4 gOt4 gMi4 (by rw [hE, show x = 6 by omega]; exact (Bool.and_assoc _ _ _).symm) hC3 _ _ hP hD hS _ (lv_sub hl [1, 2, 3, 4, 5, 6, 0] rfl)
                refine lv_iload hx hb dL_areLumps_147 (lv_at hl 4 rfl) ?_
                refine b_if_eq (tgt := 192) hx hb dL_areLumps_149 (by decide) (fun h149 => ?_) (fun h149 => ?_)
                · -- t
                  refine lv_iconst (v := nI 0) hx hb dL_areLumps_192 (by decide) ?_
                  refine eqi (x' := bI false) (rfl) ?_
                  refine lv_istore (lv' := [(4, .int (bI false)), (0, .ref (b 0)), (1, .ref cc0), (2, .ref pp0), (3, .int (bI E_)), (5, .int (nI u)), (6, .int (nI w)), (7, .int (nI x))]) hx hb dL_areLumps_193 hl (by decide) rfl (fun ls hl => ?_)
                  exact L195 false gRs2 gOt2 gMi2 (by first | exact lmE_a hB4 h149 | exact lmE_t hB4 h149 (dec_t h185) | exact lmE_f (dec_f h185)) _ _ hP hD hS _ (lv_sub hl [1, 2, 3, 4, 0, 5, 6, 7] rfl)
                · -- f
                  refine lv_aload_n hx hb dL_areLumps_152 rfl (lv_at hl 0 rfl) ?_
                  refine lv_iload hx hb dL_areLumps_153 (lv_at hl 5 rfl) ?_
                  refine ca_l (CL := [hO b, cO b (nI n) (nI k), tO b, oQ (cY 2) (b 3) (rr 1) 6, gI (cY 0) (rr 1) 6 fW 6, [(b 13, .inl (cY 0, 6, .inl gOt2))], [(b 14, .inl (cY 1, 32, .inr (.inl gMi2)))]]) (va_runV (As := [.int (nI u)]) (rest := []) ⟨hx, hb, hml, hown, hts⟩ (c_X8_rest_ok l D cY H.size b rr n k fW gOt2 gMi2 g u (by omega) (by omega) (by omega) (by omega) hW (by omega)) (cwV 1 hts gL_areLumps_X8_rest rfl rfl rfl (by decide +kernel) ⟨Nat.le_of_ble_eq_true rfl, Nat.le_of_ble_eq_true rfl⟩) (b_preV hVK hP hD [0, 1, 2, 3, 4, 6, 7] rfl rfl 0 rfl rfl) rfl rfl hl.1 rfl (lv_room (Nat.le_of_ble_eq_true rfl)) dL_areLumps_155 ⟨Nat.le_refl _, Nat.le_refl _⟩) hP hD hS hA [0, 1, 2, 3, 4, 6, 7] rfl rfl (fun _ => rfl) (fun r155 uu H locs hq hP hD hS => ?_)
                  obtain ⟨fOt1_4, fMi1_5⟩ := uu
                  try dsimp only at hq
                  subst hq
                  have hP : va_P D vwCl ([hO b, cO b (nI n) (nI k), tO b, oQ (cY 2) (b 3) (rr 1) 6, gI (cY 0) (rr 1) 6 fW 6, [(b 12, .inl (cY 1, 6, .inr (.inl gRs2)))], [(b 13, .inl (cY 0, 6, .inl fOt1_4))], [(b 14, .inl (cY 1, 32, .inr (.inl fMi1_5)))], uO b, [(b 22, .inl (cY 0, 6, .inl fCc))], [(cc0, .inl (cY 0, 2, .inl fc))], [(pp0, .inl (cY 0, 12, .inl fp))]] : List va_W).flatten H := hP
                  have hD : va_D A ([hO b, cO b (nI n) (nI k), tO b, oQ (cY 2) (b 3) (rr 1) 6, gI (cY 0) (rr 1) 6 fW 6, [(b 12, .inl (cY 1, 6, .inr (.inl gRs2)))], [(b 13, .inl (cY 0, 6, .inl fOt1_4))], [(b 14, .inl (cY 1, 32, .inr (.inl fMi1_5)))], uO b, [(b 22, .inl (cY 0, 6, .inl fCc))], [(cc0, .inl (cY 0, 2, .inl fc))], [(pp0, .inl (cY 0, 12, .inl fp))]] : List va_W).flatten := hD
                  refine lv_aload_n hx hb dL_areLumps_158 rfl (lv_at hl 0 rfl) ?_
                  refine lv_iload hx hb dL_areLumps_159 (lv_at hl 5 rfl) ?_
                  refine lv_iload hx hb dL_areLumps_161 (lv_at hl 6 rfl) ?_
                  refine ca_i (CL := [hO b, cO b (nI n) (nI k), oQ (cY 2) (b 3) (rr 1) 6, gI (cY 0) (rr 1) 6 fW 6]) (va_runV (As := [.int (nI u), .int (nI w)]) (rest := [.long (RV g n k u)]) ⟨hx, hb, hml, hown, hts⟩ (c_X8_weight_ok l D cY H.size b rr n k fW g u w (by omega) (by omega) (by omega) (by omega) hW (by omega) (by omega)) (cwV 2 hts gL_areLumps_X8_weight rfl rfl rfl (by decide +kernel) ⟨Nat.le_of_ble_eq_true rfl, Nat.le_of_ble_eq_true rfl⟩) (b_preV hVK hP hD [0, 1, 3, 4] rfl rfl 0 rfl rfl) rfl rfl hl.1 rfl (lv_room (Nat.le_of_ble_eq_true rfl)) dL_areLumps_163 ⟨Nat.le_refl _, Nat.le_refl _⟩) hP hD hS hA [0, 1, 3, 4] rfl rfl (fun _ => rfl) (fun r163 uu H locs hq hP hD hS => ?_)
                  subst hq
                  have hP : va_P D vwCl ([hO b, cO b (nI n) (nI k), tO b, oQ (cY 2) (b 3) (rr 1) 6, gI (cY 0) (rr 1) 6 fW 6, [(b 12, .inl (cY 1, 6, .inr (.inl gRs2)))], [(b 13, .inl (cY 0, 6, .inl fOt1_4))], [(b 14, .inl (cY 1, 32, .inr (.inl fMi1_5)))], uO b, [(b 22, .inl (cY 0, 6, .inl fCc))], [(cc0, .inl (cY 0, 2, .inl fc))], [(pp0, .inl (cY 0, 12, .inl fp))]] : List va_W).flatten H := hP
                  have hD : va_D A ([hO b, cO b (nI n) (nI k), tO b, oQ (cY 2) (b 3) (rr 1) 6, gI (cY 0) (rr 1) 6 fW 6, [(b 12, .inl (cY 1, 6, .inr (.inl gRs2)))], [(b 13, .inl (cY 0, 6, .inl fOt1_4))], [(b 14, .inl (cY 1, 32, .inr (.inl fMi1_5)))], uO b, [(b 22, .inl (cY 0, 6, .inl fCc))], [(cc0, .inl (cY 0, 2, .inl fc))], [(pp0, .inl (cY 0, 12, .inl fp))]] : List va_W).flatten := hD
                  have hcl1 := cnt_le (g u) w k
                  refine lv_i2l (v := lN (cnt (g u) w k)) hx hb dL_areLumps_166 (nI_l (by omega)) ?_
                  refine lv_lmul hx hb dL_areLumps_167 ?_
                  refine lv_aload_n hx hb dL_areLumps_168 rfl (lv_at hl 0 rfl) ?_
                  refine lv_iload hx hb dL_areLumps_169 (lv_at hl 6 rfl) ?_
                  refine ca_l (CL := [hO b, cO b (nI n) (nI k), tO b, oQ (cY 2) (b 3) (rr 1) 6, gI (cY 0) (rr 1) 6 fW 6, [(b 13, .inl (cY 0, 6, .inl fOt1_4))], [(b 14, .inl (cY 1, 32, .inr (.inl fMi1_5)))]]) (va_runV (As := [.int (nI w)]) (rest := [.long ((RV g n k u) * (lN (cnt (g u) w k)))]) ⟨hx, hb, hml, hown, hts⟩ (c_X8_rest_ok l D cY H.size b rr n k fW fOt1_4 fMi1_5 g w (by omega) (by omega) (by omega) (by omega) hW (by omega)) (cwV 1 hts gL_areLumps_X8_rest rfl rfl rfl (by decide +kernel) ⟨Nat.le_of_ble_eq_true rfl, Nat.le_of_ble_eq_true rfl⟩) (b_preV hVK hP hD [0, 1, 2, 3, 4, 6, 7] rfl rfl 0 rfl rfl) rfl rfl hl.1 rfl (lv_room (Nat.le_of_ble_eq_true rfl)) dL_areLumps_171 ⟨Nat.le_refl _, Nat.le_refl _⟩) hP hD hS hA [0, 1, 2, 3, 4, 6, 7] rfl rfl (fun _ => rfl) (fun r171 uu H locs hq hP hD hS => ?_)
                  obtain ⟨fOt1_6, fMi1_7⟩ := uu
                  try dsimp only at hq
                  subst hq
                  have hP : va_P D vwCl ([hO b, cO b (nI n) (nI k), tO b, oQ (cY 2) (b 3) (rr 1) 6, gI (cY 0) (rr 1) 6 fW 6, [(b 12, .inl (cY 1, 6, .inr (.inl gRs2)))], [(b 13, .inl (cY 0, 6, .inl fOt1_6))], [(b 14, .inl (cY 1, 32, .inr (.inl fMi1_7)))], uO b, [(b 22, .inl (cY 0, 6, .inl fCc))], [(cc0, .inl (cY 0, 2, .inl fc))], [(pp0, .inl (cY 0, 12, .inl fp))]] : List va_W).flatten H := hP
                  have hD : va_D A ([hO b, cO b (nI n) (nI k), tO b, oQ (cY 2) (b 3) (rr 1) 6, gI (cY 0) (rr 1) 6 fW 6, [(b 12, .inl (cY 1, 6, .inr (.inl gRs2)))], [(b 13, .inl (cY 0, 6, .inl fOt1_6))], [(b 14, .inl (cY 1, 32, .inr (.inl fMi1_7)))], uO b, [(b 22, .inl (cY 0, 6, .inl fCc))], [(cc0, .inl (cY 0, 2, .inl fc))], [(pp0, .inl (cY 0, 12, .inl fp))]] : List va_W).flatten := hD
                  refine lv_aload_n hx hb dL_areLumps_174 rfl (lv_at hl 0 rfl) ?_
                  refine lv_iload hx hb dL_areLumps_175 (lv_at hl 6 rfl) ?_
                  refine lv_iload hx hb dL_areLumps_177 (lv_at hl 5 rfl) ?_
                  refine ca_i (CL := [hO b, cO b (nI n) (nI k), oQ (cY 2) (b 3) (rr 1) 6, gI (cY 0) (rr 1) 6 fW 6]) (va_runV (As := [.int (nI w), .int (nI u)]) (rest := [.long (RV g n k w), .long ((RV g n k u) * (lN (cnt (g u) w k)))]) ⟨hx, hb, hml, hown, hts⟩ (c_X8_weight_ok l D cY H.size b rr n k fW g w u (by omega) (by omega) (by omega) (by omega) hW (by omega) (by omega)) (cwV 2 hts gL_areLumps_X8_weight rfl rfl rfl (by decide +kernel) ⟨Nat.le_of_ble_eq_true rfl, Nat.le_of_ble_eq_true rfl⟩) (b_preV hVK hP hD [0, 1, 3, 4] rfl rfl 0 rfl rfl) rfl rfl hl.1 rfl (lv_room (Nat.le_of_ble_eq_true rfl)) dL_areLumps_179 ⟨Nat.le_refl _, Nat.le_refl _⟩) hP hD hS hA [0, 1, 3, 4] rfl rfl (fun _ => rfl) (fun r179 uu H locs hq hP hD hS => ?_)
                  subst hq
                  have hP : va_P D vwCl ([hO b, cO b (nI n) (nI k), tO b, oQ (cY 2) (b 3) (rr 1) 6, gI (cY 0) (rr 1) 6 fW 6, [(b 12, .inl (cY 1, 6, .inr (.inl gRs2)))], [(b 13, .inl (cY 0, 6, .inl fOt1_6))], [(b 14, .inl (cY 1, 32, .inr (.inl fMi1_7)))], uO b, [(b 22, .inl (cY 0, 6, .inl fCc))], [(cc0, .inl (cY 0, 2, .inl fc))], [(pp0, .inl (cY 0, 12, .inl fp))]] : List va_W).flatten H := hP
                  have hD : va_D A ([hO b, cO b (nI n) (nI k), tO b, oQ (cY 2) (b 3) (rr 1) 6, gI (cY 0) (rr 1) 6 fW 6, [(b 12, .inl (cY 1, 6, .inr (.inl gRs2)))], [(b 13, .inl (cY 0, 6, .inl fOt1_6))], [(b 14, .inl (cY 1, 32, .inr (.inl fMi1_7)))], uO b, [(b 22, .inl (cY 0, 6, .inl fCc))], [(cc0, .inl (cY 0, 2, .inl fc))], [(pp0, .inl (cY 0, 12, .inl fp))]] : List va_W).flatten := hD
                  have hcl2 := cnt_le (g w) u k
                  refine lv_i2l (v := lN (cnt (g w) u k)) hx hb dL_areLumps_182 (nI_l (by omega)) ?_
                  refine lv_lmul hx hb dL_areLumps_183 ?_
                  refine W.lcmp hx hb dL_areLumps_184 ?_
                  refine l_if_ne (tgt := 192) hx hb dL_areLumps_185 (by decide) (fun h185 => ?_) (fun h185 => ?_)
                  · -- t
                    refine lv_iconst (v := nI 0) hx hb dL_areLumps_192 (by decide) ?_
                    refine eqi (x' := bI false) (rfl) ?_
                    refine lv_istore (lv' := [(4, .int (bI false)), (0, .ref (b 0)), (1, .ref cc0), (2, .ref pp0), (3, .int (bI E_)), (5, .int (nI u)), (6, .int (nI w)), (7, .int (nI x))]) hx hb dL_areLumps_193 hl (by decide) rfl (fun ls hl => ?_)
                    exact L195 false gRs2 fOt1_6 fMi1_7 (by first | exact lmE_a hB4 h149 | exact lmE_t hB4 h149 (dec_t h185) | exact lmE_f (dec_f h185)) _ _ hP hD hS _ (lv_sub hl [1, 2, 3, 4, 0, 5, 6, 7] rfl)
                  · -- f
                    refine lv_iconst (v := nI 1) hx hb dL_areLumps_188 (by decide) ?_
                    refine eqi (x' := bI true) (rfl) ?_
                    refine lv_goto (tgt := 193) hx hb dL_areLumps_189 (by decide) ?_
                    refine lv_istore (lv' := [(4, .int (bI true)), (0, .ref (b 0)), (1, .ref cc0), (2, .ref pp0), (3, .int (bI E_)), (5, .int (nI u)), (6, .int (nI w)), (7, .int (nI x))]) hx hb dL_areLumps_193 hl (by decide) rfl (fun ls hl => ?_)
                    exact L195 true gRs2 fOt1_6 fMi1_7 (by first | exact lmE_a hB4 h149 | exact lmE_t hB4 h149 (dec_t h185) | exact lmE_f (dec_f h185)) _ _ hP hD hS _ (lv_sub hl [1, 2, 3, 4, 0, 5, 6, 7] rfl)
              · -- f
                refine lv_iconst (v := nI 0) hx hb dL_areLumps_51 (by decide) ?_
                refine eqi (x' := nI (sm (fun q => if col q = x then cnt (g u) q k else 0) 0) - nI (sm (fun q => if col q = x then cnt (g w) q k else 0) 0)) ((show nI 0 = nI 0 - nI 0 by decide)) ?_
                refine lv_istore (lv' := [(8, .int (nI (sm (fun q => if col q = x then cnt (g u) q k else 0) 0) - nI (sm (fun q => if col q = x then cnt (g w) q k else 0) 0))), (0, .ref (b 0)), (1, .ref cc0), (2, .ref pp0), (3, .int (bI E_)), (4, .int (bI B4)), (5, .int (nI u)), (6, .int (nI w)), (7, .int (nI x))]) hx hb dL_areLumps_52 hl (by decide) rfl (fun ls hl => ?_)
                refine lv_iconst (v := nI 0) hx hb dL_areLumps_54 (by decide) ?_
                refine lv_istore (lv' := [(9, .int (nI 0)), (8, .int (nI (sm (fun q => if col q = x then cnt (g u) q k else 0) 0) - nI (sm (fun q => if col q = x then cnt (g w) q k else 0) 0))), (0, .ref (b 0)), (1, .ref cc0), (2, .ref pp0), (3, .int (bI E_)), (4, .int (bI B4)), (5, .int (nI u)), (6, .int (nI w)), (7, .int (nI x))]) hx hb dL_areLumps_55 hl (by decide) rfl (fun ls hl => ?_)
                have L57 : ∀ v : Nat, v ≤ n →  ∀ (H : Heap) (locs : List Loc), va_P D vwCl ([hO b, cO b (nI n) (nI k), tO b, oQ (cY 2) (b 3) (rr 1) 6, gI (cY 0) (rr 1) 6 fW 6, [(b 12, .inl (cY 1, 6, .inr (.inl gRs2)))], [(b 13, .inl (cY 0, 6, .inl gOt2))], [(b 14, .inl (cY 1, 32, .inr (.inl gMi2)))], uO b, [(b 22, .inl (cY 0, 6, .inl fCc))], [(cc0, .inl (cY 0, 2, .inl fc))], [(pp0, .inl (cY 0, 12, .inl fp))]] : List va_W).flatten H → va_D A ([hO b, cO b (nI n) (nI k), tO b, oQ (cY 2) (b 3) (rr 1) 6, gI (cY 0) (rr 1) 6 fW 6, [(b 12, .inl (cY 1, 6, .inr (.inl gRs2)))], [(b 13, .inl (cY 0, 6, .inl gOt2))], [(b 14, .inl (cY 1, 32, .inr (.inl gMi2)))], uO b, [(b 22, .inl (cY 0, 6, .inl fCc))], [(cc0, .inl (cY 0, 2, .inl fc))], [(pp0, .inl (cY 0, 12, .inl fp))]] : List va_W).flatten → va_S A s.heap H locs → ∀ (ls : Array Slot), lv_has ls 10 [(0, .ref (b 0)), (1, .ref cc0), (2, .ref pp0), (3, .int (bI E_)), (4, .int (bI B4)), (5, .int (nI u)), (6, .int (nI w)), (7, .int (nI x)), (8, .int (nI (sm (fun q => if col q = x then cnt (g u) q k else 0) v) - nI (sm (fun q => if col q = x then cnt (g w) q k else 0) v))), (9, .int (nI v))] → W p l e ({ frames := 7, cells := 0, slots := 0, locals := 280 }) s m ([.ref (b 0), .ref cc0, .ref pp0] : List Value).toArray below meth c H locs 0 0 (MQ below (qI (S := (Nat → Int64) × (Nat → Int32) × (Nat → Int64)) D cY (fun r uu => r = bI true) (fun uu => [hO b, cO b (nI n) (nI k), tO b, oQ (cY 2) (b 3) (rr 1) 6, gI (cY 0) (rr 1) 6 fW 6, [(b 12, .inl (cY 1, 6, .inr (.inl uu.1)))], [(b 13, .inl (cY 0, 6, .inl uu.2.1))], [(b 14, .inl (cY 1, 32, .inr (.inl uu.2.2)))], uO b, [(b 22, .inl (cY 0, 6, .inl fCc))], [(cc0, .inl (cY 0, 2, .inl fc))], [(pp0, .inl (cY 0, 12, .inl fp))]]) A) ([.ref (b 0), .ref cc0, .ref pp0] : List Value).toArray s 0 0 A) (F0 m 57 ls []) := by
                  refine lpW n ?_
                  intro v bdv ih57   H locs hP hD hS ls hl
                  refine lv_iload hx hb dL_areLumps_57 (lv_at hl 9 rfl) ?_
                  refine lv_aload_n hx hb dL_areLumps_59 rfl (lv_at hl 1 rfl) ?_
                  refine lv_iconst (v := nI 0) hx hb dL_areLumps_60 (by decide) ?_
                  refine b_iald hx hb hK hP 10 0 rfl rfl (by omega) (by decide) dL_areLumps_61 ?_
                  refine eqi (x' := nI n) (hcn) ?_
                  refine n_icmp_ge (tgt := 109) hx hb dL_areLumps_62 (by decide) (by omega) (by omega) (fun h62 => ?_) (fun h62 => ?_)
                  · -- t
                    have L141 : ∀ (E2 : Bool), (E2 = (allB (lmK g n k col u w) (x + 1) && (allB (fun w => allB (lmK g n k col u w) 6) w && allB (fun u => allB (fun w => allB (lmK g n k col u w) 6) n) u))) → ∀ (H : Heap) (locs : List Loc), va_P D vwCl ([hO b, cO b (nI n) (nI k), tO b, oQ (cY 2) (b 3) (rr 1) 6, gI (cY 0) (rr 1) 6 fW 6, [(b 12, .inl (cY 1, 6, .inr (.inl gRs2)))], [(b 13, .inl (cY 0, 6, .inl gOt2))], [(b 14, .inl (cY 1, 32, .inr (.inl gMi2)))], uO b, [(b 22, .inl (cY 0, 6, .inl fCc))], [(cc0, .inl (cY 0, 2, .inl fc))], [(pp0, .inl (cY 0, 12, .inl fp))]] : List va_W).flatten H → va_D A ([hO b, cO b (nI n) (nI k), tO b, oQ (cY 2) (b 3) (rr 1) 6, gI (cY 0) (rr 1) 6 fW 6, [(b 12, .inl (cY 1, 6, .inr (.inl gRs2)))], [(b 13, .inl (cY 0, 6, .inl gOt2))], [(b 14, .inl (cY 1, 32, .inr (.inl gMi2)))], uO b, [(b 22, .inl (cY 0, 6, .inl fCc))], [(cc0, .inl (cY 0, 2, .inl fc))], [(pp0, .inl (cY 0, 12, .inl fp))]] : List va_W).flatten → va_S A s.heap H locs → ∀ (ls : Array Slot), lv_has ls 10 [(0, .ref (b 0)), (1, .ref cc0), (2, .ref pp0), (3, .int (bI E2)), (4, .int (bI B4)), (5, .int (nI u)), (6, .int (nI w)), (7, .int (nI x)), (8, .int (nI (sm (fun q => if col q = x then cnt (g u) q k else 0) v) - nI (sm (fun q => if col q = x then cnt (g w) q k else 0) v))), (9, .int (nI v))] → W p l e ({ frames := 7, cells := 0, slots := 0, locals := 280 }) s m ([.ref (b 0), .ref cc0, .ref pp0] : List Value).toArray below meth c H locs 0 0 (MQ below (qI (S := (Nat → Int64) × (Nat → Int32) × (Nat → Int64)) D cY (fun r uu => r = bI true) (fun uu => [hO b, cO b (nI n) (nI k), tO b, oQ (cY 2) (b 3) (rr 1) 6, gI (cY 0) (rr 1) 6 fW 6, [(b 12, .inl (cY 1, 6, .inr (.inl uu.1)))], [(b 13, .inl (cY 0, 6, .inl uu.2.1))], [(b 14, .inl (cY 1, 32, .inr (.inl uu.2.2)))], uO b, [(b 22, .inl (cY 0, 6, .inl fCc))], [(cc0, .inl (cY 0, 2, .inl fc))], [(pp0, .inl (cY 0, 12, .inl fp))]]) A) ([.ref (b 0), .ref cc0, .ref pp0] : List Value).toArray s 0 0 A) (F0 m 141 ls []) := by
                      intro E2 hE2 H locs hP hD hS ls hl
                      refine lv_iinc (v := nI (x + 1)) (lv' := [(7, .int (nI (x + 1))), (0, .ref (b 0)), (1, .ref cc0), (2, .ref pp0), (3, .int (bI E2)), (4, .int (bI B4)), (5, .int (nI u)), (6, .int (nI w)), (8, .int (nI (sm (fun q => if col q = x then cnt (g u) q k else 0) v) - nI (sm (fun q => if col q = x then cnt (g w) q k else 0) v))), (9, .int (nI v))]) hx hb dL_areLumps_141 hl (k := 7) rfl (nI_1 x) (by decide) rfl (fun ls hl => ?_)
                      refine lv_goto (tgt := 44) hx hb dL_areLumps_144 (by decide) ?_
                      exact ih44 (by omega) E2 hE2 _ _ hP hD hS _ (lv_sub hl [1, 2, 3, 4, 5, 6, 7, 0] rfl)
                    refine lv_iload_n hx hb dL_areLumps_109 rfl (lv_at hl 3 rfl) ?_
                    refine b_if_eq (tgt := 139) hx hb dL_areLumps_110 (by decide) (fun h110 => ?_) (fun h110 => ?_)
                    · -- t
                      refine lv_iconst (v := nI 0) hx hb dL_areLumps_139 (by decide) ?_
                      refine eqi (x' := bI false) (rfl) ?_
                      refine lv_istore_n (lv' := [(3, .int (bI false)), (0, .ref (b 0)), (1, .ref cc0), (2, .ref pp0), (4, .int (bI B4)), (5, .int (nI u)), (6, .int (nI w)), (7, .int (nI x)), (8, .int (nI (sm (fun q => if col q = x then cnt (g u) q k else 0) v) - nI (sm (fun q => if col q = x then cnt (g w) q k else 0) v))), (9, .int (nI v))]) hx hb dL_areLumps_140 rfl hl (by decide) rfl (fun ls hl => ?_)
                      exact L141 false (by first | exact lmE_a hE h110 | exact lmE_t hE h110 (lmK_1 h127) | exact lmE_t hE h110 (lmK_2 hk12 (by omega) h132) | exact lmE_f (lmK_3 hk12 (by omega) h127 h132)) _ _ hP hD hS _ (lv_sub hl [1, 2, 3, 0, 4, 5, 6, 7, 8, 9] rfl)
                    · -- f
                      refine lv_aload_n hx hb dL_areLumps_113 rfl (lv_at hl 2 rfl) ?_
                      refine lv_bipush (v := nI 6) hx hb dL_areLumps_114 (by decide) ?_
                      refine lv_iload hx hb dL_areLumps_116 (lv_at hl 5 rfl) ?_
                      refine lv_iadd hx hb dL_areLumps_118 ?_
                      refine eqi (x' := nI (6 + u)) (nI_add _ _) ?_
                      refine b_iald hx hb hK hP 11 0 rfl rfl (by omega) (by decide) dL_areLumps_119 ?_
                      refine eqi (x' := nI (col u)) ((hCq _ (by omega)).2.1) ?_
                      have hcu := hcl u (by omega)
                      refine lv_aload_n hx hb dL_areLumps_120 rfl (lv_at hl 2 rfl) ?_
                      refine lv_bipush (v := nI 6) hx hb dL_areLumps_121 (by decide) ?_
                      refine lv_iload hx hb dL_areLumps_123 (lv_at hl 6 rfl) ?_
                      refine lv_iadd hx hb dL_areLumps_125 ?_
                      refine eqi (x' := nI (6 + w)) (nI_add _ _) ?_
                      refine b_iald hx hb hK hP 11 0 rfl rfl (by omega) (by decide) dL_areLumps_126 ?_
                      refine eqi (x' := nI (col w)) ((hCq _ (by omega)).2.1) ?_
                      have hcw := hcl w (by omega)
                      refine n_icmp_ne (tgt := 135) hx hb dL_areLumps_127 (by decide) (by omega) (by omega) (fun h127 => ?_) (fun h127 => ?_)
                      · -- t
                        refine lv_iconst (v := nI 1) hx hb dL_areLumps_135 (by decide) ?_
                        refine eqi (x' := bI true) (rfl) ?_
                        refine lv_goto (tgt := 140) hx hb dL_areLumps_136 (by decide) ?_
                        refine lv_istore_n (lv' := [(3, .int (bI true)), (0, .ref (b 0)), (1, .ref cc0), (2, .ref pp0), (4, .int (bI B4)), (5, .int (nI u)), (6, .int (nI w)), (7, .int (nI x)), (8, .int (nI (sm (fun q => if col q = x then cnt (g u) q k else 0) v) - nI (sm (fun q => if col q = x then cnt (g w) q k else 0) v))), (9, .int (nI v))]) hx hb dL_areLumps_140 rfl hl (by decide) rfl (fun ls hl => ?_)
                        exact L141 true (by first | exact lmE_a hE h110 | exact lmE_t hE h110 (lmK_1 h127) | exact lmE_t hE h110 (lmK_2 hk12 (by omega) h132) | exact lmE_f (lmK_3 hk12 (by omega) h127 h132)) _ _ hP hD hS _ (lv_sub hl [1, 2, 3, 0, 4, 5, 6, 7, 8, 9] rfl)
                      · -- f
                        refine lv_iload hx hb dL_areLumps_130 (lv_at hl 8 rfl) ?_
                        refine lv_if_ne (tgt := 139) hx hb dL_areLumps_132 (by decide) (fun h132 => ?_) (fun h132 => ?_)
                        · -- t
                          refine lv_iconst (v := nI 0) hx hb dL_areLumps_139 (by decide) ?_
                          refine eqi (x' := bI false) (rfl) ?_
                          refine lv_istore_n (lv' := [(3, .int (bI false)), (0, .ref (b 0)), (1, .ref cc0), (2, .ref pp0), (4, .int (bI B4)), (5, .int (nI u)), (6, .int (nI w)), (7, .int (nI x)), (8, .int (nI (sm (fun q => if col q = x then cnt (g u) q k else 0) v) - nI (sm (fun q => if col q = x then cnt (g w) q k else 0) v))), (9, .int (nI v))]) hx hb dL_areLumps_140 rfl hl (by decide) rfl (fun ls hl => ?_)
                          exact L141 false (by first | exact lmE_a hE h110 | exact lmE_t hE h110 (lmK_1 h127) | exact lmE_t hE h110 (lmK_2 hk12 (by omega) h132) | exact lmE_f (lmK_3 hk12 (by omega) h127 h132)) _ _ hP hD hS _ (lv_sub hl [1, 2, 3, 0, 4, 5, 6, 7, 8, 9] rfl)
                        · -- f
                          refine lv_iconst (v := nI 1) hx hb dL_areLumps_135 (by decide) ?_
                          refine eqi (x' := bI true) (rfl) ?_
                          refine lv_goto (tgt := 140) hx hb dL_areLumps_136 (by decide) ?_
                          refine lv_istore_n (lv' := [(3, .int (bI true)), (0, .ref (b 0)), (1, .ref cc0), (2, .ref pp0), (4, .int (bI B4)), (5, .int (nI u)), (6, .int (nI w)), (7, .int (nI x)), (8, .int (nI (sm (fun q => if col q = x then cnt (g u) q k else 0) v) - nI (sm (fun q => if col q = x then cnt (g w) q k else 0) v))), (9, .int (nI v))]) hx hb dL_areLumps_140 rfl hl (by decide) rfl (fun ls hl => ?_)
                          exact L141 true (by first | exact lmE_a hE h110 | exact lmE_t hE h110 (lmK_1 h127) | exact lmE_t hE h110 (lmK_2 hk12 (by omega) h132) | exact lmE_f (lmK_3 hk12 (by omega) h127 h132)) _ _ hP hD hS _ (lv_sub hl [1, 2, 3, 0, 4, 5, 6, 7, 8, 9] rfl)
                  · -- f
                    refine lv_iload hx hb dL_areLumps_65 (lv_at hl 8 rfl) ?_
                    refine lv_aload_n hx hb dL_areLumps_67 rfl (lv_at hl 2 rfl) ?_
                    refine lv_bipush (v := nI 6) hx hb dL_areLumps_68 (by decide) ?_
                    refine lv_iload hx hb dL_areLumps_70 (lv_at hl 9 rfl) ?_
                    refine lv_iadd hx hb dL_areLumps_72 ?_
                    refine eqi (x' := nI (6 + v)) (nI_add _ _) ?_
                    refine b_iald hx hb hK hP 11 0 rfl rfl (by omega) (by decide) dL_areLumps_73 ?_
                    refine eqi (x' := nI (col v)) ((hCq _ (by omega)).2.1) ?_
                    have hcv := hcl v (by omega)
                    refine lv_iload hx hb dL_areLumps_74 (lv_at hl 7 rfl) ?_
                    refine n_icmp_ne (tgt := 99) hx hb dL_areLumps_76 (by decide) (by omega) (by omega) (fun h76 => ?_) (fun h76 => ?_)
                    · -- t
                      refine lv_iconst (v := nI 0) hx hb dL_areLumps_99 (by decide) ?_
                      refine lv_iadd hx hb dL_areLumps_100 ?_
                      refine eqi (x' := nI (sm (fun q => if col q = x then cnt (g u) q k else 0) (v + 1)) - nI (sm (fun q => if col q = x then cnt (g w) q k else 0) (v + 1))) (by first | exact by_s1 h76 | exact by_s0 h76) ?_
                      refine lv_istore (lv' := [(8, .int (nI (sm (fun q => if col q = x then cnt (g u) q k else 0) (v + 1)) - nI (sm (fun q => if col q = x then cnt (g w) q k else 0) (v + 1)))), (0, .ref (b 0)), (1, .ref cc0), (2, .ref pp0), (3, .int (bI E_)), (4, .int (bI B4)), (5, .int (nI u)), (6, .int (nI w)), (7, .int (nI x)), (9, .int (nI v))]) hx hb dL_areLumps_101 hl (by decide) rfl (fun ls hl => ?_)
                      refine lv_iinc (v := nI (v + 1)) (lv' := [(9, .int (nI (v + 1))), (8, .int (nI (sm (fun q => if col q = x then cnt (g u) q k else 0) (v + 1)) - nI (sm (fun q => if col q = x then cnt (g w) q k else 0) (v + 1)))), (0, .ref (b 0)), (1, .ref cc0), (2, .ref pp0), (3, .int (bI E_)), (4, .int (bI B4)), (5, .int (nI u)), (6, .int (nI w)), (7, .int (nI x))]) hx hb dL_areLumps_103 hl (k := 9) rfl (nI_1 v) (by decide) rfl (fun ls hl => ?_)
                      refine lv_goto (tgt := 57) hx hb dL_areLumps_106 (by decide) ?_
                      exact ih57 (by omega)   _ _ hP hD hS _ (lv_sub hl [2, 3, 4, 5, 6, 7, 8, 9, 1, 0] rfl)
                    · -- f
                      refine lv_aload_n hx hb dL_areLumps_79 rfl (lv_at hl 0 rfl) ?_
                      refine lv_iload hx hb dL_areLumps_80 (lv_at hl 5 rfl) ?_
                      refine lv_iload hx hb dL_areLumps_82 (lv_at hl 9 rfl) ?_
                      refine ca_i (CL := [hO b, cO b (nI n) (nI k), oQ (cY 2) (b 3) (rr 1) 6, gI (cY 0) (rr 1) 6 fW 6]) (va_runV (As := [.int (nI u), .int (nI v)]) (rest := [.int (nI (sm (fun q => if col q = x then cnt (g u) q k else 0) v) - nI (sm (fun q => if col q = x then cnt (g w) q k else 0) v))]) ⟨hx, hb, hml, hown, hts⟩ (c_X8_weight_ok l D cY H.size b rr n k fW g u v (by omega) (by omega) (by omega) (by omega) hW (by omega) (by omega)) (cwV 2 hts gL_areLumps_X8_weight rfl rfl rfl (by decide +kernel) ⟨Nat.le_of_ble_eq_true rfl, Nat.le_of_ble_eq_true rfl⟩) (b_preV hVK hP hD [0, 1, 3, 4] rfl rfl 0 rfl rfl) rfl rfl hl.1 rfl (lv_room (Nat.le_of_ble_eq_true rfl)) dL_areLumps_84 ⟨Nat.le_refl _, Nat.le_refl _⟩) hP hD hS hA [0, 1, 3, 4] rfl rfl (fun _ => rfl) (fun r84 uu H locs hq hP hD hS => ?_)
                      subst hq
                      have hP : va_P D vwCl ([hO b, cO b (nI n) (nI k), tO b, oQ (cY 2) (b 3) (rr 1) 6, gI (cY 0) (rr 1) 6 fW 6, [(b 12, .inl (cY 1, 6, .inr (.inl gRs2)))], [(b 13, .inl (cY 0, 6, .inl gOt2))], [(b 14, .inl (cY 1, 32, .inr (.inl gMi2)))], uO b, [(b 22, .inl (cY 0, 6, .inl fCc))], [(cc0, .inl (cY 0, 2, .inl fc))], [(pp0, .inl (cY 0, 12, .inl fp))]] : List va_W).flatten H := hP
                      have hD : va_D A ([hO b, cO b (nI n) (nI k), tO b, oQ (cY 2) (b 3) (rr 1) 6, gI (cY 0) (rr 1) 6 fW 6, [(b 12, .inl (cY 1, 6, .inr (.inl gRs2)))], [(b 13, .inl (cY 0, 6, .inl gOt2))], [(b 14, .inl (cY 1, 32, .inr (.inl gMi2)))], uO b, [(b 22, .inl (cY 0, 6, .inl fCc))], [(cc0, .inl (cY 0, 2, .inl fc))], [(pp0, .inl (cY 0, 12, .inl fp))]] : List va_W).flatten := hD
                      have hcl1 := cnt_le (g u) v k
                      refine lv_aload_n hx hb dL_areLumps_87 rfl (lv_at hl 0 rfl) ?_
                      refine lv_iload hx hb dL_areLumps_88 (lv_at hl 6 rfl) ?_
                      refine lv_iload hx hb dL_areLumps_90 (lv_at hl 9 rfl) ?_
                      refine ca_i (CL := [hO b, cO b (nI n) (nI k), oQ (cY 2) (b 3) (rr 1) 6, gI (cY 0) (rr 1) 6 fW 6]) (va_runV (As := [.int (nI w), .int (nI v)]) (rest := [.int (nI (cnt (g u) v k)), .int (nI (sm (fun q => if col q = x then cnt (g u) q k else 0) v) - nI (sm (fun q => if col q = x then cnt (g w) q k else 0) v))]) ⟨hx, hb, hml, hown, hts⟩ (c_X8_weight_ok l D cY H.size b rr n k fW g w v (by omega) (by omega) (by omega) (by omega) hW (by omega) (by omega)) (cwV 2 hts gL_areLumps_X8_weight rfl rfl rfl (by decide +kernel) ⟨Nat.le_of_ble_eq_true rfl, Nat.le_of_ble_eq_true rfl⟩) (b_preV hVK hP hD [0, 1, 3, 4] rfl rfl 0 rfl rfl) rfl rfl hl.1 rfl (lv_room (Nat.le_of_ble_eq_true rfl)) dL_areLumps_92 ⟨Nat.le_refl _, Nat.le_refl _⟩) hP hD hS hA [0, 1, 3, 4] rfl rfl (fun _ => rfl) (fun r92 uu H locs hq hP hD hS => ?_)
                      subst hq
                      have hP : va_P D vwCl ([hO b, cO b (nI n) (nI k), tO b, oQ (cY 2) (b 3) (rr 1) 6, gI (cY 0) (rr 1) 6 fW 6, [(b 12, .inl (cY 1, 6, .inr (.inl gRs2)))], [(b 13, .inl (cY 0, 6, .inl gOt2))], [(b 14, .inl (cY 1, 32, .inr (.inl gMi2)))], uO b, [(b 22, .inl (cY 0, 6, .inl fCc))], [(cc0, .inl (cY 0, 2, .inl fc))], [(pp0, .inl (cY 0, 12, .inl fp))]] : List va_W).flatten H := hP
                      have hD : va_D A ([hO b, cO b (nI n) (nI k), tO b, oQ (cY 2) (b 3) (rr 1) 6, gI (cY 0) (rr 1) 6 fW 6, [(b 12, .inl (cY 1, 6, .inr (.inl gRs2)))], [(b 13, .inl (cY 0, 6, .inl gOt2))], [(b 14, .inl (cY 1, 32, .inr (.inl gMi2)))], uO b, [(b 22, .inl (cY 0, 6, .inl fCc))], [(cc0, .inl (cY 0, 2, .inl fc))], [(pp0, .inl (cY 0, 12, .inl fp))]] : List va_W).flatten := hD
                      refine lv_isub hx hb dL_areLumps_95 ?_
                      refine lv_goto (tgt := 100) hx hb dL_areLumps_96 (by decide) ?_
                      refine lv_iadd hx hb dL_areLumps_100 ?_
                      refine eqi (x' := nI (sm (fun q => if col q = x then cnt (g u) q k else 0) (v + 1)) - nI (sm (fun q => if col q = x then cnt (g w) q k else 0) (v + 1))) (by first | exact by_s1 h76 | exact by_s0 h76) ?_
                      refine lv_istore (lv' := [(8, .int (nI (sm (fun q => if col q = x then cnt (g u) q k else 0) (v + 1)) - nI (sm (fun q => if col q = x then cnt (g w) q k else 0) (v + 1)))), (0, .ref (b 0)), (1, .ref cc0), (2, .ref pp0), (3, .int (bI E_)), (4, .int (bI B4)), (5, .int (nI u)), (6, .int (nI w)), (7, .int (nI x)), (9, .int (nI v))]) hx hb dL_areLumps_101 hl (by decide) rfl (fun ls hl => ?_)
                      refine lv_iinc (v := nI (v + 1)) (lv' := [(9, .int (nI (v + 1))), (8, .int (nI (sm (fun q => if col q = x then cnt (g u) q k else 0) (v + 1)) - nI (sm (fun q => if col q = x then cnt (g w) q k else 0) (v + 1)))), (0, .ref (b 0)), (1, .ref cc0), (2, .ref pp0), (3, .int (bI E_)), (4, .int (bI B4)), (5, .int (nI u)), (6, .int (nI w)), (7, .int (nI x))]) hx hb dL_areLumps_103 hl (k := 9) rfl (nI_1 v) (by decide) rfl (fun ls hl => ?_)
                      refine lv_goto (tgt := 57) hx hb dL_areLumps_106 (by decide) ?_
                      exact ih57 (by omega)   _ _ hP hD hS _ (lv_sub hl [2, 3, 4, 5, 6, 7, 8, 9, 1, 0] rfl)
                exact L57 0 (by omega)   _ _ hP hD hS _ (lv_sub hl [2, 3, 4, 5, 6, 7, 8, 9, 1, 0] rfl)
            exact L44 0 (by omega) B3 hB3 _ _ hP hD hS _ (lv_sub hl [1, 2, 3, 4, 5, 6, 7, 0] rfl)
        exact L33 0 (by omega) B_ B2 gRs1 gOt1 gMi1 hB hB2 _ _ hP hD hS _ (lv_sub hl [1, 2, 3, 4, 5, 6, 0] rfl)
    exact L22 0 (by omega) true (!decide (WR g n k = lN 0)) gRs0 gOt0 gMi0 rfl rfl _ _ hP hD hS _ (lv_sub hl [1, 2, 3, 4, 5, 0] rfl)
  refine lv_aload_n hx hb dL_areLumps_2 rfl (lv_at hl 1 rfl) ?_
  refine lv_iconst (v := (-1)) hx hb dL_areLumps_3 (by decide) ?_
  refine ca_l (CL := [hO b, cO b (nI n) (nI k), tO b, oQ (cY 2) (b 3) (rr 1) 6, gI (cY 0) (rr 1) 6 fW 6, [(b 12, .inl (cY 1, 6, .inr (.inl fRs)))], [(b 13, .inl (cY 0, 6, .inl fOt))], [(b 14, .inl (cY 1, 32, .inr (.inl fMi)))]]) (va_runV (As := [.int (-1)]) (rest := []) ⟨hx, hb, hml, hown, hts⟩ (c_X8_rest_all l D cY s.heap.size b rr n k fW fRs fOt fMi g (by omega) (by omega) (by omega) (by omega) hW) (cwV 1 hts gL_areLumps_X8_rest rfl rfl rfl (by decide +kernel) ⟨Nat.le_of_ble_eq_true rfl, Nat.le_of_ble_eq_true rfl⟩) (b_preV hVK hP hD [0, 1, 2, 3, 4, 5, 6, 7] rfl rfl 0 rfl rfl) rfl rfl hl.1 rfl (lv_room (Nat.le_of_ble_eq_true rfl)) dL_areLumps_4 ⟨Nat.le_refl _, Nat.le_refl _⟩) hP hD hS hA [0, 1, 2, 3, 4, 5, 6, 7] rfl rfl (fun _ => rfl) (fun r4 uu H locs hq hP hD hS => ?_)
  obtain ⟨fRs1_8, fOt1_9, fMi1_10⟩ := uu
  try dsimp only at hq
  subst hq
  have hP : va_P D vwCl ([hO b, cO b (nI n) (nI k), tO b, oQ (cY 2) (b 3) (rr 1) 6, gI (cY 0) (rr 1) 6 fW 6, [(b 12, .inl (cY 1, 6, .inr (.inl fRs1_8)))], [(b 13, .inl (cY 0, 6, .inl fOt1_9))], [(b 14, .inl (cY 1, 32, .inr (.inl fMi1_10)))], uO b, [(b 22, .inl (cY 0, 6, .inl fCc))], [(cc0, .inl (cY 0, 2, .inl fc))], [(pp0, .inl (cY 0, 12, .inl fp))]] : List va_W).flatten H := hP
  have hD : va_D A ([hO b, cO b (nI n) (nI k), tO b, oQ (cY 2) (b 3) (rr 1) 6, gI (cY 0) (rr 1) 6 fW 6, [(b 12, .inl (cY 1, 6, .inr (.inl fRs1_8)))], [(b 13, .inl (cY 0, 6, .inl fOt1_9))], [(b 14, .inl (cY 1, 32, .inr (.inl fMi1_10)))], uO b, [(b 22, .inl (cY 0, 6, .inl fCc))], [(cc0, .inl (cY 0, 2, .inl fc))], [(pp0, .inl (cY 0, 12, .inl fp))]] : List va_W).flatten := hD
  refine lv_lconst (v := lN 0) hx hb dL_areLumps_7 (by decide) ?_
  refine W.lcmp hx hb dL_areLumps_8 ?_
  refine l_if_eq (tgt := 16) hx hb dL_areLumps_9 (by decide) (fun h9 => ?_) (fun h9 => ?_)
  · -- t
    refine lv_iconst (v := nI 0) hx hb dL_areLumps_16 (by decide) ?_
    refine eqi (x' := bI (!decide (WR g n k = lN 0))) ((by rw [dec_t h9]; rfl)) ?_
    refine lv_istore (lv' := [(4, .int (bI (!decide (WR g n k = lN 0)))), (3, .int (bI true)), (0, .ref (b 0)), (1, .ref cc0), (2, .ref pp0)]) hx hb dL_areLumps_17 hl (by decide) rfl (fun ls hl => ?_)
    exact L19 fRs1_8 fOt1_9 fMi1_10  _ _ hP hD hS _ (lv_sub hl [2, 3, 4, 1, 0] rfl)
  · -- f
    refine lv_iconst (v := nI 1) hx hb dL_areLumps_12 (by decide) ?_
    refine eqi (x' := bI (!decide (WR g n k = lN 0))) ((by rw [dec_f h9]; rfl)) ?_
    refine lv_goto (tgt := 17) hx hb dL_areLumps_13 (by decide) ?_
    refine lv_istore (lv' := [(4, .int (bI (!decide (WR g n k = lN 0)))), (3, .int (bI true)), (0, .ref (b 0)), (1, .ref cc0), (2, .ref pp0)]) hx hb dL_areLumps_17 hl (by decide) rfl (fun ls hl => ?_)
    exact L19 fRs1_8 fOt1_9 fMi1_10  _ _ hP hD hS _ (lv_sub hl [2, 3, 4, 1, 0] rfl)

