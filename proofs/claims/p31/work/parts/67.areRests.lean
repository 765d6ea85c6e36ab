set_option maxHeartbeats 4000000 in
set_option maxRecDepth 100000 in
theorem c_L_areRests (l : Launch) (D : va_G) (cY : Nat → ClassId) (sz : Nat) (b : Nat → Nat) (rr : Nat → Nat → Nat) (n : Nat) (k : Nat) (fW : Nat → Nat → Int32) (fRs : Nat → Int64) (fOt : Nat → Int32) (fMi : Nat → Int64) (g : Nat → Nat → Nat) (cc0 : Nat) (fc : Nat → Int32) (pi0 : Nat → Nat) (hn1 : 1 ≤ n) (hn6 : n ≤ 6) (hk1 : 1 ≤ k) (hk12 : k ≤ 12) (hcn : fc 0 = nI n) (hck : fc 1 = nI k) (hgn : ∀ i j, i < n → j < k → g i j < n) (hW : ∀ i j, i < n → j < n → fW i j = nI (cnt (g i) j k)) (hpi : ∀ r, r < n → pi0 r < n ∧ plc (RV g n k) (pi0 r) n = r ∧ mxs (fun j => decide (plc (RV g n k) j n = r)) n 0 = nI (pi0 r)) (hps : ∀ i, i < n → pi0 (plc (RV g n k) i n) = i) : Met l yL_areRests wsL_areRests ({ frames := 6, cells := 0, slots := 0, locals := 240 }) (cP D cY [.ref (b 0), .ref cc0] [hO b, cO b (nI n) (nI k), tO b, oQ (cY 2) (b 3) (rr 1) 6, gI (cY 0) (rr 1) 6 fW 6, [(b 12, .inl (cY 1, 6, .inr (.inl fRs)))], [(b 13, .inl (cY 0, 6, .inl fOt))], [(b 14, .inl (cY 1, 32, .inr (.inl fMi)))], sO b, [(cc0, .inl (cY 0, 2, .inl fc))]] sz) (qI (S := (Nat → Int64) × (Nat → Int32) × (Nat → Int64)) D cY (fun r uu => r = bI true) (fun uu => [hO b, cO b (nI n) (nI k), tO b, oQ (cY 2) (b 3) (rr 1) 6, gI (cY 0) (rr 1) 6 fW 6, [(b 12, .inl (cY 1, 6, .inr (.inl uu.1)))], [(b 13, .inl (cY 0, 6, .inl uu.2.1))], [(b 14, .inl (cY 1, 32, .inr (.inl uu.2.2)))], sO b, [(cc0, .inl (cY 0, 2, .inl fc))]]) (va_A ([hO b, cO b (nI n) (nI k), tO b, oQ (cY 2) (b 3) (rr 1) 6, gI (cY 0) (rr 1) 6 fW 6, [(b 12, .inl (cY 1, 6, .inr (.inl fRs)))], [(b 13, .inl (cY 0, 6, .inl fOt))], [(b 14, .inl (cY 1, 32, .inr (.inl fMi)))], sO b, [(cc0, .inl (cY 0, 2, .inl fc))]] : List va_W).flatten sz)) 0 0 (va_A ([hO b, cO b (nI n) (nI k), tO b, oQ (cY 2) (b 3) (rr 1) 6, gI (cY 0) (rr 1) 6 fW 6, [(b 12, .inl (cY 1, 6, .inr (.inl fRs)))], [(b 13, .inl (cY 0, 6, .inl fOt))], [(b 14, .inl (cY 1, 32, .inr (.inl fMi)))], sO b, [(cc0, .inl (cY 0, 2, .inl fc))]] : List va_W).flatten sz) := by
  refine mtB (Qc := fun A => qI (S := (Nat → Int64) × (Nat → Int32) × (Nat → Int64)) D cY (fun r uu => r = bI true) (fun uu => [hO b, cO b (nI n) (nI k), tO b, oQ (cY 2) (b 3) (rr 1) 6, gI (cY 0) (rr 1) 6 fW 6, [(b 12, .inl (cY 1, 6, .inr (.inl uu.1)))], [(b 13, .inl (cY 0, 6, .inl uu.2.1))], [(b 14, .inl (cY 1, 32, .inr (.inl uu.2.2)))], sO b, [(cc0, .inl (cY 0, 2, .inl fc))]]) A) (cc := cL_areRests) (maxL := 14) (ret := (some .boolean)) (by decide) rfl (Nat.le_of_ble_eq_true rfl) ?_
  intro p e s m below meth c A ls hx hb hr hml hts hown hlocks hnm hsz hP hK hVK hD hS hA hl
  have hown : s.vm.findClass RL = some m.cls := hown
  have hl : lv_has ls 14 [(0, .ref (b 0)), (1, .ref cc0)] := hl
  have hP : va_P D vwCl ([hO b, cO b (nI n) (nI k), tO b, oQ (cY 2) (b 3) (rr 1) 6, gI (cY 0) (rr 1) 6 fW 6, [(b 12, .inl (cY 1, 6, .inr (.inl fRs)))], [(b 13, .inl (cY 0, 6, .inl fOt))], [(b 14, .inl (cY 1, 32, .inr (.inl fMi)))], sO b, [(cc0, .inl (cY 0, 2, .inl fc))]] : List va_W).flatten s.heap := hP
  have hD : va_D A ([hO b, cO b (nI n) (nI k), tO b, oQ (cY 2) (b 3) (rr 1) 6, gI (cY 0) (rr 1) 6 fW 6, [(b 12, .inl (cY 1, 6, .inr (.inl fRs)))], [(b 13, .inl (cY 0, 6, .inl fOt))], [(b 14, .inl (cY 1, 32, .inr (.inl fMi)))], sO b, [(cc0, .inl (cY 0, 2, .inl fc))]] : List va_W).flatten := hD
  have hsw : sm (rN g n k) n ≤ 1492992 := rN_sum hgn hn6 hk1 hk12
  have hcz := rN_cl (g := g) hgn hn1 hn6 hk1
  have hnb := nB_le (lowB g n k) n
  have hcp := cl_pos (g := g) (k := k) hgn hn1 hn6
  refine lv_lconst (v := lN 0) hx hb dL_areRests_0 (by decide) ?_
  refine lv_lstore_n (lv' := [(2, .long (lN 0)), (0, .ref (b 0)), (1, .ref cc0)]) hx hb dL_areRests_1 rfl hl (by decide) rfl (fun ls hl => ?_)
  refine lv_iconst (v := nI 0) hx hb dL_areRests_2 (by decide) ?_
  refine lv_istore (lv' := [(4, .int (nI 0)), (2, .long (lN 0)), (0, .ref (b 0)), (1, .ref cc0)]) hx hb dL_areRests_3 hl (by decide) rfl (fun ls hl => ?_)
  refine lv_iconst (v := nI 1) hx hb dL_areRests_5 (by decide) ?_
  refine lv_istore (lv' := [(5, .int (nI 1)), (4, .int (nI 0)), (2, .long (lN 0)), (0, .ref (b 0)), (1, .ref cc0)]) hx hb dL_areRests_6 hl (by decide) rfl (fun ls hl => ?_)
  refine lv_iconst (v := nI 0) hx hb dL_areRests_8 (by decide) ?_
  refine lv_istore (lv' := [(6, .int (nI 0)), (5, .int (nI 1)), (4, .int (nI 0)), (2, .long (lN 0)), (0, .ref (b 0)), (1, .ref cc0)]) hx hb dL_areRests_9 hl (by decide) rfl (fun ls hl => ?_)
  have L11 : ∀ u : Nat, u ≤ n → ∀ (gRs1 : Nat → Int64) (gOt1 : Nat → Int32) (gMi1 : Nat → Int64), ∀ (H : Heap) (locs : List Loc), va_P D vwCl ([hO b, cO b (nI n) (nI k), tO b, oQ (cY 2) (b 3) (rr 1) 6, gI (cY 0) (rr 1) 6 fW 6, [(b 12, .inl (cY 1, 6, .inr (.inl gRs1)))], [(b 13, .inl (cY 0, 6, .inl gOt1))], [(b 14, .inl (cY 1, 32, .inr (.inl gMi1)))], sO b, [(cc0, .inl (cY 0, 2, .inl fc))]] : List va_W).flatten H → va_D A ([hO b, cO b (nI n) (nI k), tO b, oQ (cY 2) (b 3) (rr 1) 6, gI (cY 0) (rr 1) 6 fW 6, [(b 12, .inl (cY 1, 6, .inr (.inl gRs1)))], [(b 13, .inl (cY 0, 6, .inl gOt1))], [(b 14, .inl (cY 1, 32, .inr (.inl gMi1)))], sO b, [(cc0, .inl (cY 0, 2, .inl fc))]] : List va_W).flatten → va_S A s.heap H locs → ∀ (ls : Array Slot), lv_has ls 14 [(0, .ref (b 0)), (1, .ref cc0), (2, .long (lN (sm (rN g n k) u))), (4, .int (nI (nB (lowB g n k) u))), (5, .int (nI 1)), (6, .int (nI u))] → W p l e ({ frames := 6, cells := 0, slots := 0, locals := 240 }) s m ([.ref (b 0), .ref cc0] : List Value).toArray below meth c H locs 0 0 (MQ below (qI (S := (Nat → Int64) × (Nat → Int32) × (Nat → Int64)) D cY (fun r uu => r = bI true) (fun uu => [hO b, cO b (nI n) (nI k), tO b, oQ (cY 2) (b 3) (rr 1) 6, gI (cY 0) (rr 1) 6 fW 6, [(b 12, .inl (cY 1, 6, .inr (.inl uu.1)))], [(b 13, .inl (cY 0, 6, .inl uu.2.1))], [(b 14, .inl (cY 1, 32, .inr (.inl uu.2.2)))], sO b, [(cc0, .inl (cY 0, 2, .inl fc))]]) A) ([.ref (b 0), .ref cc0] : List Value).toArray s 0 0 A) (F0 m 11 ls []) := by
    refine lpW n ?_
    intro u bdu ih11 gRs1 gOt1 gMi1  H locs hP hD hS ls hl
    refine lv_iload hx hb dL_areRests_11 (lv_at hl 5 rfl) ?_
    refine lv_aload_n hx hb dL_areRests_13 rfl (lv_at hl 1 rfl) ?_
    refine lv_iconst (v := nI 0) hx hb dL_areRests_14 (by decide) ?_
    refine b_iald hx hb hK hP 9 0 rfl rfl (by omega) (by decide) dL_areRests_15 ?_
    refine eqi (x' := nI n) (hcn) ?_
    refine n_icmp_ge (tgt := 231) hx hb dL_areRests_16 (by decide) (by omega) (by omega) (fun h16 => ?_) (fun h16 => ?_)
    · -- t
      refine lv_iload hx hb dL_areRests_231 (lv_at hl 4 rfl) ?_
      refine n_if_eq (tgt := 289) hx hb dL_areRests_233 (by decide) (by omega) (fun h233 => ?_) (fun h233 => ?_)
      · -- t
        exact absurd h233 (by decide)
      · -- f
        have hun : u = n := by omega
        refine lv_lload_n hx hb dL_areRests_236 rfl (lv_at hl 2 rfl) ?_
        refine eql (x' := lN (sm (rN g n k) n)) (congrArg lN (by rw [hun])) ?_
        refine lv_aload_n hx hb dL_areRests_237 rfl (lv_at hl 0 rfl) ?_
        refine lv_iconst (v := (-1)) hx hb dL_areRests_238 (by decide) ?_
        refine ca_l (CL := [hO b, cO b (nI n) (nI k), tO b, oQ (cY 2) (b 3) (rr 1) 6, gI (cY 0) (rr 1) 6 fW 6, [(b 12, .inl (cY 1, 6, .inr (.inl gRs1)))], [(b 13, .inl (cY 0, 6, .inl gOt1))], [(b 14, .inl (cY 1, 32, .inr (.inl gMi1)))]]) (va_runV (As := [.int (-1)]) (rest := [.long (lN (sm (rN g n k) n))]) ⟨hx, hb, hml, hown, hts⟩ (c_X8_rest_all l D cY H.size b rr n k fW gRs1 gOt1 gMi1 g (by omega) (by omega) (by omega) (by omega) hW) (cwV 1 hts gL_areRests_X8_rest rfl rfl rfl (by decide +kernel) ⟨Nat.le_of_ble_eq_true rfl, Nat.le_of_ble_eq_true rfl⟩) (b_preV hVK hP hD [0, 1, 2, 3, 4, 5, 6, 7] rfl rfl 0 rfl rfl) rfl rfl hl.1 rfl (lv_room (Nat.le_of_ble_eq_true rfl)) dL_areRests_239 ⟨Nat.le_refl _, Nat.le_refl _⟩) hP hD hS hA [0, 1, 2, 3, 4, 5, 6, 7] rfl rfl (fun _ => rfl) (fun r239 uu H locs hq hP hD hS => ?_)
        obtain ⟨fRs1_1, fOt1_2, fMi1_3⟩ := uu
        try dsimp only at hq
        subst hq
        have hP : va_P D vwCl ([hO b, cO b (nI n) (nI k), tO b, oQ (cY 2) (b 3) (rr 1) 6, gI (cY 0) (rr 1) 6 fW 6, [(b 12, .inl (cY 1, 6, .inr (.inl fRs1_1)))], [(b 13, .inl (cY 0, 6, .inl fOt1_2))], [(b 14, .inl (cY 1, 32, .inr (.inl fMi1_3)))], sO b, [(cc0, .inl (cY 0, 2, .inl fc))]] : List va_W).flatten H := hP
        have hD : va_D A ([hO b, cO b (nI n) (nI k), tO b, oQ (cY 2) (b 3) (rr 1) 6, gI (cY 0) (rr 1) 6 fW 6, [(b 12, .inl (cY 1, 6, .inr (.inl fRs1_1)))], [(b 13, .inl (cY 0, 6, .inl fOt1_2))], [(b 14, .inl (cY 1, 32, .inr (.inl fMi1_3)))], sO b, [(cc0, .inl (cY 0, 2, .inl fc))]] : List va_W).flatten := hD
        refine eql (x' := lN (sm (rN g n k) n)) (WR_rN hgn hn6) ?_
        refine W.lcmp hx hb dL_areRests_242 ?_
        refine l_if_ne (tgt := 289) hx hb dL_areRests_243 (by decide) (fun h243 => ?_) (fun h243 => ?_)
        · -- t
          exact absurd rfl h243
        · -- f
          refine lv_aload_n hx hb dL_areRests_246 rfl (lv_at hl 0 rfl) ?_
          refine ca_i (CL := [hO b, cO b (nI n) (nI k), sO b, oQ (cY 2) (b 3) (rr 1) 6, gI (cY 0) (rr 1) 6 fW 6]) (va_runV (As := []) (rest := []) ⟨hx, hb, hml, hown, hts⟩ (c_X8_closed_ok l D cY H.size b rr n k fW g (by omega) (by omega) (by omega) (by omega) hW) (cwV 0 hts gL_areRests_X8_closed rfl rfl rfl (by decide +kernel) ⟨Nat.le_of_ble_eq_true rfl, Nat.le_of_ble_eq_true rfl⟩) (b_preV hVK hP hD [0, 1, 8, 3, 4] rfl rfl 0 rfl rfl) rfl rfl hl.1 rfl (lv_room (Nat.le_of_ble_eq_true rfl)) dL_areRests_247 ⟨Nat.le_refl _, Nat.le_refl _⟩) hP hD hS hA [0, 1, 8, 3, 4] rfl rfl (fun _ => rfl) (fun r247 uu H locs hq hP hD hS => ?_)
          subst hq
          have hP : va_P D vwCl ([hO b, cO b (nI n) (nI k), tO b, oQ (cY 2) (b 3) (rr 1) 6, gI (cY 0) (rr 1) 6 fW 6, [(b 12, .inl (cY 1, 6, .inr (.inl fRs1_1)))], [(b 13, .inl (cY 0, 6, .inl fOt1_2))], [(b 14, .inl (cY 1, 32, .inr (.inl fMi1_3)))], sO b, [(cc0, .inl (cY 0, 2, .inl fc))]] : List va_W).flatten H := hP
          have hD : va_D A ([hO b, cO b (nI n) (nI k), tO b, oQ (cY 2) (b 3) (rr 1) 6, gI (cY 0) (rr 1) 6 fW 6, [(b 12, .inl (cY 1, 6, .inr (.inl fRs1_1)))], [(b 13, .inl (cY 0, 6, .inl fOt1_2))], [(b 14, .inl (cY 1, 32, .inr (.inl fMi1_3)))], sO b, [(cc0, .inl (cY 0, 2, .inl fc))]] : List va_W).flatten := hD
          refine lv_iload hx hb dL_areRests_250 (lv_at hl 3 rfl) ?_
          refine eqi (x' := nI (nB (lowB g n k) n)) (congrArg nI (by rw [hun])) ?_
          refine n_icmp_ne (tgt := 289) hx hb dL_areRests_252 (by decide) (by omega) (by omega) (fun h252 => ?_) (fun h252 => ?_)
          · -- t
            exact absurd rfl h252
          · -- f
            refine lv_iload hx hb dL_areRests_255 (lv_at hl 3 rfl) ?_
            refine eqi (x' := nI (nB (lowB g n k) n)) (congrArg nI (by rw [hun])) ?_
            refine n_if_le (tgt := 289) hx hb dL_areRests_257 (by decide) (by omega) (fun h257 => ?_) (fun h257 => ?_)
            · -- t
              exact absurd h257 (by omega)
            · -- f
              have L292 :  ∀ (H : Heap) (locs : List Loc), va_P D vwCl ([hO b, cO b (nI n) (nI k), tO b, oQ (cY 2) (b 3) (rr 1) 6, gI (cY 0) (rr 1) 6 fW 6, [(b 12, .inl (cY 1, 6, .inr (.inl fRs1_1)))], [(b 13, .inl (cY 0, 6, .inl fOt1_2))], [(b 14, .inl (cY 1, 32, .inr (.inl fMi1_3)))], sO b, [(cc0, .inl (cY 0, 2, .inl fc))]] : List va_W).flatten H → va_D A ([hO b, cO b (nI n) (nI k), tO b, oQ (cY 2) (b 3) (rr 1) 6, gI (cY 0) (rr 1) 6 fW 6, [(b 12, .inl (cY 1, 6, .inr (.inl fRs1_1)))], [(b 13, .inl (cY 0, 6, .inl fOt1_2))], [(b 14, .inl (cY 1, 32, .inr (.inl fMi1_3)))], sO b, [(cc0, .inl (cY 0, 2, .inl fc))]] : List va_W).flatten → va_S A s.heap H locs → ∀ (ls : Array Slot), lv_has ls 14 [(0, .ref (b 0)), (1, .ref cc0), (2, .long (lN (sm (rN g n k) u))), (4, .int (nI (nB (lowB g n k) u))), (5, .int (nI 1)), (6, .int (nI u))] → W p l e ({ frames := 6, cells := 0, slots := 0, locals := 240 }) s m ([.ref (b 0), .ref cc0] : List Value).toArray below meth c H locs 0 0 (MQ below (qI (S := (Nat → Int64) × (Nat → Int32) × (Nat → Int64)) D cY (fun r uu => r = bI true) (fun uu => [hO b, cO b (nI n) (nI k), tO b, oQ (cY 2) (b 3) (rr 1) 6, gI (cY 0) (rr 1) 6 fW 6, [(b 12, .inl (cY 1, 6, .inr (.inl uu.1)))], [(b 13, .inl (cY 0, 6, .inl uu.2.1))], [(b 14, .inl (cY 1, 32, .inr (.inl uu.2.2)))], sO b, [(cc0, .inl (cY 0, 2, .inl fc))]]) A) ([.ref (b 0), .ref cc0] : List Value).toArray s 0 0 A) (F0 m 292 ls []) := by
                intro   H locs hP hD hS ls hl
                refine lv_iconst (v := nI 0) hx hb dL_areRests_292 (by decide) ?_
                refine lv_istore (lv' := [(6, .int (nI 0)), (0, .ref (b 0)), (1, .ref cc0), (2, .long (lN (sm (rN g n k) u))), (4, .int (nI (nB (lowB g n k) u))), (5, .int (nI 1))]) hx hb dL_areRests_293 hl (by decide) rfl (fun ls hl => ?_)
                refine lv_iconst (v := nI 0) hx hb dL_areRests_295 (by decide) ?_
                refine lv_istore (lv' := [(7, .int (nI 0)), (6, .int (nI 0)), (0, .ref (b 0)), (1, .ref cc0), (2, .long (lN (sm (rN g n k) u))), (4, .int (nI (nB (lowB g n k) u))), (5, .int (nI 1))]) hx hb dL_areRests_296 hl (by decide) rfl (fun ls hl => ?_)
                have L298 : ∀ r : Nat, r ≤ n → ∀ (gRs5 : Nat → Int64) (gOt5 : Nat → Int32) (gMi5 : Nat → Int64), ∀ (H : Heap) (locs : List Loc), va_P D vwCl ([hO b, cO b (nI n) (nI k), tO b, oQ (cY 2) (b 3) (rr 1) 6, gI (cY 0) (rr 1) 6 fW 6, [(b 12, .inl (cY 1, 6, .inr (.inl gRs5)))], [(b 13, .inl (cY 0, 6, .inl gOt5))], [(b 14, .inl (cY 1, 32, .inr (.inl gMi5)))], sO b, [(cc0, .inl (cY 0, 2, .inl fc))]] : List va_W).flatten H → va_D A ([hO b, cO b (nI n) (nI k), tO b, oQ (cY 2) (b 3) (rr 1) 6, gI (cY 0) (rr 1) 6 fW 6, [(b 12, .inl (cY 1, 6, .inr (.inl gRs5)))], [(b 13, .inl (cY 0, 6, .inl gOt5))], [(b 14, .inl (cY 1, 32, .inr (.inl gMi5)))], sO b, [(cc0, .inl (cY 0, 2, .inl fc))]] : List va_W).flatten → va_S A s.heap H locs → ∀ (ls : Array Slot), lv_has ls 14 [(0, .ref (b 0)), (1, .ref cc0), (2, .long (lN (sm (rN g n k) u))), (4, .int (nI (nB (lowB g n k) u))), (5, .int (nI 1)), (6, .int (nI (orS pi0 r))), (7, .int (nI r))] → W p l e ({ frames := 6, cells := 0, slots := 0, locals := 240 }) s m ([.ref (b 0), .ref cc0] : List Value).toArray below meth c H locs 0 0 (MQ below (qI (S := (Nat → Int64) × (Nat → Int32) × (Nat → Int64)) D cY (fun r uu => r = bI true) (fun uu => [hO b, cO b (nI n) (nI k), tO b, oQ (cY 2) (b 3) (rr 1) 6, gI (cY 0) (rr 1) 6 fW 6, [(b 12, .inl (cY 1, 6, .inr (.inl uu.1)))], [(b 13, .inl (cY 0, 6, .inl uu.2.1))], [(b 14, .inl (cY 1, 32, .inr (.inl uu.2.2)))], sO b, [(cc0, .inl (cY 0, 2, .inl fc))]]) A) ([.ref (b 0), .ref cc0] : List Value).toArray s 0 0 A) (F0 m 298 ls []) := by
                  refine lpW n ?_
                  intro r bdr ih298 gRs5 gOt5 gMi5  H locs hP hD hS ls hl
                  refine lv_iload hx hb dL_areRests_298 (lv_at hl 6 rfl) ?_
                  refine lv_aload_n hx hb dL_areRests_300 rfl (lv_at hl 1 rfl) ?_
                  refine lv_iconst (v := nI 0) hx hb dL_areRests_301 (by decide) ?_
                  refine b_iald hx hb hK hP 9 0 rfl rfl (by omega) (by decide) dL_areRests_302 ?_
                  refine eqi (x' := nI n) (hcn) ?_
                  refine n_icmp_ge (tgt := 471) hx hb dL_areRests_303 (by decide) (by omega) (by omega) (fun h303 => ?_) (fun h303 => ?_)
                  · -- t
                    refine lv_iload hx hb dL_areRests_471 (lv_at hl 4 rfl) ?_
                    refine n_if_eq (tgt := 503) hx hb dL_areRests_473 (by decide) (by omega) (fun h473 => ?_) (fun h473 => ?_)
                    · -- t
                      exact absurd h473 (by decide)
                    · -- f
                      refine lv_iload hx hb dL_areRests_476 (lv_at hl 5 rfl) ?_
                      refine eqi (x' := nI (2 ^ n - 1)) (congrArg nI (by
  rw [show r = n by omega]
  exact orS_all (fun i hi => (hpi i hi).1) (fun b0 hb0 => ⟨_, plc_ltn hb0, hps b0 hb0⟩))) ?_
                      have h2n := Nat.two_pow_pos n
                      have h2n6 : 2 ^ n ≤ 2 ^ 6 := Nat.pow_le_pow_right (by decide) hn6
                      refine lv_iconst (v := nI 1) hx hb dL_areRests_478 (by decide) ?_
                      refine lv_aload_n hx hb dL_areRests_479 rfl (lv_at hl 1 rfl) ?_
                      refine lv_iconst (v := nI 0) hx hb dL_areRests_480 (by decide) ?_
                      refine b_iald hx hb hK hP 9 0 rfl rfl (by omega) (by decide) dL_areRests_481 ?_
                      refine eqi (x' := nI n) (hcn) ?_
                      refine lv_ishl hx hb dL_areRests_482 ?_
                      refine eqi (x' := nI (2 ^ n)) (nI_shl1 (by omega)) ?_
                      refine lv_iconst (v := nI 1) hx hb dL_areRests_483 (by decide) ?_
                      refine lv_isub hx hb dL_areRests_484 ?_
                      refine eqi (x' := nI ((2 ^ n) - 1)) (pk_sub (by omega)) ?_
                      refine n_icmp_ne (tgt := 503) hx hb dL_areRests_485 (by decide) (by omega) (by omega) (fun h485 => ?_) (fun h485 => ?_)
                      · -- t
                        exact absurd rfl h485
                      · -- f
                        refine lv_aload_n hx hb dL_areRests_488 rfl (lv_at hl 0 rfl) ?_
                        refine lv_aload_n hx hb dL_areRests_489 rfl (lv_at hl 1 rfl) ?_
                        refine lv_iconst (v := nI 0) hx hb dL_areRests_490 (by decide) ?_
                        refine b_iald hx hb hK hP 9 0 rfl rfl (by omega) (by decide) dL_areRests_491 ?_
                        refine eqi (x' := nI n) (hcn) ?_
                        refine ca_i (CL := [hO b, cO b (nI n) (nI k), tO b, oQ (cY 2) (b 3) (rr 1) 6, gI (cY 0) (rr 1) 6 fW 6, [(b 12, .inl (cY 1, 6, .inr (.inl gRs5)))], [(b 13, .inl (cY 0, 6, .inl gOt5))], [(b 14, .inl (cY 1, 32, .inr (.inl gMi5)))]]) (va_runV (As := [.int (nI n)]) (rest := []) ⟨hx, hb, hml, hown, hts⟩ (c_X8_ranked_ok l D cY H.size b rr n k fW gRs5 gOt5 gMi5 g n (by omega) (by omega) (by omega) (by omega) hW (by omega)) (cwV 1 hts gL_areRests_X8_ranked rfl rfl rfl (by decide +kernel) ⟨Nat.le_of_ble_eq_true rfl, Nat.le_of_ble_eq_true rfl⟩) (b_preV hVK hP hD [0, 1, 2, 3, 4, 5, 6, 7] rfl rfl 0 rfl rfl) rfl rfl hl.1 rfl (lv_room (Nat.le_of_ble_eq_true rfl)) dL_areRests_492 ⟨Nat.le_refl _, Nat.le_refl _⟩) hP hD hS hA [0, 1, 2, 3, 4, 5, 6, 7] rfl rfl (fun _ => rfl) (fun r492 uu H locs hq hP hD hS => ?_)
                        obtain ⟨fRs1_4, fOt1_5, fMi1_6⟩ := uu
                        try dsimp only at hq
                        subst hq
                        have hP : va_P D vwCl ([hO b, cO b (nI n) (nI k), tO b, oQ (cY 2) (b 3) (rr 1) 6, gI (cY 0) (rr 1) 6 fW 6, [(b 12, .inl (cY 1, 6, .inr (.inl fRs1_4)))], [(b 13, .inl (cY 0, 6, .inl fOt1_5))], [(b 14, .inl (cY 1, 32, .inr (.inl fMi1_6)))], sO b, [(cc0, .inl (cY 0, 2, .inl fc))]] : List va_W).flatten H := hP
                        have hD : va_D A ([hO b, cO b (nI n) (nI k), tO b, oQ (cY 2) (b 3) (rr 1) 6, gI (cY 0) (rr 1) 6 fW 6, [(b 12, .inl (cY 1, 6, .inr (.inl fRs1_4)))], [(b 13, .inl (cY 0, 6, .inl fOt1_5))], [(b 14, .inl (cY 1, 32, .inr (.inl fMi1_6)))], sO b, [(cc0, .inl (cY 0, 2, .inl fc))]] : List va_W).flatten := hD
                        refine eqi (x' := (-1)) (rk_none) ?_
                        refine lv_iconst (v := (-1)) hx hb dL_areRests_495 (by decide) ?_
                        refine lv_icmp_ne (tgt := 503) hx hb dL_areRests_496 (by decide) (fun h496 => ?_) (fun h496 => ?_)
                        · -- t
                          exact absurd rfl h496
                        · -- f
                          refine lv_iconst (v := nI 1) hx hb dL_areRests_499 (by decide) ?_
                          refine lv_goto (tgt := 504) hx hb dL_areRests_500 (by decide) ?_
                          refine eqi (x' := bI true) rfl ?_
                          exact r_z hx hb hr hlocks hP hD hS (fRs1_4, fOt1_5, fMi1_6) rfl (rfl) dL_areRests_504
                  · -- f
                    refine lv_iload hx hb dL_areRests_306 (lv_at hl 4 rfl) ?_
                    refine n_if_eq (tgt := 471) hx hb dL_areRests_308 (by decide) (by omega) (fun h308 => ?_) (fun h308 => ?_)
                    · -- t
                      exact absurd h308 (by decide)
                    · -- f
                      refine lv_aload_n hx hb dL_areRests_311 rfl (lv_at hl 0 rfl) ?_
                      refine lv_iload hx hb dL_areRests_312 (lv_at hl 6 rfl) ?_
                      refine ca_i (CL := [hO b, cO b (nI n) (nI k), tO b, oQ (cY 2) (b 3) (rr 1) 6, gI (cY 0) (rr 1) 6 fW 6, [(b 12, .inl (cY 1, 6, .inr (.inl gRs5)))], [(b 13, .inl (cY 0, 6, .inl gOt5))], [(b 14, .inl (cY 1, 32, .inr (.inl gMi5)))]]) (va_runV (As := [.int (nI r)]) (rest := []) ⟨hx, hb, hml, hown, hts⟩ (c_X8_ranked_ok l D cY H.size b rr n k fW gRs5 gOt5 gMi5 g r (by omega) (by omega) (by omega) (by omega) hW (by omega)) (cwV 1 hts gL_areRests_X8_ranked rfl rfl rfl (by decide +kernel) ⟨Nat.le_of_ble_eq_true rfl, Nat.le_of_ble_eq_true rfl⟩) (b_preV hVK hP hD [0, 1, 2, 3, 4, 5, 6, 7] rfl rfl 0 rfl rfl) rfl rfl hl.1 rfl (lv_room (Nat.le_of_ble_eq_true rfl)) dL_areRests_314 ⟨Nat.le_refl _, Nat.le_refl _⟩) hP hD hS hA [0, 1, 2, 3, 4, 5, 6, 7] rfl rfl (fun _ => rfl) (fun r314 uu H locs hq hP hD hS => ?_)
                      obtain ⟨fRs1_7, fOt1_8, fMi1_9⟩ := uu
                      try dsimp only at hq
                      subst hq
                      have hP : va_P D vwCl ([hO b, cO b (nI n) (nI k), tO b, oQ (cY 2) (b 3) (rr 1) 6, gI (cY 0) (rr 1) 6 fW 6, [(b 12, .inl (cY 1, 6, .inr (.inl fRs1_7)))], [(b 13, .inl (cY 0, 6, .inl fOt1_8))], [(b 14, .inl (cY 1, 32, .inr (.inl fMi1_9)))], sO b, [(cc0, .inl (cY 0, 2, .inl fc))]] : List va_W).flatten H := hP
                      have hD : va_D A ([hO b, cO b (nI n) (nI k), tO b, oQ (cY 2) (b 3) (rr 1) 6, gI (cY 0) (rr 1) 6 fW 6, [(b 12, .inl (cY 1, 6, .inr (.inl fRs1_7)))], [(b 13, .inl (cY 0, 6, .inl fOt1_8))], [(b 14, .inl (cY 1, 32, .inr (.inl fMi1_9)))], sO b, [(cc0, .inl (cY 0, 2, .inl fc))]] : List va_W).flatten := hD
                      refine eqi (x' := nI (pi0 r)) ((hpi _ (by omega)).2.2) ?_
                      have hpr := (hpi r (by omega)).1
                      have hrb : rN g n k (pi0 r) ≤ 248832 := rN_le hgn hn6 hk1 hk12 hpr
                      refine lv_istore (lv' := [(8, .int (nI (pi0 r))), (0, .ref (b 0)), (1, .ref cc0), (2, .long (lN (sm (rN g n k) u))), (4, .int (nI (nB (lowB g n k) u))), (5, .int (nI 1)), (6, .int (nI (orS pi0 r))), (7, .int (nI r))]) hx hb dL_areRests_317 hl (by decide) rfl (fun ls hl => ?_)
                      refine lv_iload hx hb dL_areRests_319 (lv_at hl 6 rfl) ?_
                      refine lv_iconst (v := nI 1) hx hb dL_areRests_321 (by decide) ?_
                      refine lv_iload hx hb dL_areRests_322 (lv_at hl 0 rfl) ?_
                      refine lv_ishl hx hb dL_areRests_324 ?_
                      refine eqi (x' := nI (2 ^ (pi0 r))) (nI_shl1 (by omega)) ?_
                      refine lv_ior hx hb dL_areRests_325 ?_
                      refine eqi (x' := nI ((orS pi0 r) ||| (2 ^ (pi0 r)))) (nI_or _ _) ?_
                      refine lv_istore (lv' := [(6, .int (nI ((orS pi0 r) ||| (2 ^ (pi0 r))))), (8, .int (nI (pi0 r))), (0, .ref (b 0)), (1, .ref cc0), (2, .long (lN (sm (rN g n k) u))), (4, .int (nI (nB (lowB g n k) u))), (5, .int (nI 1)), (7, .int (nI r))]) hx hb dL_areRests_326 hl (by decide) rfl (fun ls hl => ?_)
                      refine lv_iload hx hb dL_areRests_328 (lv_at hl 1 rfl) ?_
                      refine n_if_lt (tgt := 462) hx hb dL_areRests_330 (by decide) (by omega) (fun h330 => ?_) (fun h330 => ?_)
                      · -- t
                        exact h330.elim
                      · -- f
                        have L395 : ∀ (gRs6 : Nat → Int64) (gOt6 : Nat → Int32) (gMi6 : Nat → Int64), ∀ (H : Heap) (locs : List Loc), va_P D vwCl ([hO b, cO b (nI n) (nI k), tO b, oQ (cY 2) (b 3) (rr 1) 6, gI (cY 0) (rr 1) 6 fW 6, [(b 12, .inl (cY 1, 6, .inr (.inl gRs6)))], [(b 13, .inl (cY 0, 6, .inl gOt6))], [(b 14, .inl (cY 1, 32, .inr (.inl gMi6)))], sO b, [(cc0, .inl (cY 0, 2, .inl fc))]] : List va_W).flatten H → va_D A ([hO b, cO b (nI n) (nI k), tO b, oQ (cY 2) (b 3) (rr 1) 6, gI (cY 0) (rr 1) 6 fW 6, [(b 12, .inl (cY 1, 6, .inr (.inl gRs6)))], [(b 13, .inl (cY 0, 6, .inl gOt6))], [(b 14, .inl (cY 1, 32, .inr (.inl gMi6)))], sO b, [(cc0, .inl (cY 0, 2, .inl fc))]] : List va_W).flatten → va_S A s.heap H locs → ∀ (ls : Array Slot), lv_has ls 14 [(0, .ref (b 0)), (1, .ref cc0), (2, .long (lN (sm (rN g n k) u))), (4, .int (nI (nB (lowB g n k) u))), (5, .int (nI 1)), (6, .int (nI ((orS pi0 r) ||| (2 ^ (pi0 r))))), (7, .int (nI r)), (8, .int (nI (pi0 r)))] → W p l e ({ frames := 6, cells := 0, slots := 0, locals := 240 }) s m ([.ref (b 0), .ref cc0] : List Value).toArray below meth c H locs 0 0 (MQ below (qI (S := (Nat → Int64) × (Nat → Int32) × (Nat → Int64)) D cY (fun r uu => r = bI true) (fun uu => [hO b, cO b (nI n) (nI k), tO b, oQ (cY 2) (b 3) (rr 1) 6, gI (cY 0) (rr 1) 6 fW 6, [(b 12, .inl (cY 1, 6, .inr (.inl uu.1)))], [(b 13, .inl (cY 0, 6, .inl uu.2.1))], [(b 14, .inl (cY 1, 32, .inr (.inl uu.2.2)))], sO b, [(cc0, .inl (cY 0, 2, .inl fc))]]) A) ([.ref (b 0), .ref cc0] : List Value).toArray s 0 0 A) (F0 m 395 ls []) := by
                          intro gRs6 gOt6 gMi6  H locs hP hD hS ls hl
                          refine lv_lload_n hx hb dL_areRests_395 rfl (lv_at hl 2 rfl) ?_
                          refine eql (x' := lN (sm (rN g n k) n)) (congrArg lN (by rw [hun])) ?_
                          refine lv_lconst (v := lN 0) hx hb dL_areRests_396 (by decide) ?_
                          refine W.lcmp hx hb dL_areRests_397 ?_
                          refine l_if_eq (tgt := 458) hx hb dL_areRests_398 (by decide) (fun h398 => ?_) (fun h398 => ?_)
                          · -- t
                            refine lv_iconst (v := nI 1) hx hb dL_areRests_458 (by decide) ?_
                            refine lv_goto (tgt := 463) hx hb dL_areRests_459 (by decide) ?_
                            refine lv_istore (lv' := [(5, .int (nI 1)), (0, .ref (b 0)), (1, .ref cc0), (2, .long (lN (sm (rN g n k) u))), (4, .int (nI (nB (lowB g n k) u))), (6, .int (nI ((orS pi0 r) ||| (2 ^ (pi0 r))))), (7, .int (nI r)), (8, .int (nI (pi0 r)))]) hx hb dL_areRests_463 hl (by decide) rfl (fun ls hl => ?_)
                            refine lv_iinc (v := nI (r + 1)) (lv' := [(7, .int (nI (r + 1))), (5, .int (nI 1)), (0, .ref (b 0)), (1, .ref cc0), (2, .long (lN (sm (rN g n k) u))), (4, .int (nI (nB (lowB g n k) u))), (6, .int (nI ((orS pi0 r) ||| (2 ^ (pi0 r))))), (8, .int (nI (pi0 r)))]) hx hb dL_areRests_465 hl (k := 6) rfl (nI_1 r) (by decide) rfl (fun ls hl => ?_)
                            refine lv_goto (tgt := 298) hx hb dL_areRests_468 (by decide) ?_
                            exact ih298 (by omega) gRs6 gOt6 gMi6  _ _ hP hD hS _ (lv_sub hl [2, 3, 4, 5, 1, 6, 0] rfl)
                          · -- f
                            have hsz : 0 < sm (rN g n k) n := Nat.pos_of_ne_zero (fun z => h398 (congrArg lN z))
                            have hle : rN g n k (pi0 r) ≤ sm (rN g n k) n := sm_le hpr
                            refine lv_aload_n hx hb dL_areRests_401 rfl (lv_at hl 0 rfl) ?_
                            refine lv_iload hx hb dL_areRests_402 (lv_at hl 7 rfl) ?_
                            refine ca_f (CL := [hO b, cO b (nI n) (nI k), tO b, oQ (cY 2) (b 3) (rr 1) 6, gI (cY 0) (rr 1) 6 fW 6, [(b 12, .inl (cY 1, 6, .inr (.inl gRs6)))], [(b 13, .inl (cY 0, 6, .inl gOt6))], [(b 14, .inl (cY 1, 32, .inr (.inl gMi6)))]]) (va_runV (As := [.int (nI (pi0 r))]) (rest := []) ⟨hx, hb, hml, hown, hts⟩ (c_X8_share_ok l D cY H.size b rr n k fW gRs6 gOt6 gMi6 g (pi0 r) (by omega) (by omega) (by omega) (by omega) hW (by omega) (by rw [WR_rN hgn hn6]; exact h398)) (cwV 1 hts gL_areRests_X8_share rfl rfl rfl (by decide +kernel) ⟨Nat.le_of_ble_eq_true rfl, Nat.le_of_ble_eq_true rfl⟩) (b_preV hVK hP hD [0, 1, 2, 3, 4, 5, 6, 7] rfl rfl 0 rfl rfl) rfl rfl hl.1 rfl (lv_room (Nat.le_of_ble_eq_true rfl)) dL_areRests_404 ⟨Nat.le_refl _, Nat.le_refl _⟩) hP hD hS hA [0, 1, 2, 3, 4, 5, 6, 7] rfl rfl (fun _ => rfl) (fun r404 uu H locs hq hP hD hS => ?_)
                            obtain ⟨fRs1_10, fOt1_11, fMi1_12⟩ := uu
                            try dsimp only at hq
                            subst hq
                            have hP : va_P D vwCl ([hO b, cO b (nI n) (nI k), tO b, oQ (cY 2) (b 3) (rr 1) 6, gI (cY 0) (rr 1) 6 fW 6, [(b 12, .inl (cY 1, 6, .inr (.inl fRs1_10)))], [(b 13, .inl (cY 0, 6, .inl fOt1_11))], [(b 14, .inl (cY 1, 32, .inr (.inl fMi1_12)))], sO b, [(cc0, .inl (cY 0, 2, .inl fc))]] : List va_W).flatten H := hP
                            have hD : va_D A ([hO b, cO b (nI n) (nI k), tO b, oQ (cY 2) (b 3) (rr 1) 6, gI (cY 0) (rr 1) 6 fW 6, [(b 12, .inl (cY 1, 6, .inr (.inl fRs1_10)))], [(b 13, .inl (cY 0, 6, .inl fOt1_11))], [(b 14, .inl (cY 1, 32, .inr (.inl fMi1_12)))], sO b, [(cc0, .inl (cY 0, 2, .inl fc))]] : List va_W).flatten := hD
                            refine eqf (x' := FP.fdiv (FP.l2f (lN (rN g n k (pi0 r)))) (FP.l2f (lN (sm (rN g n k) n)))) (by rw [RV_rN hgn hn6 hpr, WR_rN hgn hn6]) ?_
                            refine lv_fconst0 hx hb dL_areRests_407 ?_
                            refine lv_fcmp hx hb dL_areRests_408 ?_
                            refine lv_if_lt (tgt := 462) hx hb dL_areRests_409 (by decide) (fun h409 => ?_) (fun h409 => ?_)
                            · -- t
                              exact absurd h409 (sh_lt hsz (by omega) (by omega))
                            · -- f
                              refine lv_aload_n hx hb dL_areRests_412 rfl (lv_at hl 0 rfl) ?_
                              refine lv_iload hx hb dL_areRests_413 (lv_at hl 7 rfl) ?_
                              refine ca_f (CL := [hO b, cO b (nI n) (nI k), tO b, oQ (cY 2) (b 3) (rr 1) 6, gI (cY 0) (rr 1) 6 fW 6, [(b 12, .inl (cY 1, 6, .inr (.inl fRs1_10)))], [(b 13, .inl (cY 0, 6, .inl fOt1_11))], [(b 14, .inl (cY 1, 32, .inr (.inl fMi1_12)))]]) (va_runV (As := [.int (nI (pi0 r))]) (rest := []) ⟨hx, hb, hml, hown, hts⟩ (c_X8_share_ok l D cY H.size b rr n k fW fRs1_10 fOt1_11 fMi1_12 g (pi0 r) (by omega) (by omega) (by omega) (by omega) hW (by omega) (by rw [WR_rN hgn hn6]; exact h398)) (cwV 1 hts gL_areRests_X8_share rfl rfl rfl (by decide +kernel) ⟨Nat.le_of_ble_eq_true rfl, Nat.le_of_ble_eq_true rfl⟩) (b_preV hVK hP hD [0, 1, 2, 3, 4, 5, 6, 7] rfl rfl 0 rfl rfl) rfl rfl hl.1 rfl (lv_room (Nat.le_of_ble_eq_true rfl)) dL_areRests_415 ⟨Nat.le_refl _, Nat.le_refl _⟩) hP hD hS hA [0, 1, 2, 3, 4, 5, 6, 7] rfl rfl (fun _ => rfl) (fun r415 uu H locs hq hP hD hS => ?_)
                              obtain ⟨fRs1_13, fOt1_14, fMi1_15⟩ := uu
                              try dsimp only at hq
                              subst hq
                              have hP : va_P D vwCl ([hO b, cO b (nI n) (nI k), tO b, oQ (cY 2) (b 3) (rr 1) 6, gI (cY 0) (rr 1) 6 fW 6, [(b 12, .inl (cY 1, 6, .inr (.inl fRs1_13)))], [(b 13, .inl (cY 0, 6, .inl fOt1_14))], [(b 14, .inl (cY 1, 32, .inr (.inl fMi1_15)))], sO b, [(cc0, .inl (cY 0, 2, .inl fc))]] : List va_W).flatten H := hP
                              have hD : va_D A ([hO b, cO b (nI n) (nI k), tO b, oQ (cY 2) (b 3) (rr 1) 6, gI (cY 0) (rr 1) 6 fW 6, [(b 12, .inl (cY 1, 6, .inr (.inl fRs1_13)))], [(b 13, .inl (cY 0, 6, .inl fOt1_14))], [(b 14, .inl (cY 1, 32, .inr (.inl fMi1_15)))], sO b, [(cc0, .inl (cY 0, 2, .inl fc))]] : List va_W).flatten := hD
                              refine eqf (x' := FP.fdiv (FP.l2f (lN (rN g n k (pi0 r)))) (FP.l2f (lN (sm (rN g n k) n)))) (by rw [RV_rN hgn hn6 hpr, WR_rN hgn hn6]) ?_
                              refine lv_fconst1 hx hb dL_areRests_418 ?_
                              refine lv_fcmp hx hb dL_areRests_419 ?_
                              refine lv_if_gt (tgt := 462) hx hb dL_areRests_420 (by decide) (fun h420 => ?_) (fun h420 => ?_)
                              · -- t
                                exact absurd h420 (sh_le1 hsz (by omega) (by omega) hle)
                              · -- f
                                refine lv_aload_n hx hb dL_areRests_423 rfl (lv_at hl 0 rfl) ?_
                                refine lv_iload hx hb dL_areRests_424 (lv_at hl 7 rfl) ?_
                                refine ca_f (CL := [hO b, cO b (nI n) (nI k), tO b, oQ (cY 2) (b 3) (rr 1) 6, gI (cY 0) (rr 1) 6 fW 6, [(b 12, .inl (cY 1, 6, .inr (.inl fRs1_13)))], [(b 13, .inl (cY 0, 6, .inl fOt1_14))], [(b 14, .inl (cY 1, 32, .inr (.inl fMi1_15)))]]) (va_runV (As := [.int (nI (pi0 r))]) (rest := []) ⟨hx, hb, hml, hown, hts⟩ (c_X8_share_ok l D cY H.size b rr n k fW fRs1_13 fOt1_14 fMi1_15 g (pi0 r) (by omega) (by omega) (by omega) (by omega) hW (by omega) (by rw [WR_rN hgn hn6]; exact h398)) (cwV 1 hts gL_areRests_X8_share rfl rfl rfl (by decide +kernel) ⟨Nat.le_of_ble_eq_true rfl, Nat.le_of_ble_eq_true rfl⟩) (b_preV hVK hP hD [0, 1, 2, 3, 4, 5, 6, 7] rfl rfl 0 rfl rfl) rfl rfl hl.1 rfl (lv_room (Nat.le_of_ble_eq_true rfl)) dL_areRests_426 ⟨Nat.le_refl _, Nat.le_refl _⟩) hP hD hS hA [0, 1, 2, 3, 4, 5, 6, 7] rfl rfl (fun _ => rfl) (fun r426 uu H locs hq hP hD hS => ?_)
                                obtain ⟨fRs1_16, fOt1_17, fMi1_18⟩ := uu
                                try dsimp only at hq
                                subst hq
                                have hP : va_P D vwCl ([hO b, cO b (nI n) (nI k), tO b, oQ (cY 2) (b 3) (rr 1) 6, gI (cY 0) (rr 1) 6 fW 6, [(b 12, .inl (cY 1, 6, .inr (.inl fRs1_16)))], [(b 13, .inl (cY 0, 6, .inl fOt1_17))], [(b 14, .inl (cY 1, 32, .inr (.inl fMi1_18)))], sO b, [(cc0, .inl (cY 0, 2, .inl fc))]] : List va_W).flatten H := hP
                                have hD : va_D A ([hO b, cO b (nI n) (nI k), tO b, oQ (cY 2) (b 3) (rr 1) 6, gI (cY 0) (rr 1) 6 fW 6, [(b 12, .inl (cY 1, 6, .inr (.inl fRs1_16)))], [(b 13, .inl (cY 0, 6, .inl fOt1_17))], [(b 14, .inl (cY 1, 32, .inr (.inl fMi1_18)))], sO b, [(cc0, .inl (cY 0, 2, .inl fc))]] : List va_W).flatten := hD
                                refine eqf (x' := FP.fdiv (FP.l2f (lN (rN g n k (pi0 r)))) (FP.l2f (lN (sm (rN g n k) n)))) (by rw [RV_rN hgn hn6 hpr, WR_rN hgn hn6]) ?_
                                refine lv_fconst0 hx hb dL_areRests_429 ?_
                                refine lv_fcmp hx hb dL_areRests_430 ?_
                                refine eqi (x' := nI (if 0 < rN g n k (pi0 r) then 1 else 0)) (sh_v hsz (by omega) (by omega)) ?_
                                have hif := sh_if (a := rN g n k (pi0 r))
                                refine n_if_le (tgt := 438) hx hb dL_areRests_431 (by decide) (by omega) (fun h431 => ?_) (fun h431 => ?_)
                                · -- t
                                  refine lv_iconst (v := nI 0) hx hb dL_areRests_438 (by decide) ?_
                                  refine lv_aload_n hx hb dL_areRests_439 rfl (lv_at hl 0 rfl) ?_
                                  refine lv_iload hx hb dL_areRests_440 (lv_at hl 7 rfl) ?_
                                  refine ca_l (CL := [hO b, cO b (nI n) (nI k), tO b, oQ (cY 2) (b 3) (rr 1) 6, gI (cY 0) (rr 1) 6 fW 6, [(b 13, .inl (cY 0, 6, .inl fOt1_17))], [(b 14, .inl (cY 1, 32, .inr (.inl fMi1_18)))]]) (va_runV (As := [.int (nI (pi0 r))]) (rest := [.int (nI 0)]) ⟨hx, hb, hml, hown, hts⟩ (c_X8_rest_ok l D cY H.size b rr n k fW fOt1_17 fMi1_18 g (pi0 r) (by omega) (by omega) (by omega) (by omega) hW (by omega)) (cwV 1 hts gL_areRests_X8_rest rfl rfl rfl (by decide +kernel) ⟨Nat.le_of_ble_eq_true rfl, Nat.le_of_ble_eq_true rfl⟩) (b_preV hVK hP hD [0, 1, 2, 3, 4, 6, 7] rfl rfl 0 rfl rfl) rfl rfl hl.1 rfl (lv_room (Nat.le_of_ble_eq_true rfl)) dL_areRests_442 ⟨Nat.le_refl _, Nat.le_refl _⟩) hP hD hS hA [0, 1, 2, 3, 4, 6, 7] rfl rfl (fun _ => rfl) (fun r442 uu H locs hq hP hD hS => ?_)
                                  obtain ⟨fOt1_19, fMi1_20⟩ := uu
                                  try dsimp only at hq
                                  subst hq
                                  have hP : va_P D vwCl ([hO b, cO b (nI n) (nI k), tO b, oQ (cY 2) (b 3) (rr 1) 6, gI (cY 0) (rr 1) 6 fW 6, [(b 12, .inl (cY 1, 6, .inr (.inl fRs1_16)))], [(b 13, .inl (cY 0, 6, .inl fOt1_19))], [(b 14, .inl (cY 1, 32, .inr (.inl fMi1_20)))], sO b, [(cc0, .inl (cY 0, 2, .inl fc))]] : List va_W).flatten H := hP
                                  have hD : va_D A ([hO b, cO b (nI n) (nI k), tO b, oQ (cY 2) (b 3) (rr 1) 6, gI (cY 0) (rr 1) 6 fW 6, [(b 12, .inl (cY 1, 6, .inr (.inl fRs1_16)))], [(b 13, .inl (cY 0, 6, .inl fOt1_19))], [(b 14, .inl (cY 1, 32, .inr (.inl fMi1_20)))], sO b, [(cc0, .inl (cY 0, 2, .inl fc))]] : List va_W).flatten := hD
                                  refine eql (x' := lN (rN g n k (pi0 r))) (RV_rN hgn hn6 (by omega)) ?_
                                  refine lv_lconst (v := lN 0) hx hb dL_areRests_445 (by decide) ?_
                                  refine W.lcmp hx hb dL_areRests_446 ?_
                                  refine l_if_le (tgt := 454) hx hb dL_areRests_447 (by decide) (fun h447 => ?_) (fun h447 => ?_)
                                  · -- t
                                    refine lv_iconst (v := nI 0) hx hb dL_areRests_454 (by decide) ?_
                                    refine n_icmp_ne (tgt := 462) hx hb dL_areRests_455 (by decide) (by omega) (by omega) (fun h455 => ?_) (fun h455 => ?_)
                                    · -- t
                                      first | exact absurd rfl h455 | exact (shx1 h431 h447).elim | exact (shx2 (by omega) h431 h447).elim
                                    · -- f
                                      refine lv_iconst (v := nI 1) hx hb dL_areRests_458 (by decide) ?_
                                      refine lv_goto (tgt := 463) hx hb dL_areRests_459 (by decide) ?_
                                      refine lv_istore (lv' := [(5, .int (nI 1)), (0, .ref (b 0)), (1, .ref cc0), (2, .long (lN (sm (rN g n k) u))), (4, .int (nI (nB (lowB g n k) u))), (6, .int (nI ((orS pi0 r) ||| (2 ^ (pi0 r))))), (7, .int (nI r)), (8, .int (nI (pi0 r)))]) hx hb dL_areRests_463 hl (by decide) rfl (fun ls hl => ?_)
                                      refine lv_iinc (v := nI (r + 1)) (lv' := [(7, .int (nI (r + 1))), (5, .int (nI 1)), (0, .ref (b 0)), (1, .ref cc0), (2, .long (lN (sm (rN g n k) u))), (4, .int (nI (nB (lowB g n k) u))), (6, .int (nI ((orS pi0 r) ||| (2 ^ (pi0 r))))), (8, .int (nI (pi0 r)))]) hx hb dL_areRests_465 hl (k := 6) rfl (nI_1 r) (by decide) rfl (fun ls hl => ?_)
                                      refine lv_goto (tgt := 298) hx hb dL_areRests_468 (by decide) ?_
                                      exact ih298 (by omega) fRs1_16 fOt1_19 fMi1_20  _ _ hP hD hS _ (lv_sub hl [2, 3, 4, 5, 1, 6, 0] rfl)
                                  · -- f
                                    refine lv_iconst (v := nI 1) hx hb dL_areRests_450 (by decide) ?_
                                    refine lv_goto (tgt := 455) hx hb dL_areRests_451 (by decide) ?_
                                    refine n_icmp_ne (tgt := 462) hx hb dL_areRests_455 (by decide) (by omega) (by omega) (fun h455 => ?_) (fun h455 => ?_)
                                    · -- t
                                      first | exact absurd rfl h455 | exact (shx1 h431 h447).elim | exact (shx2 (by omega) h431 h447).elim
                                    · -- f
                                      refine lv_iconst (v := nI 1) hx hb dL_areRests_458 (by decide) ?_
                                      refine lv_goto (tgt := 463) hx hb dL_areRests_459 (by decide) ?_
                                      refine lv_istore (lv' := [(5, .int (nI 1)), (0, .ref (b 0)), (1, .ref cc0), (2, .long (lN (sm (rN g n k) u))), (4, .int (nI (nB (lowB g n k) u))), (6, .int (nI ((orS pi0 r) ||| (2 ^ (pi0 r))))), (7, .int (nI r)), (8, .int (nI (pi0 r)))]) hx hb dL_areRests_463 hl (by decide) rfl (fun ls hl => ?_)
                                      refine lv_iinc (v := nI (r + 1)) (lv' := [(7, .int (nI (r + 1))), (5, .int (nI 1)), (0, .ref (b 0)), (1, .ref cc0), (2, .long (lN (sm (rN g n k) u))), (4, .int (nI (nB (lowB g n k) u))), (6, .int (nI ((orS pi0 r) ||| (2 ^ (pi0 r))))), (8, .int (nI (pi0 r)))]) hx hb dL_areRests_465 hl (k := 6) rfl (nI_1 r) (by decide) rfl (fun ls hl => ?_)
                                      refine lv_goto (tgt := 298) hx hb dL_areRests_468 (by decide) ?_
                                      exact ih298 (by omega) fRs1_16 fOt1_19 fMi1_20  _ _ hP hD hS _ (lv_sub hl [2, 3, 4, 5, 1, 6, 0] rfl)
                                · -- f
                                  refine lv_iconst (v := nI 1) hx hb dL_areRests_434 (by decide) ?_
                                  refine lv_goto (tgt := 439) hx hb dL_areRests_435 (by decide) ?_
                                  refine lv_aload_n hx hb dL_areRests_439 rfl (lv_at hl 0 rfl) ?_
                                  refine lv_iload hx hb dL_areRests_440 (lv_at hl 7 rfl) ?_
                                  refine ca_l (CL := [hO b, cO b (nI n) (nI k), tO b, oQ (cY 2) (b 3) (rr 1) 6, gI (cY 0) (rr 1) 6 fW 6, [(b 13, .inl (cY 0, 6, .inl fOt1_17))], [(b 14, .inl (cY 1, 32, .inr (.inl fMi1_18)))]]) (va_runV (As := [.int (nI (pi0 r))]) (rest := [.int (nI 1)]) ⟨hx, hb, hml, hown, hts⟩ (c_X8_rest_ok l D cY H.size b rr n k fW fOt1_17 fMi1_18 g (pi0 r) (by omega) (by omega) (by omega) (by omega) hW (by omega)) (cwV 1 hts gL_areRests_X8_rest rfl rfl rfl (by decide +kernel) ⟨Nat.le_of_ble_eq_true rfl, Nat.le_of_ble_eq_true rfl⟩) (b_preV hVK hP hD [0, 1, 2, 3, 4, 6, 7] rfl rfl 0 rfl rfl) rfl rfl hl.1 rfl (lv_room (Nat.le_of_ble_eq_true rfl)) dL_areRests_442 ⟨Nat.le_refl _, Nat.le_refl _⟩) hP hD hS hA [0, 1, 2, 3, 4, 6, 7] rfl rfl (fun _ => rfl) (fun r442 uu H locs hq hP hD hS => ?_)
                                  obtain ⟨fOt1_21, fMi1_22⟩ := uu
                                  try dsimp only at hq
                                  subst hq
                                  have hP : va_P D vwCl ([hO b, cO b (nI n) (nI k), tO b, oQ (cY 2) (b 3) (rr 1) 6, gI (cY 0) (rr 1) 6 fW 6, [(b 12, .inl (cY 1, 6, .inr (.inl fRs1_16)))], [(b 13, .inl (cY 0, 6, .inl fOt1_21))], [(b 14, .inl (cY 1, 32, .inr (.inl fMi1_22)))], sO b, [(cc0, .inl (cY 0, 2, .inl fc))]] : List va_W).flatten H := hP
                                  have hD : va_D A ([hO b, cO b (nI n) (nI k), tO b, oQ (cY 2) (b 3) (rr 1) 6, gI (cY 0) (rr 1) 6 fW 6, [(b 12, .inl (cY 1, 6, .inr (.inl fRs1_16)))], [(b 13, .inl (cY 0, 6, .inl fOt1_21))], [(b 14, .inl (cY 1, 32, .inr (.inl fMi1_22)))], sO b, [(cc0, .inl (cY 0, 2, .inl fc))]] : List va_W).flatten := hD
                                  refine eql (x' := lN (rN g n k (pi0 r))) (RV_rN hgn hn6 (by omega)) ?_
                                  refine lv_lconst (v := lN 0) hx hb dL_areRests_445 (by decide) ?_
                                  refine W.lcmp hx hb dL_areRests_446 ?_
                                  refine l_if_le (tgt := 454) hx hb dL_areRests_447 (by decide) (fun h447 => ?_) (fun h447 => ?_)
                                  · -- t
                                    refine lv_iconst (v := nI 0) hx hb dL_areRests_454 (by decide) ?_
                                    refine n_icmp_ne (tgt := 462) hx hb dL_areRests_455 (by decide) (by omega) (by omega) (fun h455 => ?_) (fun h455 => ?_)
                                    · -- t
                                      first | exact absurd rfl h455 | exact (shx1 h431 h447).elim | exact (shx2 (by omega) h431 h447).elim
                                    · -- f
                                      refine lv_iconst (v := nI 1) hx hb dL_areRests_458 (by decide) ?_
                                      refine lv_goto (tgt := 463) hx hb dL_areRests_459 (by decide) ?_
                                      refine lv_istore (lv' := [(5, .int (nI 1)), (0, .ref (b 0)), (1, .ref cc0), (2, .long (lN (sm (rN g n k) u))), (4, .int (nI (nB (lowB g n k) u))), (6, .int (nI ((orS pi0 r) ||| (2 ^ (pi0 r))))), (7, .int (nI r)), (8, .int (nI (pi0 r)))]) hx hb dL_areRests_463 hl (by decide) rfl (fun ls hl => ?_)
                                      refine lv_iinc (v := nI (r + 1)) (lv' := [(7, .int (nI (r + 1))), (5, .int (nI 1)), (0, .ref (b 0)), (1, .ref cc0), (2, .long (lN (sm (rN g n k) u))), (4, .int (nI (nB (lowB g n k) u))), (6, .int (nI ((orS pi0 r) ||| (2 ^ (pi0 r))))), (8, .int (nI (pi0 r)))]) hx hb dL_areRests_465 hl (k := 6) rfl (nI_1 r) (by decide) rfl (fun ls hl => ?_)
                                      refine lv_goto (tgt := 298) hx hb dL_areRests_468 (by decide) ?_
                                      exact ih298 (by omega) fRs1_16 fOt1_21 fMi1_22  _ _ hP hD hS _ (lv_sub hl [2, 3, 4, 5, 1, 6, 0] rfl)
                                  · -- f
                                    refine lv_iconst (v := nI 1) hx hb dL_areRests_450 (by decide) ?_
                                    refine lv_goto (tgt := 455) hx hb dL_areRests_451 (by decide) ?_
                                    refine n_icmp_ne (tgt := 462) hx hb dL_areRests_455 (by decide) (by omega) (by omega) (fun h455 => ?_) (fun h455 => ?_)
                                    · -- t
                                      first | exact absurd rfl h455 | exact (shx1 h431 h447).elim | exact (shx2 (by omega) h431 h447).elim
                                    · -- f
                                      refine lv_iconst (v := nI 1) hx hb dL_areRests_458 (by decide) ?_
                                      refine lv_goto (tgt := 463) hx hb dL_areRests_459 (by decide) ?_
                                      refine lv_istore (lv' := [(5, .int (nI 1)), (0, .ref (b 0)), (1, .ref cc0), (2, .long (lN (sm (rN g n k) u))), (4, .int (nI (nB (lowB g n k) u))), (6, .int (nI ((orS pi0 r) ||| (2 ^ (pi0 r))))), (7, .int (nI r)), (8, .int (nI (pi0 r)))]) hx hb dL_areRests_463 hl (by decide) rfl (fun ls hl => ?_)
                                      refine lv_iinc (v := nI (r + 1)) (lv' := [(7, .int (nI (r + 1))), (5, .int (nI 1)), (0, .ref (b 0)), (1, .ref cc0), (2, .long (lN (sm (rN g n k) u))), (4, .int (nI (nB (lowB g n k) u))), (6, .int (nI ((orS pi0 r) ||| (2 ^ (pi0 r))))), (8, .int (nI (pi0 r)))]) hx hb dL_areRests_465 hl (k := 6) rfl (nI_1 r) (by decide) rfl (fun ls hl => ?_)
                                      refine lv_goto (tgt := 298) hx hb dL_areRests_468 (by decide) ?_
                                      exact ih298 (by omega) fRs1_16 fOt1_21 fMi1_22  _ _ hP hD hS _ (lv_sub hl [2, 3, 4, 5, 1, 6, 0] rfl)
                        refine lv_iload hx hb dL_areRests_333 (lv_at hl 7 rfl) ?_
                        refine n_if_eq (tgt := 395) hx hb dL_areRests_335 (by decide) (by omega) (fun h335 => ?_) (fun h335 => ?_)
                        · -- t
                          exact L395 fRs1_7 fOt1_8 fMi1_9  _ _ hP hD hS _ (lv_sub hl [2, 3, 4, 5, 6, 0, 7, 1] rfl)
                        · -- f
                          have hrm : 1 ≤ r := by omega
                          have hpp := hpi r (by omega)
                          have hpq := hpi (r - 1) (by omega)
                          have hpr0 := hpq.1
                          have hord := rk_ord (F := RV g n k) (n := n) (i := pi0 r) (j := pi0 (r - 1)) hpp.1 (by rw [hpp.2.1, hpq.2.1]; omega)
                          rw [RV_rN hgn hn6 hpp.1, RV_rN hgn hn6 hpq.1] at hord
                          refine lv_aload_n hx hb dL_areRests_338 rfl (lv_at hl 2 rfl) ?_
                          refine lv_iload hx hb dL_areRests_339 (lv_at hl 1 rfl) ?_
                          refine ca_l (CL := [hO b, cO b (nI n) (nI k), tO b, oQ (cY 2) (b 3) (rr 1) 6, gI (cY 0) (rr 1) 6 fW 6, [(b 13, .inl (cY 0, 6, .inl fOt1_8))], [(b 14, .inl (cY 1, 32, .inr (.inl fMi1_9)))]]) (va_runV (As := [.int (nI (pi0 r))]) (rest := []) ⟨hx, hb, hml, hown, hts⟩ (c_X8_rest_ok l D cY H.size b rr n k fW fOt1_8 fMi1_9 g (pi0 r) (by omega) (by omega) (by omega) (by omega) hW (by omega)) (cwV 1 hts gL_areRests_X8_rest rfl rfl rfl (by decide +kernel) ⟨Nat.le_of_ble_eq_true rfl, Nat.le_of_ble_eq_true rfl⟩) (b_preV hVK hP hD [0, 1, 2, 3, 4, 6, 7] rfl rfl 0 rfl rfl) rfl rfl hl.1 rfl (lv_room (Nat.le_of_ble_eq_true rfl)) dL_areRests_341 ⟨Nat.le_refl _, Nat.le_refl _⟩) hP hD hS hA [0, 1, 2, 3, 4, 6, 7] rfl rfl (fun _ => rfl) (fun r341 uu H locs hq hP hD hS => ?_)
                          obtain ⟨fOt1_23, fMi1_24⟩ := uu
                          try dsimp only at hq
                          subst hq
                          have hP : va_P D vwCl ([hO b, cO b (nI n) (nI k), tO b, oQ (cY 2) (b 3) (rr 1) 6, gI (cY 0) (rr 1) 6 fW 6, [(b 12, .inl (cY 1, 6, .inr (.inl fRs1_7)))], [(b 13, .inl (cY 0, 6, .inl fOt1_23))], [(b 14, .inl (cY 1, 32, .inr (.inl fMi1_24)))], sO b, [(cc0, .inl (cY 0, 2, .inl fc))]] : List va_W).flatten H := hP
                          have hD : va_D A ([hO b, cO b (nI n) (nI k), tO b, oQ (cY 2) (b 3) (rr 1) 6, gI (cY 0) (rr 1) 6 fW 6, [(b 12, .inl (cY 1, 6, .inr (.inl fRs1_7)))], [(b 13, .inl (cY 0, 6, .inl fOt1_23))], [(b 14, .inl (cY 1, 32, .inr (.inl fMi1_24)))], sO b, [(cc0, .inl (cY 0, 2, .inl fc))]] : List va_W).flatten := hD
                          refine eql (x' := lN (rN g n k (pi0 r))) (RV_rN hgn hn6 (by omega)) ?_
                          refine lv_aload_n hx hb dL_areRests_344 rfl (lv_at hl 2 rfl) ?_
                          refine lv_aload_n hx hb dL_areRests_345 rfl (lv_at hl 2 rfl) ?_
                          refine lv_iload hx hb dL_areRests_346 (lv_at hl 7 rfl) ?_
                          refine lv_iconst (v := nI 1) hx hb dL_areRests_348 (by decide) ?_
                          refine lv_isub hx hb dL_areRests_349 ?_
                          refine eqi (x' := nI (r - 1)) (pk_sub (by omega)) ?_
                          refine ca_i (CL := [hO b, cO b (nI n) (nI k), tO b, oQ (cY 2) (b 3) (rr 1) 6, gI (cY 0) (rr 1) 6 fW 6, [(b 12, .inl (cY 1, 6, .inr (.inl fRs1_7)))], [(b 13, .inl (cY 0, 6, .inl fOt1_23))], [(b 14, .inl (cY 1, 32, .inr (.inl fMi1_24)))]]) (va_runV (As := [.int (nI (r - 1))]) (rest := [.ref (b 0), .long (lN (rN g n k (pi0 r)))]) ⟨hx, hb, hml, hown, hts⟩ (c_X8_ranked_ok l D cY H.size b rr n k fW fRs1_7 fOt1_23 fMi1_24 g (r - 1) (by omega) (by omega) (by omega) (by omega) hW (by omega)) (cwV 1 hts gL_areRests_X8_ranked rfl rfl rfl (by decide +kernel) ⟨Nat.le_of_ble_eq_true rfl, Nat.le_of_ble_eq_true rfl⟩) (b_preV hVK hP hD [0, 1, 2, 3, 4, 5, 6, 7] rfl rfl 0 rfl rfl) rfl rfl hl.1 rfl (lv_room (Nat.le_of_ble_eq_true rfl)) dL_areRests_350 ⟨Nat.le_refl _, Nat.le_refl _⟩) hP hD hS hA [0, 1, 2, 3, 4, 5, 6, 7] rfl rfl (fun _ => rfl) (fun r350 uu H locs hq hP hD hS => ?_)
                          obtain ⟨fRs1_25, fOt1_26, fMi1_27⟩ := uu
                          try dsimp only at hq
                          subst hq
                          have hP : va_P D vwCl ([hO b, cO b (nI n) (nI k), tO b, oQ (cY 2) (b 3) (rr 1) 6, gI (cY 0) (rr 1) 6 fW 6, [(b 12, .inl (cY 1, 6, .inr (.inl fRs1_25)))], [(b 13, .inl (cY 0, 6, .inl fOt1_26))], [(b 14, .inl (cY 1, 32, .inr (.inl fMi1_27)))], sO b, [(cc0, .inl (cY 0, 2, .inl fc))]] : List va_W).flatten H := hP
                          have hD : va_D A ([hO b, cO b (nI n) (nI k), tO b, oQ (cY 2) (b 3) (rr 1) 6, gI (cY 0) (rr 1) 6 fW 6, [(b 12, .inl (cY 1, 6, .inr (.inl fRs1_25)))], [(b 13, .inl (cY 0, 6, .inl fOt1_26))], [(b 14, .inl (cY 1, 32, .inr (.inl fMi1_27)))], sO b, [(cc0, .inl (cY 0, 2, .inl fc))]] : List va_W).flatten := hD
                          refine eqi (x' := nI (pi0 (r - 1))) ((hpi _ (by omega)).2.2) ?_
                          refine ca_l (CL := [hO b, cO b (nI n) (nI k), tO b, oQ (cY 2) (b 3) (rr 1) 6, gI (cY 0) (rr 1) 6 fW 6, [(b 13, .inl (cY 0, 6, .inl fOt1_26))], [(b 14, .inl (cY 1, 32, .inr (.inl fMi1_27)))]]) (va_runV (As := [.int (nI (pi0 (r - 1)))]) (rest := [.long (lN (rN g n k (pi0 r)))]) ⟨hx, hb, hml, hown, hts⟩ (c_X8_rest_ok l D cY H.size b rr n k fW fOt1_26 fMi1_27 g (pi0 (r - 1)) (by omega) (by omega) (by omega) (by omega) hW (by omega)) (cwV 1 hts gL_areRests_X8_rest rfl rfl rfl (by decide +kernel) ⟨Nat.le_of_ble_eq_true rfl, Nat.le_of_ble_eq_true rfl⟩) (b_preV hVK hP hD [0, 1, 2, 3, 4, 6, 7] rfl rfl 0 rfl rfl) rfl rfl hl.1 rfl (lv_room (Nat.le_of_ble_eq_true rfl)) dL_areRests_353 ⟨Nat.le_refl _, Nat.le_refl _⟩) hP hD hS hA [0, 1, 2, 3, 4, 6, 7] rfl rfl (fun _ => rfl) (fun r353 uu H locs hq hP hD hS => ?_)
                          obtain ⟨fOt1_28, fMi1_29⟩ := uu
                          try dsimp only at hq
                          subst hq
                          have hP : va_P D vwCl ([hO b, cO b (nI n) (nI k), tO b, oQ (cY 2) (b 3) (rr 1) 6, gI (cY 0) (rr 1) 6 fW 6, [(b 12, .inl (cY 1, 6, .inr (.inl fRs1_25)))], [(b 13, .inl (cY 0, 6, .inl fOt1_28))], [(b 14, .inl (cY 1, 32, .inr (.inl fMi1_29)))], sO b, [(cc0, .inl (cY 0, 2, .inl fc))]] : List va_W).flatten H := hP
                          have hD : va_D A ([hO b, cO b (nI n) (nI k), tO b, oQ (cY 2) (b 3) (rr 1) 6, gI (cY 0) (rr 1) 6 fW 6, [(b 12, .inl (cY 1, 6, .inr (.inl fRs1_25)))], [(b 13, .inl (cY 0, 6, .inl fOt1_28))], [(b 14, .inl (cY 1, 32, .inr (.inl fMi1_29)))], sO b, [(cc0, .inl (cY 0, 2, .inl fc))]] : List va_W).flatten := hD
                          refine eql (x' := lN (rN g n k (pi0 (r - 1)))) (RV_rN hgn hn6 (by omega)) ?_
                          refine W.lcmp hx hb dL_areRests_356 ?_
                          refine l_if_lt (tgt := 395) hx hb dL_areRests_357 (by decide) (fun h357 => ?_) (fun h357 => ?_)
                          · -- t
                            exact L395 fRs1_25 fOt1_28 fMi1_29  _ _ hP hD hS _ (lv_sub hl [2, 3, 4, 5, 6, 0, 7, 1] rfl)
                          · -- f
                            refine lv_aload_n hx hb dL_areRests_360 rfl (lv_at hl 2 rfl) ?_
                            refine lv_iload hx hb dL_areRests_361 (lv_at hl 1 rfl) ?_
                            refine ca_l (CL := [hO b, cO b (nI n) (nI k), tO b, oQ (cY 2) (b 3) (rr 1) 6, gI (cY 0) (rr 1) 6 fW 6, [(b 13, .inl (cY 0, 6, .inl fOt1_28))], [(b 14, .inl (cY 1, 32, .inr (.inl fMi1_29)))]]) (va_runV (As := [.int (nI (pi0 r))]) (rest := []) ⟨hx, hb, hml, hown, hts⟩ (c_X8_rest_ok l D cY H.size b rr n k fW fOt1_28 fMi1_29 g (pi0 r) (by omega) (by omega) (by omega) (by omega) hW (by omega)) (cwV 1 hts gL_areRests_X8_rest rfl rfl rfl (by decide +kernel) ⟨Nat.le_of_ble_eq_true rfl, Nat.le_of_ble_eq_true rfl⟩) (b_preV hVK hP hD [0, 1, 2, 3, 4, 6, 7] rfl rfl 0 rfl rfl) rfl rfl hl.1 rfl (lv_room (Nat.le_of_ble_eq_true rfl)) dL_areRests_363 ⟨Nat.le_refl _, Nat.le_refl _⟩) hP hD hS hA [0, 1, 2, 3, 4, 6, 7] rfl rfl (fun _ => rfl) (fun r363 uu H locs hq hP hD hS => ?_)
                            obtain ⟨fOt1_30, fMi1_31⟩ := uu
                            try dsimp only at hq
                            subst hq
                            have hP : va_P D vwCl ([hO b, cO b (nI n) (nI k), tO b, oQ (cY 2) (b 3) (rr 1) 6, gI (cY 0) (rr 1) 6 fW 6, [(b 12, .inl (cY 1, 6, .inr (.inl fRs1_25)))], [(b 13, .inl (cY 0, 6, .inl fOt1_30))], [(b 14, .inl (cY 1, 32, .inr (.inl fMi1_31)))], sO b, [(cc0, .inl (cY 0, 2, .inl fc))]] : List va_W).flatten H := hP
                            have hD : va_D A ([hO b, cO b (nI n) (nI k), tO b, oQ (cY 2) (b 3) (rr 1) 6, gI (cY 0) (rr 1) 6 fW 6, [(b 12, .inl (cY 1, 6, .inr (.inl fRs1_25)))], [(b 13, .inl (cY 0, 6, .inl fOt1_30))], [(b 14, .inl (cY 1, 32, .inr (.inl fMi1_31)))], sO b, [(cc0, .inl (cY 0, 2, .inl fc))]] : List va_W).flatten := hD
                            refine eql (x' := lN (rN g n k (pi0 r))) (RV_rN hgn hn6 (by omega)) ?_
                            refine lv_aload_n hx hb dL_areRests_366 rfl (lv_at hl 2 rfl) ?_
                            refine lv_aload_n hx hb dL_areRests_367 rfl (lv_at hl 2 rfl) ?_
                            refine lv_iload hx hb dL_areRests_368 (lv_at hl 7 rfl) ?_
                            refine lv_iconst (v := nI 1) hx hb dL_areRests_370 (by decide) ?_
                            refine lv_isub hx hb dL_areRests_371 ?_
                            refine eqi (x' := nI (r - 1)) (pk_sub (by omega)) ?_
                            refine ca_i (CL := [hO b, cO b (nI n) (nI k), tO b, oQ (cY 2) (b 3) (rr 1) 6, gI (cY 0) (rr 1) 6 fW 6, [(b 12, .inl (cY 1, 6, .inr (.inl fRs1_25)))], [(b 13, .inl (cY 0, 6, .inl fOt1_30))], [(b 14, .inl (cY 1, 32, .inr (.inl fMi1_31)))]]) (va_runV (As := [.int (nI (r - 1))]) (rest := [.ref (b 0), .long (lN (rN g n k (pi0 r)))]) ⟨hx, hb, hml, hown, hts⟩ (c_X8_ranked_ok l D cY H.size b rr n k fW fRs1_25 fOt1_30 fMi1_31 g (r - 1) (by omega) (by omega) (by omega) (by omega) hW (by omega)) (cwV 1 hts gL_areRests_X8_ranked rfl rfl rfl (by decide +kernel) ⟨Nat.le_of_ble_eq_true rfl, Nat.le_of_ble_eq_true rfl⟩) (b_preV hVK hP hD [0, 1, 2, 3, 4, 5, 6, 7] rfl rfl 0 rfl rfl) rfl rfl hl.1 rfl (lv_room (Nat.le_of_ble_eq_true rfl)) dL_areRests_372 ⟨Nat.le_refl _, Nat.le_refl _⟩) hP hD hS hA [0, 1, 2, 3, 4, 5, 6, 7] rfl rfl (fun _ => rfl) (fun r372 uu H locs hq hP hD hS => ?_)
                            obtain ⟨fRs1_32, fOt1_33, fMi1_34⟩ := uu
                            try dsimp only at hq
                            subst hq
                            have hP : va_P D vwCl ([hO b, cO b (nI n) (nI k), tO b, oQ (cY 2) (b 3) (rr 1) 6, gI (cY 0) (rr 1) 6 fW 6, [(b 12, .inl (cY 1, 6, .inr (.inl fRs1_32)))], [(b 13, .inl (cY 0, 6, .inl fOt1_33))], [(b 14, .inl (cY 1, 32, .inr (.inl fMi1_34)))], sO b, [(cc0, .inl (cY 0, 2, .inl fc))]] : List va_W).flatten H := hP
                            have hD : va_D A ([hO b, cO b (nI n) (nI k), tO b, oQ (cY 2) (b 3) (rr 1) 6, gI (cY 0) (rr 1) 6 fW 6, [(b 12, .inl (cY 1, 6, .inr (.inl fRs1_32)))], [(b 13, .inl (cY 0, 6, .inl fOt1_33))], [(b 14, .inl (cY 1, 32, .inr (.inl fMi1_34)))], sO b, [(cc0, .inl (cY 0, 2, .inl fc))]] : List va_W).flatten := hD
                            refine eqi (x' := nI (pi0 (r - 1))) ((hpi _ (by omega)).2.2) ?_
                            refine ca_l (CL := [hO b, cO b (nI n) (nI k), tO b, oQ (cY 2) (b 3) (rr 1) 6, gI (cY 0) (rr 1) 6 fW 6, [(b 13, .inl (cY 0, 6, .inl fOt1_33))], [(b 14, .inl (cY 1, 32, .inr (.inl fMi1_34)))]]) (va_runV (As := [.int (nI (pi0 (r - 1)))]) (rest := [.long (lN (rN g n k (pi0 r)))]) ⟨hx, hb, hml, hown, hts⟩ (c_X8_rest_ok l D cY H.size b rr n k fW fOt1_33 fMi1_34 g (pi0 (r - 1)) (by omega) (by omega) (by omega) (by omega) hW (by omega)) (cwV 1 hts gL_areRests_X8_rest rfl rfl rfl (by decide +kernel) ⟨Nat.le_of_ble_eq_true rfl, Nat.le_of_ble_eq_true rfl⟩) (b_preV hVK hP hD [0, 1, 2, 3, 4, 6, 7] rfl rfl 0 rfl rfl) rfl rfl hl.1 rfl (lv_room (Nat.le_of_ble_eq_true rfl)) dL_areRests_375 ⟨Nat.le_refl _, Nat.le_refl _⟩) hP hD hS hA [0, 1, 2, 3, 4, 6, 7] rfl rfl (fun _ => rfl) (fun r375 uu H locs hq hP hD hS => ?_)
                            obtain ⟨fOt1_35, fMi1_36⟩ := uu
                            try dsimp only at hq
                            subst hq
                            have hP : va_P D vwCl ([hO b, cO b (nI n) (nI k), tO b, oQ (cY 2) (b 3) (rr 1) 6, gI (cY 0) (rr 1) 6 fW 6, [(b 12, .inl (cY 1, 6, .inr (.inl fRs1_32)))], [(b 13, .inl (cY 0, 6, .inl fOt1_35))], [(b 14, .inl (cY 1, 32, .inr (.inl fMi1_36)))], sO b, [(cc0, .inl (cY 0, 2, .inl fc))]] : List va_W).flatten H := hP
                            have hD : va_D A ([hO b, cO b (nI n) (nI k), tO b, oQ (cY 2) (b 3) (rr 1) 6, gI (cY 0) (rr 1) 6 fW 6, [(b 12, .inl (cY 1, 6, .inr (.inl fRs1_32)))], [(b 13, .inl (cY 0, 6, .inl fOt1_35))], [(b 14, .inl (cY 1, 32, .inr (.inl fMi1_36)))], sO b, [(cc0, .inl (cY 0, 2, .inl fc))]] : List va_W).flatten := hD
                            refine eql (x' := lN (rN g n k (pi0 (r - 1)))) (RV_rN hgn hn6 (by omega)) ?_
                            refine W.lcmp hx hb dL_areRests_378 ?_
                            refine l_if_ne (tgt := 462) hx hb dL_areRests_379 (by decide) (fun h379 => ?_) (fun h379 => ?_)
                            · -- t
                              rcases hord with y | ⟨y, _⟩
                              · exact absurd y h357
                              · exact absurd y.symm h379
                            · -- f
                              refine lv_iload hx hb dL_areRests_382 (lv_at hl 1 rfl) ?_
                              refine lv_aload_n hx hb dL_areRests_384 rfl (lv_at hl 2 rfl) ?_
                              refine lv_iload hx hb dL_areRests_385 (lv_at hl 7 rfl) ?_
                              refine lv_iconst (v := nI 1) hx hb dL_areRests_387 (by decide) ?_
                              refine lv_isub hx hb dL_areRests_388 ?_
                              refine eqi (x' := nI (r - 1)) (pk_sub (by omega)) ?_
                              refine ca_i (CL := [hO b, cO b (nI n) (nI k), tO b, oQ (cY 2) (b 3) (rr 1) 6, gI (cY 0) (rr 1) 6 fW 6, [(b 12, .inl (cY 1, 6, .inr (.inl fRs1_32)))], [(b 13, .inl (cY 0, 6, .inl fOt1_35))], [(b 14, .inl (cY 1, 32, .inr (.inl fMi1_36)))]]) (va_runV (As := [.int (nI (r - 1))]) (rest := [.int (nI (pi0 r))]) ⟨hx, hb, hml, hown, hts⟩ (c_X8_ranked_ok l D cY H.size b rr n k fW fRs1_32 fOt1_35 fMi1_36 g (r - 1) (by omega) (by omega) (by omega) (by omega) hW (by omega)) (cwV 1 hts gL_areRests_X8_ranked rfl rfl rfl (by decide +kernel) ⟨Nat.le_of_ble_eq_true rfl, Nat.le_of_ble_eq_true rfl⟩) (b_preV hVK hP hD [0, 1, 2, 3, 4, 5, 6, 7] rfl rfl 0 rfl rfl) rfl rfl hl.1 rfl (lv_room (Nat.le_of_ble_eq_true rfl)) dL_areRests_389 ⟨Nat.le_refl _, Nat.le_refl _⟩) hP hD hS hA [0, 1, 2, 3, 4, 5, 6, 7] rfl rfl (fun _ => rfl) (fun r389 uu H locs hq hP hD hS => ?_)
                              obtain ⟨fRs1_37, fOt1_38, fMi1_39⟩ := uu
                              try dsimp only at hq
                              subst hq
                              have hP : va_P D vwCl ([hO b, cO b (nI n) (nI k), tO b, oQ (cY 2) (b 3) (rr 1) 6, gI (cY 0) (rr 1) 6 fW 6, [(b 12, .inl (cY 1, 6, .inr (.inl fRs1_37)))], [(b 13, .inl (cY 0, 6, .inl fOt1_38))], [(b 14, .inl (cY 1, 32, .inr (.inl fMi1_39)))], sO b, [(cc0, .inl (cY 0, 2, .inl fc))]] : List va_W).flatten H := hP
                              have hD : va_D A ([hO b, cO b (nI n) (nI k), tO b, oQ (cY 2) (b 3) (rr 1) 6, gI (cY 0) (rr 1) 6 fW 6, [(b 12, .inl (cY 1, 6, .inr (.inl fRs1_37)))], [(b 13, .inl (cY 0, 6, .inl fOt1_38))], [(b 14, .inl (cY 1, 32, .inr (.inl fMi1_39)))], sO b, [(cc0, .inl (cY 0, 2, .inl fc))]] : List va_W).flatten := hD
                              refine eqi (x' := nI (pi0 (r - 1))) ((hpi _ (by omega)).2.2) ?_
                              refine n_icmp_le (tgt := 462) hx hb dL_areRests_392 (by decide) (by omega) (by omega) (fun h392 => ?_) (fun h392 => ?_)
                              · -- t
                                rcases hord with y | ⟨_, y⟩
                                · exact absurd y h357
                                · exact absurd h392 (by omega)
                              · -- f
                                exact L395 fRs1_37 fOt1_38 fMi1_39  _ _ hP hD hS _ (lv_sub hl [2, 3, 4, 5, 6, 0, 7, 1] rfl)
                exact L298 0 (by omega) fRs1_1 fOt1_2 fMi1_3  _ _ hP hD hS _ (lv_sub hl [2, 3, 4, 5, 6, 1, 0] rfl)
              refine lv_lload_n hx hb dL_areRests_260 rfl (lv_at hl 2 rfl) ?_
              refine eql (x' := lN (sm (rN g n k) n)) (congrArg lN (by rw [hun])) ?_
              refine lv_lconst (v := lN 0) hx hb dL_areRests_261 (by decide) ?_
              refine W.lcmp hx hb dL_areRests_262 ?_
              refine l_if_ne (tgt := 270) hx hb dL_areRests_263 (by decide) (fun h263 => ?_) (fun h263 => ?_)
              · -- t
                refine lv_iconst (v := nI 0) hx hb dL_areRests_270 (by decide) ?_
                refine lv_iload hx hb dL_areRests_271 (lv_at hl 3 rfl) ?_
                refine eqi (x' := nI (nB (lowB g n k) n)) (congrArg nI (by rw [hun])) ?_
                refine lv_iconst (v := nI 1) hx hb dL_areRests_273 (by decide) ?_
                refine n_icmp_le (tgt := 281) hx hb dL_areRests_274 (by decide) (by omega) (by omega) (fun h274 => ?_) (fun h274 => ?_)
                · -- t
                  refine lv_iconst (v := nI 0) hx hb dL_areRests_281 (by decide) ?_
                  refine n_icmp_ne (tgt := 289) hx hb dL_areRests_282 (by decide) (by omega) (by omega) (fun h282 => ?_) (fun h282 => ?_)
                  · -- t
                    first | exact absurd rfl h282 | exact absurd (congrArg lN (hcz.mpr h274)) h263 | exact absurd (hcz.mp ((pk_lEQ (by omega) (by omega)).mp h263)) (by omega)
                  · -- f
                    refine lv_iconst (v := nI 1) hx hb dL_areRests_285 (by decide) ?_
                    refine lv_goto (tgt := 290) hx hb dL_areRests_286 (by decide) ?_
                    refine lv_istore (lv' := [(5, .int (nI 1)), (0, .ref (b 0)), (1, .ref cc0), (2, .long (lN (sm (rN g n k) u))), (4, .int (nI (nB (lowB g n k) u))), (6, .int (nI u))]) hx hb dL_areRests_290 hl (by decide) rfl (fun ls hl => ?_)
                    exact L292   _ _ hP hD hS _ (lv_sub hl [1, 2, 3, 4, 0, 5] rfl)
                · -- f
                  refine lv_iconst (v := nI 1) hx hb dL_areRests_277 (by decide) ?_
                  refine lv_goto (tgt := 282) hx hb dL_areRests_278 (by decide) ?_
                  refine n_icmp_ne (tgt := 289) hx hb dL_areRests_282 (by decide) (by omega) (by omega) (fun h282 => ?_) (fun h282 => ?_)
                  · -- t
                    first | exact absurd rfl h282 | exact absurd (congrArg lN (hcz.mpr h274)) h263 | exact absurd (hcz.mp ((pk_lEQ (by omega) (by omega)).mp h263)) (by omega)
                  · -- f
                    refine lv_iconst (v := nI 1) hx hb dL_areRests_285 (by decide) ?_
                    refine lv_goto (tgt := 290) hx hb dL_areRests_286 (by decide) ?_
                    refine lv_istore (lv' := [(5, .int (nI 1)), (0, .ref (b 0)), (1, .ref cc0), (2, .long (lN (sm (rN g n k) u))), (4, .int (nI (nB (lowB g n k) u))), (6, .int (nI u))]) hx hb dL_areRests_290 hl (by decide) rfl (fun ls hl => ?_)
                    exact L292   _ _ hP hD hS _ (lv_sub hl [1, 2, 3, 4, 0, 5] rfl)
              · -- f
                refine lv_iconst (v := nI 1) hx hb dL_areRests_266 (by decide) ?_
                refine lv_goto (tgt := 271) hx hb dL_areRests_267 (by decide) ?_
                refine lv_iload hx hb dL_areRests_271 (lv_at hl 3 rfl) ?_
                refine eqi (x' := nI (nB (lowB g n k) n)) (congrArg nI (by rw [hun])) ?_
                refine lv_iconst (v := nI 1) hx hb dL_areRests_273 (by decide) ?_
                refine n_icmp_le (tgt := 281) hx hb dL_areRests_274 (by decide) (by omega) (by omega) (fun h274 => ?_) (fun h274 => ?_)
                · -- t
                  refine lv_iconst (v := nI 0) hx hb dL_areRests_281 (by decide) ?_
                  refine n_icmp_ne (tgt := 289) hx hb dL_areRests_282 (by decide) (by omega) (by omega) (fun h282 => ?_) (fun h282 => ?_)
                  · -- t
                    first | exact absurd rfl h282 | exact absurd (congrArg lN (hcz.mpr h274)) h263 | exact absurd (hcz.mp ((pk_lEQ (by omega) (by omega)).mp h263)) (by omega)
                  · -- f
                    refine lv_iconst (v := nI 1) hx hb dL_areRests_285 (by decide) ?_
                    refine lv_goto (tgt := 290) hx hb dL_areRests_286 (by decide) ?_
                    refine lv_istore (lv' := [(5, .int (nI 1)), (0, .ref (b 0)), (1, .ref cc0), (2, .long (lN (sm (rN g n k) u))), (4, .int (nI (nB (lowB g n k) u))), (6, .int (nI u))]) hx hb dL_areRests_290 hl (by decide) rfl (fun ls hl => ?_)
                    exact L292   _ _ hP hD hS _ (lv_sub hl [1, 2, 3, 4, 0, 5] rfl)
                · -- f
                  refine lv_iconst (v := nI 1) hx hb dL_areRests_277 (by decide) ?_
                  refine lv_goto (tgt := 282) hx hb dL_areRests_278 (by decide) ?_
                  refine n_icmp_ne (tgt := 289) hx hb dL_areRests_282 (by decide) (by omega) (by omega) (fun h282 => ?_) (fun h282 => ?_)
                  · -- t
                    first | exact absurd rfl h282 | exact absurd (congrArg lN (hcz.mpr h274)) h263 | exact absurd (hcz.mp ((pk_lEQ (by omega) (by omega)).mp h263)) (by omega)
                  · -- f
                    refine lv_iconst (v := nI 1) hx hb dL_areRests_285 (by decide) ?_
                    refine lv_goto (tgt := 290) hx hb dL_areRests_286 (by decide) ?_
                    refine lv_istore (lv' := [(5, .int (nI 1)), (0, .ref (b 0)), (1, .ref cc0), (2, .long (lN (sm (rN g n k) u))), (4, .int (nI (nB (lowB g n k) u))), (6, .int (nI u))]) hx hb dL_areRests_290 hl (by decide) rfl (fun ls hl => ?_)
                    exact L292   _ _ hP hD hS _ (lv_sub hl [1, 2, 3, 4, 0, 5] rfl)
    · -- f
      refine lv_iload hx hb dL_areRests_19 (lv_at hl 4 rfl) ?_
      refine n_if_eq (tgt := 231) hx hb dL_areRests_21 (by decide) (by omega) (fun h21 => ?_) (fun h21 => ?_)
      · -- t
        exact absurd h21 (by decide)
      · -- f
        refine lv_lconst (v := lN 0) hx hb dL_areRests_24 (by decide) ?_
        refine lv_lstore (lv' := [(7, .long (lN 0)), (0, .ref (b 0)), (1, .ref cc0), (2, .long (lN (sm (rN g n k) u))), (4, .int (nI (nB (lowB g n k) u))), (5, .int (nI 1)), (6, .int (nI u))]) hx hb dL_areRests_25 hl (by decide) rfl (fun ls hl => ?_)
        refine lv_aload_n hx hb dL_areRests_27 rfl (lv_at hl 1 rfl) ?_
        refine lv_iload hx hb dL_areRests_28 (lv_at hl 6 rfl) ?_
        refine ca_i (CL := [hO b, cO b (nI n) (nI k), sO b, oQ (cY 2) (b 3) (rr 1) 6, gI (cY 0) (rr 1) 6 fW 6]) (va_runV (As := [.int (nI u)]) (rest := []) ⟨hx, hb, hml, hown, hts⟩ (c_X8_reach_ok l D cY H.size b rr n k fW g u (by omega) (by omega) (by omega) (by omega) hW (by omega)) (cwV 1 hts gL_areRests_X8_reach rfl rfl rfl (by decide +kernel) ⟨Nat.le_of_ble_eq_true rfl, Nat.le_of_ble_eq_true rfl⟩) (b_preV hVK hP hD [0, 1, 8, 3, 4] rfl rfl 0 rfl rfl) rfl rfl hl.1 rfl (lv_room (Nat.le_of_ble_eq_true rfl)) dL_areRests_30 ⟨Nat.le_refl _, Nat.le_refl _⟩) hP hD hS hA [0, 1, 8, 3, 4] rfl rfl (fun _ => rfl) (fun r30 uu H locs hq hP hD hS => ?_)
        subst hq
        have hP : va_P D vwCl ([hO b, cO b (nI n) (nI k), tO b, oQ (cY 2) (b 3) (rr 1) 6, gI (cY 0) (rr 1) 6 fW 6, [(b 12, .inl (cY 1, 6, .inr (.inl gRs1)))], [(b 13, .inl (cY 0, 6, .inl gOt1))], [(b 14, .inl (cY 1, 32, .inr (.inl gMi1)))], sO b, [(cc0, .inl (cY 0, 2, .inl fc))]] : List va_W).flatten H := hP
        have hD : va_D A ([hO b, cO b (nI n) (nI k), tO b, oQ (cY 2) (b 3) (rr 1) 6, gI (cY 0) (rr 1) 6 fW 6, [(b 12, .inl (cY 1, 6, .inr (.inl gRs1)))], [(b 13, .inl (cY 0, 6, .inl gOt1))], [(b 14, .inl (cY 1, 32, .inr (.inl gMi1)))], sO b, [(cc0, .inl (cY 0, 2, .inl fc))]] : List va_W).flatten := hD
        have hrl : rcA g n k u (n - 1) < 64 := rcA_lt hn6 (by omega) _
        refine lv_istore (lv' := [(9, .int (nI (rcA g n k u (n - 1)))), (7, .long (lN 0)), (0, .ref (b 0)), (1, .ref cc0), (2, .long (lN (sm (rN g n k) u))), (4, .int (nI (nB (lowB g n k) u))), (5, .int (nI 1)), (6, .int (nI u))]) hx hb dL_areRests_33 hl (by decide) rfl (fun ls hl => ?_)
        refine lv_iconst (v := nI 1) hx hb dL_areRests_35 (by decide) ?_
        refine eqi (x' := bI true) (rfl) ?_
        refine lv_istore (lv' := [(10, .int (bI true)), (9, .int (nI (rcA g n k u (n - 1)))), (7, .long (lN 0)), (0, .ref (b 0)), (1, .ref cc0), (2, .long (lN (sm (rN g n k) u))), (4, .int (nI (nB (lowB g n k) u))), (5, .int (nI 1)), (6, .int (nI u))]) hx hb dL_areRests_36 hl (by decide) rfl (fun ls hl => ?_)
        refine lv_aload_n hx hb dL_areRests_38 rfl (lv_at hl 4 rfl) ?_
        refine lv_iconst (v := nI 0) hx hb dL_areRests_39 (by decide) ?_
        refine b_iald hx hb hK hP 9 0 rfl rfl (by omega) (by decide) dL_areRests_40 ?_
        refine eqi (x' := nI n) (hcn) ?_
        refine lv_istore (lv' := [(11, .int (nI n)), (10, .int (bI true)), (9, .int (nI (rcA g n k u (n - 1)))), (7, .long (lN 0)), (0, .ref (b 0)), (1, .ref cc0), (2, .long (lN (sm (rN g n k) u))), (4, .int (nI (nB (lowB g n k) u))), (5, .int (nI 1)), (6, .int (nI u))]) hx hb dL_areRests_41 hl (by decide) rfl (fun ls hl => ?_)
        refine lv_iconst (v := nI 0) hx hb dL_areRests_43 (by decide) ?_
        refine lv_istore (lv' := [(12, .int (nI 0)), (11, .int (nI n)), (10, .int (bI true)), (9, .int (nI (rcA g n k u (n - 1)))), (7, .long (lN 0)), (0, .ref (b 0)), (1, .ref cc0), (2, .long (lN (sm (rN g n k) u))), (4, .int (nI (nB (lowB g n k) u))), (5, .int (nI 1)), (6, .int (nI u))]) hx hb dL_areRests_44 hl (by decide) rfl (fun ls hl => ?_)
        have L46 : ∀ q : Nat, q ≤ n → ∀ (bC : Bool) (lo : Nat) (gRs2 : Nat → Int64) (gOt2 : Nat → Int32) (gMi2 : Nat → Int64), (CLI g n k (rcA g n k u (n - 1)) q bC) → (LOI n (rcA g n k u (n - 1)) q lo) → ∀ (H : Heap) (locs : List Loc), va_P D vwCl ([hO b, cO b (nI n) (nI k), tO b, oQ (cY 2) (b 3) (rr 1) 6, gI (cY 0) (rr 1) 6 fW 6, [(b 12, .inl (cY 1, 6, .inr (.inl gRs2)))], [(b 13, .inl (cY 0, 6, .inl gOt2))], [(b 14, .inl (cY 1, 32, .inr (.inl gMi2)))], sO b, [(cc0, .inl (cY 0, 2, .inl fc))]] : List va_W).flatten H → va_D A ([hO b, cO b (nI n) (nI k), tO b, oQ (cY 2) (b 3) (rr 1) 6, gI (cY 0) (rr 1) 6 fW 6, [(b 12, .inl (cY 1, 6, .inr (.inl gRs2)))], [(b 13, .inl (cY 0, 6, .inl gOt2))], [(b 14, .inl (cY 1, 32, .inr (.inl gMi2)))], sO b, [(cc0, .inl (cY 0, 2, .inl fc))]] : List va_W).flatten → va_S A s.heap H locs → ∀ (ls : Array Slot), lv_has ls 14 [(0, .ref (b 0)), (1, .ref cc0), (2, .long (lN (sm (rN g n k) u))), (4, .int (nI (nB (lowB g n k) u))), (5, .int (nI 1)), (6, .int (nI u)), (7, .long (lN (sm (fun j => rN g n k j * cnt (g j) u k) q))), (9, .int (nI (rcA g n k u (n - 1)))), (10, .int (bI bC)), (11, .int (nI lo)), (12, .int (nI q))] → W p l e ({ frames := 6, cells := 0, slots := 0, locals := 240 }) s m ([.ref (b 0), .ref cc0] : List Value).toArray below meth c H locs 0 0 (MQ below (qI (S := (Nat → Int64) × (Nat → Int32) × (Nat → Int64)) D cY (fun r uu => r = bI true) (fun uu => [hO b, cO b (nI n) (nI k), tO b, oQ (cY 2) (b 3) (rr 1) 6, gI (cY 0) (rr 1) 6 fW 6, [(b 12, .inl (cY 1, 6, .inr (.inl uu.1)))], [(b 13, .inl (cY 0, 6, .inl uu.2.1))], [(b 14, .inl (cY 1, 32, .inr (.inl uu.2.2)))], sO b, [(cc0, .inl (cY 0, 2, .inl fc))]]) A) ([.ref (b 0), .ref cc0] : List Value).toArray s 0 0 A) (F0 m 46 ls []) := by
          refine lpW n ?_
          intro q bdq ih46 bC lo gRs2 gOt2 gMi2 hC1 hLo H locs hP hD hS ls hl
          refine lv_iload hx hb dL_areRests_46 (lv_at hl 10 rfl) ?_
          refine lv_aload_n hx hb dL_areRests_48 rfl (lv_at hl 1 rfl) ?_
          refine lv_iconst (v := nI 0) hx hb dL_areRests_49 (by decide) ?_
          refine b_iald hx hb hK hP 9 0 rfl rfl (by omega) (by decide) dL_areRests_50 ?_
          refine eqi (x' := nI n) (hcn) ?_
          refine n_icmp_ge (tgt := 148) hx hb dL_areRests_51 (by decide) (by omega) (by omega) (fun h51 => ?_) (fun h51 => ?_)
          · -- t
            refine lv_lload_n hx hb dL_areRests_148 rfl (lv_at hl 2 rfl) ?_
            refine lv_aload_n hx hb dL_areRests_149 rfl (lv_at hl 0 rfl) ?_
            refine lv_iload hx hb dL_areRests_150 (lv_at hl 5 rfl) ?_
            refine ca_l (CL := [hO b, cO b (nI n) (nI k), tO b, oQ (cY 2) (b 3) (rr 1) 6, gI (cY 0) (rr 1) 6 fW 6, [(b 13, .inl (cY 0, 6, .inl gOt2))], [(b 14, .inl (cY 1, 32, .inr (.inl gMi2)))]]) (va_runV (As := [.int (nI u)]) (rest := [.long (lN (sm (rN g n k) u))]) ⟨hx, hb, hml, hown, hts⟩ (c_X8_rest_ok l D cY H.size b rr n k fW gOt2 gMi2 g u (by omega) (by omega) (by omega) (by omega) hW (by omega)) (cwV 1 hts gL_areRests_X8_rest rfl rfl rfl (by decide +kernel) ⟨Nat.le_of_ble_eq_true rfl, Nat.le_of_ble_eq_true rfl⟩) (b_preV hVK hP hD [0, 1, 2, 3, 4, 6, 7] rfl rfl 0 rfl rfl) rfl rfl hl.1 rfl (lv_room (Nat.le_of_ble_eq_true rfl)) dL_areRests_152 ⟨Nat.le_refl _, Nat.le_refl _⟩) hP hD hS hA [0, 1, 2, 3, 4, 6, 7] rfl rfl (fun _ => rfl) (fun r152 uu H locs hq hP hD hS => ?_)
            obtain ⟨fOt1_40, fMi1_41⟩ := uu
            try dsimp only at hq
            subst hq
            have hP : va_P D vwCl ([hO b, cO b (nI n) (nI k), tO b, oQ (cY 2) (b 3) (rr 1) 6, gI (cY 0) (rr 1) 6 fW 6, [(b 12, .inl (cY 1, 6, .inr (.inl gRs2)))], [(b 13, .inl (cY 0, 6, .inl fOt1_40))], [(b 14, .inl (cY 1, 32, .inr (.inl fMi1_41)))], sO b, [(cc0, .inl (cY 0, 2, .inl fc))]] : List va_W).flatten H := hP
            have hD : va_D A ([hO b, cO b (nI n) (nI k), tO b, oQ (cY 2) (b 3) (rr 1) 6, gI (cY 0) (rr 1) 6 fW 6, [(b 12, .inl (cY 1, 6, .inr (.inl gRs2)))], [(b 13, .inl (cY 0, 6, .inl fOt1_40))], [(b 14, .inl (cY 1, 32, .inr (.inl fMi1_41)))], sO b, [(cc0, .inl (cY 0, 2, .inl fc))]] : List va_W).flatten := hD
            refine eql (x' := lN (rN g n k u)) (RV_rN hgn hn6 (by omega)) ?_
            refine lv_ladd hx hb dL_areRests_155 ?_
            refine eql (x' := lN (sm (rN g n k) u + rN g n k u)) (lN_add _ _) ?_
            refine lv_lstore_n (lv' := [(2, .long (lN (sm (rN g n k) u + rN g n k u))), (0, .ref (b 0)), (1, .ref cc0), (4, .int (nI (nB (lowB g n k) u))), (5, .int (nI 1)), (6, .int (nI u)), (7, .long (lN (sm (fun j => rN g n k j * cnt (g j) u k) q))), (9, .int (nI (rcA g n k u (n - 1)))), (10, .int (bI bC)), (11, .int (nI lo)), (12, .int (nI q))]) hx hb dL_areRests_156 rfl hl (by decide) rfl (fun ls hl => ?_)
            have L179 :  ∀ (H : Heap) (locs : List Loc), va_P D vwCl ([hO b, cO b (nI n) (nI k), tO b, oQ (cY 2) (b 3) (rr 1) 6, gI (cY 0) (rr 1) 6 fW 6, [(b 12, .inl (cY 1, 6, .inr (.inl gRs2)))], [(b 13, .inl (cY 0, 6, .inl fOt1_40))], [(b 14, .inl (cY 1, 32, .inr (.inl fMi1_41)))], sO b, [(cc0, .inl (cY 0, 2, .inl fc))]] : List va_W).flatten H → va_D A ([hO b, cO b (nI n) (nI k), tO b, oQ (cY 2) (b 3) (rr 1) 6, gI (cY 0) (rr 1) 6 fW 6, [(b 12, .inl (cY 1, 6, .inr (.inl gRs2)))], [(b 13, .inl (cY 0, 6, .inl fOt1_40))], [(b 14, .inl (cY 1, 32, .inr (.inl fMi1_41)))], sO b, [(cc0, .inl (cY 0, 2, .inl fc))]] : List va_W).flatten → va_S A s.heap H locs → ∀ (ls : Array Slot), lv_has ls 14 [(0, .ref (b 0)), (1, .ref cc0), (2, .long (lN (sm (rN g n k) u + rN g n k u))), (4, .int (nI (nB (lowB g n k) (u + 1)))), (5, .int (nI 1)), (6, .int (nI u)), (7, .long (lN (sm (fun j => rN g n k j * cnt (g j) u k) q))), (9, .int (nI (rcA g n k u (n - 1)))), (10, .int (bI bC)), (11, .int (nI lo)), (12, .int (nI q))] → W p l e ({ frames := 6, cells := 0, slots := 0, locals := 240 }) s m ([.ref (b 0), .ref cc0] : List Value).toArray below meth c H locs 0 0 (MQ below (qI (S := (Nat → Int64) × (Nat → Int32) × (Nat → Int64)) D cY (fun r uu => r = bI true) (fun uu => [hO b, cO b (nI n) (nI k), tO b, oQ (cY 2) (b 3) (rr 1) 6, gI (cY 0) (rr 1) 6 fW 6, [(b 12, .inl (cY 1, 6, .inr (.inl uu.1)))], [(b 13, .inl (cY 0, 6, .inl uu.2.1))], [(b 14, .inl (cY 1, 32, .inr (.inl uu.2.2)))], sO b, [(cc0, .inl (cY 0, 2, .inl fc))]]) A) ([.ref (b 0), .ref cc0] : List Value).toArray s 0 0 A) (F0 m 179 ls []) := by
              intro   H locs hP hD hS ls hl
              refine lv_aload_n hx hb dL_areRests_179 rfl (lv_at hl 0 rfl) ?_
              refine lv_iload hx hb dL_areRests_180 (lv_at hl 5 rfl) ?_
              refine ca_l (CL := [hO b, cO b (nI n) (nI k), tO b, oQ (cY 2) (b 3) (rr 1) 6, gI (cY 0) (rr 1) 6 fW 6, [(b 13, .inl (cY 0, 6, .inl fOt1_40))], [(b 14, .inl (cY 1, 32, .inr (.inl fMi1_41)))]]) (va_runV (As := [.int (nI u)]) (rest := []) ⟨hx, hb, hml, hown, hts⟩ (c_X8_rest_ok l D cY H.size b rr n k fW fOt1_40 fMi1_41 g u (by omega) (by omega) (by omega) (by omega) hW (by omega)) (cwV 1 hts gL_areRests_X8_rest rfl rfl rfl (by decide +kernel) ⟨Nat.le_of_ble_eq_true rfl, Nat.le_of_ble_eq_true rfl⟩) (b_preV hVK hP hD [0, 1, 2, 3, 4, 6, 7] rfl rfl 0 rfl rfl) rfl rfl hl.1 rfl (lv_room (Nat.le_of_ble_eq_true rfl)) dL_areRests_182 ⟨Nat.le_refl _, Nat.le_refl _⟩) hP hD hS hA [0, 1, 2, 3, 4, 6, 7] rfl rfl (fun _ => rfl) (fun r182 uu H locs hq hP hD hS => ?_)
              obtain ⟨fOt1_42, fMi1_43⟩ := uu
              try dsimp only at hq
              subst hq
              have hP : va_P D vwCl ([hO b, cO b (nI n) (nI k), tO b, oQ (cY 2) (b 3) (rr 1) 6, gI (cY 0) (rr 1) 6 fW 6, [(b 12, .inl (cY 1, 6, .inr (.inl gRs2)))], [(b 13, .inl (cY 0, 6, .inl fOt1_42))], [(b 14, .inl (cY 1, 32, .inr (.inl fMi1_43)))], sO b, [(cc0, .inl (cY 0, 2, .inl fc))]] : List va_W).flatten H := hP
              have hD : va_D A ([hO b, cO b (nI n) (nI k), tO b, oQ (cY 2) (b 3) (rr 1) 6, gI (cY 0) (rr 1) 6 fW 6, [(b 12, .inl (cY 1, 6, .inr (.inl gRs2)))], [(b 13, .inl (cY 0, 6, .inl fOt1_42))], [(b 14, .inl (cY 1, 32, .inr (.inl fMi1_43)))], sO b, [(cc0, .inl (cY 0, 2, .inl fc))]] : List va_W).flatten := hD
              refine eql (x' := lN (rN g n k u)) (RV_rN hgn hn6 (by omega)) ?_
              have hrn : rN g n k u ≤ 248832 := rN_le hgn hn6 hk1 hk12 (by omega)
              refine lv_lconst (v := lN 0) hx hb dL_areRests_185 (by decide) ?_
              refine W.lcmp hx hb dL_areRests_186 ?_
              refine l_if_lt (tgt := 222) hx hb dL_areRests_187 (by decide) (fun h187 => ?_) (fun h187 => ?_)
              · -- t
                exact absurd ((pk_lLT (by omega) (by omega)).mp h187) (by omega)
              · -- f
                refine lv_lload hx hb dL_areRests_190 (lv_at hl 6 rfl) ?_
                refine eql (x' := lN (k * rN g n k u)) (congrArg lN (by (have e : q = n := by omega); rw [e]; exact rN_bal hgn hn6 (by omega))) ?_
                refine lv_aload_n hx hb dL_areRests_192 rfl (lv_at hl 1 rfl) ?_
                refine lv_iconst (v := nI 1) hx hb dL_areRests_193 (by decide) ?_
                refine b_iald hx hb hK hP 9 0 rfl rfl (by omega) (by decide) dL_areRests_194 ?_
                refine eqi (x' := nI k) (hck) ?_
                refine lv_i2l (v := lN k) hx hb dL_areRests_195 (nI_l (by omega)) ?_
                refine lv_aload_n hx hb dL_areRests_196 rfl (lv_at hl 0 rfl) ?_
                refine lv_iload hx hb dL_areRests_197 (lv_at hl 5 rfl) ?_
                refine ca_l (CL := [hO b, cO b (nI n) (nI k), tO b, oQ (cY 2) (b 3) (rr 1) 6, gI (cY 0) (rr 1) 6 fW 6, [(b 13, .inl (cY 0, 6, .inl fOt1_42))], [(b 14, .inl (cY 1, 32, .inr (.inl fMi1_43)))]]) (va_runV (As := [.int (nI u)]) (rest := [.long (lN k), .long (lN (k * rN g n k u))]) ⟨hx, hb, hml, hown, hts⟩ (c_X8_rest_ok l D cY H.size b rr n k fW fOt1_42 fMi1_43 g u (by omega) (by omega) (by omega) (by omega) hW (by omega)) (cwV 1 hts gL_areRests_X8_rest rfl rfl rfl (by decide +kernel) ⟨Nat.le_of_ble_eq_true rfl, Nat.le_of_ble_eq_true rfl⟩) (b_preV hVK hP hD [0, 1, 2, 3, 4, 6, 7] rfl rfl 0 rfl rfl) rfl rfl hl.1 rfl (lv_room (Nat.le_of_ble_eq_true rfl)) dL_areRests_199 ⟨Nat.le_refl _, Nat.le_refl _⟩) hP hD hS hA [0, 1, 2, 3, 4, 6, 7] rfl rfl (fun _ => rfl) (fun r199 uu H locs hq hP hD hS => ?_)
                obtain ⟨fOt1_44, fMi1_45⟩ := uu
                try dsimp only at hq
                subst hq
                have hP : va_P D vwCl ([hO b, cO b (nI n) (nI k), tO b, oQ (cY 2) (b 3) (rr 1) 6, gI (cY 0) (rr 1) 6 fW 6, [(b 12, .inl (cY 1, 6, .inr (.inl gRs2)))], [(b 13, .inl (cY 0, 6, .inl fOt1_44))], [(b 14, .inl (cY 1, 32, .inr (.inl fMi1_45)))], sO b, [(cc0, .inl (cY 0, 2, .inl fc))]] : List va_W).flatten H := hP
                have hD : va_D A ([hO b, cO b (nI n) (nI k), tO b, oQ (cY 2) (b 3) (rr 1) 6, gI (cY 0) (rr 1) 6 fW 6, [(b 12, .inl (cY 1, 6, .inr (.inl gRs2)))], [(b 13, .inl (cY 0, 6, .inl fOt1_44))], [(b 14, .inl (cY 1, 32, .inr (.inl fMi1_45)))], sO b, [(cc0, .inl (cY 0, 2, .inl fc))]] : List va_W).flatten := hD
                refine eql (x' := lN (rN g n k u)) (RV_rN hgn hn6 (by omega)) ?_
                refine lv_lmul hx hb dL_areRests_202 ?_
                refine eql (x' := lN (k * (rN g n k u))) (lN_mul _ _) ?_
                refine W.lcmp hx hb dL_areRests_203 ?_
                refine l_if_ne (tgt := 222) hx hb dL_areRests_204 (by decide) (fun h204 => ?_) (fun h204 => ?_)
                · -- t
                  exact absurd rfl h204
                · -- f
                  refine lv_iload hx hb dL_areRests_207 (lv_at hl 7 rfl) ?_
                  refine lv_iload hx hb dL_areRests_209 (lv_at hl 5 rfl) ?_
                  refine lv_ishr hx hb dL_areRests_211 ?_
                  refine eqi (x' := nI ((rcA g n k u (n - 1)) / 2 ^ u)) (nI_shr (by omega) (by omega)) ?_
                  refine lv_iconst (v := nI 1) hx hb dL_areRests_212 (by decide) ?_
                  refine lv_iand hx hb dL_areRests_213 ?_
                  refine eqi (x' := nI (((rcA g n k u (n - 1)) / 2 ^ u) &&& 1)) (nI_and _ _) ?_
                  refine eqi (x' := nI 1) (congrArg nI (sb_of ((rc_iff hgn hn6 (by omega)).mpr Rc_refl))) ?_
                  refine lv_iconst (v := nI 1) hx hb dL_areRests_214 (by decide) ?_
                  refine n_icmp_ne (tgt := 222) hx hb dL_areRests_215 (by decide) (by omega) (by omega) (fun h215 => ?_) (fun h215 => ?_)
                  · -- t
                    exact absurd rfl h215
                  · -- f
                    refine lv_iconst (v := nI 1) hx hb dL_areRests_218 (by decide) ?_
                    refine lv_goto (tgt := 223) hx hb dL_areRests_219 (by decide) ?_
                    refine lv_istore (lv' := [(5, .int (nI 1)), (0, .ref (b 0)), (1, .ref cc0), (2, .long (lN (sm (rN g n k) u + rN g n k u))), (4, .int (nI (nB (lowB g n k) (u + 1)))), (6, .int (nI u)), (7, .long (lN (sm (fun j => rN g n k j * cnt (g j) u k) q))), (9, .int (nI (rcA g n k u (n - 1)))), (10, .int (bI bC)), (11, .int (nI lo)), (12, .int (nI q))]) hx hb dL_areRests_223 hl (by decide) rfl (fun ls hl => ?_)
                    refine lv_iinc (v := nI (u + 1)) (lv' := [(6, .int (nI (u + 1))), (5, .int (nI 1)), (0, .ref (b 0)), (1, .ref cc0), (2, .long (lN (sm (rN g n k) u + rN g n k u))), (4, .int (nI (nB (lowB g n k) (u + 1)))), (7, .long (lN (sm (fun j => rN g n k j * cnt (g j) u k) q))), (9, .int (nI (rcA g n k u (n - 1)))), (10, .int (bI bC)), (11, .int (nI lo)), (12, .int (nI q))]) hx hb dL_areRests_225 hl (k := 5) rfl (nI_1 u) (by decide) rfl (fun ls hl => ?_)
                    refine lv_goto (tgt := 11) hx hb dL_areRests_228 (by decide) ?_
                    exact ih11 (by omega) gRs2 fOt1_44 fMi1_45  _ _ hP hD hS _ (lv_sub hl [2, 3, 4, 5, 1, 0] rfl)
            refine lv_iload hx hb dL_areRests_157 (lv_at hl 3 rfl) ?_
            have hlon := hLo.1
            have hce := cl_end hgn hn6 (show u < n by omega) (show q = n by omega) hC1 hLo
            refine lv_iload hx hb dL_areRests_159 (lv_at hl 8 rfl) ?_
            refine b_if_eq (tgt := 175) hx hb dL_areRests_161 (by decide) (fun h161 => ?_) (fun h161 => ?_)
            · -- t
              refine lv_iconst (v := nI 0) hx hb dL_areRests_175 (by decide) ?_
              refine lv_iadd hx hb dL_areRests_176 ?_
              refine eqi (x' := nI (nB (lowB g n k) u)) (nI_add _ _) ?_
              refine eqi (x' := nI (nB (lowB g n k) (u + 1))) (by first | exact congrArg nI (nB_s1 (hce.mp ⟨h161, h168⟩)).symm | exact congrArg nI (nB_s0 (fun y => absurd (hce.mpr y).2 h168)).symm | exact congrArg nI (nB_s0 (fun y => by
  have y2 := (hce.mpr y).1
  rw [h161] at y2
  cases y2)).symm) ?_
              refine lv_istore (lv' := [(4, .int (nI (nB (lowB g n k) (u + 1)))), (2, .long (lN (sm (rN g n k) u + rN g n k u))), (0, .ref (b 0)), (1, .ref cc0), (5, .int (nI 1)), (6, .int (nI u)), (7, .long (lN (sm (fun j => rN g n k j * cnt (g j) u k) q))), (9, .int (nI (rcA g n k u (n - 1)))), (10, .int (bI bC)), (11, .int (nI lo)), (12, .int (nI q))]) hx hb dL_areRests_177 hl (by decide) rfl (fun ls hl => ?_)
              exact L179   _ _ hP hD hS _ (lv_sub hl [2, 3, 1, 0, 4, 5, 6, 7, 8, 9, 10] rfl)
            · -- f
              refine lv_iload hx hb dL_areRests_164 (lv_at hl 9 rfl) ?_
              refine lv_iload hx hb dL_areRests_166 (lv_at hl 5 rfl) ?_
              refine n_icmp_ne (tgt := 175) hx hb dL_areRests_168 (by decide) (by omega) (by omega) (fun h168 => ?_) (fun h168 => ?_)
              · -- t
                refine lv_iconst (v := nI 0) hx hb dL_areRests_175 (by decide) ?_
                refine lv_iadd hx hb dL_areRests_176 ?_
                refine eqi (x' := nI (nB (lowB g n k) u)) (nI_add _ _) ?_
                refine eqi (x' := nI (nB (lowB g n k) (u + 1))) (by first | exact congrArg nI (nB_s1 (hce.mp ⟨h161, h168⟩)).symm | exact congrArg nI (nB_s0 (fun y => absurd (hce.mpr y).2 h168)).symm | exact congrArg nI (nB_s0 (fun y => by
  have y2 := (hce.mpr y).1
  rw [h161] at y2
  cases y2)).symm) ?_
                refine lv_istore (lv' := [(4, .int (nI (nB (lowB g n k) (u + 1)))), (2, .long (lN (sm (rN g n k) u + rN g n k u))), (0, .ref (b 0)), (1, .ref cc0), (5, .int (nI 1)), (6, .int (nI u)), (7, .long (lN (sm (fun j => rN g n k j * cnt (g j) u k) q))), (9, .int (nI (rcA g n k u (n - 1)))), (10, .int (bI bC)), (11, .int (nI lo)), (12, .int (nI q))]) hx hb dL_areRests_177 hl (by decide) rfl (fun ls hl => ?_)
                exact L179   _ _ hP hD hS _ (lv_sub hl [2, 3, 1, 0, 4, 5, 6, 7, 8, 9, 10] rfl)
              · -- f
                refine lv_iconst (v := nI 1) hx hb dL_areRests_171 (by decide) ?_
                refine lv_goto (tgt := 176) hx hb dL_areRests_172 (by decide) ?_
                refine lv_iadd hx hb dL_areRests_176 ?_
                refine eqi (x' := nI (nB (lowB g n k) u + 1)) (nI_add _ _) ?_
                refine eqi (x' := nI (nB (lowB g n k) (u + 1))) (by first | exact congrArg nI (nB_s1 (hce.mp ⟨h161, h168⟩)).symm | exact congrArg nI (nB_s0 (fun y => absurd (hce.mpr y).2 h168)).symm | exact congrArg nI (nB_s0 (fun y => by
  have y2 := (hce.mpr y).1
  rw [h161] at y2
  cases y2)).symm) ?_
                refine lv_istore (lv' := [(4, .int (nI (nB (lowB g n k) (u + 1)))), (2, .long (lN (sm (rN g n k) u + rN g n k u))), (0, .ref (b 0)), (1, .ref cc0), (5, .int (nI 1)), (6, .int (nI u)), (7, .long (lN (sm (fun j => rN g n k j * cnt (g j) u k) q))), (9, .int (nI (rcA g n k u (n - 1)))), (10, .int (bI bC)), (11, .int (nI lo)), (12, .int (nI q))]) hx hb dL_areRests_177 hl (by decide) rfl (fun ls hl => ?_)
                exact L179   _ _ hP hD hS _ (lv_sub hl [2, 3, 1, 0, 4, 5, 6, 7, 8, 9, 10] rfl)
          · -- f
            refine lv_iload hx hb dL_areRests_54 (lv_at hl 7 rfl) ?_
            refine lv_iload hx hb dL_areRests_56 (lv_at hl 10 rfl) ?_
            refine lv_ishr hx hb dL_areRests_58 ?_
            refine eqi (x' := nI ((rcA g n k u (n - 1)) / 2 ^ q)) (nI_shr (by omega) (by omega)) ?_
            refine lv_iconst (v := nI 1) hx hb dL_areRests_59 (by decide) ?_
            have han : rcA g n k u (n - 1) / 2 ^ q &&& 1 ≤ 1 := Nat.and_le_right
            refine lv_iand hx hb dL_areRests_60 ?_
            refine eqi (x' := nI (((rcA g n k u (n - 1)) / 2 ^ q) &&& 1)) (nI_and _ _) ?_
            refine lv_iconst (v := nI 1) hx hb dL_areRests_61 (by decide) ?_
            refine n_icmp_ne (tgt := 69) hx hb dL_areRests_62 (by decide) (by omega) (by omega) (fun h62 => ?_) (fun h62 => ?_)
            · -- t
              have hnb2 : ¬ (rcA g n k u (n - 1)).testBit q = true := fun hb => h62 (sb_of hb)
              refine lv_iconst (v := nI 0) hx hb dL_areRests_69 (by decide) ?_
              refine lv_istore (lv' := [(13, .int (nI 0)), (0, .ref (b 0)), (1, .ref cc0), (2, .long (lN (sm (rN g n k) u))), (4, .int (nI (nB (lowB g n k) u))), (5, .int (nI 1)), (6, .int (nI u)), (7, .long (lN (sm (fun j => rN g n k j * cnt (g j) u k) q))), (9, .int (nI (rcA g n k u (n - 1)))), (10, .int (bI bC)), (11, .int (nI lo)), (12, .int (nI q))]) hx hb dL_areRests_70 hl (by decide) rfl (fun ls hl => ?_)
              refine lv_lload hx hb dL_areRests_72 (lv_at hl 7 rfl) ?_
              refine lv_aload_n hx hb dL_areRests_74 rfl (lv_at hl 1 rfl) ?_
              refine lv_iload hx hb dL_areRests_75 (lv_at hl 11 rfl) ?_
              refine ca_l (CL := [hO b, cO b (nI n) (nI k), tO b, oQ (cY 2) (b 3) (rr 1) 6, gI (cY 0) (rr 1) 6 fW 6, [(b 13, .inl (cY 0, 6, .inl gOt2))], [(b 14, .inl (cY 1, 32, .inr (.inl gMi2)))]]) (va_runV (As := [.int (nI q)]) (rest := [.long (lN (sm (fun j => rN g n k j * cnt (g j) u k) q))]) ⟨hx, hb, hml, hown, hts⟩ (c_X8_rest_ok l D cY H.size b rr n k fW gOt2 gMi2 g q (by omega) (by omega) (by omega) (by omega) hW (by omega)) (cwV 1 hts gL_areRests_X8_rest rfl rfl rfl (by decide +kernel) ⟨Nat.le_of_ble_eq_true rfl, Nat.le_of_ble_eq_true rfl⟩) (b_preV hVK hP hD [0, 1, 2, 3, 4, 6, 7] rfl rfl 0 rfl rfl) rfl rfl hl.1 rfl (lv_room (Nat.le_of_ble_eq_true rfl)) dL_areRests_77 ⟨Nat.le_refl _, Nat.le_refl _⟩) hP hD hS hA [0, 1, 2, 3, 4, 6, 7] rfl rfl (fun _ => rfl) (fun r77 uu H locs hq hP hD hS => ?_)
              obtain ⟨fOt1_46, fMi1_47⟩ := uu
              try dsimp only at hq
              subst hq
              have hP : va_P D vwCl ([hO b, cO b (nI n) (nI k), tO b, oQ (cY 2) (b 3) (rr 1) 6, gI (cY 0) (rr 1) 6 fW 6, [(b 12, .inl (cY 1, 6, .inr (.inl gRs2)))], [(b 13, .inl (cY 0, 6, .inl fOt1_46))], [(b 14, .inl (cY 1, 32, .inr (.inl fMi1_47)))], sO b, [(cc0, .inl (cY 0, 2, .inl fc))]] : List va_W).flatten H := hP
              have hD : va_D A ([hO b, cO b (nI n) (nI k), tO b, oQ (cY 2) (b 3) (rr 1) 6, gI (cY 0) (rr 1) 6 fW 6, [(b 12, .inl (cY 1, 6, .inr (.inl gRs2)))], [(b 13, .inl (cY 0, 6, .inl fOt1_46))], [(b 14, .inl (cY 1, 32, .inr (.inl fMi1_47)))], sO b, [(cc0, .inl (cY 0, 2, .inl fc))]] : List va_W).flatten := hD
              refine eql (x' := lN (rN g n k q)) (RV_rN hgn hn6 (by omega)) ?_
              refine lv_aload_n hx hb dL_areRests_80 rfl (lv_at hl 1 rfl) ?_
              refine lv_iload hx hb dL_areRests_81 (lv_at hl 11 rfl) ?_
              refine lv_iload hx hb dL_areRests_83 (lv_at hl 6 rfl) ?_
              refine ca_i (CL := [hO b, cO b (nI n) (nI k), oQ (cY 2) (b 3) (rr 1) 6, gI (cY 0) (rr 1) 6 fW 6]) (va_runV (As := [.int (nI q), .int (nI u)]) (rest := [.long (lN (rN g n k q)), .long (lN (sm (fun j => rN g n k j * cnt (g j) u k) q))]) ⟨hx, hb, hml, hown, hts⟩ (c_X8_weight_ok l D cY H.size b rr n k fW g q u (by omega) (by omega) (by omega) (by omega) hW (by omega) (by omega)) (cwV 2 hts gL_areRests_X8_weight rfl rfl rfl (by decide +kernel) ⟨Nat.le_of_ble_eq_true rfl, Nat.le_of_ble_eq_true rfl⟩) (b_preV hVK hP hD [0, 1, 3, 4] rfl rfl 0 rfl rfl) rfl rfl hl.1 rfl (lv_room (Nat.le_of_ble_eq_true rfl)) dL_areRests_85 ⟨Nat.le_refl _, Nat.le_refl _⟩) hP hD hS hA [0, 1, 3, 4] rfl rfl (fun _ => rfl) (fun r85 uu H locs hq hP hD hS => ?_)
              subst hq
              have hP : va_P D vwCl ([hO b, cO b (nI n) (nI k), tO b, oQ (cY 2) (b 3) (rr 1) 6, gI (cY 0) (rr 1) 6 fW 6, [(b 12, .inl (cY 1, 6, .inr (.inl gRs2)))], [(b 13, .inl (cY 0, 6, .inl fOt1_46))], [(b 14, .inl (cY 1, 32, .inr (.inl fMi1_47)))], sO b, [(cc0, .inl (cY 0, 2, .inl fc))]] : List va_W).flatten H := hP
              have hD : va_D A ([hO b, cO b (nI n) (nI k), tO b, oQ (cY 2) (b 3) (rr 1) 6, gI (cY 0) (rr 1) 6 fW 6, [(b 12, .inl (cY 1, 6, .inr (.inl gRs2)))], [(b 13, .inl (cY 0, 6, .inl fOt1_46))], [(b 14, .inl (cY 1, 32, .inr (.inl fMi1_47)))], sO b, [(cc0, .inl (cY 0, 2, .inl fc))]] : List va_W).flatten := hD
              have hcl := cnt_le (g q) u k
              refine lv_i2l (v := lN (cnt (g q) u k)) hx hb dL_areRests_88 (nI_l (by omega)) ?_
              refine lv_lmul hx hb dL_areRests_89 ?_
              refine eql (x' := lN ((rN g n k q) * (cnt (g q) u k))) (lN_mul _ _) ?_
              refine lv_ladd hx hb dL_areRests_90 ?_
              refine eql (x' := lN (sm (fun j => rN g n k j * cnt (g j) u k) q + (rN g n k q) * (cnt (g q) u k))) (lN_add _ _) ?_
              refine lv_lstore (lv' := [(7, .long (lN (sm (fun j => rN g n k j * cnt (g j) u k) q + (rN g n k q) * (cnt (g q) u k)))), (13, .int (nI 0)), (0, .ref (b 0)), (1, .ref cc0), (2, .long (lN (sm (rN g n k) u))), (4, .int (nI (nB (lowB g n k) u))), (5, .int (nI 1)), (6, .int (nI u)), (9, .int (nI (rcA g n k u (n - 1)))), (10, .int (bI bC)), (11, .int (nI lo)), (12, .int (nI q))]) hx hb dL_areRests_91 hl (by decide) rfl (fun ls hl => ?_)
              refine lv_iload hx hb dL_areRests_93 (lv_at hl 9 rfl) ?_
              refine b_if_eq (tgt := 118) hx hb dL_areRests_95 (by decide) (fun h95 => ?_) (fun h95 => ?_)
              · -- t
                refine lv_iconst (v := nI 0) hx hb dL_areRests_118 (by decide) ?_
                refine eqi (x' := bI false) (rfl) ?_
                refine lv_istore (lv' := [(10, .int (bI false)), (7, .long (lN (sm (fun j => rN g n k j * cnt (g j) u k) q + (rN g n k q) * (cnt (g q) u k)))), (13, .int (nI 0)), (0, .ref (b 0)), (1, .ref cc0), (2, .long (lN (sm (rN g n k) u))), (4, .int (nI (nB (lowB g n k) u))), (5, .int (nI 1)), (6, .int (nI u)), (9, .int (nI (rcA g n k u (n - 1)))), (11, .int (nI lo)), (12, .int (nI q))]) hx hb dL_areRests_119 hl (by decide) rfl (fun ls hl => ?_)
                refine lv_iload hx hb dL_areRests_121 (lv_at hl 2 rfl) ?_
                refine n_if_eq (tgt := 138) hx hb dL_areRests_123 (by decide) (by omega) (fun h123 => ?_) (fun h123 => ?_)
                · -- t
                  refine lv_iload hx hb dL_areRests_138 (lv_at hl 10 rfl) ?_
                  refine lv_istore (lv' := [(11, .int (nI lo)), (10, .int (bI false)), (7, .long (lN (sm (fun j => rN g n k j * cnt (g j) u k) q + (rN g n k q) * (cnt (g q) u k)))), (13, .int (nI 0)), (0, .ref (b 0)), (1, .ref cc0), (2, .long (lN (sm (rN g n k) u))), (4, .int (nI (nB (lowB g n k) u))), (5, .int (nI 1)), (6, .int (nI u)), (9, .int (nI (rcA g n k u (n - 1)))), (12, .int (nI q))]) hx hb dL_areRests_140 hl (by decide) rfl (fun ls hl => ?_)
                  refine lv_iinc (v := nI (q + 1)) (lv' := [(12, .int (nI (q + 1))), (11, .int (nI lo)), (10, .int (bI false)), (7, .long (lN (sm (fun j => rN g n k j * cnt (g j) u k) q + (rN g n k q) * (cnt (g q) u k)))), (13, .int (nI 0)), (0, .ref (b 0)), (1, .ref cc0), (2, .long (lN (sm (rN g n k) u))), (4, .int (nI (nB (lowB g n k) u))), (5, .int (nI 1)), (6, .int (nI u)), (9, .int (nI (rcA g n k u (n - 1))))]) hx hb dL_areRests_142 hl (k := 11) rfl (nI_1 q) (by decide) rfl (fun ls hl => ?_)
                  refine lv_goto (tgt := 46) hx hb dL_areRests_145 (by decide) ?_
                  exact ih46 (by omega) false lo gRs2 fOt1_46 fMi1_47 (by first | exact CLI_a hC1 h95 | exact CLI_t hC1 h95 (fun _ => h111) | exact CLI_t hC1 h95 (fun hb => absurd hb hnb2) | exact CLI_f hyb h111) (by first | exact LOI_yes (by omega) hLo hyb h130 | exact LOI_no hLo (fun _ => h130) | exact LOI_no hLo (fun hb => absurd hb hnb2)) _ _ hP hD hS _ (lv_sub hl [5, 6, 7, 8, 9, 10, 3, 11, 2, 1, 0] rfl)
                · -- f
                  exact absurd rfl h123
              · -- f
                refine lv_iload hx hb dL_areRests_98 (lv_at hl 1 rfl) ?_
                refine n_if_eq (tgt := 114) hx hb dL_areRests_100 (by decide) (by omega) (fun h100 => ?_) (fun h100 => ?_)
                · -- t
                  refine lv_iconst (v := nI 1) hx hb dL_areRests_114 (by decide) ?_
                  refine eqi (x' := bI true) (rfl) ?_
                  refine lv_goto (tgt := 119) hx hb dL_areRests_115 (by decide) ?_
                  refine lv_istore (lv' := [(10, .int (bI true)), (7, .long (lN (sm (fun j => rN g n k j * cnt (g j) u k) q + (rN g n k q) * (cnt (g q) u k)))), (13, .int (nI 0)), (0, .ref (b 0)), (1, .ref cc0), (2, .long (lN (sm (rN g n k) u))), (4, .int (nI (nB (lowB g n k) u))), (5, .int (nI 1)), (6, .int (nI u)), (9, .int (nI (rcA g n k u (n - 1)))), (11, .int (nI lo)), (12, .int (nI q))]) hx hb dL_areRests_119 hl (by decide) rfl (fun ls hl => ?_)
                  refine lv_iload hx hb dL_areRests_121 (lv_at hl 2 rfl) ?_
                  refine n_if_eq (tgt := 138) hx hb dL_areRests_123 (by decide) (by omega) (fun h123 => ?_) (fun h123 => ?_)
                  · -- t
                    refine lv_iload hx hb dL_areRests_138 (lv_at hl 10 rfl) ?_
                    refine lv_istore (lv' := [(11, .int (nI lo)), (10, .int (bI true)), (7, .long (lN (sm (fun j => rN g n k j * cnt (g j) u k) q + (rN g n k q) * (cnt (g q) u k)))), (13, .int (nI 0)), (0, .ref (b 0)), (1, .ref cc0), (2, .long (lN (sm (rN g n k) u))), (4, .int (nI (nB (lowB g n k) u))), (5, .int (nI 1)), (6, .int (nI u)), (9, .int (nI (rcA g n k u (n - 1)))), (12, .int (nI q))]) hx hb dL_areRests_140 hl (by decide) rfl (fun ls hl => ?_)
                    refine lv_iinc (v := nI (q + 1)) (lv' := [(12, .int (nI (q + 1))), (11, .int (nI lo)), (10, .int (bI true)), (7, .long (lN (sm (fun j => rN g n k j * cnt (g j) u k) q + (rN g n k q) * (cnt (g q) u k)))), (13, .int (nI 0)), (0, .ref (b 0)), (1, .ref cc0), (2, .long (lN (sm (rN g n k) u))), (4, .int (nI (nB (lowB g n k) u))), (5, .int (nI 1)), (6, .int (nI u)), (9, .int (nI (rcA g n k u (n - 1))))]) hx hb dL_areRests_142 hl (k := 11) rfl (nI_1 q) (by decide) rfl (fun ls hl => ?_)
                    refine lv_goto (tgt := 46) hx hb dL_areRests_145 (by decide) ?_
                    exact ih46 (by omega) true lo gRs2 fOt1_46 fMi1_47 (by first | exact CLI_a hC1 h95 | exact CLI_t hC1 h95 (fun _ => h111) | exact CLI_t hC1 h95 (fun hb => absurd hb hnb2) | exact CLI_f hyb h111) (by first | exact LOI_yes (by omega) hLo hyb h130 | exact LOI_no hLo (fun _ => h130) | exact LOI_no hLo (fun hb => absurd hb hnb2)) _ _ hP hD hS _ (lv_sub hl [5, 6, 7, 8, 9, 10, 3, 11, 2, 1, 0] rfl)
                  · -- f
                    exact absurd rfl h123
                · -- f
                  exact absurd rfl h100
            · -- f
              have hyb : (rcA g n k u (n - 1)).testBit q = true := sb_to h62
              refine lv_iconst (v := nI 1) hx hb dL_areRests_65 (by decide) ?_
              refine lv_goto (tgt := 70) hx hb dL_areRests_66 (by decide) ?_
              refine lv_istore (lv' := [(13, .int (nI 1)), (0, .ref (b 0)), (1, .ref cc0), (2, .long (lN (sm (rN g n k) u))), (4, .int (nI (nB (lowB g n k) u))), (5, .int (nI 1)), (6, .int (nI u)), (7, .long (lN (sm (fun j => rN g n k j * cnt (g j) u k) q))), (9, .int (nI (rcA g n k u (n - 1)))), (10, .int (bI bC)), (11, .int (nI lo)), (12, .int (nI q))]) hx hb dL_areRests_70 hl (by decide) rfl (fun ls hl => ?_)
              refine lv_lload hx hb dL_areRests_72 (lv_at hl 7 rfl) ?_
              refine lv_aload_n hx hb dL_areRests_74 rfl (lv_at hl 1 rfl) ?_
              refine lv_iload hx hb dL_areRests_75 (lv_at hl 11 rfl) ?_
              refine ca_l (CL := [hO b, cO b (nI n) (nI k), tO b, oQ (cY 2) (b 3) (rr 1) 6, gI (cY 0) (rr 1) 6 fW 6, [(b 13, .inl (cY 0, 6, .inl gOt2))], [(b 14, .inl (cY 1, 32, .inr (.inl gMi2)))]]) (va_runV (As := [.int (nI q)]) (rest := [.long (lN (sm (fun j => rN g n k j * cnt (g j) u k) q))]) ⟨hx, hb, hml, hown, hts⟩ (c_X8_rest_ok l D cY H.size b rr n k fW gOt2 gMi2 g q (by omega) (by omega) (by omega) (by omega) hW (by omega)) (cwV 1 hts gL_areRests_X8_rest rfl rfl rfl (by decide +kernel) ⟨Nat.le_of_ble_eq_true rfl, Nat.le_of_ble_eq_true rfl⟩) (b_preV hVK hP hD [0, 1, 2, 3, 4, 6, 7] rfl rfl 0 rfl rfl) rfl rfl hl.1 rfl (lv_room (Nat.le_of_ble_eq_true rfl)) dL_areRests_77 ⟨Nat.le_refl _, Nat.le_refl _⟩) hP hD hS hA [0, 1, 2, 3, 4, 6, 7] rfl rfl (fun _ => rfl) (fun r77 uu H locs hq hP hD hS => ?_)
              obtain ⟨fOt1_48, fMi1_49⟩ := uu
              try dsimp only at hq
              subst hq
              have hP : va_P D vwCl ([hO b, cO b (nI n) (nI k), tO b, oQ (cY 2) (b 3) (rr 1) 6, gI (cY 0) (rr 1) 6 fW 6, [(b 12, .inl (cY 1, 6, .inr (.inl gRs2)))], [(b 13, .inl (cY 0, 6, .inl fOt1_48))], [(b 14, .inl (cY 1, 32, .inr (.inl fMi1_49)))], sO b, [(cc0, .inl (cY 0, 2, .inl fc))]] : List va_W).flatten H := hP
              have hD : va_D A ([hO b, cO b (nI n) (nI k), tO b, oQ (cY 2) (b 3) (rr 1) 6, gI (cY 0) (rr 1) 6 fW 6, [(b 12, .inl (cY 1, 6, .inr (.inl gRs2)))], [(b 13, .inl (cY 0, 6, .inl fOt1_48))], [(b 14, .inl (cY 1, 32, .inr (.inl fMi1_49)))], sO b, [(cc0, .inl (cY 0, 2, .inl fc))]] : List va_W).flatten := hD
              refine eql (x' := lN (rN g n k q)) (RV_rN hgn hn6 (by omega)) ?_
              refine lv_aload_n hx hb dL_areRests_80 rfl (lv_at hl 1 rfl) ?_
              refine lv_iload hx hb dL_areRests_81 (lv_at hl 11 rfl) ?_
              refine lv_iload hx hb dL_areRests_83 (lv_at hl 6 rfl) ?_
              refine ca_i (CL := [hO b, cO b (nI n) (nI k), oQ (cY 2) (b 3) (rr 1) 6, gI (cY 0) (rr 1) 6 fW 6]) (va_runV (As := [.int (nI q), .int (nI u)]) (rest := [.long (lN (rN g n k q)), .long (lN (sm (fun j => rN g n k j * cnt (g j) u k) q))]) ⟨hx, hb, hml, hown, hts⟩ (c_X8_weight_ok l D cY H.size b rr n k fW g q u (by omega) (by omega) (by omega) (by omega) hW (by omega) (by omega)) (cwV 2 hts gL_areRests_X8_weight rfl rfl rfl (by decide +kernel) ⟨Nat.le_of_ble_eq_true rfl, Nat.le_of_ble_eq_true rfl⟩) (b_preV hVK hP hD [0, 1, 3, 4] rfl rfl 0 rfl rfl) rfl rfl hl.1 rfl (lv_room (Nat.le_of_ble_eq_true rfl)) dL_areRests_85 ⟨Nat.le_refl _, Nat.le_refl _⟩) hP hD hS hA [0, 1, 3, 4] rfl rfl (fun _ => rfl) (fun r85 uu H locs hq hP hD hS => ?_)
              subst hq
              have hP : va_P D vwCl ([hO b, cO b (nI n) (nI k), tO b, oQ (cY 2) (b 3) (rr 1) 6, gI (cY 0) (rr 1) 6 fW 6, [(b 12, .inl (cY 1, 6, .inr (.inl gRs2)))], [(b 13, .inl (cY 0, 6, .inl fOt1_48))], [(b 14, .inl (cY 1, 32, .inr (.inl fMi1_49)))], sO b, [(cc0, .inl (cY 0, 2, .inl fc))]] : List va_W).flatten H := hP
              have hD : va_D A ([hO b, cO b (nI n) (nI k), tO b, oQ (cY 2) (b 3) (rr 1) 6, gI (cY 0) (rr 1) 6 fW 6, [(b 12, .inl (cY 1, 6, .inr (.inl gRs2)))], [(b 13, .inl (cY 0, 6, .inl fOt1_48))], [(b 14, .inl (cY 1, 32, .inr (.inl fMi1_49)))], sO b, [(cc0, .inl (cY 0, 2, .inl fc))]] : List va_W).flatten := hD
              have hcl := cnt_le (g q) u k
              refine lv_i2l (v := lN (cnt (g q) u k)) hx hb dL_areRests_88 (nI_l (by omega)) ?_
              refine lv_lmul hx hb dL_areRests_89 ?_
              refine eql (x' := lN ((rN g n k q) * (cnt (g q) u k))) (lN_mul _ _) ?_
              refine lv_ladd hx hb dL_areRests_90 ?_
              refine eql (x' := lN (sm (fun j => rN g n k j * cnt (g j) u k) q + (rN g n k q) * (cnt (g q) u k))) (lN_add _ _) ?_
              refine lv_lstore (lv' := [(7, .long (lN (sm (fun j => rN g n k j * cnt (g j) u k) q + (rN g n k q) * (cnt (g q) u k)))), (13, .int (nI 1)), (0, .ref (b 0)), (1, .ref cc0), (2, .long (lN (sm (rN g n k) u))), (4, .int (nI (nB (lowB g n k) u))), (5, .int (nI 1)), (6, .int (nI u)), (9, .int (nI (rcA g n k u (n - 1)))), (10, .int (bI bC)), (11, .int (nI lo)), (12, .int (nI q))]) hx hb dL_areRests_91 hl (by decide) rfl (fun ls hl => ?_)
              refine lv_iload hx hb dL_areRests_93 (lv_at hl 9 rfl) ?_
              refine b_if_eq (tgt := 118) hx hb dL_areRests_95 (by decide) (fun h95 => ?_) (fun h95 => ?_)
              · -- t
                refine lv_iconst (v := nI 0) hx hb dL_areRests_118 (by decide) ?_
                refine eqi (x' := bI false) (rfl) ?_
                refine lv_istore (lv' := [(10, .int (bI false)), (7, .long (lN (sm (fun j => rN g n k j * cnt (g j) u k) q + (rN g n k q) * (cnt (g q) u k)))), (13, .int (nI 1)), (0, .ref (b 0)), (1, .ref cc0), (2, .long (lN (sm (rN g n k) u))), (4, .int (nI (nB (lowB g n k) u))), (5, .int (nI 1)), (6, .int (nI u)), (9, .int (nI (rcA g n k u (n - 1)))), (11, .int (nI lo)), (12, .int (nI q))]) hx hb dL_areRests_119 hl (by decide) rfl (fun ls hl => ?_)
                refine lv_iload hx hb dL_areRests_121 (lv_at hl 2 rfl) ?_
                refine n_if_eq (tgt := 138) hx hb dL_areRests_123 (by decide) (by omega) (fun h123 => ?_) (fun h123 => ?_)
                · -- t
                  exact absurd h123 (by decide)
                · -- f
                  have hlon := hLo.1
                  refine lv_iload hx hb dL_areRests_126 (lv_at hl 11 rfl) ?_
                  refine lv_iload hx hb dL_areRests_128 (lv_at hl 10 rfl) ?_
                  refine n_icmp_ge (tgt := 138) hx hb dL_areRests_130 (by decide) (by omega) (by omega) (fun h130 => ?_) (fun h130 => ?_)
                  · -- t
                    refine lv_iload hx hb dL_areRests_138 (lv_at hl 10 rfl) ?_
                    refine lv_istore (lv' := [(11, .int (nI lo)), (10, .int (bI false)), (7, .long (lN (sm (fun j => rN g n k j * cnt (g j) u k) q + (rN g n k q) * (cnt (g q) u k)))), (13, .int (nI 1)), (0, .ref (b 0)), (1, .ref cc0), (2, .long (lN (sm (rN g n k) u))), (4, .int (nI (nB (lowB g n k) u))), (5, .int (nI 1)), (6, .int (nI u)), (9, .int (nI (rcA g n k u (n - 1)))), (12, .int (nI q))]) hx hb dL_areRests_140 hl (by decide) rfl (fun ls hl => ?_)
                    refine lv_iinc (v := nI (q + 1)) (lv' := [(12, .int (nI (q + 1))), (11, .int (nI lo)), (10, .int (bI false)), (7, .long (lN (sm (fun j => rN g n k j * cnt (g j) u k) q + (rN g n k q) * (cnt (g q) u k)))), (13, .int (nI 1)), (0, .ref (b 0)), (1, .ref cc0), (2, .long (lN (sm (rN g n k) u))), (4, .int (nI (nB (lowB g n k) u))), (5, .int (nI 1)), (6, .int (nI u)), (9, .int (nI (rcA g n k u (n - 1))))]) hx hb dL_areRests_142 hl (k := 11) rfl (nI_1 q) (by decide) rfl (fun ls hl => ?_)
                    refine lv_goto (tgt := 46) hx hb dL_areRests_145 (by decide) ?_
                    exact ih46 (by omega) false lo gRs2 fOt1_48 fMi1_49 (by first | exact CLI_a hC1 h95 | exact CLI_t hC1 h95 (fun _ => h111) | exact CLI_t hC1 h95 (fun hb => absurd hb hnb2) | exact CLI_f hyb h111) (by first | exact LOI_yes (by omega) hLo hyb h130 | exact LOI_no hLo (fun _ => h130) | exact LOI_no hLo (fun hb => absurd hb hnb2)) _ _ hP hD hS _ (lv_sub hl [5, 6, 7, 8, 9, 10, 3, 11, 2, 1, 0] rfl)
                  · -- f
                    refine lv_iload hx hb dL_areRests_133 (lv_at hl 11 rfl) ?_
                    refine lv_goto (tgt := 140) hx hb dL_areRests_135 (by decide) ?_
                    refine lv_istore (lv' := [(11, .int (nI q)), (10, .int (bI false)), (7, .long (lN (sm (fun j => rN g n k j * cnt (g j) u k) q + (rN g n k q) * (cnt (g q) u k)))), (13, .int (nI 1)), (0, .ref (b 0)), (1, .ref cc0), (2, .long (lN (sm (rN g n k) u))), (4, .int (nI (nB (lowB g n k) u))), (5, .int (nI 1)), (6, .int (nI u)), (9, .int (nI (rcA g n k u (n - 1)))), (12, .int (nI q))]) hx hb dL_areRests_140 hl (by decide) rfl (fun ls hl => ?_)
                    refine lv_iinc (v := nI (q + 1)) (lv' := [(12, .int (nI (q + 1))), (11, .int (nI q)), (10, .int (bI false)), (7, .long (lN (sm (fun j => rN g n k j * cnt (g j) u k) q + (rN g n k q) * (cnt (g q) u k)))), (13, .int (nI 1)), (0, .ref (b 0)), (1, .ref cc0), (2, .long (lN (sm (rN g n k) u))), (4, .int (nI (nB (lowB g n k) u))), (5, .int (nI 1)), (6, .int (nI u)), (9, .int (nI (rcA g n k u (n - 1))))]) hx hb dL_areRests_142 hl (k := 11) rfl (nI_1 q) (by decide) rfl (fun ls hl => ?_)
                    refine lv_goto (tgt := 46) hx hb dL_areRests_145 (by decide) ?_
                    exact ih46 (by omega) false q gRs2 fOt1_48 fMi1_49 (by first | exact CLI_a hC1 h95 | exact CLI_t hC1 h95 (fun _ => h111) | exact CLI_t hC1 h95 (fun hb => absurd hb hnb2) | exact CLI_f hyb h111) (by first | exact LOI_yes (by omega) hLo hyb h130 | exact LOI_no hLo (fun _ => h130) | exact LOI_no hLo (fun hb => absurd hb hnb2)) _ _ hP hD hS _ (lv_sub hl [5, 6, 7, 8, 9, 10, 3, 11, 2, 1, 0] rfl)
              · -- f
                refine lv_iload hx hb dL_areRests_98 (lv_at hl 1 rfl) ?_
                refine n_if_eq (tgt := 114) hx hb dL_areRests_100 (by decide) (by omega) (fun h100 => ?_) (fun h100 => ?_)
                · -- t
                  exact absurd h100 (by decide)
                · -- f
                  refine lv_aload_n hx hb dL_areRests_103 rfl (lv_at hl 2 rfl) ?_
                  refine lv_iload hx hb dL_areRests_104 (lv_at hl 11 rfl) ?_
                  refine ca_i (CL := [hO b, cO b (nI n) (nI k), sO b, oQ (cY 2) (b 3) (rr 1) 6, gI (cY 0) (rr 1) 6 fW 6]) (va_runV (As := [.int (nI q)]) (rest := []) ⟨hx, hb, hml, hown, hts⟩ (c_X8_reach_ok l D cY H.size b rr n k fW g q (by omega) (by omega) (by omega) (by omega) hW (by omega)) (cwV 1 hts gL_areRests_X8_reach rfl rfl rfl (by decide +kernel) ⟨Nat.le_of_ble_eq_true rfl, Nat.le_of_ble_eq_true rfl⟩) (b_preV hVK hP hD [0, 1, 8, 3, 4] rfl rfl 0 rfl rfl) rfl rfl hl.1 rfl (lv_room (Nat.le_of_ble_eq_true rfl)) dL_areRests_106 ⟨Nat.le_refl _, Nat.le_refl _⟩) hP hD hS hA [0, 1, 8, 3, 4] rfl rfl (fun _ => rfl) (fun r106 uu H locs hq hP hD hS => ?_)
                  subst hq
                  have hP : va_P D vwCl ([hO b, cO b (nI n) (nI k), tO b, oQ (cY 2) (b 3) (rr 1) 6, gI (cY 0) (rr 1) 6 fW 6, [(b 12, .inl (cY 1, 6, .inr (.inl gRs2)))], [(b 13, .inl (cY 0, 6, .inl fOt1_48))], [(b 14, .inl (cY 1, 32, .inr (.inl fMi1_49)))], sO b, [(cc0, .inl (cY 0, 2, .inl fc))]] : List va_W).flatten H := hP
                  have hD : va_D A ([hO b, cO b (nI n) (nI k), tO b, oQ (cY 2) (b 3) (rr 1) 6, gI (cY 0) (rr 1) 6 fW 6, [(b 12, .inl (cY 1, 6, .inr (.inl gRs2)))], [(b 13, .inl (cY 0, 6, .inl fOt1_48))], [(b 14, .inl (cY 1, 32, .inr (.inl fMi1_49)))], sO b, [(cc0, .inl (cY 0, 2, .inl fc))]] : List va_W).flatten := hD
                  have hrq : rcA g n k q (n - 1) < 64 := rcA_lt hn6 (by omega) _
                  refine lv_iload hx hb dL_areRests_109 (lv_at hl 8 rfl) ?_
                  refine n_icmp_ne (tgt := 118) hx hb dL_areRests_111 (by decide) (by omega) (by omega) (fun h111 => ?_) (fun h111 => ?_)
                  · -- t
                    refine lv_iconst (v := nI 0) hx hb dL_areRests_118 (by decide) ?_
                    refine eqi (x' := bI false) (rfl) ?_
                    refine lv_istore (lv' := [(10, .int (bI false)), (7, .long (lN (sm (fun j => rN g n k j * cnt (g j) u k) q + (rN g n k q) * (cnt (g q) u k)))), (13, .int (nI 1)), (0, .ref (b 0)), (1, .ref cc0), (2, .long (lN (sm (rN g n k) u))), (4, .int (nI (nB (lowB g n k) u))), (5, .int (nI 1)), (6, .int (nI u)), (9, .int (nI (rcA g n k u (n - 1)))), (11, .int (nI lo)), (12, .int (nI q))]) hx hb dL_areRests_119 hl (by decide) rfl (fun ls hl => ?_)
                    refine lv_iload hx hb dL_areRests_121 (lv_at hl 2 rfl) ?_
                    refine n_if_eq (tgt := 138) hx hb dL_areRests_123 (by decide) (by omega) (fun h123 => ?_) (fun h123 => ?_)
                    · -- t
                      exact absurd h123 (by decide)
                    · -- f
                      have hlon := hLo.1
                      refine lv_iload hx hb dL_areRests_126 (lv_at hl 11 rfl) ?_
                      refine lv_iload hx hb dL_areRests_128 (lv_at hl 10 rfl) ?_
                      refine n_icmp_ge (tgt := 138) hx hb dL_areRests_130 (by decide) (by omega) (by omega) (fun h130 => ?_) (fun h130 => ?_)
                      · -- t
                        refine lv_iload hx hb dL_areRests_138 (lv_at hl 10 rfl) ?_
                        refine lv_istore (lv' := [(11, .int (nI lo)), (10, .int (bI false)), (7, .long (lN (sm (fun j => rN g n k j * cnt (g j) u k) q + (rN g n k q) * (cnt (g q) u k)))), (13, .int (nI 1)), (0, .ref (b 0)), (1, .ref cc0), (2, .long (lN (sm (rN g n k) u))), (4, .int (nI (nB (lowB g n k) u))), (5, .int (nI 1)), (6, .int (nI u)), (9, .int (nI (rcA g n k u (n - 1)))), (12, .int (nI q))]) hx hb dL_areRests_140 hl (by decide) rfl (fun ls hl => ?_)
                        refine lv_iinc (v := nI (q + 1)) (lv' := [(12, .int (nI (q + 1))), (11, .int (nI lo)), (10, .int (bI false)), (7, .long (lN (sm (fun j => rN g n k j * cnt (g j) u k) q + (rN g n k q) * (cnt (g q) u k)))), (13, .int (nI 1)), (0, .ref (b 0)), (1, .ref cc0), (2, .long (lN (sm (rN g n k) u))), (4, .int (nI (nB (lowB g n k) u))), (5, .int (nI 1)), (6, .int (nI u)), (9, .int (nI (rcA g n k u (n - 1))))]) hx hb dL_areRests_142 hl (k := 11) rfl (nI_1 q) (by decide) rfl (fun ls hl => ?_)
                        refine lv_goto (tgt := 46) hx hb dL_areRests_145 (by decide) ?_
                        exact ih46 (by omega) false lo gRs2 fOt1_48 fMi1_49 (by first | exact CLI_a hC1 h95 | exact CLI_t hC1 h95 (fun _ => h111) | exact CLI_t hC1 h95 (fun hb => absurd hb hnb2) | exact CLI_f hyb h111) (by first | exact LOI_yes (by omega) hLo hyb h130 | exact LOI_no hLo (fun _ => h130) | exact LOI_no hLo (fun hb => absurd hb hnb2)) _ _ hP hD hS _ (lv_sub hl [5, 6, 7, 8, 9, 10, 3, 11, 2, 1, 0] rfl)
                      · -- f
                        refine lv_iload hx hb dL_areRests_133 (lv_at hl 11 rfl) ?_
                        refine lv_goto (tgt := 140) hx hb dL_areRests_135 (by decide) ?_
                        refine lv_istore (lv' := [(11, .int (nI q)), (10, .int (bI false)), (7, .long (lN (sm (fun j => rN g n k j * cnt (g j) u k) q + (rN g n k q) * (cnt (g q) u k)))), (13, .int (nI 1)), (0, .ref (b 0)), (1, .ref cc0), (2, .long (lN (sm (rN g n k) u))), (4, .int (nI (nB (lowB g n k) u))), (5, .int (nI 1)), (6, .int (nI u)), (9, .int (nI (rcA g n k u (n - 1)))), (12, .int (nI q))]) hx hb dL_areRests_140 hl (by decide) rfl (fun ls hl => ?_)
                        refine lv_iinc (v := nI (q + 1)) (lv' := [(12, .int (nI (q + 1))), (11, .int (nI q)), (10, .int (bI false)), (7, .long (lN (sm (fun j => rN g n k j * cnt (g j) u k) q + (rN g n k q) * (cnt (g q) u k)))), (13, .int (nI 1)), (0, .ref (b 0)), (1, .ref cc0), (2, .long (lN (sm (rN g n k) u))), (4, .int (nI (nB (lowB g n k) u))), (5, .int (nI 1)), (6, .int (nI u)), (9, .int (nI (rcA g n k u (n - 1))))]) hx hb dL_areRests_142 hl (k := 11) rfl (nI_1 q) (by decide) rfl (fun ls hl => ?_)
                        refine lv_goto (tgt := 46) hx hb dL_areRests_145 (by decide) ?_
                        exact ih46 (by omega) false q gRs2 fOt1_48 fMi1_49 (by first | exact CLI_a hC1 h95 | exact CLI_t hC1 h95 (fun _ => h111) | exact CLI_t hC1 h95 (fun hb => absurd hb hnb2) | exact CLI_f hyb h111) (by first | exact LOI_yes (by omega) hLo hyb h130 | exact LOI_no hLo (fun _ => h130) | exact LOI_no hLo (fun hb => absurd hb hnb2)) _ _ hP hD hS _ (lv_sub hl [5, 6, 7, 8, 9, 10, 3, 11, 2, 1, 0] rfl)
                  · -- f
                    refine lv_iconst (v := nI 1) hx hb dL_areRests_114 (by decide) ?_
                    refine eqi (x' := bI true) (rfl) ?_
                    refine lv_goto (tgt := 119) hx hb dL_areRests_115 (by decide) ?_
                    refine lv_istore (lv' := [(10, .int (bI true)), (7, .long (lN (sm (fun j => rN g n k j * cnt (g j) u k) q + (rN g n k q) * (cnt (g q) u k)))), (13, .int (nI 1)), (0, .ref (b 0)), (1, .ref cc0), (2, .long (lN (sm (rN g n k) u))), (4, .int (nI (nB (lowB g n k) u))), (5, .int (nI 1)), (6, .int (nI u)), (9, .int (nI (rcA g n k u (n - 1)))), (11, .int (nI lo)), (12, .int (nI q))]) hx hb dL_areRests_119 hl (by decide) rfl (fun ls hl => ?_)
                    refine lv_iload hx hb dL_areRests_121 (lv_at hl 2 rfl) ?_
                    refine n_if_eq (tgt := 138) hx hb dL_areRests_123 (by decide) (by omega) (fun h123 => ?_) (fun h123 => ?_)
                    · -- t
                      exact absurd h123 (by decide)
                    · -- f
                      have hlon := hLo.1
                      refine lv_iload hx hb dL_areRests_126 (lv_at hl 11 rfl) ?_
                      refine lv_iload hx hb dL_areRests_128 (lv_at hl 10 rfl) ?_
                      refine n_icmp_ge (tgt := 138) hx hb dL_areRests_130 (by decide) (by omega) (by omega) (fun h130 => ?_) (fun h130 => ?_)
                      · -- t
                        refine lv_iload hx hb dL_areRests_138 (lv_at hl 10 rfl) ?_
                        refine lv_istore (lv' := [(11, .int (nI lo)), (10, .int (bI true)), (7, .long (lN (sm (fun j => rN g n k j * cnt (g j) u k) q + (rN g n k q) * (cnt (g q) u k)))), (13, .int (nI 1)), (0, .ref (b 0)), (1, .ref cc0), (2, .long (lN (sm (rN g n k) u))), (4, .int (nI (nB (lowB g n k) u))), (5, .int (nI 1)), (6, .int (nI u)), (9, .int (nI (rcA g n k u (n - 1)))), (12, .int (nI q))]) hx hb dL_areRests_140 hl (by decide) rfl (fun ls hl => ?_)
                        refine lv_iinc (v := nI (q + 1)) (lv' := [(12, .int (nI (q + 1))), (11, .int (nI lo)), (10, .int (bI true)), (7, .long (lN (sm (fun j => rN g n k j * cnt (g j) u k) q + (rN g n k q) * (cnt (g q) u k)))), (13, .int (nI 1)), (0, .ref (b 0)), (1, .ref cc0), (2, .long (lN (sm (rN g n k) u))), (4, .int (nI (nB (lowB g n k) u))), (5, .int (nI 1)), (6, .int (nI u)), (9, .int (nI (rcA g n k u (n - 1))))]) hx hb dL_areRests_142 hl (k := 11) rfl (nI_1 q) (by decide) rfl (fun ls hl => ?_)
                        refine lv_goto (tgt := 46) hx hb dL_areRests_145 (by decide) ?_
                        exact ih46 (by omega) true lo gRs2 fOt1_48 fMi1_49 (by first | exact CLI_a hC1 h95 | exact CLI_t hC1 h95 (fun _ => h111) | exact CLI_t hC1 h95 (fun hb => absurd hb hnb2) | exact CLI_f hyb h111) (by first | exact LOI_yes (by omega) hLo hyb h130 | exact LOI_no hLo (fun _ => h130) | exact LOI_no hLo (fun hb => absurd hb hnb2)) _ _ hP hD hS _ (lv_sub hl [5, 6, 7, 8, 9, 10, 3, 11, 2, 1, 0] rfl)
                      · -- f
                        refine lv_iload hx hb dL_areRests_133 (lv_at hl 11 rfl) ?_
                        refine lv_goto (tgt := 140) hx hb dL_areRests_135 (by decide) ?_
                        refine lv_istore (lv' := [(11, .int (nI q)), (10, .int (bI true)), (7, .long (lN (sm (fun j => rN g n k j * cnt (g j) u k) q + (rN g n k q) * (cnt (g q) u k)))), (13, .int (nI 1)), (0, .ref (b 0)), (1, .ref cc0), (2, .long (lN (sm (rN g n k) u))), (4, .int (nI (nB (lowB g n k) u))), (5, .int (nI 1)), (6, .int (nI u)), (9, .int (nI (rcA g n k u (n - 1)))), (12, .int (nI q))]) hx hb dL_areRests_140 hl (by decide) rfl (fun ls hl => ?_)
                        refine lv_iinc (v := nI (q + 1)) (lv' := [(12, .int (nI (q + 1))), (11, .int (nI q)), (10, .int (bI true)), (7, .long (lN (sm (fun j => rN g n k j * cnt (g j) u k) q + (rN g n k q) * (cnt (g q) u k)))), (13, .int (nI 1)), (0, .ref (b 0)), (1, .ref cc0), (2, .long (lN (sm (rN g n k) u))), (4, .int (nI (nB (lowB g n k) u))), (5, .int (nI 1)), (6, .int (nI u)), (9, .int (nI (rcA g n k u (n - 1))))]) hx hb dL_areRests_142 hl (k := 11) rfl (nI_1 q) (by decide) rfl (fun ls hl => ?_)
                        refine lv_goto (tgt := 46) hx hb dL_areRests_145 (by decide) ?_
                        exact ih46 (by omega) true q gRs2 fOt1_48 fMi1_49 (by first | exact CLI_a hC1 h95 | exact CLI_t hC1 h95 (fun _ => h111) | exact CLI_t hC1 h95 (fun hb => absurd hb hnb2) | exact CLI_f hyb h111) (by first | exact LOI_yes (by omega) hLo hyb h130 | exact LOI_no hLo (fun _ => h130) | exact LOI_no hLo (fun hb => absurd hb hnb2)) _ _ hP hD hS _ (lv_sub hl [5, 6, 7, 8, 9, 10, 3, 11, 2, 1, 0] rfl)
        exact L46 0 (by omega) true n gRs1 gOt1 gMi1 CLI_0 LOI_0 _ _ hP hD hS _ (lv_sub hl [5, 6, 7, 8, 9, 10, 4, 3, 2, 1, 0] rfl)
  exact L11 0 (by omega) fRs fOt fMi  _ _ hP hD hS _ (lv_sub hl [4, 5, 3, 2, 1, 0] rfl)

