set_option maxHeartbeats 4000000 in
set_option maxRecDepth 100000 in
theorem c_L_areGames (l : Launch) (D : va_G) (cY : Nat → ClassId) (sz : Nat) (b : Nat → Nat) (rr : Nat → Nat → Nat) (n : Nat) (k : Nat) (fW : Nat → Nat → Int32) (fPy : Nat → Int32) (fB : Nat → Nat → Int64) (g : Nat → Nat → Nat) (cc0 : Nat) (fc : Nat → Int32) (ll0 : Nat) (fl : Nat → Int32) (pp0 : Nat) (fp : Nat → Int32) (x : Nat) (hn1 : 1 ≤ n) (hn6 : n ≤ 6) (hk1 : 1 ≤ k) (hk12 : k ≤ 12) (hcn : fc 0 = nI n) (hck : fc 1 = nI k) (hgn : ∀ i j, i < n → j < k → g i j < n) (hW : ∀ i j, i < n → j < n → fW i j = nI (cnt (g i) j k)) (hk10 : k ≤ 10) (hL : LL n k g fl) (hPy : ∀ q, q < 6 → fPy q = fp q ∧ inR (fp q) (-100000) (nI 100000) = true) (hx30 : x < 1073741824) : Met l yL_areGames wsL_areGames ({ frames := 6, cells := 0, slots := 0, locals := 240 }) (cP D cY [.ref (b 0), .int (nI x), .ref cc0, .ref ll0, .ref pp0] [hO b, cO b (nI n) (nI k), gO b, oQ (cY 2) (b 3) (rr 1) 6, gI (cY 0) (rr 1) 6 fW 6, [(b 19, .inl (cY 0, 6, .inl fPy))], oQ (cY 3) (b 20) (rr 6) 13, gJ (cY 1) (rr 6) 6 fB 13, [(cc0, .inl (cY 0, 2, .inl fc))], [(ll0, .inl (cY 0, 60, .inl fl))], [(pp0, .inl (cY 0, 12, .inl fp))]] sz) (qI (S := (Nat → Nat → Int64)) D cY (fun r uu => r = bI true) (fun uu => [hO b, cO b (nI n) (nI k), gO b, oQ (cY 2) (b 3) (rr 1) 6, gI (cY 0) (rr 1) 6 fW 6, [(b 19, .inl (cY 0, 6, .inl fPy))], oQ (cY 3) (b 20) (rr 6) 13, gJ (cY 1) (rr 6) 6 uu 13, [(cc0, .inl (cY 0, 2, .inl fc))], [(ll0, .inl (cY 0, 60, .inl fl))], [(pp0, .inl (cY 0, 12, .inl fp))]]) (va_A ([hO b, cO b (nI n) (nI k), gO b, oQ (cY 2) (b 3) (rr 1) 6, gI (cY 0) (rr 1) 6 fW 6, [(b 19, .inl (cY 0, 6, .inl fPy))], oQ (cY 3) (b 20) (rr 6) 13, gJ (cY 1) (rr 6) 6 fB 13, [(cc0, .inl (cY 0, 2, .inl fc))], [(ll0, .inl (cY 0, 60, .inl fl))], [(pp0, .inl (cY 0, 12, .inl fp))]] : List va_W).flatten sz)) 0 0 (va_A ([hO b, cO b (nI n) (nI k), gO b, oQ (cY 2) (b 3) (rr 1) 6, gI (cY 0) (rr 1) 6 fW 6, [(b 19, .inl (cY 0, 6, .inl fPy))], oQ (cY 3) (b 20) (rr 6) 13, gJ (cY 1) (rr 6) 6 fB 13, [(cc0, .inl (cY 0, 2, .inl fc))], [(ll0, .inl (cY 0, 60, .inl fl))], [(pp0, .inl (cY 0, 12, .inl fp))]] : List va_W).flatten sz) := by
  refine mtB (Qc := fun A => qI (S := (Nat → Nat → Int64)) D cY (fun r uu => r = bI true) (fun uu => [hO b, cO b (nI n) (nI k), gO b, oQ (cY 2) (b 3) (rr 1) 6, gI (cY 0) (rr 1) 6 fW 6, [(b 19, .inl (cY 0, 6, .inl fPy))], oQ (cY 3) (b 20) (rr 6) 13, gJ (cY 1) (rr 6) 6 uu 13, [(cc0, .inl (cY 0, 2, .inl fc))], [(ll0, .inl (cY 0, 60, .inl fl))], [(pp0, .inl (cY 0, 12, .inl fp))]]) A) (cc := cL_areGames) (maxL := 16) (ret := (some .boolean)) (by decide) rfl (Nat.le_of_ble_eq_true rfl) ?_
  intro p e s m below meth c A ls hx hb hr hml hts hown hlocks hnm hsz hP hK hVK hD hS hA hl
  have hown : s.vm.findClass RL = some m.cls := hown
  have hl : lv_has ls 16 [(0, .ref (b 0)), (1, .int (nI x)), (2, .ref cc0), (3, .ref ll0), (4, .ref pp0)] := hl
  have hP : va_P D vwCl ([hO b, cO b (nI n) (nI k), gO b, oQ (cY 2) (b 3) (rr 1) 6, gI (cY 0) (rr 1) 6 fW 6, [(b 19, .inl (cY 0, 6, .inl fPy))], oQ (cY 3) (b 20) (rr 6) 13, gJ (cY 1) (rr 6) 6 fB 13, [(cc0, .inl (cY 0, 2, .inl fc))], [(ll0, .inl (cY 0, 60, .inl fl))], [(pp0, .inl (cY 0, 12, .inl fp))]] : List va_W).flatten s.heap := hP
  have hD : va_D A ([hO b, cO b (nI n) (nI k), gO b, oQ (cY 2) (b 3) (rr 1) 6, gI (cY 0) (rr 1) 6 fW 6, [(b 19, .inl (cY 0, 6, .inl fPy))], oQ (cY 3) (b 20) (rr 6) 13, gJ (cY 1) (rr 6) 6 fB 13, [(cc0, .inl (cY 0, 2, .inl fc))], [(ll0, .inl (cY 0, 60, .inl fl))], [(pp0, .inl (cY 0, 12, .inl fp))]] : List va_W).flatten := hD
  have hin : ∀ q, q < n → inR (fPy q) (-100000) (nI 100000) = true := fun q hq => by rw [(hPy q (by omega)).1]; exact (hPy q (by omega)).2
  refine lv_iload_n hx hb dL_areGames_0 rfl (lv_at hl 1 rfl) ?_
  refine lv_aload_n hx hb dL_areGames_1 rfl (lv_at hl 2 rfl) ?_
  refine lv_iconst (v := nI 0) hx hb dL_areGames_2 (by decide) ?_
  refine b_iald hx hb hK hP 8 0 rfl rfl (by omega) (by decide) dL_areGames_3 ?_
  refine eqi (x' := nI n) (hcn) ?_
  refine lv_irem hx hb dL_areGames_4 (nI_ne0 (by omega) (by omega)) ?_
  refine eqi (x' := nI (x % n)) (pk_rem (by omega) (by omega) (by omega)) ?_
  obtain ⟨i0, ei0⟩ : ∃ q, q = x % n := ⟨_, rfl⟩
  have hi0 : i0 < n := by rw [ei0]; exact Nat.mod_lt _ (by omega)
  refine eqi (x' := nI i0) (congrArg nI ei0.symm) ?_
  refine lv_istore (lv' := [(5, .int (nI i0)), (0, .ref (b 0)), (1, .int (nI x)), (2, .ref cc0), (3, .ref ll0), (4, .ref pp0)]) hx hb dL_areGames_5 hl (by decide) rfl (fun ls hl => ?_)
  refine lv_iload_n hx hb dL_areGames_7 rfl (lv_at hl 2 rfl) ?_
  refine lv_bipush (v := nI 6) hx hb dL_areGames_8 (by decide) ?_
  refine lv_idiv hx hb dL_areGames_10 (nI_ne0 (by omega) (by omega)) ?_
  refine eqi (x' := nI (x / 6)) (pk_div (by omega) (by omega) (by omega)) ?_
  refine lv_bipush (v := nI 12) hx hb dL_areGames_11 (by decide) ?_
  refine lv_irem hx hb dL_areGames_13 (nI_ne0 (by omega) (by omega)) ?_
  refine eqi (x' := nI ((x / 6) % 12)) (pk_rem (by omega) (by omega) (by omega)) ?_
  obtain ⟨t0, et0⟩ : ∃ q, q = x / 6 % 12 := ⟨_, rfl⟩
  have ht0 : t0 < 12 := by omega
  refine eqi (x' := nI t0) (congrArg nI et0.symm) ?_
  refine lv_istore (lv' := [(6, .int (nI t0)), (5, .int (nI i0)), (0, .ref (b 0)), (1, .int (nI x)), (2, .ref cc0), (3, .ref ll0), (4, .ref pp0)]) hx hb dL_areGames_14 hl (by decide) rfl (fun ls hl => ?_)
  refine lv_lconst (v := lN 0) hx hb dL_areGames_16 (by decide) ?_
  refine lv_lstore (lv' := [(7, .long (lN 0)), (6, .int (nI t0)), (5, .int (nI i0)), (0, .ref (b 0)), (1, .int (nI x)), (2, .ref cc0), (3, .ref ll0), (4, .ref pp0)]) hx hb dL_areGames_17 hl (by decide) rfl (fun ls hl => ?_)
  refine lv_ldc2 (v := (-100000)) hx hb hown (hts (.constantLong RL 70 (-100000)) (by decide +kernel)) dL_areGames_19 ?_
  refine lv_lstore (lv' := [(9, .long (-100000)), (7, .long (lN 0)), (6, .int (nI t0)), (5, .int (nI i0)), (0, .ref (b 0)), (1, .int (nI x)), (2, .ref cc0), (3, .ref ll0), (4, .ref pp0)]) hx hb dL_areGames_22 hl (by decide) rfl (fun ls hl => ?_)
  refine lv_iconst (v := nI 1) hx hb dL_areGames_24 (by decide) ?_
  refine eqi (x' := bI (allB (fun q => decide (DV fPy g k q = lN 0)) 0)) (rfl) ?_
  refine lv_istore (lv' := [(11, .int (bI (allB (fun q => decide (DV fPy g k q = lN 0)) 0))), (9, .long (-100000)), (7, .long (lN 0)), (6, .int (nI t0)), (5, .int (nI i0)), (0, .ref (b 0)), (1, .int (nI x)), (2, .ref cc0), (3, .ref ll0), (4, .ref pp0)]) hx hb dL_areGames_25 hl (by decide) rfl (fun ls hl => ?_)
  refine lv_iconst (v := nI 0) hx hb dL_areGames_27 (by decide) ?_
  refine lv_istore (lv' := [(12, .int (nI 0)), (11, .int (bI (allB (fun q => decide (DV fPy g k q = lN 0)) 0))), (9, .long (-100000)), (7, .long (lN 0)), (6, .int (nI t0)), (5, .int (nI i0)), (0, .ref (b 0)), (1, .int (nI x)), (2, .ref cc0), (3, .ref ll0), (4, .ref pp0)]) hx hb dL_areGames_28 hl (by decide) rfl (fun ls hl => ?_)
  have L30 : ∀ q : Nat, q ≤ k → ∀ (gB : Nat → Nat → Int64), ∀ (H : Heap) (locs : List Loc), va_P D vwCl ([hO b, cO b (nI n) (nI k), gO b, oQ (cY 2) (b 3) (rr 1) 6, gI (cY 0) (rr 1) 6 fW 6, [(b 19, .inl (cY 0, 6, .inl fPy))], oQ (cY 3) (b 20) (rr 6) 13, gJ (cY 1) (rr 6) 6 gB 13, [(cc0, .inl (cY 0, 2, .inl fc))], [(ll0, .inl (cY 0, 60, .inl fl))], [(pp0, .inl (cY 0, 12, .inl fp))]] : List va_W).flatten H → va_D A ([hO b, cO b (nI n) (nI k), gO b, oQ (cY 2) (b 3) (rr 1) 6, gI (cY 0) (rr 1) 6 fW 6, [(b 19, .inl (cY 0, 6, .inl fPy))], oQ (cY 3) (b 20) (rr 6) 13, gJ (cY 1) (rr 6) 6 gB 13, [(cc0, .inl (cY 0, 2, .inl fc))], [(ll0, .inl (cY 0, 60, .inl fl))], [(pp0, .inl (cY 0, 12, .inl fp))]] : List va_W).flatten → va_S A s.heap H locs → ∀ (ls : Array Slot), lv_has ls 16 [(0, .ref (b 0)), (1, .int (nI x)), (2, .ref cc0), (3, .ref ll0), (4, .ref pp0), (5, .int (nI i0)), (6, .int (nI t0)), (7, .long (sumL (fun s => BC fPy g n k t0 (g i0 s)) q)), (9, .long (-100000)), (11, .int (bI (allB (fun q => decide (DV fPy g k q = lN 0)) 0))), (12, .int (nI q))] → W p l e ({ frames := 6, cells := 0, slots := 0, locals := 240 }) s m ([.ref (b 0), .int (nI x), .ref cc0, .ref ll0, .ref pp0] : List Value).toArray below meth c H locs 0 0 (MQ below (qI (S := (Nat → Nat → Int64)) D cY (fun r uu => r = bI true) (fun uu => [hO b, cO b (nI n) (nI k), gO b, oQ (cY 2) (b 3) (rr 1) 6, gI (cY 0) (rr 1) 6 fW 6, [(b 19, .inl (cY 0, 6, .inl fPy))], oQ (cY 3) (b 20) (rr 6) 13, gJ (cY 1) (rr 6) 6 uu 13, [(cc0, .inl (cY 0, 2, .inl fc))], [(ll0, .inl (cY 0, 60, .inl fl))], [(pp0, .inl (cY 0, 12, .inl fp))]]) A) ([.ref (b 0), .int (nI x), .ref cc0, .ref ll0, .ref pp0] : List Value).toArray s 0 0 A) (F0 m 30 ls []) := by
    refine lpW k ?_
    intro q bdq ih30 gB  H locs hP hD hS ls hl
    refine lv_iload hx hb dL_areGames_30 (lv_at hl 10 rfl) ?_
    refine lv_aload_n hx hb dL_areGames_32 rfl (lv_at hl 2 rfl) ?_
    refine lv_iconst (v := nI 1) hx hb dL_areGames_33 (by decide) ?_
    refine b_iald hx hb hK hP 8 0 rfl rfl (by omega) (by decide) dL_areGames_34 ?_
    refine eqi (x' := nI k) (hck) ?_
    refine n_icmp_ge (tgt := 65) hx hb dL_areGames_35 (by decide) (by omega) (by omega) (fun h35 => ?_) (fun h35 => ?_)
    · -- t
      refine lv_iconst (v := nI 0) hx hb dL_areGames_65 (by decide) ?_
      refine lv_istore (lv' := [(12, .int (nI 0)), (0, .ref (b 0)), (1, .int (nI x)), (2, .ref cc0), (3, .ref ll0), (4, .ref pp0), (5, .int (nI i0)), (6, .int (nI t0)), (7, .long (sumL (fun s => BC fPy g n k t0 (g i0 s)) q)), (9, .long (-100000)), (11, .int (bI (allB (fun q => decide (DV fPy g k q = lN 0)) 0)))]) hx hb dL_areGames_66 hl (by decide) rfl (fun ls hl => ?_)
      have L68 : ∀ u : Nat, u ≤ n → ∀ (mo : Int64), (MOI fPy mo u) → ∀ (H : Heap) (locs : List Loc), va_P D vwCl ([hO b, cO b (nI n) (nI k), gO b, oQ (cY 2) (b 3) (rr 1) 6, gI (cY 0) (rr 1) 6 fW 6, [(b 19, .inl (cY 0, 6, .inl fPy))], oQ (cY 3) (b 20) (rr 6) 13, gJ (cY 1) (rr 6) 6 gB 13, [(cc0, .inl (cY 0, 2, .inl fc))], [(ll0, .inl (cY 0, 60, .inl fl))], [(pp0, .inl (cY 0, 12, .inl fp))]] : List va_W).flatten H → va_D A ([hO b, cO b (nI n) (nI k), gO b, oQ (cY 2) (b 3) (rr 1) 6, gI (cY 0) (rr 1) 6 fW 6, [(b 19, .inl (cY 0, 6, .inl fPy))], oQ (cY 3) (b 20) (rr 6) 13, gJ (cY 1) (rr 6) 6 gB 13, [(cc0, .inl (cY 0, 2, .inl fc))], [(ll0, .inl (cY 0, 60, .inl fl))], [(pp0, .inl (cY 0, 12, .inl fp))]] : List va_W).flatten → va_S A s.heap H locs → ∀ (ls : Array Slot), lv_has ls 16 [(0, .ref (b 0)), (1, .int (nI x)), (2, .ref cc0), (3, .ref ll0), (4, .ref pp0), (5, .int (nI i0)), (6, .int (nI t0)), (7, .long (sumL (fun s => BC fPy g n k t0 (g i0 s)) q)), (9, .long mo), (11, .int (bI (allB (fun q => decide (DV fPy g k q = lN 0)) u))), (12, .int (nI u))] → W p l e ({ frames := 6, cells := 0, slots := 0, locals := 240 }) s m ([.ref (b 0), .int (nI x), .ref cc0, .ref ll0, .ref pp0] : List Value).toArray below meth c H locs 0 0 (MQ below (qI (S := (Nat → Nat → Int64)) D cY (fun r uu => r = bI true) (fun uu => [hO b, cO b (nI n) (nI k), gO b, oQ (cY 2) (b 3) (rr 1) 6, gI (cY 0) (rr 1) 6 fW 6, [(b 19, .inl (cY 0, 6, .inl fPy))], oQ (cY 3) (b 20) (rr 6) 13, gJ (cY 1) (rr 6) 6 uu 13, [(cc0, .inl (cY 0, 2, .inl fc))], [(ll0, .inl (cY 0, 60, .inl fl))], [(pp0, .inl (cY 0, 12, .inl fp))]]) A) ([.ref (b 0), .int (nI x), .ref cc0, .ref ll0, .ref pp0] : List Value).toArray s 0 0 A) (F0 m 68 ls []) := by
        refine lpW n ?_
        intro u bdu ih68 mo hmo H locs hP hD hS ls hl
        refine lv_iload hx hb dL_areGames_68 (lv_at hl 10 rfl) ?_
        refine lv_aload_n hx hb dL_areGames_70 rfl (lv_at hl 2 rfl) ?_
        refine lv_iconst (v := nI 0) hx hb dL_areGames_71 (by decide) ?_
        refine b_iald hx hb hK hP 8 0 rfl rfl (by omega) (by decide) dL_areGames_72 ?_
        refine eqi (x' := nI n) (hcn) ?_
        refine n_icmp_ge (tgt := 185) hx hb dL_areGames_73 (by decide) (by omega) (by omega) (fun h73 => ?_) (fun h73 => ?_)
        · -- t
          refine lv_aload hx hb dL_areGames_185 (lv_at hl 4 rfl) ?_
          refine lv_iload hx hb dL_areGames_187 (lv_at hl 5 rfl) ?_
          refine b_iald hx hb hK hP 10 0 rfl rfl (by omega) (by decide) dL_areGames_189 ?_
          refine eqi (x' := fPy i0) ((hPy _ (by omega)).1.symm) ?_
          refine lv_i2l (v := ((fPy i0)).toInt64) hx hb dL_areGames_190 rfl ?_
          refine lv_aload_n hx hb dL_areGames_191 rfl (lv_at hl 0 rfl) ?_
          refine lv_iload hx hb dL_areGames_192 (lv_at hl 6 rfl) ?_
          refine lv_iconst (v := nI 1) hx hb dL_areGames_194 (by decide) ?_
          refine lv_iadd hx hb dL_areGames_195 ?_
          refine eqi (x' := nI (t0 + 1)) (nI_add _ _) ?_
          refine ca_l (CL := [hO b, cO b (nI n) (nI k)]) (va_runV (As := [.int (nI (t0 + 1))]) (rest := [.long (((fPy i0)).toInt64)]) ⟨hx, hb, hml, hown, hts⟩ (c_X8_words_ok l D cY H.size b n k g (t0 + 1) (by omega) (by omega) (by omega) (by omega) (by omega)) (cwV 1 hts gL_areGames_X8_words rfl rfl rfl (by decide +kernel) ⟨Nat.le_of_ble_eq_true rfl, Nat.le_of_ble_eq_true rfl⟩) (b_preV hVK hP hD [0, 1] rfl rfl 0 rfl rfl) rfl rfl hl.1 rfl (lv_room (Nat.le_of_ble_eq_true rfl)) dL_areGames_196 ⟨Nat.le_refl _, Nat.le_refl _⟩) hP hD hS hA [0, 1] rfl rfl (fun _ => rfl) (fun r196 uu H locs hq hP hD hS => ?_)
          subst hq
          have hP : va_P D vwCl ([hO b, cO b (nI n) (nI k), gO b, oQ (cY 2) (b 3) (rr 1) 6, gI (cY 0) (rr 1) 6 fW 6, [(b 19, .inl (cY 0, 6, .inl fPy))], oQ (cY 3) (b 20) (rr 6) 13, gJ (cY 1) (rr 6) 6 gB 13, [(cc0, .inl (cY 0, 2, .inl fc))], [(ll0, .inl (cY 0, 60, .inl fl))], [(pp0, .inl (cY 0, 12, .inl fp))]] : List va_W).flatten H := hP
          have hD : va_D A ([hO b, cO b (nI n) (nI k), gO b, oQ (cY 2) (b 3) (rr 1) 6, gI (cY 0) (rr 1) 6 fW 6, [(b 19, .inl (cY 0, 6, .inl fPy))], oQ (cY 3) (b 20) (rr 6) 13, gJ (cY 1) (rr 6) 6 gB 13, [(cc0, .inl (cY 0, 2, .inl fc))], [(ll0, .inl (cY 0, 60, .inl fl))], [(pp0, .inl (cY 0, 12, .inl fp))]] : List va_W).flatten := hD
          refine lv_lmul hx hb dL_areGames_199 ?_
          refine eql (x' := stV fPy k (t0 + 1) i0) (rfl) ?_
          refine lv_lstore (lv' := [(12, .long (stV fPy k (t0 + 1) i0)), (0, .ref (b 0)), (1, .int (nI x)), (2, .ref cc0), (3, .ref ll0), (4, .ref pp0), (5, .int (nI i0)), (6, .int (nI t0)), (7, .long (sumL (fun s => BC fPy g n k t0 (g i0 s)) q)), (9, .long mo), (11, .int (bI (allB (fun q => decide (DV fPy g k q = lN 0)) u)))]) hx hb dL_areGames_200 hl (by decide) rfl (fun ls hl => ?_)
          have hSu : sumL (fun s => BC fPy g n k t0 (g i0 s)) q = sumL (fun j => lN (cnt (g i0) j k) * BC fPy g n k t0 j) n := by
            have e : q = k := by omega
            rw [e]
            exact sumL_via (f := fun d => BC fPy g n k t0 d) (fun s hs => hgn i0 s (by omega) hs)
          refine lv_aload_n hx hb dL_areGames_202 rfl (lv_at hl 1 rfl) ?_
          refine lv_iload hx hb dL_areGames_203 (lv_at hl 6 rfl) ?_
          refine lv_iconst (v := nI 0) hx hb dL_areGames_205 (by decide) ?_
          refine ca_l (CL := [hO b, cO b (nI n) (nI k), gO b, oQ (cY 2) (b 3) (rr 1) 6, gI (cY 0) (rr 1) 6 fW 6, [(b 19, .inl (cY 0, 6, .inl fPy))], oQ (cY 3) (b 20) (rr 6) 13, gJ (cY 1) (rr 6) 6 gB 13]) (va_runV (As := [.int (nI i0), .int (nI 0)]) (rest := []) ⟨hx, hb, hml, hown, hts⟩ (c_X8_best_ok l D cY H.size b rr n k fW fPy gB g i0 0 (by omega) (by omega) (by omega) (by omega) hW (by omega) (by omega)) (cwV 2 hts gL_areGames_X8_best rfl rfl rfl (by decide +kernel) ⟨Nat.le_of_ble_eq_true rfl, Nat.le_of_ble_eq_true rfl⟩) (b_preV hVK hP hD [0, 1, 2, 3, 4, 5, 6, 7] rfl rfl 0 rfl rfl) rfl rfl hl.1 rfl (lv_room (Nat.le_of_ble_eq_true rfl)) dL_areGames_206 ⟨Nat.le_refl _, Nat.le_refl _⟩) hP hD hS hA [0, 1, 2, 3, 4, 5, 6, 7] rfl rfl (fun _ => rfl) (fun r206 uu H locs hq hP hD hS => ?_)
          obtain ⟨fB1_1, rfl⟩ : ∃ z, z = uu := ⟨_, rfl⟩
          try dsimp only at hq
          subst hq
          have hP : va_P D vwCl ([hO b, cO b (nI n) (nI k), gO b, oQ (cY 2) (b 3) (rr 1) 6, gI (cY 0) (rr 1) 6 fW 6, [(b 19, .inl (cY 0, 6, .inl fPy))], oQ (cY 3) (b 20) (rr 6) 13, gJ (cY 1) (rr 6) 6 fB1_1 13, [(cc0, .inl (cY 0, 2, .inl fc))], [(ll0, .inl (cY 0, 60, .inl fl))], [(pp0, .inl (cY 0, 12, .inl fp))]] : List va_W).flatten H := hP
          have hD : va_D A ([hO b, cO b (nI n) (nI k), gO b, oQ (cY 2) (b 3) (rr 1) 6, gI (cY 0) (rr 1) 6 fW 6, [(b 19, .inl (cY 0, 6, .inl fPy))], oQ (cY 3) (b 20) (rr 6) 13, gJ (cY 1) (rr 6) 6 fB1_1 13, [(cc0, .inl (cY 0, 2, .inl fc))], [(ll0, .inl (cY 0, 60, .inl fl))], [(pp0, .inl (cY 0, 12, .inl fp))]] : List va_W).flatten := hD
          refine eql (x' := (fPy i0).toInt64) (stV_0) ?_
          refine lv_aload hx hb dL_areGames_209 (lv_at hl 5 rfl) ?_
          refine lv_iload hx hb dL_areGames_211 (lv_at hl 6 rfl) ?_
          refine b_iald hx hb hK hP 10 0 rfl rfl (by omega) (by decide) dL_areGames_213 ?_
          refine eqi (x' := fPy i0) ((hPy _ (by omega)).1.symm) ?_
          refine lv_i2l (v := ((fPy i0)).toInt64) hx hb dL_areGames_214 rfl ?_
          refine W.lcmp hx hb dL_areGames_215 ?_
          refine l_if_ne (tgt := 313) hx hb dL_areGames_216 (by decide) (fun h216 => ?_) (fun h216 => ?_)
          · -- t
            exact absurd rfl h216
          · -- f
            refine lv_aload_n hx hb dL_areGames_219 rfl (lv_at hl 1 rfl) ?_
            refine lv_iload hx hb dL_areGames_220 (lv_at hl 6 rfl) ?_
            refine lv_iconst (v := nI 0) hx hb dL_areGames_222 (by decide) ?_
            refine ca_i (CL := [hO b, cO b (nI n) (nI k), gO b, oQ (cY 2) (b 3) (rr 1) 6, gI (cY 0) (rr 1) 6 fW 6, [(b 19, .inl (cY 0, 6, .inl fPy))], oQ (cY 3) (b 20) (rr 6) 13, gJ (cY 1) (rr 6) 6 fB1_1 13]) (va_runV (As := [.int (nI i0), .int (nI 0)]) (rest := []) ⟨hx, hb, hml, hown, hts⟩ (c_X8_stops_ok l D cY H.size b rr n k fW fPy fB1_1 g i0 0 (by omega) (by omega) (by omega) (by omega) hW (by omega) (by omega)) (cwV 2 hts gL_areGames_X8_stops rfl rfl rfl (by decide +kernel) ⟨Nat.le_of_ble_eq_true rfl, Nat.le_of_ble_eq_true rfl⟩) (b_preV hVK hP hD [0, 1, 2, 3, 4, 5, 6, 7] rfl rfl 0 rfl rfl) rfl rfl hl.1 rfl (lv_room (Nat.le_of_ble_eq_true rfl)) dL_areGames_223 ⟨Nat.le_refl _, Nat.le_refl _⟩) hP hD hS hA [0, 1, 2, 3, 4, 5, 6, 7] rfl rfl (fun _ => rfl) (fun r223 uu H locs hq hP hD hS => ?_)
            obtain ⟨fB1_2, rfl⟩ : ∃ z, z = uu := ⟨_, rfl⟩
            try dsimp only at hq
            subst hq
            have hP : va_P D vwCl ([hO b, cO b (nI n) (nI k), gO b, oQ (cY 2) (b 3) (rr 1) 6, gI (cY 0) (rr 1) 6 fW 6, [(b 19, .inl (cY 0, 6, .inl fPy))], oQ (cY 3) (b 20) (rr 6) 13, gJ (cY 1) (rr 6) 6 fB1_2 13, [(cc0, .inl (cY 0, 2, .inl fc))], [(ll0, .inl (cY 0, 60, .inl fl))], [(pp0, .inl (cY 0, 12, .inl fp))]] : List va_W).flatten H := hP
            have hD : va_D A ([hO b, cO b (nI n) (nI k), gO b, oQ (cY 2) (b 3) (rr 1) 6, gI (cY 0) (rr 1) 6 fW 6, [(b 19, .inl (cY 0, 6, .inl fPy))], oQ (cY 3) (b 20) (rr 6) 13, gJ (cY 1) (rr 6) 6 fB1_2 13, [(cc0, .inl (cY 0, 2, .inl fc))], [(ll0, .inl (cY 0, 60, .inl fl))], [(pp0, .inl (cY 0, 12, .inl fp))]] : List va_W).flatten := hD
            refine b_if_eq (tgt := 313) hx hb dL_areGames_226 (by decide) (fun h226 => ?_) (fun h226 => ?_)
            · -- t
              exact absurd (h226.symm.trans st_0) Bool.false_ne_true
            · -- f
              have L258 : ∀ (gB2 : Nat → Nat → Int64), ∀ (H : Heap) (locs : List Loc), va_P D vwCl ([hO b, cO b (nI n) (nI k), gO b, oQ (cY 2) (b 3) (rr 1) 6, gI (cY 0) (rr 1) 6 fW 6, [(b 19, .inl (cY 0, 6, .inl fPy))], oQ (cY 3) (b 20) (rr 6) 13, gJ (cY 1) (rr 6) 6 gB2 13, [(cc0, .inl (cY 0, 2, .inl fc))], [(ll0, .inl (cY 0, 60, .inl fl))], [(pp0, .inl (cY 0, 12, .inl fp))]] : List va_W).flatten H → va_D A ([hO b, cO b (nI n) (nI k), gO b, oQ (cY 2) (b 3) (rr 1) 6, gI (cY 0) (rr 1) 6 fW 6, [(b 19, .inl (cY 0, 6, .inl fPy))], oQ (cY 3) (b 20) (rr 6) 13, gJ (cY 1) (rr 6) 6 gB2 13, [(cc0, .inl (cY 0, 2, .inl fc))], [(ll0, .inl (cY 0, 60, .inl fl))], [(pp0, .inl (cY 0, 12, .inl fp))]] : List va_W).flatten → va_S A s.heap H locs → ∀ (ls : Array Slot), lv_has ls 16 [(0, .ref (b 0)), (1, .int (nI x)), (2, .ref cc0), (3, .ref ll0), (4, .ref pp0), (5, .int (nI i0)), (6, .int (nI t0)), (7, .long (sumL (fun s => BC fPy g n k t0 (g i0 s)) q)), (9, .long mo), (11, .int (bI (allB (fun q => decide (DV fPy g k q = lN 0)) u))), (12, .long (stV fPy k (t0 + 1) i0))] → W p l e ({ frames := 6, cells := 0, slots := 0, locals := 240 }) s m ([.ref (b 0), .int (nI x), .ref cc0, .ref ll0, .ref pp0] : List Value).toArray below meth c H locs 0 0 (MQ below (qI (S := (Nat → Nat → Int64)) D cY (fun r uu => r = bI true) (fun uu => [hO b, cO b (nI n) (nI k), gO b, oQ (cY 2) (b 3) (rr 1) 6, gI (cY 0) (rr 1) 6 fW 6, [(b 19, .inl (cY 0, 6, .inl fPy))], oQ (cY 3) (b 20) (rr 6) 13, gJ (cY 1) (rr 6) 6 uu 13, [(cc0, .inl (cY 0, 2, .inl fc))], [(ll0, .inl (cY 0, 60, .inl fl))], [(pp0, .inl (cY 0, 12, .inl fp))]]) A) ([.ref (b 0), .int (nI x), .ref cc0, .ref ll0, .ref pp0] : List Value).toArray s 0 0 A) (F0 m 258 ls []) := by
                intro gB2  H locs hP hD hS ls hl
                have L284 : ∀ (gB3 : Nat → Nat → Int64), ∀ (H : Heap) (locs : List Loc), va_P D vwCl ([hO b, cO b (nI n) (nI k), gO b, oQ (cY 2) (b 3) (rr 1) 6, gI (cY 0) (rr 1) 6 fW 6, [(b 19, .inl (cY 0, 6, .inl fPy))], oQ (cY 3) (b 20) (rr 6) 13, gJ (cY 1) (rr 6) 6 gB3 13, [(cc0, .inl (cY 0, 2, .inl fc))], [(ll0, .inl (cY 0, 60, .inl fl))], [(pp0, .inl (cY 0, 12, .inl fp))]] : List va_W).flatten H → va_D A ([hO b, cO b (nI n) (nI k), gO b, oQ (cY 2) (b 3) (rr 1) 6, gI (cY 0) (rr 1) 6 fW 6, [(b 19, .inl (cY 0, 6, .inl fPy))], oQ (cY 3) (b 20) (rr 6) 13, gJ (cY 1) (rr 6) 6 gB3 13, [(cc0, .inl (cY 0, 2, .inl fc))], [(ll0, .inl (cY 0, 60, .inl fl))], [(pp0, .inl (cY 0, 12, .inl fp))]] : List va_W).flatten → va_S A s.heap H locs → ∀ (ls : Array Slot), lv_has ls 16 [(0, .ref (b 0)), (1, .int (nI x)), (2, .ref cc0), (3, .ref ll0), (4, .ref pp0), (5, .int (nI i0)), (6, .int (nI t0)), (7, .long (sumL (fun s => BC fPy g n k t0 (g i0 s)) q)), (9, .long mo), (11, .int (bI (allB (fun q => decide (DV fPy g k q = lN 0)) u))), (12, .long (stV fPy k (t0 + 1) i0))] → W p l e ({ frames := 6, cells := 0, slots := 0, locals := 240 }) s m ([.ref (b 0), .int (nI x), .ref cc0, .ref ll0, .ref pp0] : List Value).toArray below meth c H locs 0 0 (MQ below (qI (S := (Nat → Nat → Int64)) D cY (fun r uu => r = bI true) (fun uu => [hO b, cO b (nI n) (nI k), gO b, oQ (cY 2) (b 3) (rr 1) 6, gI (cY 0) (rr 1) 6 fW 6, [(b 19, .inl (cY 0, 6, .inl fPy))], oQ (cY 3) (b 20) (rr 6) 13, gJ (cY 1) (rr 6) 6 uu 13, [(cc0, .inl (cY 0, 2, .inl fc))], [(ll0, .inl (cY 0, 60, .inl fl))], [(pp0, .inl (cY 0, 12, .inl fp))]]) A) ([.ref (b 0), .int (nI x), .ref cc0, .ref ll0, .ref pp0] : List Value).toArray s 0 0 A) (F0 m 284 ls []) := by
                  intro gB3  H locs hP hD hS ls hl
                  refine lv_aload_n hx hb dL_areGames_284 rfl (lv_at hl 0 rfl) ?_
                  refine lv_iload hx hb dL_areGames_285 (lv_at hl 5 rfl) ?_
                  refine lv_iload hx hb dL_areGames_287 (lv_at hl 6 rfl) ?_
                  refine lv_iconst (v := nI 1) hx hb dL_areGames_289 (by decide) ?_
                  refine lv_iadd hx hb dL_areGames_290 ?_
                  refine eqi (x' := nI (t0 + 1)) (nI_add _ _) ?_
                  refine ca_l (CL := [hO b, cO b (nI n) (nI k), gO b, oQ (cY 2) (b 3) (rr 1) 6, gI (cY 0) (rr 1) 6 fW 6, [(b 19, .inl (cY 0, 6, .inl fPy))], oQ (cY 3) (b 20) (rr 6) 13, gJ (cY 1) (rr 6) 6 gB3 13]) (va_runV (As := [.int (nI i0), .int (nI (t0 + 1))]) (rest := []) ⟨hx, hb, hml, hown, hts⟩ (c_X8_best_ok l D cY H.size b rr n k fW fPy gB3 g i0 (t0 + 1) (by omega) (by omega) (by omega) (by omega) hW (by omega) (by omega)) (cwV 2 hts gL_areGames_X8_best rfl rfl rfl (by decide +kernel) ⟨Nat.le_of_ble_eq_true rfl, Nat.le_of_ble_eq_true rfl⟩) (b_preV hVK hP hD [0, 1, 2, 3, 4, 5, 6, 7] rfl rfl 0 rfl rfl) rfl rfl hl.1 rfl (lv_room (Nat.le_of_ble_eq_true rfl)) dL_areGames_291 ⟨Nat.le_refl _, Nat.le_refl _⟩) hP hD hS hA [0, 1, 2, 3, 4, 5, 6, 7] rfl rfl (fun _ => rfl) (fun r291 uu H locs hq hP hD hS => ?_)
                  obtain ⟨fB1_3, rfl⟩ : ∃ z, z = uu := ⟨_, rfl⟩
                  try dsimp only at hq
                  subst hq
                  have hP : va_P D vwCl ([hO b, cO b (nI n) (nI k), gO b, oQ (cY 2) (b 3) (rr 1) 6, gI (cY 0) (rr 1) 6 fW 6, [(b 19, .inl (cY 0, 6, .inl fPy))], oQ (cY 3) (b 20) (rr 6) 13, gJ (cY 1) (rr 6) 6 fB1_3 13, [(cc0, .inl (cY 0, 2, .inl fc))], [(ll0, .inl (cY 0, 60, .inl fl))], [(pp0, .inl (cY 0, 12, .inl fp))]] : List va_W).flatten H := hP
                  have hD : va_D A ([hO b, cO b (nI n) (nI k), gO b, oQ (cY 2) (b 3) (rr 1) 6, gI (cY 0) (rr 1) 6 fW 6, [(b 19, .inl (cY 0, 6, .inl fPy))], oQ (cY 3) (b 20) (rr 6) 13, gJ (cY 1) (rr 6) 6 fB1_3 13, [(cc0, .inl (cY 0, 2, .inl fc))], [(ll0, .inl (cY 0, 60, .inl fl))], [(pp0, .inl (cY 0, 12, .inl fp))]] : List va_W).flatten := hD
                  refine lv_lload hx hb dL_areGames_294 (lv_at hl 8 rfl) ?_
                  refine lv_aload_n hx hb dL_areGames_296 rfl (lv_at hl 0 rfl) ?_
                  refine lv_iload hx hb dL_areGames_297 (lv_at hl 6 rfl) ?_
                  refine lv_iconst (v := nI 1) hx hb dL_areGames_299 (by decide) ?_
                  refine lv_iadd hx hb dL_areGames_300 ?_
                  refine eqi (x' := nI (t0 + 1)) (nI_add _ _) ?_
                  refine ca_l (CL := [hO b, cO b (nI n) (nI k)]) (va_runV (As := [.int (nI (t0 + 1))]) (rest := [.long mo, .long (BC fPy g n k (t0 + 1) i0)]) ⟨hx, hb, hml, hown, hts⟩ (c_X8_words_ok l D cY H.size b n k g (t0 + 1) (by omega) (by omega) (by omega) (by omega) (by omega)) (cwV 1 hts gL_areGames_X8_words rfl rfl rfl (by decide +kernel) ⟨Nat.le_of_ble_eq_true rfl, Nat.le_of_ble_eq_true rfl⟩) (b_preV hVK hP hD [0, 1] rfl rfl 0 rfl rfl) rfl rfl hl.1 rfl (lv_room (Nat.le_of_ble_eq_true rfl)) dL_areGames_301 ⟨Nat.le_refl _, Nat.le_refl _⟩) hP hD hS hA [0, 1] rfl rfl (fun _ => rfl) (fun r301 uu H locs hq hP hD hS => ?_)
                  subst hq
                  have hP : va_P D vwCl ([hO b, cO b (nI n) (nI k), gO b, oQ (cY 2) (b 3) (rr 1) 6, gI (cY 0) (rr 1) 6 fW 6, [(b 19, .inl (cY 0, 6, .inl fPy))], oQ (cY 3) (b 20) (rr 6) 13, gJ (cY 1) (rr 6) 6 fB1_3 13, [(cc0, .inl (cY 0, 2, .inl fc))], [(ll0, .inl (cY 0, 60, .inl fl))], [(pp0, .inl (cY 0, 12, .inl fp))]] : List va_W).flatten H := hP
                  have hD : va_D A ([hO b, cO b (nI n) (nI k), gO b, oQ (cY 2) (b 3) (rr 1) 6, gI (cY 0) (rr 1) 6 fW 6, [(b 19, .inl (cY 0, 6, .inl fPy))], oQ (cY 3) (b 20) (rr 6) 13, gJ (cY 1) (rr 6) 6 fB1_3 13, [(cc0, .inl (cY 0, 2, .inl fc))], [(ll0, .inl (cY 0, 60, .inl fl))], [(pp0, .inl (cY 0, 12, .inl fp))]] : List va_W).flatten := hD
                  refine lv_lmul hx hb dL_areGames_304 ?_
                  refine W.lcmp hx hb dL_areGames_305 ?_
                  refine l_if_gt (tgt := 313) hx hb dL_areGames_306 (by decide) (fun h306 => ?_) (fun h306 => ?_)
                  · -- t
                    have hmo2 := hmo
                    rw [show u = n by omega] at hmo2
                    exact absurd h306 (Int64.not_lt.mpr (bc_le hgn hk1 hk12 hin hmo2 (by omega) (by omega)))
                  · -- f
                    refine lv_iconst (v := nI 1) hx hb dL_areGames_309 (by decide) ?_
                    refine lv_goto (tgt := 314) hx hb dL_areGames_310 (by decide) ?_
                    refine lv_istore (lv' := [(14, .int (nI 1)), (0, .ref (b 0)), (1, .int (nI x)), (2, .ref cc0), (3, .ref ll0), (4, .ref pp0), (5, .int (nI i0)), (6, .int (nI t0)), (7, .long (sumL (fun s => BC fPy g n k t0 (g i0 s)) q)), (9, .long mo), (11, .int (bI (allB (fun q => decide (DV fPy g k q = lN 0)) u))), (12, .long (stV fPy k (t0 + 1) i0))]) hx hb dL_areGames_314 hl (by decide) rfl (fun ls hl => ?_)
                    refine lv_iload hx hb dL_areGames_316 (lv_at hl 0 rfl) ?_
                    refine n_if_eq (tgt := 364) hx hb dL_areGames_318 (by decide) (by omega) (fun h318 => ?_) (fun h318 => ?_)
                    · -- t
                      exact absurd h318 (by decide)
                    · -- f
                      refine lv_aload_n hx hb dL_areGames_321 rfl (lv_at hl 1 rfl) ?_
                      refine ca_i (CL := [hO b, cO b (nI n) (nI k), gO b, oQ (cY 2) (b 3) (rr 1) 6, gI (cY 0) (rr 1) 6 fW 6, [(b 19, .inl (cY 0, 6, .inl fPy))]]) (va_runV (As := []) (rest := []) ⟨hx, hb, hml, hown, hts⟩ (c_X8_isFair_ok l D cY H.size b rr n k fW fPy g (by omega) (by omega) (by omega) (by omega) hW) (cwV 0 hts gL_areGames_X8_isFair rfl rfl rfl (by decide +kernel) ⟨Nat.le_of_ble_eq_true rfl, Nat.le_of_ble_eq_true rfl⟩) (b_preV hVK hP hD [0, 1, 2, 3, 4, 5] rfl rfl 0 rfl rfl) rfl rfl hl.1 rfl (lv_room (Nat.le_of_ble_eq_true rfl)) dL_areGames_322 ⟨Nat.le_refl _, Nat.le_refl _⟩) hP hD hS hA [0, 1, 2, 3, 4, 5] rfl rfl (fun _ => rfl) (fun r322 uu H locs hq hP hD hS => ?_)
                      subst hq
                      have hP : va_P D vwCl ([hO b, cO b (nI n) (nI k), gO b, oQ (cY 2) (b 3) (rr 1) 6, gI (cY 0) (rr 1) 6 fW 6, [(b 19, .inl (cY 0, 6, .inl fPy))], oQ (cY 3) (b 20) (rr 6) 13, gJ (cY 1) (rr 6) 6 fB1_3 13, [(cc0, .inl (cY 0, 2, .inl fc))], [(ll0, .inl (cY 0, 60, .inl fl))], [(pp0, .inl (cY 0, 12, .inl fp))]] : List va_W).flatten H := hP
                      have hD : va_D A ([hO b, cO b (nI n) (nI k), gO b, oQ (cY 2) (b 3) (rr 1) 6, gI (cY 0) (rr 1) 6 fW 6, [(b 19, .inl (cY 0, 6, .inl fPy))], oQ (cY 3) (b 20) (rr 6) 13, gJ (cY 1) (rr 6) 6 fB1_3 13, [(cc0, .inl (cY 0, 2, .inl fc))], [(ll0, .inl (cY 0, 60, .inl fl))], [(pp0, .inl (cY 0, 12, .inl fp))]] : List va_W).flatten := hD
                      refine lv_iload hx hb dL_areGames_325 (lv_at hl 10 rfl) ?_
                      refine lv_icmp_ne (tgt := 364) hx hb dL_areGames_327 (by decide) (fun h327 => ?_) (fun h327 => ?_)
                      · -- t
                        exact absurd (congrArg bI (by (have e : u = n := by omega); rw [e]; exact fair_eq hgn hin)) h327
                      · -- f
                        refine lv_iload hx hb dL_areGames_330 (lv_at hl 10 rfl) ?_
                        refine b_if_eq (tgt := 360) hx hb dL_areGames_332 (by decide) (fun h332 => ?_) (fun h332 => ?_)
                        · -- t
                          refine lv_iconst (v := nI 1) hx hb dL_areGames_360 (by decide) ?_
                          refine lv_goto (tgt := 365) hx hb dL_areGames_361 (by decide) ?_
                          refine eqi (x' := bI true) rfl ?_
                          exact r_z hx hb hr hlocks hP hD hS fB1_3 rfl (rfl) dL_areGames_365
                        · -- f
                          refine lv_aload_n hx hb dL_areGames_335 rfl (lv_at hl 1 rfl) ?_
                          refine lv_iload hx hb dL_areGames_336 (lv_at hl 6 rfl) ?_
                          refine lv_iload hx hb dL_areGames_338 (lv_at hl 7 rfl) ?_
                          refine ca_l (CL := [hO b, cO b (nI n) (nI k), gO b, oQ (cY 2) (b 3) (rr 1) 6, gI (cY 0) (rr 1) 6 fW 6, [(b 19, .inl (cY 0, 6, .inl fPy))], oQ (cY 3) (b 20) (rr 6) 13, gJ (cY 1) (rr 6) 6 fB1_3 13]) (va_runV (As := [.int (nI i0), .int (nI t0)]) (rest := []) ⟨hx, hb, hml, hown, hts⟩ (c_X8_best_ok l D cY H.size b rr n k fW fPy fB1_3 g i0 t0 (by omega) (by omega) (by omega) (by omega) hW (by omega) (by omega)) (cwV 2 hts gL_areGames_X8_best rfl rfl rfl (by decide +kernel) ⟨Nat.le_of_ble_eq_true rfl, Nat.le_of_ble_eq_true rfl⟩) (b_preV hVK hP hD [0, 1, 2, 3, 4, 5, 6, 7] rfl rfl 0 rfl rfl) rfl rfl hl.1 rfl (lv_room (Nat.le_of_ble_eq_true rfl)) dL_areGames_340 ⟨Nat.le_refl _, Nat.le_refl _⟩) hP hD hS hA [0, 1, 2, 3, 4, 5, 6, 7] rfl rfl (fun _ => rfl) (fun r340 uu H locs hq hP hD hS => ?_)
                          obtain ⟨fB1_4, rfl⟩ : ∃ z, z = uu := ⟨_, rfl⟩
                          try dsimp only at hq
                          subst hq
                          have hP : va_P D vwCl ([hO b, cO b (nI n) (nI k), gO b, oQ (cY 2) (b 3) (rr 1) 6, gI (cY 0) (rr 1) 6 fW 6, [(b 19, .inl (cY 0, 6, .inl fPy))], oQ (cY 3) (b 20) (rr 6) 13, gJ (cY 1) (rr 6) 6 fB1_4 13, [(cc0, .inl (cY 0, 2, .inl fc))], [(ll0, .inl (cY 0, 60, .inl fl))], [(pp0, .inl (cY 0, 12, .inl fp))]] : List va_W).flatten H := hP
                          have hD : va_D A ([hO b, cO b (nI n) (nI k), gO b, oQ (cY 2) (b 3) (rr 1) 6, gI (cY 0) (rr 1) 6 fW 6, [(b 19, .inl (cY 0, 6, .inl fPy))], oQ (cY 3) (b 20) (rr 6) 13, gJ (cY 1) (rr 6) 6 fB1_4 13, [(cc0, .inl (cY 0, 2, .inl fc))], [(ll0, .inl (cY 0, 60, .inl fl))], [(pp0, .inl (cY 0, 12, .inl fp))]] : List va_W).flatten := hD
                          refine lv_aload hx hb dL_areGames_343 (lv_at hl 5 rfl) ?_
                          refine lv_iload hx hb dL_areGames_345 (lv_at hl 6 rfl) ?_
                          refine b_iald hx hb hK hP 10 0 rfl rfl (by omega) (by decide) dL_areGames_347 ?_
                          refine eqi (x' := fPy i0) ((hPy _ (by omega)).1.symm) ?_
                          refine lv_i2l (v := ((fPy i0)).toInt64) hx hb dL_areGames_348 rfl ?_
                          refine lv_aload_n hx hb dL_areGames_349 rfl (lv_at hl 1 rfl) ?_
                          refine lv_iload hx hb dL_areGames_350 (lv_at hl 7 rfl) ?_
                          refine ca_l (CL := [hO b, cO b (nI n) (nI k)]) (va_runV (As := [.int (nI t0)]) (rest := [.long (((fPy i0)).toInt64), .long (BC fPy g n k t0 i0)]) ⟨hx, hb, hml, hown, hts⟩ (c_X8_words_ok l D cY H.size b n k g t0 (by omega) (by omega) (by omega) (by omega) (by omega)) (cwV 1 hts gL_areGames_X8_words rfl rfl rfl (by decide +kernel) ⟨Nat.le_of_ble_eq_true rfl, Nat.le_of_ble_eq_true rfl⟩) (b_preV hVK hP hD [0, 1] rfl rfl 0 rfl rfl) rfl rfl hl.1 rfl (lv_room (Nat.le_of_ble_eq_true rfl)) dL_areGames_352 ⟨Nat.le_refl _, Nat.le_refl _⟩) hP hD hS hA [0, 1] rfl rfl (fun _ => rfl) (fun r352 uu H locs hq hP hD hS => ?_)
                          subst hq
                          have hP : va_P D vwCl ([hO b, cO b (nI n) (nI k), gO b, oQ (cY 2) (b 3) (rr 1) 6, gI (cY 0) (rr 1) 6 fW 6, [(b 19, .inl (cY 0, 6, .inl fPy))], oQ (cY 3) (b 20) (rr 6) 13, gJ (cY 1) (rr 6) 6 fB1_4 13, [(cc0, .inl (cY 0, 2, .inl fc))], [(ll0, .inl (cY 0, 60, .inl fl))], [(pp0, .inl (cY 0, 12, .inl fp))]] : List va_W).flatten H := hP
                          have hD : va_D A ([hO b, cO b (nI n) (nI k), gO b, oQ (cY 2) (b 3) (rr 1) 6, gI (cY 0) (rr 1) 6 fW 6, [(b 19, .inl (cY 0, 6, .inl fPy))], oQ (cY 3) (b 20) (rr 6) 13, gJ (cY 1) (rr 6) 6 fB1_4 13, [(cc0, .inl (cY 0, 2, .inl fc))], [(ll0, .inl (cY 0, 60, .inl fl))], [(pp0, .inl (cY 0, 12, .inl fp))]] : List va_W).flatten := hD
                          refine lv_lmul hx hb dL_areGames_355 ?_
                          refine W.lcmp hx hb dL_areGames_356 ?_
                          refine l_if_ne (tgt := 364) hx hb dL_areGames_357 (by decide) (fun h357 => ?_) (fun h357 => ?_)
                          · -- t
                            have hf2 := h332
                            rw [show u = n by omega] at hf2
                            exact absurd (bc_fair hgn hin hf2 t0 i0 (by omega)) h357
                          · -- f
                            refine lv_iconst (v := nI 1) hx hb dL_areGames_360 (by decide) ?_
                            refine lv_goto (tgt := 365) hx hb dL_areGames_361 (by decide) ?_
                            refine eqi (x' := bI true) rfl ?_
                            exact r_z hx hb hr hlocks hP hD hS fB1_4 rfl (rfl) dL_areGames_365
                refine lv_aload_n hx hb dL_areGames_258 rfl (lv_at hl 0 rfl) ?_
                refine lv_iload hx hb dL_areGames_259 (lv_at hl 5 rfl) ?_
                refine lv_iload hx hb dL_areGames_261 (lv_at hl 6 rfl) ?_
                refine lv_iconst (v := nI 1) hx hb dL_areGames_263 (by decide) ?_
                refine lv_iadd hx hb dL_areGames_264 ?_
                refine eqi (x' := nI (t0 + 1)) (nI_add _ _) ?_
                refine ca_i (CL := [hO b, cO b (nI n) (nI k), gO b, oQ (cY 2) (b 3) (rr 1) 6, gI (cY 0) (rr 1) 6 fW 6, [(b 19, .inl (cY 0, 6, .inl fPy))], oQ (cY 3) (b 20) (rr 6) 13, gJ (cY 1) (rr 6) 6 gB2 13]) (va_runV (As := [.int (nI i0), .int (nI (t0 + 1))]) (rest := []) ⟨hx, hb, hml, hown, hts⟩ (c_X8_stops_ok l D cY H.size b rr n k fW fPy gB2 g i0 (t0 + 1) (by omega) (by omega) (by omega) (by omega) hW (by omega) (by omega)) (cwV 2 hts gL_areGames_X8_stops rfl rfl rfl (by decide +kernel) ⟨Nat.le_of_ble_eq_true rfl, Nat.le_of_ble_eq_true rfl⟩) (b_preV hVK hP hD [0, 1, 2, 3, 4, 5, 6, 7] rfl rfl 0 rfl rfl) rfl rfl hl.1 rfl (lv_room (Nat.le_of_ble_eq_true rfl)) dL_areGames_265 ⟨Nat.le_refl _, Nat.le_refl _⟩) hP hD hS hA [0, 1, 2, 3, 4, 5, 6, 7] rfl rfl (fun _ => rfl) (fun r265 uu H locs hq hP hD hS => ?_)
                obtain ⟨fB1_5, rfl⟩ : ∃ z, z = uu := ⟨_, rfl⟩
                try dsimp only at hq
                subst hq
                have hP : va_P D vwCl ([hO b, cO b (nI n) (nI k), gO b, oQ (cY 2) (b 3) (rr 1) 6, gI (cY 0) (rr 1) 6 fW 6, [(b 19, .inl (cY 0, 6, .inl fPy))], oQ (cY 3) (b 20) (rr 6) 13, gJ (cY 1) (rr 6) 6 fB1_5 13, [(cc0, .inl (cY 0, 2, .inl fc))], [(ll0, .inl (cY 0, 60, .inl fl))], [(pp0, .inl (cY 0, 12, .inl fp))]] : List va_W).flatten H := hP
                have hD : va_D A ([hO b, cO b (nI n) (nI k), gO b, oQ (cY 2) (b 3) (rr 1) 6, gI (cY 0) (rr 1) 6 fW 6, [(b 19, .inl (cY 0, 6, .inl fPy))], oQ (cY 3) (b 20) (rr 6) 13, gJ (cY 1) (rr 6) 6 fB1_5 13, [(cc0, .inl (cY 0, 2, .inl fc))], [(ll0, .inl (cY 0, 60, .inl fl))], [(pp0, .inl (cY 0, 12, .inl fp))]] : List va_W).flatten := hD
                refine lv_lload hx hb dL_areGames_268 (lv_at hl 10 rfl) ?_
                refine lv_lload hx hb dL_areGames_270 (lv_at hl 7 rfl) ?_
                refine W.lcmp hx hb dL_areGames_272 ?_
                refine l_if_lt (tgt := 280) hx hb dL_areGames_273 (by decide) (fun h273 => ?_) (fun h273 => ?_)
                · -- t
                  refine lv_iconst (v := nI 0) hx hb dL_areGames_280 (by decide) ?_
                  refine lv_icmp_ne (tgt := 313) hx hb dL_areGames_281 (by decide) (fun h281 => ?_) (fun h281 => ?_)
                  · -- t
                    first | exact absurd (st_no hSu h273) h281 | exact absurd (st_yes hSu h273) h281
                  · -- f
                    exact L284 fB1_5  _ _ hP hD hS _ (lv_sub hl [0, 1, 2, 3, 4, 5, 6, 7, 8, 9, 10] rfl)
                · -- f
                  refine lv_iconst (v := nI 1) hx hb dL_areGames_276 (by decide) ?_
                  refine lv_goto (tgt := 281) hx hb dL_areGames_277 (by decide) ?_
                  refine lv_icmp_ne (tgt := 313) hx hb dL_areGames_281 (by decide) (fun h281 => ?_) (fun h281 => ?_)
                  · -- t
                    first | exact absurd (st_no hSu h273) h281 | exact absurd (st_yes hSu h273) h281
                  · -- f
                    exact L284 fB1_5  _ _ hP hD hS _ (lv_sub hl [0, 1, 2, 3, 4, 5, 6, 7, 8, 9, 10] rfl)
              refine lv_aload_n hx hb dL_areGames_229 rfl (lv_at hl 1 rfl) ?_
              refine lv_iload hx hb dL_areGames_230 (lv_at hl 6 rfl) ?_
              refine lv_iload hx hb dL_areGames_232 (lv_at hl 7 rfl) ?_
              refine lv_iconst (v := nI 1) hx hb dL_areGames_234 (by decide) ?_
              refine lv_iadd hx hb dL_areGames_235 ?_
              refine eqi (x' := nI (t0 + 1)) (nI_add _ _) ?_
              refine ca_l (CL := [hO b, cO b (nI n) (nI k), gO b, oQ (cY 2) (b 3) (rr 1) 6, gI (cY 0) (rr 1) 6 fW 6, [(b 19, .inl (cY 0, 6, .inl fPy))], oQ (cY 3) (b 20) (rr 6) 13, gJ (cY 1) (rr 6) 6 fB1_2 13]) (va_runV (As := [.int (nI i0), .int (nI (t0 + 1))]) (rest := []) ⟨hx, hb, hml, hown, hts⟩ (c_X8_best_ok l D cY H.size b rr n k fW fPy fB1_2 g i0 (t0 + 1) (by omega) (by omega) (by omega) (by omega) hW (by omega) (by omega)) (cwV 2 hts gL_areGames_X8_best rfl rfl rfl (by decide +kernel) ⟨Nat.le_of_ble_eq_true rfl, Nat.le_of_ble_eq_true rfl⟩) (b_preV hVK hP hD [0, 1, 2, 3, 4, 5, 6, 7] rfl rfl 0 rfl rfl) rfl rfl hl.1 rfl (lv_room (Nat.le_of_ble_eq_true rfl)) dL_areGames_236 ⟨Nat.le_refl _, Nat.le_refl _⟩) hP hD hS hA [0, 1, 2, 3, 4, 5, 6, 7] rfl rfl (fun _ => rfl) (fun r236 uu H locs hq hP hD hS => ?_)
              obtain ⟨fB1_6, rfl⟩ : ∃ z, z = uu := ⟨_, rfl⟩
              try dsimp only at hq
              subst hq
              have hP : va_P D vwCl ([hO b, cO b (nI n) (nI k), gO b, oQ (cY 2) (b 3) (rr 1) 6, gI (cY 0) (rr 1) 6 fW 6, [(b 19, .inl (cY 0, 6, .inl fPy))], oQ (cY 3) (b 20) (rr 6) 13, gJ (cY 1) (rr 6) 6 fB1_6 13, [(cc0, .inl (cY 0, 2, .inl fc))], [(ll0, .inl (cY 0, 60, .inl fl))], [(pp0, .inl (cY 0, 12, .inl fp))]] : List va_W).flatten H := hP
              have hD : va_D A ([hO b, cO b (nI n) (nI k), gO b, oQ (cY 2) (b 3) (rr 1) 6, gI (cY 0) (rr 1) 6 fW 6, [(b 19, .inl (cY 0, 6, .inl fPy))], oQ (cY 3) (b 20) (rr 6) 13, gJ (cY 1) (rr 6) 6 fB1_6 13, [(cc0, .inl (cY 0, 2, .inl fc))], [(ll0, .inl (cY 0, 60, .inl fl))], [(pp0, .inl (cY 0, 12, .inl fp))]] : List va_W).flatten := hD
              refine lv_lload hx hb dL_areGames_239 (lv_at hl 0 rfl) ?_
              refine lv_lload hx hb dL_areGames_241 (lv_at hl 8 rfl) ?_
              refine W.lcmp hx hb dL_areGames_243 ?_
              refine l_if_lt (tgt := 252) hx hb dL_areGames_244 (by decide) (fun h244 => ?_) (fun h244 => ?_)
              · -- t
                refine lv_lload hx hb dL_areGames_252 (lv_at hl 8 rfl) ?_
                refine W.lcmp hx hb dL_areGames_254 ?_
                refine l_if_ne (tgt := 313) hx hb dL_areGames_255 (by decide) (fun h255 => ?_) (fun h255 => ?_)
                · -- t
                  first | exact absurd (bc_go hSu h244) h255 | exact absurd (bc_st hSu h244) h255
                · -- f
                  exact L258 fB1_6  _ _ hP hD hS _ (lv_sub hl [1, 2, 3, 4, 5, 6, 7, 8, 9, 10, 0] rfl)
              · -- f
                refine lv_lload hx hb dL_areGames_247 (lv_at hl 0 rfl) ?_
                refine lv_goto (tgt := 254) hx hb dL_areGames_249 (by decide) ?_
                refine W.lcmp hx hb dL_areGames_254 ?_
                refine l_if_ne (tgt := 313) hx hb dL_areGames_255 (by decide) (fun h255 => ?_) (fun h255 => ?_)
                · -- t
                  first | exact absurd (bc_go hSu h244) h255 | exact absurd (bc_st hSu h244) h255
                · -- f
                  exact L258 fB1_6  _ _ hP hD hS _ (lv_sub hl [1, 2, 3, 4, 5, 6, 7, 8, 9, 10, 0] rfl)
        · -- f
          refine lv_lconst (v := lN 0) hx hb dL_areGames_76 (by decide) ?_
          refine lv_lstore (lv' := [(13, .long (lN 0)), (0, .ref (b 0)), (1, .int (nI x)), (2, .ref cc0), (3, .ref ll0), (4, .ref pp0), (5, .int (nI i0)), (6, .int (nI t0)), (7, .long (sumL (fun s => BC fPy g n k t0 (g i0 s)) q)), (9, .long mo), (11, .int (bI (allB (fun q => decide (DV fPy g k q = lN 0)) u))), (12, .int (nI u))]) hx hb dL_areGames_77 hl (by decide) rfl (fun ls hl => ?_)
          refine lv_iconst (v := nI 0) hx hb dL_areGames_79 (by decide) ?_
          refine lv_istore (lv' := [(15, .int (nI 0)), (13, .long (lN 0)), (0, .ref (b 0)), (1, .int (nI x)), (2, .ref cc0), (3, .ref ll0), (4, .ref pp0), (5, .int (nI i0)), (6, .int (nI t0)), (7, .long (sumL (fun s => BC fPy g n k t0 (g i0 s)) q)), (9, .long mo), (11, .int (bI (allB (fun q => decide (DV fPy g k q = lN 0)) u))), (12, .int (nI u))]) hx hb dL_areGames_80 hl (by decide) rfl (fun ls hl => ?_)
          have L82 : ∀ w : Nat, w ≤ k →  ∀ (H : Heap) (locs : List Loc), va_P D vwCl ([hO b, cO b (nI n) (nI k), gO b, oQ (cY 2) (b 3) (rr 1) 6, gI (cY 0) (rr 1) 6 fW 6, [(b 19, .inl (cY 0, 6, .inl fPy))], oQ (cY 3) (b 20) (rr 6) 13, gJ (cY 1) (rr 6) 6 gB 13, [(cc0, .inl (cY 0, 2, .inl fc))], [(ll0, .inl (cY 0, 60, .inl fl))], [(pp0, .inl (cY 0, 12, .inl fp))]] : List va_W).flatten H → va_D A ([hO b, cO b (nI n) (nI k), gO b, oQ (cY 2) (b 3) (rr 1) 6, gI (cY 0) (rr 1) 6 fW 6, [(b 19, .inl (cY 0, 6, .inl fPy))], oQ (cY 3) (b 20) (rr 6) 13, gJ (cY 1) (rr 6) 6 gB 13, [(cc0, .inl (cY 0, 2, .inl fc))], [(ll0, .inl (cY 0, 60, .inl fl))], [(pp0, .inl (cY 0, 12, .inl fp))]] : List va_W).flatten → va_S A s.heap H locs → ∀ (ls : Array Slot), lv_has ls 16 [(0, .ref (b 0)), (1, .int (nI x)), (2, .ref cc0), (3, .ref ll0), (4, .ref pp0), (5, .int (nI i0)), (6, .int (nI t0)), (7, .long (sumL (fun s => BC fPy g n k t0 (g i0 s)) q)), (9, .long mo), (11, .int (bI (allB (fun q => decide (DV fPy g k q = lN 0)) u))), (12, .int (nI u)), (13, .long (sumL (fun s => (fPy (g u s) - fPy u).toInt64) w)), (15, .int (nI w))] → W p l e ({ frames := 6, cells := 0, slots := 0, locals := 240 }) s m ([.ref (b 0), .int (nI x), .ref cc0, .ref ll0, .ref pp0] : List Value).toArray below meth c H locs 0 0 (MQ below (qI (S := (Nat → Nat → Int64)) D cY (fun r uu => r = bI true) (fun uu => [hO b, cO b (nI n) (nI k), gO b, oQ (cY 2) (b 3) (rr 1) 6, gI (cY 0) (rr 1) 6 fW 6, [(b 19, .inl (cY 0, 6, .inl fPy))], oQ (cY 3) (b 20) (rr 6) 13, gJ (cY 1) (rr 6) 6 uu 13, [(cc0, .inl (cY 0, 2, .inl fc))], [(ll0, .inl (cY 0, 60, .inl fl))], [(pp0, .inl (cY 0, 12, .inl fp))]]) A) ([.ref (b 0), .int (nI x), .ref cc0, .ref ll0, .ref pp0] : List Value).toArray s 0 0 A) (F0 m 82 ls []) := by
            refine lpW k ?_
            intro w bdw ih82   H locs hP hD hS ls hl
            refine lv_iload hx hb dL_areGames_82 (lv_at hl 12 rfl) ?_
            refine lv_aload_n hx hb dL_areGames_84 rfl (lv_at hl 2 rfl) ?_
            refine lv_iconst (v := nI 1) hx hb dL_areGames_85 (by decide) ?_
            refine b_iald hx hb hK hP 8 0 rfl rfl (by omega) (by decide) dL_areGames_86 ?_
            refine eqi (x' := nI k) (hck) ?_
            refine n_icmp_ge (tgt := 121) hx hb dL_areGames_87 (by decide) (by omega) (by omega) (fun h87 => ?_) (fun h87 => ?_)
            · -- t
              have L140 :  ∀ (H : Heap) (locs : List Loc), va_P D vwCl ([hO b, cO b (nI n) (nI k), gO b, oQ (cY 2) (b 3) (rr 1) 6, gI (cY 0) (rr 1) 6 fW 6, [(b 19, .inl (cY 0, 6, .inl fPy))], oQ (cY 3) (b 20) (rr 6) 13, gJ (cY 1) (rr 6) 6 gB 13, [(cc0, .inl (cY 0, 2, .inl fc))], [(ll0, .inl (cY 0, 60, .inl fl))], [(pp0, .inl (cY 0, 12, .inl fp))]] : List va_W).flatten H → va_D A ([hO b, cO b (nI n) (nI k), gO b, oQ (cY 2) (b 3) (rr 1) 6, gI (cY 0) (rr 1) 6 fW 6, [(b 19, .inl (cY 0, 6, .inl fPy))], oQ (cY 3) (b 20) (rr 6) 13, gJ (cY 1) (rr 6) 6 gB 13, [(cc0, .inl (cY 0, 2, .inl fc))], [(ll0, .inl (cY 0, 60, .inl fl))], [(pp0, .inl (cY 0, 12, .inl fp))]] : List va_W).flatten → va_S A s.heap H locs → ∀ (ls : Array Slot), lv_has ls 16 [(0, .ref (b 0)), (1, .int (nI x)), (2, .ref cc0), (3, .ref ll0), (4, .ref pp0), (5, .int (nI i0)), (6, .int (nI t0)), (7, .long (sumL (fun s => BC fPy g n k t0 (g i0 s)) q)), (9, .long mo), (11, .int (bI (allB (fun q => decide (DV fPy g k q = lN 0)) (u + 1)))), (12, .int (nI u)), (13, .long (sumL (fun s => (fPy (g u s) - fPy u).toInt64) w)), (15, .int (nI w))] → W p l e ({ frames := 6, cells := 0, slots := 0, locals := 240 }) s m ([.ref (b 0), .int (nI x), .ref cc0, .ref ll0, .ref pp0] : List Value).toArray below meth c H locs 0 0 (MQ below (qI (S := (Nat → Nat → Int64)) D cY (fun r uu => r = bI true) (fun uu => [hO b, cO b (nI n) (nI k), gO b, oQ (cY 2) (b 3) (rr 1) 6, gI (cY 0) (rr 1) 6 fW 6, [(b 19, .inl (cY 0, 6, .inl fPy))], oQ (cY 3) (b 20) (rr 6) 13, gJ (cY 1) (rr 6) 6 uu 13, [(cc0, .inl (cY 0, 2, .inl fc))], [(ll0, .inl (cY 0, 60, .inl fl))], [(pp0, .inl (cY 0, 12, .inl fp))]]) A) ([.ref (b 0), .int (nI x), .ref cc0, .ref ll0, .ref pp0] : List Value).toArray s 0 0 A) (F0 m 140 ls []) := by
                intro   H locs hP hD hS ls hl
                refine lv_aload hx hb dL_areGames_140 (lv_at hl 4 rfl) ?_
                refine lv_iload hx hb dL_areGames_142 (lv_at hl 10 rfl) ?_
                refine b_iald hx hb hK hP 10 0 rfl rfl (by omega) (by decide) dL_areGames_144 ?_
                refine eqi (x' := fPy u) ((hPy _ (by omega)).1.symm) ?_
                refine lv_i2l (v := ((fPy u)).toInt64) hx hb dL_areGames_145 rfl ?_
                refine lv_lload hx hb dL_areGames_146 (lv_at hl 8 rfl) ?_
                refine W.lcmp hx hb dL_areGames_148 ?_
                refine l_if_le (tgt := 161) hx hb dL_areGames_149 (by decide) (fun h149 => ?_) (fun h149 => ?_)
                · -- t
                  refine lv_lload hx hb dL_areGames_161 (lv_at hl 8 rfl) ?_
                  refine lv_lstore (lv' := [(9, .long mo), (0, .ref (b 0)), (1, .int (nI x)), (2, .ref cc0), (3, .ref ll0), (4, .ref pp0), (5, .int (nI i0)), (6, .int (nI t0)), (7, .long (sumL (fun s => BC fPy g n k t0 (g i0 s)) q)), (11, .int (bI (allB (fun q => decide (DV fPy g k q = lN 0)) (u + 1)))), (12, .int (nI u)), (13, .long (sumL (fun s => (fPy (g u s) - fPy u).toInt64) w)), (15, .int (nI w))]) hx hb dL_areGames_163 hl (by decide) rfl (fun ls hl => ?_)
                  refine lv_aload_n hx hb dL_areGames_165 rfl (lv_at hl 1 rfl) ?_
                  refine lv_iload hx hb dL_areGames_166 (lv_at hl 10 rfl) ?_
                  refine ca_l (CL := [hO b, cO b (nI n) (nI k), gO b, oQ (cY 2) (b 3) (rr 1) 6, gI (cY 0) (rr 1) 6 fW 6, [(b 19, .inl (cY 0, 6, .inl fPy))]]) (va_runV (As := [.int (nI u)]) (rest := []) ⟨hx, hb, hml, hown, hts⟩ (c_X8_drift_ok l D cY H.size b rr n k fW fPy g u (by omega) (by omega) (by omega) (by omega) hW (by omega)) (cwV 1 hts gL_areGames_X8_drift rfl rfl rfl (by decide +kernel) ⟨Nat.le_of_ble_eq_true rfl, Nat.le_of_ble_eq_true rfl⟩) (b_preV hVK hP hD [0, 1, 2, 3, 4, 5] rfl rfl 0 rfl rfl) rfl rfl hl.1 rfl (lv_room (Nat.le_of_ble_eq_true rfl)) dL_areGames_168 ⟨Nat.le_refl _, Nat.le_refl _⟩) hP hD hS hA [0, 1, 2, 3, 4, 5] rfl rfl (fun _ => rfl) (fun r168 uu H locs hq hP hD hS => ?_)
                  subst hq
                  have hP : va_P D vwCl ([hO b, cO b (nI n) (nI k), gO b, oQ (cY 2) (b 3) (rr 1) 6, gI (cY 0) (rr 1) 6 fW 6, [(b 19, .inl (cY 0, 6, .inl fPy))], oQ (cY 3) (b 20) (rr 6) 13, gJ (cY 1) (rr 6) 6 gB 13, [(cc0, .inl (cY 0, 2, .inl fc))], [(ll0, .inl (cY 0, 60, .inl fl))], [(pp0, .inl (cY 0, 12, .inl fp))]] : List va_W).flatten H := hP
                  have hD : va_D A ([hO b, cO b (nI n) (nI k), gO b, oQ (cY 2) (b 3) (rr 1) 6, gI (cY 0) (rr 1) 6 fW 6, [(b 19, .inl (cY 0, 6, .inl fPy))], oQ (cY 3) (b 20) (rr 6) 13, gJ (cY 1) (rr 6) 6 gB 13, [(cc0, .inl (cY 0, 2, .inl fc))], [(ll0, .inl (cY 0, 60, .inl fl))], [(pp0, .inl (cY 0, 12, .inl fp))]] : List va_W).flatten := hD
                  refine eql (x' := DV fPy g k u) (DC_DV hgn (by omega) hin) ?_
                  refine lv_lload hx hb dL_areGames_171 (lv_at hl 11 rfl) ?_
                  refine eql (x' := DV fPy g k u) (by (have e : w = k := by omega); rw [e]; rfl) ?_
                  refine W.lcmp hx hb dL_areGames_173 ?_
                  refine l_if_eq (tgt := 179) hx hb dL_areGames_174 (by decide) (fun h174 => ?_) (fun h174 => ?_)
                  · -- t
                    refine lv_iinc (v := nI (u + 1)) (lv' := [(12, .int (nI (u + 1))), (9, .long mo), (0, .ref (b 0)), (1, .int (nI x)), (2, .ref cc0), (3, .ref ll0), (4, .ref pp0), (5, .int (nI i0)), (6, .int (nI t0)), (7, .long (sumL (fun s => BC fPy g n k t0 (g i0 s)) q)), (11, .int (bI (allB (fun q => decide (DV fPy g k q = lN 0)) (u + 1)))), (13, .long (sumL (fun s => (fPy (g u s) - fPy u).toInt64) w)), (15, .int (nI w))]) hx hb dL_areGames_179 hl (k := 10) rfl (nI_1 u) (by decide) rfl (fun ls hl => ?_)
                    refine lv_goto (tgt := 68) hx hb dL_areGames_182 (by decide) ?_
                    exact ih68 (by omega) mo (by first | exact MOI_le hmo h149 | exact MOI_gt (hin u (by omega)) hmo h149) _ _ hP hD hS _ (lv_sub hl [2, 3, 4, 5, 6, 7, 8, 9, 1, 10, 0] rfl)
                  · -- f
                    exact absurd rfl h174
                · -- f
                  refine lv_aload hx hb dL_areGames_152 (lv_at hl 4 rfl) ?_
                  refine lv_iload hx hb dL_areGames_154 (lv_at hl 10 rfl) ?_
                  refine b_iald hx hb hK hP 10 0 rfl rfl (by omega) (by decide) dL_areGames_156 ?_
                  refine eqi (x' := fPy u) ((hPy _ (by omega)).1.symm) ?_
                  refine lv_i2l (v := ((fPy u)).toInt64) hx hb dL_areGames_157 rfl ?_
                  refine lv_goto (tgt := 163) hx hb dL_areGames_158 (by decide) ?_
                  refine lv_lstore (lv' := [(9, .long (((fPy u)).toInt64)), (0, .ref (b 0)), (1, .int (nI x)), (2, .ref cc0), (3, .ref ll0), (4, .ref pp0), (5, .int (nI i0)), (6, .int (nI t0)), (7, .long (sumL (fun s => BC fPy g n k t0 (g i0 s)) q)), (11, .int (bI (allB (fun q => decide (DV fPy g k q = lN 0)) (u + 1)))), (12, .int (nI u)), (13, .long (sumL (fun s => (fPy (g u s) - fPy u).toInt64) w)), (15, .int (nI w))]) hx hb dL_areGames_163 hl (by decide) rfl (fun ls hl => ?_)
                  refine lv_aload_n hx hb dL_areGames_165 rfl (lv_at hl 1 rfl) ?_
                  refine lv_iload hx hb dL_areGames_166 (lv_at hl 10 rfl) ?_
                  refine ca_l (CL := [hO b, cO b (nI n) (nI k), gO b, oQ (cY 2) (b 3) (rr 1) 6, gI (cY 0) (rr 1) 6 fW 6, [(b 19, .inl (cY 0, 6, .inl fPy))]]) (va_runV (As := [.int (nI u)]) (rest := []) ⟨hx, hb, hml, hown, hts⟩ (c_X8_drift_ok l D cY H.size b rr n k fW fPy g u (by omega) (by omega) (by omega) (by omega) hW (by omega)) (cwV 1 hts gL_areGames_X8_drift rfl rfl rfl (by decide +kernel) ⟨Nat.le_of_ble_eq_true rfl, Nat.le_of_ble_eq_true rfl⟩) (b_preV hVK hP hD [0, 1, 2, 3, 4, 5] rfl rfl 0 rfl rfl) rfl rfl hl.1 rfl (lv_room (Nat.le_of_ble_eq_true rfl)) dL_areGames_168 ⟨Nat.le_refl _, Nat.le_refl _⟩) hP hD hS hA [0, 1, 2, 3, 4, 5] rfl rfl (fun _ => rfl) (fun r168 uu H locs hq hP hD hS => ?_)
                  subst hq
                  have hP : va_P D vwCl ([hO b, cO b (nI n) (nI k), gO b, oQ (cY 2) (b 3) (rr 1) 6, gI (cY 0) (rr 1) 6 fW 6, [(b 19, .inl (cY 0, 6, .inl fPy))], oQ (cY 3) (b 20) (rr 6) 13, gJ (cY 1) (rr 6) 6 gB 13, [(cc0, .inl (cY 0, 2, .inl fc))], [(ll0, .inl (cY 0, 60, .inl fl))], [(pp0, .inl (cY 0, 12, .inl fp))]] : List va_W).flatten H := hP
                  have hD : va_D A ([hO b, cO b (nI n) (nI k), gO b, oQ (cY 2) (b 3) (rr 1) 6, gI (cY 0) (rr 1) 6 fW 6, [(b 19, .inl (cY 0, 6, .inl fPy))], oQ (cY 3) (b 20) (rr 6) 13, gJ (cY 1) (rr 6) 6 gB 13, [(cc0, .inl (cY 0, 2, .inl fc))], [(ll0, .inl (cY 0, 60, .inl fl))], [(pp0, .inl (cY 0, 12, .inl fp))]] : List va_W).flatten := hD
                  refine eql (x' := DV fPy g k u) (DC_DV hgn (by omega) hin) ?_
                  refine lv_lload hx hb dL_areGames_171 (lv_at hl 11 rfl) ?_
                  refine eql (x' := DV fPy g k u) (by (have e : w = k := by omega); rw [e]; rfl) ?_
                  refine W.lcmp hx hb dL_areGames_173 ?_
                  refine l_if_eq (tgt := 179) hx hb dL_areGames_174 (by decide) (fun h174 => ?_) (fun h174 => ?_)
                  · -- t
                    refine lv_iinc (v := nI (u + 1)) (lv' := [(12, .int (nI (u + 1))), (9, .long (((fPy u)).toInt64)), (0, .ref (b 0)), (1, .int (nI x)), (2, .ref cc0), (3, .ref ll0), (4, .ref pp0), (5, .int (nI i0)), (6, .int (nI t0)), (7, .long (sumL (fun s => BC fPy g n k t0 (g i0 s)) q)), (11, .int (bI (allB (fun q => decide (DV fPy g k q = lN 0)) (u + 1)))), (13, .long (sumL (fun s => (fPy (g u s) - fPy u).toInt64) w)), (15, .int (nI w))]) hx hb dL_areGames_179 hl (k := 10) rfl (nI_1 u) (by decide) rfl (fun ls hl => ?_)
                    refine lv_goto (tgt := 68) hx hb dL_areGames_182 (by decide) ?_
                    exact ih68 (by omega) (((fPy u)).toInt64) (by first | exact MOI_le hmo h149 | exact MOI_gt (hin u (by omega)) hmo h149) _ _ hP hD hS _ (lv_sub hl [2, 3, 4, 5, 6, 7, 8, 9, 1, 10, 0] rfl)
                  · -- f
                    exact absurd rfl h174
              refine lv_iload hx hb dL_areGames_121 (lv_at hl 9 rfl) ?_
              refine b_if_eq (tgt := 137) hx hb dL_areGames_123 (by decide) (fun h123 => ?_) (fun h123 => ?_)
              · -- t
                refine lv_iconst (v := nI 0) hx hb dL_areGames_137 (by decide) ?_
                refine eqi (x' := bI (allB (fun q => decide (DV fPy g k q = lN 0)) (u + 1))) (by first | exact l1_f (Or.inl h123) | exact l1_f (Or.inr (dec_f h130))) ?_
                refine lv_istore (lv' := [(11, .int (bI (allB (fun q => decide (DV fPy g k q = lN 0)) (u + 1)))), (0, .ref (b 0)), (1, .int (nI x)), (2, .ref cc0), (3, .ref ll0), (4, .ref pp0), (5, .int (nI i0)), (6, .int (nI t0)), (7, .long (sumL (fun s => BC fPy g n k t0 (g i0 s)) q)), (9, .long mo), (12, .int (nI u)), (13, .long (sumL (fun s => (fPy (g u s) - fPy u).toInt64) w)), (15, .int (nI w))]) hx hb dL_areGames_138 hl (by decide) rfl (fun ls hl => ?_)
                exact L140   _ _ hP hD hS _ (lv_sub hl [1, 2, 3, 4, 5, 6, 7, 8, 9, 0, 10, 11, 12] rfl)
              · -- f
                refine lv_lload hx hb dL_areGames_126 (lv_at hl 11 rfl) ?_
                refine eql (x' := DV fPy g k u) (by (have e : w = k := by omega); rw [e]; rfl) ?_
                refine lv_lconst (v := lN 0) hx hb dL_areGames_128 (by decide) ?_
                refine W.lcmp hx hb dL_areGames_129 ?_
                refine l_if_ne (tgt := 137) hx hb dL_areGames_130 (by decide) (fun h130 => ?_) (fun h130 => ?_)
                · -- t
                  refine lv_iconst (v := nI 0) hx hb dL_areGames_137 (by decide) ?_
                  refine eqi (x' := bI (allB (fun q => decide (DV fPy g k q = lN 0)) (u + 1))) (by first | exact l1_f (Or.inl h123) | exact l1_f (Or.inr (dec_f h130))) ?_
                  refine lv_istore (lv' := [(11, .int (bI (allB (fun q => decide (DV fPy g k q = lN 0)) (u + 1)))), (0, .ref (b 0)), (1, .int (nI x)), (2, .ref cc0), (3, .ref ll0), (4, .ref pp0), (5, .int (nI i0)), (6, .int (nI t0)), (7, .long (sumL (fun s => BC fPy g n k t0 (g i0 s)) q)), (9, .long mo), (12, .int (nI u)), (13, .long (sumL (fun s => (fPy (g u s) - fPy u).toInt64) w)), (15, .int (nI w))]) hx hb dL_areGames_138 hl (by decide) rfl (fun ls hl => ?_)
                  exact L140   _ _ hP hD hS _ (lv_sub hl [1, 2, 3, 4, 5, 6, 7, 8, 9, 0, 10, 11, 12] rfl)
                · -- f
                  refine lv_iconst (v := nI 1) hx hb dL_areGames_133 (by decide) ?_
                  refine eqi (x' := bI (allB (fun q => decide (DV fPy g k q = lN 0)) (u + 1))) (l1_t h123 (dec_t h130)) ?_
                  refine lv_goto (tgt := 138) hx hb dL_areGames_134 (by decide) ?_
                  refine lv_istore (lv' := [(11, .int (bI (allB (fun q => decide (DV fPy g k q = lN 0)) (u + 1)))), (0, .ref (b 0)), (1, .int (nI x)), (2, .ref cc0), (3, .ref ll0), (4, .ref pp0), (5, .int (nI i0)), (6, .int (nI t0)), (7, .long (sumL (fun s => BC fPy g n k t0 (g i0 s)) q)), (9, .long mo), (12, .int (nI u)), (13, .long (sumL (fun s => (fPy (g u s) - fPy u).toInt64) w)), (15, .int (nI w))]) hx hb dL_areGames_138 hl (by decide) rfl (fun ls hl => ?_)
                  exact L140   _ _ hP hD hS _ (lv_sub hl [1, 2, 3, 4, 5, 6, 7, 8, 9, 0, 10, 11, 12] rfl)
            · -- f
              refine lv_lload hx hb dL_areGames_90 (lv_at hl 11 rfl) ?_
              refine lv_aload hx hb dL_areGames_92 (lv_at hl 4 rfl) ?_
              refine lv_aload_n hx hb dL_areGames_94 rfl (lv_at hl 3 rfl) ?_
              refine lv_bipush (v := nI 10) hx hb dL_areGames_95 (by decide) ?_
              refine lv_iload hx hb dL_areGames_97 (lv_at hl 10 rfl) ?_
              refine lv_imul hx hb dL_areGames_99 ?_
              refine eqi (x' := nI (10 * u)) (pk_mul _ _) ?_
              refine lv_iload hx hb dL_areGames_100 (lv_at hl 12 rfl) ?_
              refine lv_iadd hx hb dL_areGames_102 ?_
              refine eqi (x' := nI (10 * u + w)) (nI_add _ _) ?_
              refine b_iald hx hb hK hP 9 0 rfl rfl (by omega) (by decide) dL_areGames_103 ?_
              refine eqi (x' := nI (g u w)) (hL u w (by omega) (by omega)) ?_
              have hgu := hgn u w (by omega) (by omega)
              refine b_iald hx hb hK hP 10 0 rfl rfl (by omega) (by decide) dL_areGames_104 ?_
              refine eqi (x' := fPy (g u w)) ((hPy _ (by omega)).1.symm) ?_
              refine lv_aload hx hb dL_areGames_105 (lv_at hl 4 rfl) ?_
              refine lv_iload hx hb dL_areGames_107 (lv_at hl 10 rfl) ?_
              refine b_iald hx hb hK hP 10 0 rfl rfl (by omega) (by decide) dL_areGames_109 ?_
              refine eqi (x' := fPy u) ((hPy _ (by omega)).1.symm) ?_
              refine lv_isub hx hb dL_areGames_110 ?_
              refine lv_i2l (v := (((fPy (g u w)) - (fPy u))).toInt64) hx hb dL_areGames_111 rfl ?_
              refine lv_ladd hx hb dL_areGames_112 ?_
              refine lv_lstore (lv' := [(13, .long ((sumL (fun s => (fPy (g u s) - fPy u).toInt64) w) + ((((fPy (g u w)) - (fPy u))).toInt64))), (0, .ref (b 0)), (1, .int (nI x)), (2, .ref cc0), (3, .ref ll0), (4, .ref pp0), (5, .int (nI i0)), (6, .int (nI t0)), (7, .long (sumL (fun s => BC fPy g n k t0 (g i0 s)) q)), (9, .long mo), (11, .int (bI (allB (fun q => decide (DV fPy g k q = lN 0)) u))), (12, .int (nI u)), (15, .int (nI w))]) hx hb dL_areGames_113 hl (by decide) rfl (fun ls hl => ?_)
              refine lv_iinc (v := nI (w + 1)) (lv' := [(15, .int (nI (w + 1))), (13, .long ((sumL (fun s => (fPy (g u s) - fPy u).toInt64) w) + ((((fPy (g u w)) - (fPy u))).toInt64))), (0, .ref (b 0)), (1, .int (nI x)), (2, .ref cc0), (3, .ref ll0), (4, .ref pp0), (5, .int (nI i0)), (6, .int (nI t0)), (7, .long (sumL (fun s => BC fPy g n k t0 (g i0 s)) q)), (9, .long mo), (11, .int (bI (allB (fun q => decide (DV fPy g k q = lN 0)) u))), (12, .int (nI u))]) hx hb dL_areGames_115 hl (k := 12) rfl (nI_1 w) (by decide) rfl (fun ls hl => ?_)
              refine lv_goto (tgt := 82) hx hb dL_areGames_118 (by decide) ?_
              exact ih82 (by omega)   _ _ hP hD hS _ (lv_sub hl [2, 3, 4, 5, 6, 7, 8, 9, 10, 11, 12, 1, 0] rfl)
          exact L82 0 (by omega)   _ _ hP hD hS _ (lv_sub hl [2, 3, 4, 5, 6, 7, 8, 9, 10, 11, 12, 1, 0] rfl)
      exact L68 0 (by omega) (-100000) MOI_0 _ _ hP hD hS _ (lv_sub hl [1, 2, 3, 4, 5, 6, 7, 8, 9, 10, 0] rfl)
    · -- f
      refine lv_lload hx hb dL_areGames_38 (lv_at hl 7 rfl) ?_
      refine lv_aload_n hx hb dL_areGames_40 rfl (lv_at hl 0 rfl) ?_
      refine lv_aload_n hx hb dL_areGames_41 rfl (lv_at hl 3 rfl) ?_
      refine lv_bipush (v := nI 10) hx hb dL_areGames_42 (by decide) ?_
      refine lv_iload hx hb dL_areGames_44 (lv_at hl 5 rfl) ?_
      refine lv_imul hx hb dL_areGames_46 ?_
      refine eqi (x' := nI (10 * i0)) (pk_mul _ _) ?_
      refine lv_iload hx hb dL_areGames_47 (lv_at hl 10 rfl) ?_
      refine lv_iadd hx hb dL_areGames_49 ?_
      refine eqi (x' := nI (10 * i0 + q)) (nI_add _ _) ?_
      refine b_iald hx hb hK hP 9 0 rfl rfl (by omega) (by decide) dL_areGames_50 ?_
      refine eqi (x' := nI (g i0 q)) (hL i0 q (by omega) (by omega)) ?_
      have hgi := hgn i0 q (by omega) (by omega)
      refine lv_iload hx hb dL_areGames_51 (lv_at hl 6 rfl) ?_
      refine ca_l (CL := [hO b, cO b (nI n) (nI k), gO b, oQ (cY 2) (b 3) (rr 1) 6, gI (cY 0) (rr 1) 6 fW 6, [(b 19, .inl (cY 0, 6, .inl fPy))], oQ (cY 3) (b 20) (rr 6) 13, gJ (cY 1) (rr 6) 6 gB 13]) (va_runV (As := [.int (nI (g i0 q)), .int (nI t0)]) (rest := [.long (sumL (fun s => BC fPy g n k t0 (g i0 s)) q)]) ⟨hx, hb, hml, hown, hts⟩ (c_X8_best_ok l D cY H.size b rr n k fW fPy gB g (g i0 q) t0 (by omega) (by omega) (by omega) (by omega) hW (by omega) (by omega)) (cwV 2 hts gL_areGames_X8_best rfl rfl rfl (by decide +kernel) ⟨Nat.le_of_ble_eq_true rfl, Nat.le_of_ble_eq_true rfl⟩) (b_preV hVK hP hD [0, 1, 2, 3, 4, 5, 6, 7] rfl rfl 0 rfl rfl) rfl rfl hl.1 rfl (lv_room (Nat.le_of_ble_eq_true rfl)) dL_areGames_53 ⟨Nat.le_refl _, Nat.le_refl _⟩) hP hD hS hA [0, 1, 2, 3, 4, 5, 6, 7] rfl rfl (fun _ => rfl) (fun r53 uu H locs hq hP hD hS => ?_)
      obtain ⟨fB1_7, rfl⟩ : ∃ z, z = uu := ⟨_, rfl⟩
      try dsimp only at hq
      subst hq
      have hP : va_P D vwCl ([hO b, cO b (nI n) (nI k), gO b, oQ (cY 2) (b 3) (rr 1) 6, gI (cY 0) (rr 1) 6 fW 6, [(b 19, .inl (cY 0, 6, .inl fPy))], oQ (cY 3) (b 20) (rr 6) 13, gJ (cY 1) (rr 6) 6 fB1_7 13, [(cc0, .inl (cY 0, 2, .inl fc))], [(ll0, .inl (cY 0, 60, .inl fl))], [(pp0, .inl (cY 0, 12, .inl fp))]] : List va_W).flatten H := hP
      have hD : va_D A ([hO b, cO b (nI n) (nI k), gO b, oQ (cY 2) (b 3) (rr 1) 6, gI (cY 0) (rr 1) 6 fW 6, [(b 19, .inl (cY 0, 6, .inl fPy))], oQ (cY 3) (b 20) (rr 6) 13, gJ (cY 1) (rr 6) 6 fB1_7 13, [(cc0, .inl (cY 0, 2, .inl fc))], [(ll0, .inl (cY 0, 60, .inl fl))], [(pp0, .inl (cY 0, 12, .inl fp))]] : List va_W).flatten := hD
      refine lv_ladd hx hb dL_areGames_56 ?_
      refine lv_lstore (lv' := [(7, .long ((sumL (fun s => BC fPy g n k t0 (g i0 s)) q) + (BC fPy g n k t0 (g i0 q)))), (0, .ref (b 0)), (1, .int (nI x)), (2, .ref cc0), (3, .ref ll0), (4, .ref pp0), (5, .int (nI i0)), (6, .int (nI t0)), (9, .long (-100000)), (11, .int (bI (allB (fun q => decide (DV fPy g k q = lN 0)) 0))), (12, .int (nI q))]) hx hb dL_areGames_57 hl (by decide) rfl (fun ls hl => ?_)
      refine lv_iinc (v := nI (q + 1)) (lv' := [(12, .int (nI (q + 1))), (7, .long ((sumL (fun s => BC fPy g n k t0 (g i0 s)) q) + (BC fPy g n k t0 (g i0 q)))), (0, .ref (b 0)), (1, .int (nI x)), (2, .ref cc0), (3, .ref ll0), (4, .ref pp0), (5, .int (nI i0)), (6, .int (nI t0)), (9, .long (-100000)), (11, .int (bI (allB (fun q => decide (DV fPy g k q = lN 0)) 0)))]) hx hb dL_areGames_59 hl (k := 10) rfl (nI_1 q) (by decide) rfl (fun ls hl => ?_)
      refine lv_goto (tgt := 30) hx hb dL_areGames_62 (by decide) ?_
      exact ih30 (by omega) fB1_7  _ _ hP hD hS _ (lv_sub hl [2, 3, 4, 5, 6, 7, 8, 1, 9, 10, 0] rfl)
  exact L30 0 (by omega) fB  _ _ hP hD hS _ (lv_sub hl [6, 7, 8, 9, 10, 5, 4, 3, 2, 1, 0] rfl)

