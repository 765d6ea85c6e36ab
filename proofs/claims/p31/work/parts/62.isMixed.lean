set_option maxHeartbeats 4000000 in
set_option maxRecDepth 100000 in
theorem c_L_isMixed_some (l : Launch) (D : va_G) (cY : Nat → ClassId) (sz : Nat) (b : Nat → Nat) (rr : Nat → Nat → Nat) (n : Nat) (k : Nat) (fW : Nat → Nat → Int32) (fR : Nat → Nat → Int64) (g : Nat → Nat → Nat) (cc0 : Nat) (fc : Nat → Int32) (th2 : Nat) (q0 : Nat) (hn1 : 1 ≤ n) (hn6 : n ≤ 6) (hk1 : 1 ≤ k) (hk12 : k ≤ 12) (hcn : fc 0 = nI n) (hck : fc 1 = nI k) (hgn : ∀ i j, i < n → j < k → g i j < n) (hW : ∀ i j, i < n → j < n → fW i j = nI (cnt (g i) j k)) (hth : th2 ≤ 1000) (hq0 : q0 < 13) (hmx : mxs (mixA g n k th2) 13 0 = nI q0) (hmt : mixA g n k th2 q0 = true) (hpv : th2 = 0 ∨ mxs (mixA g n k (th2 - 1)) 13 0 = -1 ∨ ∃ q1, q1 < 13 ∧ q0 ≤ q1 ∧ mxs (mixA g n k (th2 - 1)) 13 0 = nI q1) : Met l yL_isMixed wsL_isMixed ({ frames := 4, cells := 0, slots := 0, locals := 160 }) (cP D cY [.ref (b 0), .int (nI th2), .ref cc0] [hO b, cO b (nI n) (nI k), lO b, oQ (cY 2) (b 3) (rr 1) 6, gI (cY 0) (rr 1) 6 fW 6, oQ (cY 3) (b 5) (rr 2) 13, gJ (cY 1) (rr 2) 36 fR 13, [(cc0, .inl (cY 0, 2, .inl fc))]] sz) (qI (S := (Nat → Nat → Int64)) D cY (fun r uu => r = bI true) (fun uu => [hO b, cO b (nI n) (nI k), lO b, oQ (cY 2) (b 3) (rr 1) 6, gI (cY 0) (rr 1) 6 fW 6, oQ (cY 3) (b 5) (rr 2) 13, gJ (cY 1) (rr 2) 36 uu 13, [(cc0, .inl (cY 0, 2, .inl fc))]]) (va_A ([hO b, cO b (nI n) (nI k), lO b, oQ (cY 2) (b 3) (rr 1) 6, gI (cY 0) (rr 1) 6 fW 6, oQ (cY 3) (b 5) (rr 2) 13, gJ (cY 1) (rr 2) 36 fR 13, [(cc0, .inl (cY 0, 2, .inl fc))]] : List va_W).flatten sz)) 0 0 (va_A ([hO b, cO b (nI n) (nI k), lO b, oQ (cY 2) (b 3) (rr 1) 6, gI (cY 0) (rr 1) 6 fW 6, oQ (cY 3) (b 5) (rr 2) 13, gJ (cY 1) (rr 2) 36 fR 13, [(cc0, .inl (cY 0, 2, .inl fc))]] : List va_W).flatten sz) := by
  refine mtB (Qc := fun A => qI (S := (Nat → Nat → Int64)) D cY (fun r uu => r = bI true) (fun uu => [hO b, cO b (nI n) (nI k), lO b, oQ (cY 2) (b 3) (rr 1) 6, gI (cY 0) (rr 1) 6 fW 6, oQ (cY 3) (b 5) (rr 2) 13, gJ (cY 1) (rr 2) 36 uu 13, [(cc0, .inl (cY 0, 2, .inl fc))]]) A) (cc := cL_isMixed) (maxL := 11) (ret := (some .boolean)) (by decide) rfl (Nat.le_of_ble_eq_true rfl) ?_
  intro p e s m below meth c A ls hx hb hr hml hts hown hlocks hnm hsz hP hK hVK hD hS hA hl
  have hown : s.vm.findClass RL = some m.cls := hown
  have hl : lv_has ls 11 [(0, .ref (b 0)), (1, .int (nI th2)), (2, .ref cc0)] := hl
  have hP : va_P D vwCl ([hO b, cO b (nI n) (nI k), lO b, oQ (cY 2) (b 3) (rr 1) 6, gI (cY 0) (rr 1) 6 fW 6, oQ (cY 3) (b 5) (rr 2) 13, gJ (cY 1) (rr 2) 36 fR 13, [(cc0, .inl (cY 0, 2, .inl fc))]] : List va_W).flatten s.heap := hP
  have hD : va_D A ([hO b, cO b (nI n) (nI k), lO b, oQ (cY 2) (b 3) (rr 1) 6, gI (cY 0) (rr 1) 6 fW 6, oQ (cY 3) (b 5) (rr 2) 13, gJ (cY 1) (rr 2) 36 fR 13, [(cc0, .inl (cY 0, 2, .inl fc))]] : List va_W).flatten := hD
  refine lv_aload_n hx hb dL_isMixed_0 rfl (lv_at hl 0 rfl) ?_
  refine lv_iload_n hx hb dL_isMixed_1 rfl (lv_at hl 1 rfl) ?_
  refine ca_i (CL := [hO b, cO b (nI n) (nI k), lO b, oQ (cY 2) (b 3) (rr 1) 6, gI (cY 0) (rr 1) 6 fW 6, oQ (cY 3) (b 5) (rr 2) 13, gJ (cY 1) (rr 2) 36 fR 13]) (va_runV (As := [.int (nI th2)]) (rest := []) ⟨hx, hb, hml, hown, hts⟩ (c_X8_mixing_ok l D cY s.heap.size b rr n k fW fR g th2 (by omega) (by omega) (by omega) (by omega) hgn hW (by omega)) (cwV 1 hts gL_isMixed_X8_mixing rfl rfl rfl (by decide +kernel) ⟨Nat.le_of_ble_eq_true rfl, Nat.le_of_ble_eq_true rfl⟩) (b_preV hVK hP hD [0, 1, 2, 3, 4, 5, 6] rfl rfl 0 rfl rfl) rfl rfl hl.1 rfl (lv_room (Nat.le_of_ble_eq_true rfl)) dL_isMixed_2 ⟨Nat.le_refl _, Nat.le_refl _⟩) hP hD hS hA [0, 1, 2, 3, 4, 5, 6] rfl rfl (fun _ => rfl) (fun r2 uu H locs hq hP hD hS => ?_)
  obtain ⟨fR1_1, rfl⟩ : ∃ z, z = uu := ⟨_, rfl⟩
  try dsimp only at hq
  subst hq
  have hP : va_P D vwCl ([hO b, cO b (nI n) (nI k), lO b, oQ (cY 2) (b 3) (rr 1) 6, gI (cY 0) (rr 1) 6 fW 6, oQ (cY 3) (b 5) (rr 2) 13, gJ (cY 1) (rr 2) 36 fR1_1 13, [(cc0, .inl (cY 0, 2, .inl fc))]] : List va_W).flatten H := hP
  have hD : va_D A ([hO b, cO b (nI n) (nI k), lO b, oQ (cY 2) (b 3) (rr 1) 6, gI (cY 0) (rr 1) 6 fW 6, oQ (cY 3) (b 5) (rr 2) 13, gJ (cY 1) (rr 2) 36 fR1_1 13, [(cc0, .inl (cY 0, 2, .inl fc))]] : List va_W).flatten := hD
  refine eqi (x' := nI q0) (hmx) ?_
  refine lv_istore_n (lv' := [(3, .int (nI q0)), (0, .ref (b 0)), (1, .int (nI th2)), (2, .ref cc0)]) hx hb dL_isMixed_5 rfl hl (by decide) rfl (fun ls hl => ?_)
  refine lv_iload_n hx hb dL_isMixed_6 rfl (lv_at hl 0 rfl) ?_
  refine lv_iconst (v := (-1)) hx hb dL_isMixed_7 (by decide) ?_
  refine lv_icmp_lt (tgt := 50) hx hb dL_isMixed_8 (by decide) (fun h8 => ?_) (fun h8 => ?_)
  · -- t
    exact absurd h8 (nI_nm1l q0 (by omega))
  · -- f
    refine lv_iload_n hx hb dL_isMixed_11 rfl (lv_at hl 0 rfl) ?_
    refine lv_bipush (v := nI 12) hx hb dL_isMixed_12 (by decide) ?_
    refine n_icmp_gt (tgt := 50) hx hb dL_isMixed_14 (by decide) (by omega) (by omega) (fun h14 => ?_) (fun h14 => ?_)
    · -- t
      exact absurd h14 (by omega)
    · -- f
      have L46 : ∀ (gR0 : Nat → Nat → Int64), ∀ (H : Heap) (locs : List Loc), va_P D vwCl ([hO b, cO b (nI n) (nI k), lO b, oQ (cY 2) (b 3) (rr 1) 6, gI (cY 0) (rr 1) 6 fW 6, oQ (cY 3) (b 5) (rr 2) 13, gJ (cY 1) (rr 2) 36 gR0 13, [(cc0, .inl (cY 0, 2, .inl fc))]] : List va_W).flatten H → va_D A ([hO b, cO b (nI n) (nI k), lO b, oQ (cY 2) (b 3) (rr 1) 6, gI (cY 0) (rr 1) 6 fW 6, oQ (cY 3) (b 5) (rr 2) 13, gJ (cY 1) (rr 2) 36 gR0 13, [(cc0, .inl (cY 0, 2, .inl fc))]] : List va_W).flatten → va_S A s.heap H locs → ∀ (ls : Array Slot), lv_has ls 11 [(0, .ref (b 0)), (1, .int (nI th2)), (2, .ref cc0), (3, .int (nI q0))] → W p l e ({ frames := 4, cells := 0, slots := 0, locals := 160 }) s m ([.ref (b 0), .int (nI th2), .ref cc0] : List Value).toArray below meth c H locs 0 0 (MQ below (qI (S := (Nat → Nat → Int64)) D cY (fun r uu => r = bI true) (fun uu => [hO b, cO b (nI n) (nI k), lO b, oQ (cY 2) (b 3) (rr 1) 6, gI (cY 0) (rr 1) 6 fW 6, oQ (cY 3) (b 5) (rr 2) 13, gJ (cY 1) (rr 2) 36 uu 13, [(cc0, .inl (cY 0, 2, .inl fc))]]) A) ([.ref (b 0), .int (nI th2), .ref cc0] : List Value).toArray s 0 0 A) (F0 m 46 ls []) := by
        intro gR0  H locs hP hD hS ls hl
        refine lv_iconst (v := nI 1) hx hb dL_isMixed_46 (by decide) ?_
        refine lv_goto (tgt := 51) hx hb dL_isMixed_47 (by decide) ?_
        refine lv_istore (lv' := [(4, .int (nI 1)), (0, .ref (b 0)), (1, .int (nI th2)), (2, .ref cc0), (3, .int (nI q0))]) hx hb dL_isMixed_51 hl (by decide) rfl (fun ls hl => ?_)
        refine lv_lconst (v := lN 0) hx hb dL_isMixed_53 (by decide) ?_
        refine lv_lstore (lv' := [(5, .long (lN 0)), (4, .int (nI 1)), (0, .ref (b 0)), (1, .int (nI th2)), (2, .ref cc0), (3, .int (nI q0))]) hx hb dL_isMixed_54 hl (by decide) rfl (fun ls hl => ?_)
        refine lv_iconst (v := nI 0) hx hb dL_isMixed_56 (by decide) ?_
        refine lv_istore (lv' := [(7, .int (nI 0)), (5, .long (lN 0)), (4, .int (nI 1)), (0, .ref (b 0)), (1, .int (nI th2)), (2, .ref cc0), (3, .int (nI q0))]) hx hb dL_isMixed_57 hl (by decide) rfl (fun ls hl => ?_)
        have L59 : ∀ u : Nat, u ≤ n → ∀ (mo : Nat) (gR : Nat → Nat → Int64), (MXI (fun x y => dst (PL g n k x q0) (PL g n k y q0) n) n u 0 mo) → ∀ (H : Heap) (locs : List Loc), va_P D vwCl ([hO b, cO b (nI n) (nI k), lO b, oQ (cY 2) (b 3) (rr 1) 6, gI (cY 0) (rr 1) 6 fW 6, oQ (cY 3) (b 5) (rr 2) 13, gJ (cY 1) (rr 2) 36 gR 13, [(cc0, .inl (cY 0, 2, .inl fc))]] : List va_W).flatten H → va_D A ([hO b, cO b (nI n) (nI k), lO b, oQ (cY 2) (b 3) (rr 1) 6, gI (cY 0) (rr 1) 6 fW 6, oQ (cY 3) (b 5) (rr 2) 13, gJ (cY 1) (rr 2) 36 gR 13, [(cc0, .inl (cY 0, 2, .inl fc))]] : List va_W).flatten → va_S A s.heap H locs → ∀ (ls : Array Slot), lv_has ls 11 [(0, .ref (b 0)), (1, .int (nI th2)), (2, .ref cc0), (3, .int (nI q0)), (4, .int (nI 1)), (5, .long (lN mo)), (7, .int (nI u))] → W p l e ({ frames := 4, cells := 0, slots := 0, locals := 160 }) s m ([.ref (b 0), .int (nI th2), .ref cc0] : List Value).toArray below meth c H locs 0 0 (MQ below (qI (S := (Nat → Nat → Int64)) D cY (fun r uu => r = bI true) (fun uu => [hO b, cO b (nI n) (nI k), lO b, oQ (cY 2) (b 3) (rr 1) 6, gI (cY 0) (rr 1) 6 fW 6, oQ (cY 3) (b 5) (rr 2) 13, gJ (cY 1) (rr 2) 36 uu 13, [(cc0, .inl (cY 0, 2, .inl fc))]]) A) ([.ref (b 0), .int (nI th2), .ref cc0] : List Value).toArray s 0 0 A) (F0 m 59 ls []) := by
          refine lpW n ?_
          intro u bdu ih59 mo gR hM H locs hP hD hS ls hl
          refine lv_iload hx hb dL_isMixed_59 (lv_at hl 6 rfl) ?_
          refine lv_aload_n hx hb dL_isMixed_61 rfl (lv_at hl 2 rfl) ?_
          refine lv_iconst (v := nI 0) hx hb dL_isMixed_62 (by decide) ?_
          refine b_iald hx hb hK hP 7 0 rfl rfl (by omega) (by decide) dL_isMixed_63 ?_
          refine eqi (x' := nI n) (hcn) ?_
          refine n_icmp_ge (tgt := 126) hx hb dL_isMixed_64 (by decide) (by omega) (by omega) (fun h64 => ?_) (fun h64 => ?_)
          · -- t
            refine lv_iload hx hb dL_isMixed_126 (lv_at hl 4 rfl) ?_
            have hp0 : k ^ q0 ≤ 8916100448256 := pow_b hk12 hk1 (by omega)
            have hmb : mo ≤ k ^ q0 := MXI_b hgn hM
            have hthp : th2 * k ^ q0 ≤ 1000 * 8916100448256 := Nat.mul_le_mul hth hp0
            refine n_if_eq (tgt := 179) hx hb dL_isMixed_128 (by decide) (by omega) (fun h128 => ?_) (fun h128 => ?_)
            · -- t
              exact absurd h128 (by decide)
            · -- f
              refine lv_ldc2 (v := 1000) hx hb hown (hts (.constantLong RL 50 1000) (by decide +kernel)) dL_isMixed_131 ?_
              refine eql (x' := lN 1000) (by decide) ?_
              refine lv_lload hx hb dL_isMixed_134 (lv_at hl 5 rfl) ?_
              refine lv_lmul hx hb dL_isMixed_136 ?_
              refine eql (x' := lN (1000 * mo)) (lN_mul _ _) ?_
              refine lv_iload_n hx hb dL_isMixed_137 rfl (lv_at hl 1 rfl) ?_
              refine lv_i2l (v := lN th2) hx hb dL_isMixed_138 (nI_l (by omega)) ?_
              refine lv_aload_n hx hb dL_isMixed_139 rfl (lv_at hl 0 rfl) ?_
              refine lv_iload_n hx hb dL_isMixed_140 rfl (lv_at hl 3 rfl) ?_
              refine n_if_ge (tgt := 149) hx hb dL_isMixed_141 (by decide) (by omega) (fun h141 => ?_) (fun h141 => ?_)
              · -- t
                refine lv_iload_n hx hb dL_isMixed_149 rfl (lv_at hl 3 rfl) ?_
                refine ca_l (CL := [hO b, cO b (nI n) (nI k)]) (va_runV (As := [.int (nI q0)]) (rest := [.long (lN th2), .long (lN (1000 * mo))]) ⟨hx, hb, hml, hown, hts⟩ (c_X8_words_ok l D cY H.size b n k g q0 (by omega) (by omega) (by omega) (by omega) (by omega)) (cwV 1 hts gL_isMixed_X8_words rfl rfl rfl (by decide +kernel) ⟨Nat.le_of_ble_eq_true rfl, Nat.le_of_ble_eq_true rfl⟩) (b_preV hVK hP hD [0, 1] rfl rfl 0 rfl rfl) rfl rfl hl.1 rfl (lv_room (Nat.le_of_ble_eq_true rfl)) dL_isMixed_150 ⟨Nat.le_refl _, Nat.le_refl _⟩) hP hD hS hA [0, 1] rfl rfl (fun _ => rfl) (fun r150 uu H locs hq hP hD hS => ?_)
                subst hq
                have hP : va_P D vwCl ([hO b, cO b (nI n) (nI k), lO b, oQ (cY 2) (b 3) (rr 1) 6, gI (cY 0) (rr 1) 6 fW 6, oQ (cY 3) (b 5) (rr 2) 13, gJ (cY 1) (rr 2) 36 gR 13, [(cc0, .inl (cY 0, 2, .inl fc))]] : List va_W).flatten H := hP
                have hD : va_D A ([hO b, cO b (nI n) (nI k), lO b, oQ (cY 2) (b 3) (rr 1) 6, gI (cY 0) (rr 1) 6 fW 6, oQ (cY 3) (b 5) (rr 2) 13, gJ (cY 1) (rr 2) 36 gR 13, [(cc0, .inl (cY 0, 2, .inl fc))]] : List va_W).flatten := hD
                refine lv_lmul hx hb dL_isMixed_153 ?_
                refine eql (x' := lN (th2 * (k ^ q0))) (lN_mul _ _) ?_
                refine W.lcmp hx hb dL_isMixed_154 ?_
                refine l_if_gt (tgt := 162) hx hb dL_isMixed_155 (by decide) (fun h155 => ?_) (fun h155 => ?_)
                · -- t
                  have hmm := MXI_t hgn hM hmt
                  exact absurd ((pk_lLT (by omega) (by omega)).mp h155) (by omega)
                · -- f
                  refine lv_iconst (v := nI 1) hx hb dL_isMixed_158 (by decide) ?_
                  refine lv_goto (tgt := 163) hx hb dL_isMixed_159 (by decide) ?_
                  refine lv_iload_n hx hb dL_isMixed_163 rfl (lv_at hl 3 rfl) ?_
                  refine n_if_lt (tgt := 171) hx hb dL_isMixed_164 (by decide) (by omega) (fun h164 => ?_) (fun h164 => ?_)
                  · -- t
                    exact h164.elim
                  · -- f
                    refine lv_iconst (v := nI 1) hx hb dL_isMixed_167 (by decide) ?_
                    refine lv_goto (tgt := 172) hx hb dL_isMixed_168 (by decide) ?_
                    refine n_icmp_ne (tgt := 179) hx hb dL_isMixed_172 (by decide) (by omega) (by omega) (fun h172 => ?_) (fun h172 => ?_)
                    · -- t
                      exact absurd rfl h172
                    · -- f
                      refine lv_iconst (v := nI 1) hx hb dL_isMixed_175 (by decide) ?_
                      refine lv_goto (tgt := 180) hx hb dL_isMixed_176 (by decide) ?_
                      refine eqi (x' := bI true) rfl ?_
                      exact r_z hx hb hr hlocks hP hD hS gR rfl (rfl) dL_isMixed_180
              · -- f
                exact h141.elim
          · -- f
            refine lv_iconst (v := nI 0) hx hb dL_isMixed_67 (by decide) ?_
            refine lv_istore (lv' := [(8, .int (nI 0)), (0, .ref (b 0)), (1, .int (nI th2)), (2, .ref cc0), (3, .int (nI q0)), (4, .int (nI 1)), (5, .long (lN mo)), (7, .int (nI u))]) hx hb dL_isMixed_68 hl (by decide) rfl (fun ls hl => ?_)
            have L70 : ∀ w : Nat, w ≤ u → ∀ (mp : Nat) (gR2 : Nat → Nat → Int64), (MXI (fun x y => dst (PL g n k x q0) (PL g n k y q0) n) n u w mp) → ∀ (H : Heap) (locs : List Loc), va_P D vwCl ([hO b, cO b (nI n) (nI k), lO b, oQ (cY 2) (b 3) (rr 1) 6, gI (cY 0) (rr 1) 6 fW 6, oQ (cY 3) (b 5) (rr 2) 13, gJ (cY 1) (rr 2) 36 gR2 13, [(cc0, .inl (cY 0, 2, .inl fc))]] : List va_W).flatten H → va_D A ([hO b, cO b (nI n) (nI k), lO b, oQ (cY 2) (b 3) (rr 1) 6, gI (cY 0) (rr 1) 6 fW 6, oQ (cY 3) (b 5) (rr 2) 13, gJ (cY 1) (rr 2) 36 gR2 13, [(cc0, .inl (cY 0, 2, .inl fc))]] : List va_W).flatten → va_S A s.heap H locs → ∀ (ls : Array Slot), lv_has ls 11 [(0, .ref (b 0)), (1, .int (nI th2)), (2, .ref cc0), (3, .int (nI q0)), (4, .int (nI 1)), (5, .long (lN mp)), (7, .int (nI u)), (8, .int (nI w))] → W p l e ({ frames := 4, cells := 0, slots := 0, locals := 160 }) s m ([.ref (b 0), .int (nI th2), .ref cc0] : List Value).toArray below meth c H locs 0 0 (MQ below (qI (S := (Nat → Nat → Int64)) D cY (fun r uu => r = bI true) (fun uu => [hO b, cO b (nI n) (nI k), lO b, oQ (cY 2) (b 3) (rr 1) 6, gI (cY 0) (rr 1) 6 fW 6, oQ (cY 3) (b 5) (rr 2) 13, gJ (cY 1) (rr 2) 36 uu 13, [(cc0, .inl (cY 0, 2, .inl fc))]]) A) ([.ref (b 0), .int (nI th2), .ref cc0] : List Value).toArray s 0 0 A) (F0 m 70 ls []) := by
              refine lpW u ?_
              intro w bdw ih70 mp gR2 hJ H locs hP hD hS ls hl
              refine lv_iload hx hb dL_isMixed_70 (lv_at hl 7 rfl) ?_
              refine lv_iload hx hb dL_isMixed_72 (lv_at hl 6 rfl) ?_
              refine n_icmp_ge (tgt := 120) hx hb dL_isMixed_74 (by decide) (by omega) (by omega) (fun h74 => ?_) (fun h74 => ?_)
              · -- t
                refine lv_iinc (v := nI (u + 1)) (lv' := [(7, .int (nI (u + 1))), (0, .ref (b 0)), (1, .int (nI th2)), (2, .ref cc0), (3, .int (nI q0)), (4, .int (nI 1)), (5, .long (lN mp)), (8, .int (nI w))]) hx hb dL_isMixed_120 hl (k := 6) rfl (nI_1 u) (by decide) rfl (fun ls hl => ?_)
                refine lv_goto (tgt := 59) hx hb dL_isMixed_123 (by decide) ?_
                exact ih59 (by omega) mp gR2 (MXI_n (by omega) hJ) _ _ hP hD hS _ (lv_sub hl [1, 2, 3, 4, 5, 6, 0] rfl)
              · -- f
                refine lv_aload_n hx hb dL_isMixed_77 rfl (lv_at hl 0 rfl) ?_
                refine lv_iload hx hb dL_isMixed_78 (lv_at hl 6 rfl) ?_
                refine lv_iload hx hb dL_isMixed_80 (lv_at hl 7 rfl) ?_
                refine lv_iload_n hx hb dL_isMixed_82 rfl (lv_at hl 3 rfl) ?_
                refine n_if_ge (tgt := 91) hx hb dL_isMixed_83 (by decide) (by omega) (fun h83 => ?_) (fun h83 => ?_)
                · -- t
                  refine lv_iload_n hx hb dL_isMixed_91 rfl (lv_at hl 3 rfl) ?_
                  refine ca_l (CL := [hO b, cO b (nI n) (nI k), lO b, oQ (cY 2) (b 3) (rr 1) 6, gI (cY 0) (rr 1) 6 fW 6, oQ (cY 3) (b 5) (rr 2) 13, gJ (cY 1) (rr 2) 36 gR2 13]) (va_runV (As := [.int (nI u), .int (nI w), .int (nI q0)]) (rest := []) ⟨hx, hb, hml, hown, hts⟩ (c_X8_distance_ok l D cY H.size b rr n k fW gR2 g u w q0 (by omega) (by omega) (by omega) (by omega) hgn hW (by omega) (by omega) (by omega)) (cwV 3 hts gL_isMixed_X8_distance rfl rfl rfl (by decide +kernel) ⟨Nat.le_of_ble_eq_true rfl, Nat.le_of_ble_eq_true rfl⟩) (b_preV hVK hP hD [0, 1, 2, 3, 4, 5, 6] rfl rfl 0 rfl rfl) rfl rfl hl.1 rfl (lv_room (Nat.le_of_ble_eq_true rfl)) dL_isMixed_92 ⟨Nat.le_refl _, Nat.le_refl _⟩) hP hD hS hA [0, 1, 2, 3, 4, 5, 6] rfl rfl (fun _ => rfl) (fun r92 uu H locs hq hP hD hS => ?_)
                  obtain ⟨fR1_2, rfl⟩ : ∃ z, z = uu := ⟨_, rfl⟩
                  try dsimp only at hq
                  subst hq
                  have hP : va_P D vwCl ([hO b, cO b (nI n) (nI k), lO b, oQ (cY 2) (b 3) (rr 1) 6, gI (cY 0) (rr 1) 6 fW 6, oQ (cY 3) (b 5) (rr 2) 13, gJ (cY 1) (rr 2) 36 fR1_2 13, [(cc0, .inl (cY 0, 2, .inl fc))]] : List va_W).flatten H := hP
                  have hD : va_D A ([hO b, cO b (nI n) (nI k), lO b, oQ (cY 2) (b 3) (rr 1) 6, gI (cY 0) (rr 1) 6 fW 6, oQ (cY 3) (b 5) (rr 2) 13, gJ (cY 1) (rr 2) 36 fR1_2 13, [(cc0, .inl (cY 0, 2, .inl fc))]] : List va_W).flatten := hD
                  have hdb : dst (PL g n k u q0) (PL g n k w q0) n ≤ k ^ q0 := dst_pow hgn (by omega)
                  have hp2 : k ^ q0 ≤ 8916100448256 := pow_b hk12 hk1 (by omega)
                  have hmp : mp ≤ k ^ q0 := MXI_b hgn hJ
                  refine lv_lstore (lv' := [(9, .long (lN (dst (PL g n k u q0) (PL g n k w q0) n))), (0, .ref (b 0)), (1, .int (nI th2)), (2, .ref cc0), (3, .int (nI q0)), (4, .int (nI 1)), (5, .long (lN mp)), (7, .int (nI u)), (8, .int (nI w))]) hx hb dL_isMixed_95 hl (by decide) rfl (fun ls hl => ?_)
                  refine lv_lload hx hb dL_isMixed_97 (lv_at hl 0 rfl) ?_
                  refine lv_lload hx hb dL_isMixed_99 (lv_at hl 6 rfl) ?_
                  refine W.lcmp hx hb dL_isMixed_101 ?_
                  refine l_if_le (tgt := 110) hx hb dL_isMixed_102 (by decide) (fun h102 => ?_) (fun h102 => ?_)
                  · -- t
                    refine lv_lload hx hb dL_isMixed_110 (lv_at hl 6 rfl) ?_
                    refine lv_lstore (lv' := [(5, .long (lN mp)), (9, .long (lN (dst (PL g n k u q0) (PL g n k w q0) n))), (0, .ref (b 0)), (1, .int (nI th2)), (2, .ref cc0), (3, .int (nI q0)), (4, .int (nI 1)), (7, .int (nI u)), (8, .int (nI w))]) hx hb dL_isMixed_112 hl (by decide) rfl (fun ls hl => ?_)
                    refine lv_iinc (v := nI (w + 1)) (lv' := [(8, .int (nI (w + 1))), (5, .long (lN mp)), (9, .long (lN (dst (PL g n k u q0) (PL g n k w q0) n))), (0, .ref (b 0)), (1, .int (nI th2)), (2, .ref cc0), (3, .int (nI q0)), (4, .int (nI 1)), (7, .int (nI u))]) hx hb dL_isMixed_114 hl (k := 8) rfl (nI_1 w) (by decide) rfl (fun ls hl => ?_)
                    refine lv_goto (tgt := 70) hx hb dL_isMixed_117 (by decide) ?_
                    exact ih70 (by omega) mp fR1_2 (by first | exact MXI_le hJ ((pk_lLE (by omega) (by omega)).mp h102) | exact MXI_gt (by omega) (by omega) hJ (Nat.le_of_lt (Nat.lt_of_not_le (fun q => h102 ((pk_lLE (by omega) (by omega)).mpr q))))) _ _ hP hD hS _ (lv_sub hl [3, 4, 5, 6, 7, 1, 8, 0] rfl)
                  · -- f
                    refine lv_lload hx hb dL_isMixed_105 (lv_at hl 0 rfl) ?_
                    refine lv_goto (tgt := 112) hx hb dL_isMixed_107 (by decide) ?_
                    refine lv_lstore (lv' := [(5, .long (lN (dst (PL g n k u q0) (PL g n k w q0) n))), (9, .long (lN (dst (PL g n k u q0) (PL g n k w q0) n))), (0, .ref (b 0)), (1, .int (nI th2)), (2, .ref cc0), (3, .int (nI q0)), (4, .int (nI 1)), (7, .int (nI u)), (8, .int (nI w))]) hx hb dL_isMixed_112 hl (by decide) rfl (fun ls hl => ?_)
                    refine lv_iinc (v := nI (w + 1)) (lv' := [(8, .int (nI (w + 1))), (5, .long (lN (dst (PL g n k u q0) (PL g n k w q0) n))), (9, .long (lN (dst (PL g n k u q0) (PL g n k w q0) n))), (0, .ref (b 0)), (1, .int (nI th2)), (2, .ref cc0), (3, .int (nI q0)), (4, .int (nI 1)), (7, .int (nI u))]) hx hb dL_isMixed_114 hl (k := 8) rfl (nI_1 w) (by decide) rfl (fun ls hl => ?_)
                    refine lv_goto (tgt := 70) hx hb dL_isMixed_117 (by decide) ?_
                    exact ih70 (by omega) (dst (PL g n k u q0) (PL g n k w q0) n) fR1_2 (by first | exact MXI_le hJ ((pk_lLE (by omega) (by omega)).mp h102) | exact MXI_gt (by omega) (by omega) hJ (Nat.le_of_lt (Nat.lt_of_not_le (fun q => h102 ((pk_lLE (by omega) (by omega)).mpr q))))) _ _ hP hD hS _ (lv_sub hl [3, 4, 5, 6, 7, 1, 8, 0] rfl)
                · -- f
                  exact h83.elim
            exact L70 0 (by omega) mo gR hM _ _ hP hD hS _ (lv_sub hl [1, 2, 3, 4, 5, 6, 7, 0] rfl)
        exact L59 0 (by omega) 0 gR0 MXI_0 _ _ hP hD hS _ (lv_sub hl [3, 4, 5, 6, 2, 1, 0] rfl)
      refine lv_iload_n hx hb dL_isMixed_17 rfl (lv_at hl 2 rfl) ?_
      refine n_if_eq (tgt := 46) hx hb dL_isMixed_18 (by decide) (by omega) (fun h18 => ?_) (fun h18 => ?_)
      · -- t
        exact L46 fR1_1  _ _ hP hD hS _ (lv_sub hl [1, 2, 3, 0] rfl)
      · -- f
        refine lv_iload_n hx hb dL_isMixed_21 rfl (lv_at hl 0 rfl) ?_
        refine n_if_lt (tgt := 46) hx hb dL_isMixed_22 (by decide) (by omega) (fun h22 => ?_) (fun h22 => ?_)
        · -- t
          exact h22.elim
        · -- f
          refine lv_aload_n hx hb dL_isMixed_25 rfl (lv_at hl 1 rfl) ?_
          refine lv_iload_n hx hb dL_isMixed_26 rfl (lv_at hl 2 rfl) ?_
          refine lv_iconst (v := nI 1) hx hb dL_isMixed_27 (by decide) ?_
          refine lv_isub hx hb dL_isMixed_28 ?_
          refine eqi (x' := nI (th2 - 1)) (pk_sub (by omega)) ?_
          refine ca_i (CL := [hO b, cO b (nI n) (nI k), lO b, oQ (cY 2) (b 3) (rr 1) 6, gI (cY 0) (rr 1) 6 fW 6, oQ (cY 3) (b 5) (rr 2) 13, gJ (cY 1) (rr 2) 36 fR1_1 13]) (va_runV (As := [.int (nI (th2 - 1))]) (rest := []) ⟨hx, hb, hml, hown, hts⟩ (c_X8_mixing_ok l D cY H.size b rr n k fW fR1_1 g (th2 - 1) (by omega) (by omega) (by omega) (by omega) hgn hW (by omega)) (cwV 1 hts gL_isMixed_X8_mixing rfl rfl rfl (by decide +kernel) ⟨Nat.le_of_ble_eq_true rfl, Nat.le_of_ble_eq_true rfl⟩) (b_preV hVK hP hD [0, 1, 2, 3, 4, 5, 6] rfl rfl 0 rfl rfl) rfl rfl hl.1 rfl (lv_room (Nat.le_of_ble_eq_true rfl)) dL_isMixed_29 ⟨Nat.le_refl _, Nat.le_refl _⟩) hP hD hS hA [0, 1, 2, 3, 4, 5, 6] rfl rfl (fun _ => rfl) (fun r29 uu H locs hq hP hD hS => ?_)
          obtain ⟨fR1_3, rfl⟩ : ∃ z, z = uu := ⟨_, rfl⟩
          try dsimp only at hq
          subst hq
          have hP : va_P D vwCl ([hO b, cO b (nI n) (nI k), lO b, oQ (cY 2) (b 3) (rr 1) 6, gI (cY 0) (rr 1) 6 fW 6, oQ (cY 3) (b 5) (rr 2) 13, gJ (cY 1) (rr 2) 36 fR1_3 13, [(cc0, .inl (cY 0, 2, .inl fc))]] : List va_W).flatten H := hP
          have hD : va_D A ([hO b, cO b (nI n) (nI k), lO b, oQ (cY 2) (b 3) (rr 1) 6, gI (cY 0) (rr 1) 6 fW 6, oQ (cY 3) (b 5) (rr 2) 13, gJ (cY 1) (rr 2) 36 fR1_3 13, [(cc0, .inl (cY 0, 2, .inl fc))]] : List va_W).flatten := hD
          refine lv_if_lt (tgt := 46) hx hb dL_isMixed_32 (by decide) (fun h32 => ?_) (fun h32 => ?_)
          · -- t
            exact L46 fR1_3  _ _ hP hD hS _ (lv_sub hl [1, 2, 3, 0] rfl)
          · -- f
            refine lv_aload_n hx hb dL_isMixed_35 rfl (lv_at hl 1 rfl) ?_
            refine lv_iload_n hx hb dL_isMixed_36 rfl (lv_at hl 2 rfl) ?_
            refine lv_iconst (v := nI 1) hx hb dL_isMixed_37 (by decide) ?_
            refine lv_isub hx hb dL_isMixed_38 ?_
            refine eqi (x' := nI (th2 - 1)) (pk_sub (by omega)) ?_
            refine ca_i (CL := [hO b, cO b (nI n) (nI k), lO b, oQ (cY 2) (b 3) (rr 1) 6, gI (cY 0) (rr 1) 6 fW 6, oQ (cY 3) (b 5) (rr 2) 13, gJ (cY 1) (rr 2) 36 fR1_3 13]) (va_runV (As := [.int (nI (th2 - 1))]) (rest := []) ⟨hx, hb, hml, hown, hts⟩ (c_X8_mixing_ok l D cY H.size b rr n k fW fR1_3 g (th2 - 1) (by omega) (by omega) (by omega) (by omega) hgn hW (by omega)) (cwV 1 hts gL_isMixed_X8_mixing rfl rfl rfl (by decide +kernel) ⟨Nat.le_of_ble_eq_true rfl, Nat.le_of_ble_eq_true rfl⟩) (b_preV hVK hP hD [0, 1, 2, 3, 4, 5, 6] rfl rfl 0 rfl rfl) rfl rfl hl.1 rfl (lv_room (Nat.le_of_ble_eq_true rfl)) dL_isMixed_39 ⟨Nat.le_refl _, Nat.le_refl _⟩) hP hD hS hA [0, 1, 2, 3, 4, 5, 6] rfl rfl (fun _ => rfl) (fun r39 uu H locs hq hP hD hS => ?_)
            obtain ⟨fR1_4, rfl⟩ : ∃ z, z = uu := ⟨_, rfl⟩
            try dsimp only at hq
            subst hq
            have hP : va_P D vwCl ([hO b, cO b (nI n) (nI k), lO b, oQ (cY 2) (b 3) (rr 1) 6, gI (cY 0) (rr 1) 6 fW 6, oQ (cY 3) (b 5) (rr 2) 13, gJ (cY 1) (rr 2) 36 fR1_4 13, [(cc0, .inl (cY 0, 2, .inl fc))]] : List va_W).flatten H := hP
            have hD : va_D A ([hO b, cO b (nI n) (nI k), lO b, oQ (cY 2) (b 3) (rr 1) 6, gI (cY 0) (rr 1) 6 fW 6, oQ (cY 3) (b 5) (rr 2) 13, gJ (cY 1) (rr 2) 36 fR1_4 13, [(cc0, .inl (cY 0, 2, .inl fc))]] : List va_W).flatten := hD
            refine lv_iload_n hx hb dL_isMixed_42 rfl (lv_at hl 0 rfl) ?_
            refine lv_icmp_lt (tgt := 50) hx hb dL_isMixed_43 (by decide) (fun h43 => ?_) (fun h43 => ?_)
            · -- t
              rcases hpv with e | e | ⟨q1, hq1, hle, e⟩
              · omega
              · rw [e] at h32; exact absurd (by decide) h32
              · rw [e] at h43; exact absurd ((nI_ltI (by omega) (by omega)).mp h43) (by omega)
            · -- f
              exact L46 fR1_4  _ _ hP hD hS _ (lv_sub hl [1, 2, 3, 0] rfl)

set_option maxHeartbeats 4000000 in
set_option maxRecDepth 100000 in
theorem c_L_isMixed_none (l : Launch) (D : va_G) (cY : Nat → ClassId) (sz : Nat) (b : Nat → Nat) (rr : Nat → Nat → Nat) (n : Nat) (k : Nat) (fW : Nat → Nat → Int32) (fR : Nat → Nat → Int64) (g : Nat → Nat → Nat) (cc0 : Nat) (fc : Nat → Int32) (th2 : Nat) (hn1 : 1 ≤ n) (hn6 : n ≤ 6) (hk1 : 1 ≤ k) (hk12 : k ≤ 12) (hcn : fc 0 = nI n) (hck : fc 1 = nI k) (hgn : ∀ i j, i < n → j < k → g i j < n) (hW : ∀ i j, i < n → j < n → fW i j = nI (cnt (g i) j k)) (hth : th2 ≤ 1000) (hmx : mxs (mixA g n k th2) 13 0 = -1) (hmt : mixA g n k th2 12 = false) : Met l yL_isMixed wsL_isMixed ({ frames := 4, cells := 0, slots := 0, locals := 160 }) (cP D cY [.ref (b 0), .int (nI th2), .ref cc0] [hO b, cO b (nI n) (nI k), lO b, oQ (cY 2) (b 3) (rr 1) 6, gI (cY 0) (rr 1) 6 fW 6, oQ (cY 3) (b 5) (rr 2) 13, gJ (cY 1) (rr 2) 36 fR 13, [(cc0, .inl (cY 0, 2, .inl fc))]] sz) (qI (S := (Nat → Nat → Int64)) D cY (fun r uu => r = bI true) (fun uu => [hO b, cO b (nI n) (nI k), lO b, oQ (cY 2) (b 3) (rr 1) 6, gI (cY 0) (rr 1) 6 fW 6, oQ (cY 3) (b 5) (rr 2) 13, gJ (cY 1) (rr 2) 36 uu 13, [(cc0, .inl (cY 0, 2, .inl fc))]]) (va_A ([hO b, cO b (nI n) (nI k), lO b, oQ (cY 2) (b 3) (rr 1) 6, gI (cY 0) (rr 1) 6 fW 6, oQ (cY 3) (b 5) (rr 2) 13, gJ (cY 1) (rr 2) 36 fR 13, [(cc0, .inl (cY 0, 2, .inl fc))]] : List va_W).flatten sz)) 0 0 (va_A ([hO b, cO b (nI n) (nI k), lO b, oQ (cY 2) (b 3) (rr 1) 6, gI (cY 0) (rr 1) 6 fW 6, oQ (cY 3) (b 5) (rr 2) 13, gJ (cY 1) (rr 2) 36 fR 13, [(cc0, .inl (cY 0, 2, .inl fc))]] : List va_W).flatten sz) := by
  refine mtB (Qc := fun A => qI (S := (Nat → Nat → Int64)) D cY (fun r uu => r = bI true) (fun uu => [hO b, cO b (nI n) (nI k), lO b, oQ (cY 2) (b 3) (rr 1) 6, gI (cY 0) (rr 1) 6 fW 6, oQ (cY 3) (b 5) (rr 2) 13, gJ (cY 1) (rr 2) 36 uu 13, [(cc0, .inl (cY 0, 2, .inl fc))]]) A) (cc := cL_isMixed) (maxL := 11) (ret := (some .boolean)) (by decide) rfl (Nat.le_of_ble_eq_true rfl) ?_
  intro p e s m below meth c A ls hx hb hr hml hts hown hlocks hnm hsz hP hK hVK hD hS hA hl
  have hown : s.vm.findClass RL = some m.cls := hown
  have hl : lv_has ls 11 [(0, .ref (b 0)), (1, .int (nI th2)), (2, .ref cc0)] := hl
  have hP : va_P D vwCl ([hO b, cO b (nI n) (nI k), lO b, oQ (cY 2) (b 3) (rr 1) 6, gI (cY 0) (rr 1) 6 fW 6, oQ (cY 3) (b 5) (rr 2) 13, gJ (cY 1) (rr 2) 36 fR 13, [(cc0, .inl (cY 0, 2, .inl fc))]] : List va_W).flatten s.heap := hP
  have hD : va_D A ([hO b, cO b (nI n) (nI k), lO b, oQ (cY 2) (b 3) (rr 1) 6, gI (cY 0) (rr 1) 6 fW 6, oQ (cY 3) (b 5) (rr 2) 13, gJ (cY 1) (rr 2) 36 fR 13, [(cc0, .inl (cY 0, 2, .inl fc))]] : List va_W).flatten := hD
  refine lv_aload_n hx hb dL_isMixed_0 rfl (lv_at hl 0 rfl) ?_
  refine lv_iload_n hx hb dL_isMixed_1 rfl (lv_at hl 1 rfl) ?_
  refine ca_i (CL := [hO b, cO b (nI n) (nI k), lO b, oQ (cY 2) (b 3) (rr 1) 6, gI (cY 0) (rr 1) 6 fW 6, oQ (cY 3) (b 5) (rr 2) 13, gJ (cY 1) (rr 2) 36 fR 13]) (va_runV (As := [.int (nI th2)]) (rest := []) ⟨hx, hb, hml, hown, hts⟩ (c_X8_mixing_ok l D cY s.heap.size b rr n k fW fR g th2 (by omega) (by omega) (by omega) (by omega) hgn hW (by omega)) (cwV 1 hts gL_isMixed_X8_mixing rfl rfl rfl (by decide +kernel) ⟨Nat.le_of_ble_eq_true rfl, Nat.le_of_ble_eq_true rfl⟩) (b_preV hVK hP hD [0, 1, 2, 3, 4, 5, 6] rfl rfl 0 rfl rfl) rfl rfl hl.1 rfl (lv_room (Nat.le_of_ble_eq_true rfl)) dL_isMixed_2 ⟨Nat.le_refl _, Nat.le_refl _⟩) hP hD hS hA [0, 1, 2, 3, 4, 5, 6] rfl rfl (fun _ => rfl) (fun r2 uu H locs hq hP hD hS => ?_)
  obtain ⟨fR1_1, rfl⟩ : ∃ z, z = uu := ⟨_, rfl⟩
  try dsimp only at hq
  subst hq
  have hP : va_P D vwCl ([hO b, cO b (nI n) (nI k), lO b, oQ (cY 2) (b 3) (rr 1) 6, gI (cY 0) (rr 1) 6 fW 6, oQ (cY 3) (b 5) (rr 2) 13, gJ (cY 1) (rr 2) 36 fR1_1 13, [(cc0, .inl (cY 0, 2, .inl fc))]] : List va_W).flatten H := hP
  have hD : va_D A ([hO b, cO b (nI n) (nI k), lO b, oQ (cY 2) (b 3) (rr 1) 6, gI (cY 0) (rr 1) 6 fW 6, oQ (cY 3) (b 5) (rr 2) 13, gJ (cY 1) (rr 2) 36 fR1_1 13, [(cc0, .inl (cY 0, 2, .inl fc))]] : List va_W).flatten := hD
  refine eqi (x' := (-1)) (hmx) ?_
  refine lv_istore_n (lv' := [(3, .int (-1)), (0, .ref (b 0)), (1, .int (nI th2)), (2, .ref cc0)]) hx hb dL_isMixed_5 rfl hl (by decide) rfl (fun ls hl => ?_)
  refine lv_iload_n hx hb dL_isMixed_6 rfl (lv_at hl 0 rfl) ?_
  refine lv_iconst (v := (-1)) hx hb dL_isMixed_7 (by decide) ?_
  refine lv_icmp_lt (tgt := 50) hx hb dL_isMixed_8 (by decide) (fun h8 => ?_) (fun h8 => ?_)
  · -- t
    exact absurd h8 (by decide)
  · -- f
    refine lv_iload_n hx hb dL_isMixed_11 rfl (lv_at hl 0 rfl) ?_
    refine lv_bipush (v := nI 12) hx hb dL_isMixed_12 (by decide) ?_
    refine lv_icmp_gt (tgt := 50) hx hb dL_isMixed_14 (by decide) (fun h14 => ?_) (fun h14 => ?_)
    · -- t
      exact absurd h14 (by decide)
    · -- f
      have L46 : ∀ (gR0 : Nat → Nat → Int64), ∀ (H : Heap) (locs : List Loc), va_P D vwCl ([hO b, cO b (nI n) (nI k), lO b, oQ (cY 2) (b 3) (rr 1) 6, gI (cY 0) (rr 1) 6 fW 6, oQ (cY 3) (b 5) (rr 2) 13, gJ (cY 1) (rr 2) 36 gR0 13, [(cc0, .inl (cY 0, 2, .inl fc))]] : List va_W).flatten H → va_D A ([hO b, cO b (nI n) (nI k), lO b, oQ (cY 2) (b 3) (rr 1) 6, gI (cY 0) (rr 1) 6 fW 6, oQ (cY 3) (b 5) (rr 2) 13, gJ (cY 1) (rr 2) 36 gR0 13, [(cc0, .inl (cY 0, 2, .inl fc))]] : List va_W).flatten → va_S A s.heap H locs → ∀ (ls : Array Slot), lv_has ls 11 [(0, .ref (b 0)), (1, .int (nI th2)), (2, .ref cc0), (3, .int (-1))] → W p l e ({ frames := 4, cells := 0, slots := 0, locals := 160 }) s m ([.ref (b 0), .int (nI th2), .ref cc0] : List Value).toArray below meth c H locs 0 0 (MQ below (qI (S := (Nat → Nat → Int64)) D cY (fun r uu => r = bI true) (fun uu => [hO b, cO b (nI n) (nI k), lO b, oQ (cY 2) (b 3) (rr 1) 6, gI (cY 0) (rr 1) 6 fW 6, oQ (cY 3) (b 5) (rr 2) 13, gJ (cY 1) (rr 2) 36 uu 13, [(cc0, .inl (cY 0, 2, .inl fc))]]) A) ([.ref (b 0), .int (nI th2), .ref cc0] : List Value).toArray s 0 0 A) (F0 m 46 ls []) := by
        intro gR0  H locs hP hD hS ls hl
        refine lv_iconst (v := nI 1) hx hb dL_isMixed_46 (by decide) ?_
        refine lv_goto (tgt := 51) hx hb dL_isMixed_47 (by decide) ?_
        refine lv_istore (lv' := [(4, .int (nI 1)), (0, .ref (b 0)), (1, .int (nI th2)), (2, .ref cc0), (3, .int (-1))]) hx hb dL_isMixed_51 hl (by decide) rfl (fun ls hl => ?_)
        refine lv_lconst (v := lN 0) hx hb dL_isMixed_53 (by decide) ?_
        refine lv_lstore (lv' := [(5, .long (lN 0)), (4, .int (nI 1)), (0, .ref (b 0)), (1, .int (nI th2)), (2, .ref cc0), (3, .int (-1))]) hx hb dL_isMixed_54 hl (by decide) rfl (fun ls hl => ?_)
        refine lv_iconst (v := nI 0) hx hb dL_isMixed_56 (by decide) ?_
        refine lv_istore (lv' := [(7, .int (nI 0)), (5, .long (lN 0)), (4, .int (nI 1)), (0, .ref (b 0)), (1, .int (nI th2)), (2, .ref cc0), (3, .int (-1))]) hx hb dL_isMixed_57 hl (by decide) rfl (fun ls hl => ?_)
        have L59 : ∀ u : Nat, u ≤ n → ∀ (mo : Nat) (gR : Nat → Nat → Int64), (MXI (fun x y => dst (PL g n k x 12) (PL g n k y 12) n) n u 0 mo) → ∀ (H : Heap) (locs : List Loc), va_P D vwCl ([hO b, cO b (nI n) (nI k), lO b, oQ (cY 2) (b 3) (rr 1) 6, gI (cY 0) (rr 1) 6 fW 6, oQ (cY 3) (b 5) (rr 2) 13, gJ (cY 1) (rr 2) 36 gR 13, [(cc0, .inl (cY 0, 2, .inl fc))]] : List va_W).flatten H → va_D A ([hO b, cO b (nI n) (nI k), lO b, oQ (cY 2) (b 3) (rr 1) 6, gI (cY 0) (rr 1) 6 fW 6, oQ (cY 3) (b 5) (rr 2) 13, gJ (cY 1) (rr 2) 36 gR 13, [(cc0, .inl (cY 0, 2, .inl fc))]] : List va_W).flatten → va_S A s.heap H locs → ∀ (ls : Array Slot), lv_has ls 11 [(0, .ref (b 0)), (1, .int (nI th2)), (2, .ref cc0), (3, .int (-1)), (4, .int (nI 1)), (5, .long (lN mo)), (7, .int (nI u))] → W p l e ({ frames := 4, cells := 0, slots := 0, locals := 160 }) s m ([.ref (b 0), .int (nI th2), .ref cc0] : List Value).toArray below meth c H locs 0 0 (MQ below (qI (S := (Nat → Nat → Int64)) D cY (fun r uu => r = bI true) (fun uu => [hO b, cO b (nI n) (nI k), lO b, oQ (cY 2) (b 3) (rr 1) 6, gI (cY 0) (rr 1) 6 fW 6, oQ (cY 3) (b 5) (rr 2) 13, gJ (cY 1) (rr 2) 36 uu 13, [(cc0, .inl (cY 0, 2, .inl fc))]]) A) ([.ref (b 0), .int (nI th2), .ref cc0] : List Value).toArray s 0 0 A) (F0 m 59 ls []) := by
          refine lpW n ?_
          intro u bdu ih59 mo gR hM H locs hP hD hS ls hl
          refine lv_iload hx hb dL_isMixed_59 (lv_at hl 6 rfl) ?_
          refine lv_aload_n hx hb dL_isMixed_61 rfl (lv_at hl 2 rfl) ?_
          refine lv_iconst (v := nI 0) hx hb dL_isMixed_62 (by decide) ?_
          refine b_iald hx hb hK hP 7 0 rfl rfl (by omega) (by decide) dL_isMixed_63 ?_
          refine eqi (x' := nI n) (hcn) ?_
          refine n_icmp_ge (tgt := 126) hx hb dL_isMixed_64 (by decide) (by omega) (by omega) (fun h64 => ?_) (fun h64 => ?_)
          · -- t
            refine lv_iload hx hb dL_isMixed_126 (lv_at hl 4 rfl) ?_
            have hp0 : k ^ 12 ≤ 8916100448256 := pow_b hk12 hk1 (by omega)
            have hmb : mo ≤ k ^ 12 := MXI_b hgn hM
            have hthp : th2 * k ^ 12 ≤ 1000 * 8916100448256 := Nat.mul_le_mul hth hp0
            refine n_if_eq (tgt := 179) hx hb dL_isMixed_128 (by decide) (by omega) (fun h128 => ?_) (fun h128 => ?_)
            · -- t
              exact absurd h128 (by decide)
            · -- f
              refine lv_ldc2 (v := 1000) hx hb hown (hts (.constantLong RL 50 1000) (by decide +kernel)) dL_isMixed_131 ?_
              refine eql (x' := lN 1000) (by decide) ?_
              refine lv_lload hx hb dL_isMixed_134 (lv_at hl 5 rfl) ?_
              refine lv_lmul hx hb dL_isMixed_136 ?_
              refine eql (x' := lN (1000 * mo)) (lN_mul _ _) ?_
              refine lv_iload_n hx hb dL_isMixed_137 rfl (lv_at hl 1 rfl) ?_
              refine lv_i2l (v := lN th2) hx hb dL_isMixed_138 (nI_l (by omega)) ?_
              refine lv_aload_n hx hb dL_isMixed_139 rfl (lv_at hl 0 rfl) ?_
              refine lv_iload_n hx hb dL_isMixed_140 rfl (lv_at hl 3 rfl) ?_
              refine lv_if_ge (tgt := 149) hx hb dL_isMixed_141 (by decide) (fun h141 => ?_) (fun h141 => ?_)
              · -- t
                exact absurd h141 (by decide)
              · -- f
                refine lv_bipush (v := nI 12) hx hb dL_isMixed_144 (by decide) ?_
                refine lv_goto (tgt := 150) hx hb dL_isMixed_146 (by decide) ?_
                refine ca_l (CL := [hO b, cO b (nI n) (nI k)]) (va_runV (As := [.int (nI 12)]) (rest := [.long (lN th2), .long (lN (1000 * mo))]) ⟨hx, hb, hml, hown, hts⟩ (c_X8_words_ok l D cY H.size b n k g 12 (by omega) (by omega) (by omega) (by omega) (by omega)) (cwV 1 hts gL_isMixed_X8_words rfl rfl rfl (by decide +kernel) ⟨Nat.le_of_ble_eq_true rfl, Nat.le_of_ble_eq_true rfl⟩) (b_preV hVK hP hD [0, 1] rfl rfl 0 rfl rfl) rfl rfl hl.1 rfl (lv_room (Nat.le_of_ble_eq_true rfl)) dL_isMixed_150 ⟨Nat.le_refl _, Nat.le_refl _⟩) hP hD hS hA [0, 1] rfl rfl (fun _ => rfl) (fun r150 uu H locs hq hP hD hS => ?_)
                subst hq
                have hP : va_P D vwCl ([hO b, cO b (nI n) (nI k), lO b, oQ (cY 2) (b 3) (rr 1) 6, gI (cY 0) (rr 1) 6 fW 6, oQ (cY 3) (b 5) (rr 2) 13, gJ (cY 1) (rr 2) 36 gR 13, [(cc0, .inl (cY 0, 2, .inl fc))]] : List va_W).flatten H := hP
                have hD : va_D A ([hO b, cO b (nI n) (nI k), lO b, oQ (cY 2) (b 3) (rr 1) 6, gI (cY 0) (rr 1) 6 fW 6, oQ (cY 3) (b 5) (rr 2) 13, gJ (cY 1) (rr 2) 36 gR 13, [(cc0, .inl (cY 0, 2, .inl fc))]] : List va_W).flatten := hD
                refine lv_lmul hx hb dL_isMixed_153 ?_
                refine eql (x' := lN (th2 * (k ^ 12))) (lN_mul _ _) ?_
                refine W.lcmp hx hb dL_isMixed_154 ?_
                refine l_if_gt (tgt := 162) hx hb dL_isMixed_155 (by decide) (fun h155 => ?_) (fun h155 => ?_)
                · -- t
                  refine lv_iconst (v := nI 0) hx hb dL_isMixed_162 (by decide) ?_
                  refine lv_iload_n hx hb dL_isMixed_163 rfl (lv_at hl 3 rfl) ?_
                  refine lv_if_lt (tgt := 171) hx hb dL_isMixed_164 (by decide) (fun h164 => ?_) (fun h164 => ?_)
                  · -- t
                    refine lv_iconst (v := nI 0) hx hb dL_isMixed_171 (by decide) ?_
                    refine n_icmp_ne (tgt := 179) hx hb dL_isMixed_172 (by decide) (by omega) (by omega) (fun h172 => ?_) (fun h172 => ?_)
                    · -- t
                      exact absurd rfl h172
                    · -- f
                      refine lv_iconst (v := nI 1) hx hb dL_isMixed_175 (by decide) ?_
                      refine lv_goto (tgt := 180) hx hb dL_isMixed_176 (by decide) ?_
                      refine eqi (x' := bI true) rfl ?_
                      exact r_z hx hb hr hlocks hP hD hS gR rfl (rfl) dL_isMixed_180
                  · -- f
                    exact absurd (by decide) h164
                · -- f
                  have hun : u = n := by omega
                  have hM2 := hM
                  rw [hun] at hM2
                  have hmm := MXI_f hgn hM2 hmt
                  exact absurd ((pk_lLT (by omega) (by omega)).mpr hmm) h155
          · -- f
            refine lv_iconst (v := nI 0) hx hb dL_isMixed_67 (by decide) ?_
            refine lv_istore (lv' := [(8, .int (nI 0)), (0, .ref (b 0)), (1, .int (nI th2)), (2, .ref cc0), (3, .int (-1)), (4, .int (nI 1)), (5, .long (lN mo)), (7, .int (nI u))]) hx hb dL_isMixed_68 hl (by decide) rfl (fun ls hl => ?_)
            have L70 : ∀ w : Nat, w ≤ u → ∀ (mp : Nat) (gR2 : Nat → Nat → Int64), (MXI (fun x y => dst (PL g n k x 12) (PL g n k y 12) n) n u w mp) → ∀ (H : Heap) (locs : List Loc), va_P D vwCl ([hO b, cO b (nI n) (nI k), lO b, oQ (cY 2) (b 3) (rr 1) 6, gI (cY 0) (rr 1) 6 fW 6, oQ (cY 3) (b 5) (rr 2) 13, gJ (cY 1) (rr 2) 36 gR2 13, [(cc0, .inl (cY 0, 2, .inl fc))]] : List va_W).flatten H → va_D A ([hO b, cO b (nI n) (nI k), lO b, oQ (cY 2) (b 3) (rr 1) 6, gI (cY 0) (rr 1) 6 fW 6, oQ (cY 3) (b 5) (rr 2) 13, gJ (cY 1) (rr 2) 36 gR2 13, [(cc0, .inl (cY 0, 2, .inl fc))]] : List va_W).flatten → va_S A s.heap H locs → ∀ (ls : Array Slot), lv_has ls 11 [(0, .ref (b 0)), (1, .int (nI th2)), (2, .ref cc0), (3, .int (-1)), (4, .int (nI 1)), (5, .long (lN mp)), (7, .int (nI u)), (8, .int (nI w))] → W p l e ({ frames := 4, cells := 0, slots := 0, locals := 160 }) s m ([.ref (b 0), .int (nI th2), .ref cc0] : List Value).toArray below meth c H locs 0 0 (MQ below (qI (S := (Nat → Nat → Int64)) D cY (fun r uu => r = bI true) (fun uu => [hO b, cO b (nI n) (nI k), lO b, oQ (cY 2) (b 3) (rr 1) 6, gI (cY 0) (rr 1) 6 fW 6, oQ (cY 3) (b 5) (rr 2) 13, gJ (cY 1) (rr 2) 36 uu 13, [(cc0, .inl (cY 0, 2, .inl fc))]]) A) ([.ref (b 0), .int (nI th2), .ref cc0] : List Value).toArray s 0 0 A) (F0 m 70 ls []) := by
              refine lpW u ?_
              intro w bdw ih70 mp gR2 hJ H locs hP hD hS ls hl
              refine lv_iload hx hb dL_isMixed_70 (lv_at hl 7 rfl) ?_
              refine lv_iload hx hb dL_isMixed_72 (lv_at hl 6 rfl) ?_
              refine n_icmp_ge (tgt := 120) hx hb dL_isMixed_74 (by decide) (by omega) (by omega) (fun h74 => ?_) (fun h74 => ?_)
              · -- t
                refine lv_iinc (v := nI (u + 1)) (lv' := [(7, .int (nI (u + 1))), (0, .ref (b 0)), (1, .int (nI th2)), (2, .ref cc0), (3, .int (-1)), (4, .int (nI 1)), (5, .long (lN mp)), (8, .int (nI w))]) hx hb dL_isMixed_120 hl (k := 6) rfl (nI_1 u) (by decide) rfl (fun ls hl => ?_)
                refine lv_goto (tgt := 59) hx hb dL_isMixed_123 (by decide) ?_
                exact ih59 (by omega) mp gR2 (MXI_n (by omega) hJ) _ _ hP hD hS _ (lv_sub hl [1, 2, 3, 4, 5, 6, 0] rfl)
              · -- f
                refine lv_aload_n hx hb dL_isMixed_77 rfl (lv_at hl 0 rfl) ?_
                refine lv_iload hx hb dL_isMixed_78 (lv_at hl 6 rfl) ?_
                refine lv_iload hx hb dL_isMixed_80 (lv_at hl 7 rfl) ?_
                refine lv_iload_n hx hb dL_isMixed_82 rfl (lv_at hl 3 rfl) ?_
                refine lv_if_ge (tgt := 91) hx hb dL_isMixed_83 (by decide) (fun h83 => ?_) (fun h83 => ?_)
                · -- t
                  exact absurd h83 (by decide)
                · -- f
                  refine lv_bipush (v := nI 12) hx hb dL_isMixed_86 (by decide) ?_
                  refine lv_goto (tgt := 92) hx hb dL_isMixed_88 (by decide) ?_
                  refine ca_l (CL := [hO b, cO b (nI n) (nI k), lO b, oQ (cY 2) (b 3) (rr 1) 6, gI (cY 0) (rr 1) 6 fW 6, oQ (cY 3) (b 5) (rr 2) 13, gJ (cY 1) (rr 2) 36 gR2 13]) (va_runV (As := [.int (nI u), .int (nI w), .int (nI 12)]) (rest := []) ⟨hx, hb, hml, hown, hts⟩ (c_X8_distance_ok l D cY H.size b rr n k fW gR2 g u w 12 (by omega) (by omega) (by omega) (by omega) hgn hW (by omega) (by omega) (by omega)) (cwV 3 hts gL_isMixed_X8_distance rfl rfl rfl (by decide +kernel) ⟨Nat.le_of_ble_eq_true rfl, Nat.le_of_ble_eq_true rfl⟩) (b_preV hVK hP hD [0, 1, 2, 3, 4, 5, 6] rfl rfl 0 rfl rfl) rfl rfl hl.1 rfl (lv_room (Nat.le_of_ble_eq_true rfl)) dL_isMixed_92 ⟨Nat.le_refl _, Nat.le_refl _⟩) hP hD hS hA [0, 1, 2, 3, 4, 5, 6] rfl rfl (fun _ => rfl) (fun r92 uu H locs hq hP hD hS => ?_)
                  obtain ⟨fR1_2, rfl⟩ : ∃ z, z = uu := ⟨_, rfl⟩
                  try dsimp only at hq
                  subst hq
                  have hP : va_P D vwCl ([hO b, cO b (nI n) (nI k), lO b, oQ (cY 2) (b 3) (rr 1) 6, gI (cY 0) (rr 1) 6 fW 6, oQ (cY 3) (b 5) (rr 2) 13, gJ (cY 1) (rr 2) 36 fR1_2 13, [(cc0, .inl (cY 0, 2, .inl fc))]] : List va_W).flatten H := hP
                  have hD : va_D A ([hO b, cO b (nI n) (nI k), lO b, oQ (cY 2) (b 3) (rr 1) 6, gI (cY 0) (rr 1) 6 fW 6, oQ (cY 3) (b 5) (rr 2) 13, gJ (cY 1) (rr 2) 36 fR1_2 13, [(cc0, .inl (cY 0, 2, .inl fc))]] : List va_W).flatten := hD
                  have hdb : dst (PL g n k u 12) (PL g n k w 12) n ≤ k ^ 12 := dst_pow hgn (by omega)
                  have hp2 : k ^ 12 ≤ 8916100448256 := pow_b hk12 hk1 (by omega)
                  have hmp : mp ≤ k ^ 12 := MXI_b hgn hJ
                  refine lv_lstore (lv' := [(9, .long (lN (dst (PL g n k u 12) (PL g n k w 12) n))), (0, .ref (b 0)), (1, .int (nI th2)), (2, .ref cc0), (3, .int (-1)), (4, .int (nI 1)), (5, .long (lN mp)), (7, .int (nI u)), (8, .int (nI w))]) hx hb dL_isMixed_95 hl (by decide) rfl (fun ls hl => ?_)
                  refine lv_lload hx hb dL_isMixed_97 (lv_at hl 0 rfl) ?_
                  refine lv_lload hx hb dL_isMixed_99 (lv_at hl 6 rfl) ?_
                  refine W.lcmp hx hb dL_isMixed_101 ?_
                  refine l_if_le (tgt := 110) hx hb dL_isMixed_102 (by decide) (fun h102 => ?_) (fun h102 => ?_)
                  · -- t
                    refine lv_lload hx hb dL_isMixed_110 (lv_at hl 6 rfl) ?_
                    refine lv_lstore (lv' := [(5, .long (lN mp)), (9, .long (lN (dst (PL g n k u 12) (PL g n k w 12) n))), (0, .ref (b 0)), (1, .int (nI th2)), (2, .ref cc0), (3, .int (-1)), (4, .int (nI 1)), (7, .int (nI u)), (8, .int (nI w))]) hx hb dL_isMixed_112 hl (by decide) rfl (fun ls hl => ?_)
                    refine lv_iinc (v := nI (w + 1)) (lv' := [(8, .int (nI (w + 1))), (5, .long (lN mp)), (9, .long (lN (dst (PL g n k u 12) (PL g n k w 12) n))), (0, .ref (b 0)), (1, .int (nI th2)), (2, .ref cc0), (3, .int (-1)), (4, .int (nI 1)), (7, .int (nI u))]) hx hb dL_isMixed_114 hl (k := 8) rfl (nI_1 w) (by decide) rfl (fun ls hl => ?_)
                    refine lv_goto (tgt := 70) hx hb dL_isMixed_117 (by decide) ?_
                    exact ih70 (by omega) mp fR1_2 (by first | exact MXI_le hJ ((pk_lLE (by omega) (by omega)).mp h102) | exact MXI_gt (by omega) (by omega) hJ (Nat.le_of_lt (Nat.lt_of_not_le (fun q => h102 ((pk_lLE (by omega) (by omega)).mpr q))))) _ _ hP hD hS _ (lv_sub hl [3, 4, 5, 6, 7, 1, 8, 0] rfl)
                  · -- f
                    refine lv_lload hx hb dL_isMixed_105 (lv_at hl 0 rfl) ?_
                    refine lv_goto (tgt := 112) hx hb dL_isMixed_107 (by decide) ?_
                    refine lv_lstore (lv' := [(5, .long (lN (dst (PL g n k u 12) (PL g n k w 12) n))), (9, .long (lN (dst (PL g n k u 12) (PL g n k w 12) n))), (0, .ref (b 0)), (1, .int (nI th2)), (2, .ref cc0), (3, .int (-1)), (4, .int (nI 1)), (7, .int (nI u)), (8, .int (nI w))]) hx hb dL_isMixed_112 hl (by decide) rfl (fun ls hl => ?_)
                    refine lv_iinc (v := nI (w + 1)) (lv' := [(8, .int (nI (w + 1))), (5, .long (lN (dst (PL g n k u 12) (PL g n k w 12) n))), (9, .long (lN (dst (PL g n k u 12) (PL g n k w 12) n))), (0, .ref (b 0)), (1, .int (nI th2)), (2, .ref cc0), (3, .int (-1)), (4, .int (nI 1)), (7, .int (nI u))]) hx hb dL_isMixed_114 hl (k := 8) rfl (nI_1 w) (by decide) rfl (fun ls hl => ?_)
                    refine lv_goto (tgt := 70) hx hb dL_isMixed_117 (by decide) ?_
                    exact ih70 (by omega) (dst (PL g n k u 12) (PL g n k w 12) n) fR1_2 (by first | exact MXI_le hJ ((pk_lLE (by omega) (by omega)).mp h102) | exact MXI_gt (by omega) (by omega) hJ (Nat.le_of_lt (Nat.lt_of_not_le (fun q => h102 ((pk_lLE (by omega) (by omega)).mpr q))))) _ _ hP hD hS _ (lv_sub hl [3, 4, 5, 6, 7, 1, 8, 0] rfl)
            exact L70 0 (by omega) mo gR hM _ _ hP hD hS _ (lv_sub hl [1, 2, 3, 4, 5, 6, 7, 0] rfl)
        exact L59 0 (by omega) 0 gR0 MXI_0 _ _ hP hD hS _ (lv_sub hl [3, 4, 5, 6, 2, 1, 0] rfl)
      refine lv_iload_n hx hb dL_isMixed_17 rfl (lv_at hl 2 rfl) ?_
      refine n_if_eq (tgt := 46) hx hb dL_isMixed_18 (by decide) (by omega) (fun h18 => ?_) (fun h18 => ?_)
      · -- t
        exact L46 fR1_1  _ _ hP hD hS _ (lv_sub hl [1, 2, 3, 0] rfl)
      · -- f
        refine lv_iload_n hx hb dL_isMixed_21 rfl (lv_at hl 0 rfl) ?_
        refine lv_if_lt (tgt := 46) hx hb dL_isMixed_22 (by decide) (fun h22 => ?_) (fun h22 => ?_)
        · -- t
          exact L46 fR1_1  _ _ hP hD hS _ (lv_sub hl [1, 2, 3, 0] rfl)
        · -- f
          exact absurd (by decide) h22

