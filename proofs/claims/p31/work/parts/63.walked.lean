set_option maxHeartbeats 4000000 in
set_option maxRecDepth 100000 in
theorem c_L_walked (l : Launch) (D : va_G) (cY : Nat → ClassId) (sz : Nat) (n : Nat) (k : Nat) (g : Nat → Nat → Nat) (cc0 : Nat) (fc : Nat → Int32) (ll0 : Nat) (fl : Nat → Int32) (f0 : Nat) (x : Nat) (t : Nat) (hn1 : 1 ≤ n) (hn6 : n ≤ 6) (hk1 : 1 ≤ k) (hk12 : k ≤ 12) (hcn : fc 0 = nI n) (hck : fc 1 = nI k) (hgn : ∀ i j, i < n → j < k → g i j < n) (hk10 : k ≤ 10) (hL : LL n k g fl) (hf0 : f0 < n) (hx1 : x < 65521) (ht : t ≤ 1000) : Met l yL_walked wsL_walked ({ frames := 0, cells := 0, slots := 0, locals := 0 }) (cP D cY [.ref ll0, .ref cc0, .int (nI f0), .int (nI x), .int (nI t)] [[(cc0, .inl (cY 0, 2, .inl fc))], [(ll0, .inl (cY 0, 60, .inl fl))]] sz) (qI (S := Unit) D cY (fun r uu => r = nI (wk g k f0 x t)) (fun uu => [[(cc0, .inl (cY 0, 2, .inl fc))], [(ll0, .inl (cY 0, 60, .inl fl))]]) (va_A ([[(cc0, .inl (cY 0, 2, .inl fc))], [(ll0, .inl (cY 0, 60, .inl fl))]] : List va_W).flatten sz)) 0 0 (va_A ([[(cc0, .inl (cY 0, 2, .inl fc))], [(ll0, .inl (cY 0, 60, .inl fl))]] : List va_W).flatten sz) := by
  refine mtB (Qc := fun A => qI (S := Unit) D cY (fun r uu => r = nI (wk g k f0 x t)) (fun uu => [[(cc0, .inl (cY 0, 2, .inl fc))], [(ll0, .inl (cY 0, 60, .inl fl))]]) A) (cc := cL_walked) (maxL := 8) (ret := (some .int)) (by decide) rfl (Nat.le_of_ble_eq_true rfl) ?_
  intro p e s m below meth c A ls hx hb hr hml hts hown hlocks hnm hsz hP hK hVK hD hS hA hl
  have hown : s.vm.findClass RL = some m.cls := hown
  have hl : lv_has ls 8 [(0, .ref ll0), (1, .ref cc0), (2, .int (nI f0)), (3, .int (nI x)), (4, .int (nI t))] := hl
  have hP : va_P D vwCl ([[(cc0, .inl (cY 0, 2, .inl fc))], [(ll0, .inl (cY 0, 60, .inl fl))]] : List va_W).flatten s.heap := hP
  have hD : va_D A ([[(cc0, .inl (cY 0, 2, .inl fc))], [(ll0, .inl (cY 0, 60, .inl fl))]] : List va_W).flatten := hD
  refine lv_iload_n hx hb dL_walked_0 rfl (lv_at hl 2 rfl) ?_
  refine lv_istore (lv' := [(5, .int (nI f0)), (0, .ref ll0), (1, .ref cc0), (2, .int (nI f0)), (3, .int (nI x)), (4, .int (nI t))]) hx hb dL_walked_1 hl (by decide) rfl (fun ls hl => ?_)
  refine lv_iload_n hx hb dL_walked_3 rfl (lv_at hl 4 rfl) ?_
  refine lv_istore (lv' := [(6, .int (nI x)), (5, .int (nI f0)), (0, .ref ll0), (1, .ref cc0), (2, .int (nI f0)), (3, .int (nI x)), (4, .int (nI t))]) hx hb dL_walked_4 hl (by decide) rfl (fun ls hl => ?_)
  refine lv_iconst (v := nI 0) hx hb dL_walked_6 (by decide) ?_
  refine lv_istore (lv' := [(7, .int (nI 0)), (6, .int (nI x)), (5, .int (nI f0)), (0, .ref ll0), (1, .ref cc0), (2, .int (nI f0)), (3, .int (nI x)), (4, .int (nI t))]) hx hb dL_walked_7 hl (by decide) rfl (fun ls hl => ?_)
  have L9 : ∀ q : Nat, q ≤ t →  ∀ (H : Heap) (locs : List Loc), va_P D vwCl ([[(cc0, .inl (cY 0, 2, .inl fc))], [(ll0, .inl (cY 0, 60, .inl fl))]] : List va_W).flatten H → va_D A ([[(cc0, .inl (cY 0, 2, .inl fc))], [(ll0, .inl (cY 0, 60, .inl fl))]] : List va_W).flatten → va_S A s.heap H locs → ∀ (ls : Array Slot), lv_has ls 8 [(0, .ref ll0), (1, .ref cc0), (2, .int (nI f0)), (3, .int (nI x)), (4, .int (nI t)), (5, .int (nI (wk g k f0 x q))), (6, .int (nI (sdq x q))), (7, .int (nI q))] → W p l e ({ frames := 0, cells := 0, slots := 0, locals := 0 }) s m ([.ref ll0, .ref cc0, .int (nI f0), .int (nI x), .int (nI t)] : List Value).toArray below meth c H locs 0 0 (MQ below (qI (S := Unit) D cY (fun r uu => r = nI (wk g k f0 x t)) (fun uu => [[(cc0, .inl (cY 0, 2, .inl fc))], [(ll0, .inl (cY 0, 60, .inl fl))]]) A) ([.ref ll0, .ref cc0, .int (nI f0), .int (nI x), .int (nI t)] : List Value).toArray s 0 0 A) (F0 m 9 ls []) := by
    refine lpW t ?_
    intro q bdq ih9   H locs hP hD hS ls hl
    refine lv_iload hx hb dL_walked_9 (lv_at hl 7 rfl) ?_
    refine lv_iload hx hb dL_walked_11 (lv_at hl 4 rfl) ?_
    refine n_icmp_ge (tgt := 53) hx hb dL_walked_13 (by decide) (by omega) (by omega) (fun h13 => ?_) (fun h13 => ?_)
    · -- t
      refine lv_iload hx hb dL_walked_53 (lv_at hl 5 rfl) ?_
      exact r_i hx hb hr hlocks hP hD hS () rfl (by (have e : q = t := by omega); subst e; rfl) dL_walked_55
    · -- f
      refine lv_sipush (v := nI 7919) hx hb dL_walked_16 (by decide) ?_
      have hsq := sdq_lt hx1 q
      refine lv_iload hx hb dL_walked_19 (lv_at hl 6 rfl) ?_
      refine lv_imul hx hb dL_walked_21 ?_
      refine eqi (x' := nI (7919 * (sdq x q))) (pk_mul _ _) ?_
      refine lv_sipush (v := nI 12345) hx hb dL_walked_22 (by decide) ?_
      refine lv_iadd hx hb dL_walked_25 ?_
      refine eqi (x' := nI (7919 * (sdq x q) + 12345)) (nI_add _ _) ?_
      refine lv_ldc (v := 65521) hx hb hown (hts (.constant RL 66 65521) (by decide +kernel)) dL_walked_26 ?_
      refine eqi (x' := nI 65521) (by decide) ?_
      refine lv_irem hx hb dL_walked_28 (nI_ne0 (by omega) (by omega)) ?_
      refine eqi (x' := nI ((7919 * (sdq x q) + 12345) % 65521)) (pk_rem (by omega) (by omega) (by omega)) ?_
      refine eqi (x' := nI (sdq x (q + 1))) (rfl) ?_
      have hsl := sdq_lt hx1 (q + 1)
      have hwl := wk_lt (x := x) hgn (show 0 < k by omega) hf0 q
      have hml2 := Nat.mod_lt (sdq x (q + 1)) (show k > 0 by omega)
      refine lv_istore (lv' := [(6, .int (nI (sdq x (q + 1)))), (0, .ref ll0), (1, .ref cc0), (2, .int (nI f0)), (3, .int (nI x)), (4, .int (nI t)), (5, .int (nI (wk g k f0 x q))), (7, .int (nI q))]) hx hb dL_walked_29 hl (by decide) rfl (fun ls hl => ?_)
      refine lv_aload_n hx hb dL_walked_31 rfl (lv_at hl 1 rfl) ?_
      refine lv_bipush (v := nI 10) hx hb dL_walked_32 (by decide) ?_
      refine lv_iload hx hb dL_walked_34 (lv_at hl 6 rfl) ?_
      refine lv_imul hx hb dL_walked_36 ?_
      refine eqi (x' := nI (10 * (wk g k f0 x q))) (pk_mul _ _) ?_
      refine lv_iload hx hb dL_walked_37 (lv_at hl 0 rfl) ?_
      refine lv_aload_n hx hb dL_walked_39 rfl (lv_at hl 2 rfl) ?_
      refine lv_iconst (v := nI 1) hx hb dL_walked_40 (by decide) ?_
      refine b_iald hx hb hK hP 0 0 rfl rfl (by omega) (by decide) dL_walked_41 ?_
      refine eqi (x' := nI k) (hck) ?_
      refine lv_irem hx hb dL_walked_42 (nI_ne0 (by omega) (by omega)) ?_
      refine eqi (x' := nI ((sdq x (q + 1)) % k)) (pk_rem (by omega) (by omega) (by omega)) ?_
      refine lv_iadd hx hb dL_walked_43 ?_
      refine eqi (x' := nI (10 * (wk g k f0 x q) + ((sdq x (q + 1)) % k))) (nI_add _ _) ?_
      refine b_iald hx hb hK hP 1 0 rfl rfl (by omega) (by decide) dL_walked_44 ?_
      refine eqi (x' := nI (wk g k f0 x (q + 1))) (hL _ _ hwl hml2) ?_
      refine lv_istore (lv' := [(5, .int (nI (wk g k f0 x (q + 1)))), (6, .int (nI (sdq x (q + 1)))), (0, .ref ll0), (1, .ref cc0), (2, .int (nI f0)), (3, .int (nI x)), (4, .int (nI t)), (7, .int (nI q))]) hx hb dL_walked_45 hl (by decide) rfl (fun ls hl => ?_)
      refine lv_iinc (v := nI (q + 1)) (lv' := [(7, .int (nI (q + 1))), (5, .int (nI (wk g k f0 x (q + 1)))), (6, .int (nI (sdq x (q + 1)))), (0, .ref ll0), (1, .ref cc0), (2, .int (nI f0)), (3, .int (nI x)), (4, .int (nI t))]) hx hb dL_walked_47 hl (k := 7) rfl (nI_1 q) (by decide) rfl (fun ls hl => ?_)
      refine lv_goto (tgt := 9) hx hb dL_walked_50 (by decide) ?_
      exact ih9 (by omega)   _ _ hP hD hS _ (lv_sub hl [3, 4, 5, 6, 7, 1, 2, 0] rfl)
  exact L9 0 (by omega)   _ _ hP hD hS _ (lv_sub hl [3, 4, 5, 6, 7, 2, 1, 0] rfl)

set_option maxHeartbeats 4000000 in
set_option maxRecDepth 100000 in
theorem c_L_tells (l : Launch) (D : va_G) (cY : Nat → ClassId) (sz : Nat) (b : Nat → Nat) (rr : Nat → Nat → Nat) (n : Nat) (k : Nat) (fG : Nat → Nat → Int32) (fW : Nat → Nat → Int32) (fPy : Nat → Int32) (fCc : Nat → Int32) (g : Nat → Nat → Nat) (cc0 : Nat) (fc : Nat → Int32) (ll0 : Nat) (fl : Nat → Int32) (pp0 : Nat) (fp : Nat → Int32) (x : Nat) (y : Nat) (col : Nat → Nat) (hn1 : 1 ≤ n) (hn6 : n ≤ 6) (hk1 : 1 ≤ k) (hk12 : k ≤ 12) (hcn : fc 0 = nI n) (hck : fc 1 = nI k) (hk10 : k ≤ 10) (hLH : LH n k g col fG fW fPy fCc fl fp) (hx30 : x < 1073741824) (hy30 : y < 1073741824) : Met l yL_tells wsL_tells ({ frames := 3, cells := 0, slots := 0, locals := 120 }) (cP D cY [.ref (b 0), .int (nI x), .int (nI y), .ref cc0, .ref ll0, .ref pp0] [hO b, cO b (nI n) (nI k), oQ (cY 2) (b 2) (rr 0) 6, gI (cY 0) (rr 0) 12 fG 6, oQ (cY 2) (b 3) (rr 1) 6, gI (cY 0) (rr 1) 6 fW 6, gO b, [(b 19, .inl (cY 0, 6, .inl fPy))], uO b, [(b 22, .inl (cY 0, 6, .inl fCc))], [(cc0, .inl (cY 0, 2, .inl fc))], [(ll0, .inl (cY 0, 60, .inl fl))], [(pp0, .inl (cY 0, 12, .inl fp))]] sz) (qI (S := (Nat → Nat → Int32) × (Nat → Nat → Int32) × (Nat → Int32) × (Nat → Int32) × (Nat → Int32) × (Nat → Int32)) D cY (fun r uu => r = bI true ∧ LPq n k uu.1 uu.2.1 uu.2.2.1 uu.2.2.2.1 uu.2.2.2.2.1 uu.2.2.2.2.2) (fun uu => [hO b, cO b (nI n) (nI k), oQ (cY 2) (b 2) (rr 0) 6, gI (cY 0) (rr 0) 12 uu.1 6, oQ (cY 2) (b 3) (rr 1) 6, gI (cY 0) (rr 1) 6 uu.2.1 6, gO b, [(b 19, .inl (cY 0, 6, .inl uu.2.2.1))], uO b, [(b 22, .inl (cY 0, 6, .inl uu.2.2.2.1))], [(cc0, .inl (cY 0, 2, .inl fc))], [(ll0, .inl (cY 0, 60, .inl uu.2.2.2.2.1))], [(pp0, .inl (cY 0, 12, .inl uu.2.2.2.2.2))]]) (va_A ([hO b, cO b (nI n) (nI k), oQ (cY 2) (b 2) (rr 0) 6, gI (cY 0) (rr 0) 12 fG 6, oQ (cY 2) (b 3) (rr 1) 6, gI (cY 0) (rr 1) 6 fW 6, gO b, [(b 19, .inl (cY 0, 6, .inl fPy))], uO b, [(b 22, .inl (cY 0, 6, .inl fCc))], [(cc0, .inl (cY 0, 2, .inl fc))], [(ll0, .inl (cY 0, 60, .inl fl))], [(pp0, .inl (cY 0, 12, .inl fp))]] : List va_W).flatten sz)) 0 0 (va_A ([hO b, cO b (nI n) (nI k), oQ (cY 2) (b 2) (rr 0) 6, gI (cY 0) (rr 0) 12 fG 6, oQ (cY 2) (b 3) (rr 1) 6, gI (cY 0) (rr 1) 6 fW 6, gO b, [(b 19, .inl (cY 0, 6, .inl fPy))], uO b, [(b 22, .inl (cY 0, 6, .inl fCc))], [(cc0, .inl (cY 0, 2, .inl fc))], [(ll0, .inl (cY 0, 60, .inl fl))], [(pp0, .inl (cY 0, 12, .inl fp))]] : List va_W).flatten sz) := by
  refine mtB (Qc := fun A => qI (S := (Nat → Nat → Int32) × (Nat → Nat → Int32) × (Nat → Int32) × (Nat → Int32) × (Nat → Int32) × (Nat → Int32)) D cY (fun r uu => r = bI true ∧ LPq n k uu.1 uu.2.1 uu.2.2.1 uu.2.2.2.1 uu.2.2.2.2.1 uu.2.2.2.2.2) (fun uu => [hO b, cO b (nI n) (nI k), oQ (cY 2) (b 2) (rr 0) 6, gI (cY 0) (rr 0) 12 uu.1 6, oQ (cY 2) (b 3) (rr 1) 6, gI (cY 0) (rr 1) 6 uu.2.1 6, gO b, [(b 19, .inl (cY 0, 6, .inl uu.2.2.1))], uO b, [(b 22, .inl (cY 0, 6, .inl uu.2.2.2.1))], [(cc0, .inl (cY 0, 2, .inl fc))], [(ll0, .inl (cY 0, 60, .inl uu.2.2.2.2.1))], [(pp0, .inl (cY 0, 12, .inl uu.2.2.2.2.2))]]) A) (cc := cL_tells) (maxL := 12) (ret := (some .boolean)) (by decide) rfl (Nat.le_of_ble_eq_true rfl) ?_
  intro p e s m below meth c A ls hx hb hr hml hts hown hlocks hnm hsz hP hK hVK hD hS hA hl
  have hown : s.vm.findClass RL = some m.cls := hown
  have hl : lv_has ls 12 [(0, .ref (b 0)), (1, .int (nI x)), (2, .int (nI y)), (3, .ref cc0), (4, .ref ll0), (5, .ref pp0)] := hl
  have hP : va_P D vwCl ([hO b, cO b (nI n) (nI k), oQ (cY 2) (b 2) (rr 0) 6, gI (cY 0) (rr 0) 12 fG 6, oQ (cY 2) (b 3) (rr 1) 6, gI (cY 0) (rr 1) 6 fW 6, gO b, [(b 19, .inl (cY 0, 6, .inl fPy))], uO b, [(b 22, .inl (cY 0, 6, .inl fCc))], [(cc0, .inl (cY 0, 2, .inl fc))], [(ll0, .inl (cY 0, 60, .inl fl))], [(pp0, .inl (cY 0, 12, .inl fp))]] : List va_W).flatten s.heap := hP
  have hD : va_D A ([hO b, cO b (nI n) (nI k), oQ (cY 2) (b 2) (rr 0) 6, gI (cY 0) (rr 0) 12 fG 6, oQ (cY 2) (b 3) (rr 1) 6, gI (cY 0) (rr 1) 6 fW 6, gO b, [(b 19, .inl (cY 0, 6, .inl fPy))], uO b, [(b 22, .inl (cY 0, 6, .inl fCc))], [(cc0, .inl (cY 0, 2, .inl fc))], [(ll0, .inl (cY 0, 60, .inl fl))], [(pp0, .inl (cY 0, 12, .inl fp))]] : List va_W).flatten := hD
  obtain ⟨hLC, hL⟩ := id hLH
  obtain ⟨_, hG, hgn, hW, hPy, hCq⟩ := id hLC
  refine lv_iload_n hx hb dL_tells_0 rfl (lv_at hl 1 rfl) ?_
  refine lv_aload_n hx hb dL_tells_1 rfl (lv_at hl 3 rfl) ?_
  refine lv_iconst (v := nI 0) hx hb dL_tells_2 (by decide) ?_
  refine b_iald hx hb hK hP 10 0 rfl rfl (by omega) (by decide) dL_tells_3 ?_
  refine eqi (x' := nI n) (hcn) ?_
  refine lv_irem hx hb dL_tells_4 (nI_ne0 (by omega) (by omega)) ?_
  refine eqi (x' := nI (x % n)) (pk_rem (by omega) (by omega) (by omega)) ?_
  obtain ⟨i0, ei0⟩ : ∃ q, q = x % n := ⟨_, rfl⟩
  have hi0 : i0 < n := by rw [ei0]; exact Nat.mod_lt _ (by omega)
  refine eqi (x' := nI i0) (congrArg nI ei0.symm) ?_
  refine lv_istore (lv' := [(6, .int (nI i0)), (0, .ref (b 0)), (1, .int (nI x)), (2, .int (nI y)), (3, .ref cc0), (4, .ref ll0), (5, .ref pp0)]) hx hb dL_tells_5 hl (by decide) rfl (fun ls hl => ?_)
  refine lv_iload_n hx hb dL_tells_7 rfl (lv_at hl 2 rfl) ?_
  refine lv_bipush (v := nI 6) hx hb dL_tells_8 (by decide) ?_
  refine lv_idiv hx hb dL_tells_10 (nI_ne0 (by omega) (by omega)) ?_
  refine eqi (x' := nI (x / 6)) (pk_div (by omega) (by omega) (by omega)) ?_
  refine lv_aload_n hx hb dL_tells_11 rfl (lv_at hl 4 rfl) ?_
  refine lv_iconst (v := nI 1) hx hb dL_tells_12 (by decide) ?_
  refine b_iald hx hb hK hP 10 0 rfl rfl (by omega) (by decide) dL_tells_13 ?_
  refine eqi (x' := nI k) (hck) ?_
  refine lv_irem hx hb dL_tells_14 (nI_ne0 (by omega) (by omega)) ?_
  refine eqi (x' := nI ((x / 6) % k)) (pk_rem (by omega) (by omega) (by omega)) ?_
  obtain ⟨j0, ej0⟩ : ∃ q, q = x / 6 % k := ⟨_, rfl⟩
  have hj0 : j0 < k := by rw [ej0]; exact Nat.mod_lt _ (by omega)
  refine eqi (x' := nI j0) (congrArg nI ej0.symm) ?_
  refine lv_istore (lv' := [(7, .int (nI j0)), (6, .int (nI i0)), (0, .ref (b 0)), (1, .int (nI x)), (2, .int (nI y)), (3, .ref cc0), (4, .ref ll0), (5, .ref pp0)]) hx hb dL_tells_15 hl (by decide) rfl (fun ls hl => ?_)
  refine lv_iload_n hx hb dL_tells_17 rfl (lv_at hl 3 rfl) ?_
  refine lv_bipush (v := nI 72) hx hb dL_tells_18 (by decide) ?_
  refine lv_idiv hx hb dL_tells_20 (nI_ne0 (by omega) (by omega)) ?_
  refine eqi (x' := nI (x / 72)) (pk_div (by omega) (by omega) (by omega)) ?_
  refine lv_bipush (v := nI 6) hx hb dL_tells_21 (by decide) ?_
  refine lv_irem hx hb dL_tells_23 (nI_ne0 (by omega) (by omega)) ?_
  refine eqi (x' := nI ((x / 72) % 6)) (pk_rem (by omega) (by omega) (by omega)) ?_
  obtain ⟨w0, ew0⟩ : ∃ q, q = x / 72 % 6 := ⟨_, rfl⟩
  have hw0 : w0 < 6 := by omega
  refine eqi (x' := nI w0) (congrArg nI ew0.symm) ?_
  refine lv_istore (lv' := [(8, .int (nI w0)), (7, .int (nI j0)), (6, .int (nI i0)), (0, .ref (b 0)), (1, .int (nI x)), (2, .int (nI y)), (3, .ref cc0), (4, .ref ll0), (5, .ref pp0)]) hx hb dL_tells_24 hl (by decide) rfl (fun ls hl => ?_)
  refine lv_iload hx hb dL_tells_26 (lv_at hl 0 rfl) ?_
  refine lv_iconst (v := nI 3) hx hb dL_tells_28 (by decide) ?_
  refine n_icmp_ge (tgt := 85) hx hb dL_tells_29 (by decide) (by omega) (by omega) (fun h29 => ?_) (fun h29 => ?_)
  · -- t
    refine lv_iload hx hb dL_tells_85 (lv_at hl 0 rfl) ?_
    refine lv_iconst (v := nI 3) hx hb dL_tells_87 (by decide) ?_
    refine n_icmp_ne (tgt := 185) hx hb dL_tells_88 (by decide) (by omega) (by omega) (fun h88 => ?_) (fun h88 => ?_)
    · -- t
      refine lv_iload hx hb dL_tells_185 (lv_at hl 0 rfl) ?_
      refine lv_iconst (v := nI 4) hx hb dL_tells_187 (by decide) ?_
      refine n_icmp_ne (tgt := 232) hx hb dL_tells_188 (by decide) (by omega) (by omega) (fun h188 => ?_) (fun h188 => ?_)
      · -- t
        refine lv_aload hx hb dL_tells_232 (lv_at hl 8 rfl) ?_
        refine lv_bipush (v := nI 6) hx hb dL_tells_234 (by decide) ?_
        refine lv_iload hx hb dL_tells_236 (lv_at hl 2 rfl) ?_
        refine lv_iadd hx hb dL_tells_238 ?_
        refine eqi (x' := nI (6 + i0)) (nI_add _ _) ?_
        refine b_iald hx hb hK hP 12 0 rfl rfl (by omega) (by decide) dL_tells_239 ?_
        refine lv_istore (lv' := [(9, .int (fp (6 + i0))), (8, .int (nI w0)), (7, .int (nI j0)), (6, .int (nI i0)), (0, .ref (b 0)), (1, .int (nI x)), (2, .int (nI y)), (3, .ref cc0), (4, .ref ll0), (5, .ref pp0)]) hx hb dL_tells_240 hl (by decide) rfl (fun ls hl => ?_)
        refine lv_aload hx hb dL_tells_242 (lv_at hl 9 rfl) ?_
        refine lv_bipush (v := nI 6) hx hb dL_tells_244 (by decide) ?_
        refine lv_iload hx hb dL_tells_246 (lv_at hl 3 rfl) ?_
        refine lv_iadd hx hb dL_tells_248 ?_
        refine eqi (x' := nI (6 + i0)) (nI_add _ _) ?_
        refine lv_iload_n hx hb dL_tells_249 rfl (lv_at hl 6 rfl) ?_
        refine lv_iconst (v := nI 3) hx hb dL_tells_250 (by decide) ?_
        refine lv_irem hx hb dL_tells_251 (nI_ne0 (by omega) (by omega)) ?_
        refine eqi (x' := nI (y % 3)) (pk_rem (by omega) (by omega) (by omega)) ?_
        refine b_iast hx hb hK hP hD hS 12 0 rfl rfl (by omega) (by decide) dL_tells_252 (fun H locs hP hD hS => ?_)
        have hP : va_P D vwCl ([hO b, cO b (nI n) (nI k), oQ (cY 2) (b 2) (rr 0) 6, gI (cY 0) (rr 0) 12 fG 6, oQ (cY 2) (b 3) (rr 1) 6, gI (cY 0) (rr 1) 6 fW 6, gO b, [(b 19, .inl (cY 0, 6, .inl fPy))], uO b, [(b 22, .inl (cY 0, 6, .inl fCc))], [(cc0, .inl (cY 0, 2, .inl fc))], [(ll0, .inl (cY 0, 60, .inl fl))], [(pp0, .inl (cY 0, 12, .inl (upd fp (6 + i0) (nI (y % 3)))))]] : List va_W).flatten H := hP
        have hD : va_D A ([hO b, cO b (nI n) (nI k), oQ (cY 2) (b 2) (rr 0) 6, gI (cY 0) (rr 0) 12 fG 6, oQ (cY 2) (b 3) (rr 1) 6, gI (cY 0) (rr 1) 6 fW 6, gO b, [(b 19, .inl (cY 0, 6, .inl fPy))], uO b, [(b 22, .inl (cY 0, 6, .inl fCc))], [(cc0, .inl (cY 0, 2, .inl fc))], [(ll0, .inl (cY 0, 60, .inl fl))], [(pp0, .inl (cY 0, 12, .inl (upd fp (6 + i0) (nI (y % 3)))))]] : List va_W).flatten := hD
        refine lv_aload_n hx hb dL_tells_253 rfl (lv_at hl 4 rfl) ?_
        refine lv_iload hx hb dL_tells_254 (lv_at hl 3 rfl) ?_
        refine lv_aload hx hb dL_tells_256 (lv_at hl 9 rfl) ?_
        refine lv_bipush (v := nI 6) hx hb dL_tells_258 (by decide) ?_
        refine lv_iload hx hb dL_tells_260 (lv_at hl 3 rfl) ?_
        refine lv_iadd hx hb dL_tells_262 ?_
        refine eqi (x' := nI (6 + i0)) (nI_add _ _) ?_
        refine b_iald hx hb hK hP 12 0 rfl rfl (by omega) (by decide) dL_tells_263 ?_
        refine eqi (x' := nI (y % 3)) (pk_us) ?_
        refine ca_i (CL := [hO b, cO b (nI n) (nI k), uO b, [(b 22, .inl (cY 0, 6, .inl fCc))]]) (va_runV (As := [.int (nI i0), .int (nI (y % 3))]) (rest := []) ⟨hx, hb, hml, hown, hts⟩ (c_X8_colour_ok l D cY H.size b n k fCc g i0 (nI (y % 3)) (by omega) (by omega) (by omega) (by omega) (by omega) (inR_t (by omega) (by omega) (by omega))) (cwV 2 hts gL_tells_X8_colour rfl rfl rfl (by decide +kernel) ⟨Nat.le_of_ble_eq_true rfl, Nat.le_of_ble_eq_true rfl⟩) (b_preV hVK hP hD [0, 1, 8, 9] rfl rfl 0 rfl rfl) rfl rfl hl.1 rfl (lv_room (Nat.le_of_ble_eq_true rfl)) dL_tells_264 ⟨Nat.le_refl _, Nat.le_refl _⟩) hP hD hS hA [0, 1, 8, 9] rfl rfl (fun _ => rfl) (fun r264 uu H locs hq hP hD hS => ?_)
        subst hq
        have hP : va_P D vwCl ([hO b, cO b (nI n) (nI k), oQ (cY 2) (b 2) (rr 0) 6, gI (cY 0) (rr 0) 12 fG 6, oQ (cY 2) (b 3) (rr 1) 6, gI (cY 0) (rr 1) 6 fW 6, gO b, [(b 19, .inl (cY 0, 6, .inl fPy))], uO b, [(b 22, .inl (cY 0, 6, .inl (upd fCc i0 (nI (y % 3)))))], [(cc0, .inl (cY 0, 2, .inl fc))], [(ll0, .inl (cY 0, 60, .inl fl))], [(pp0, .inl (cY 0, 12, .inl (upd fp (6 + i0) (nI (y % 3)))))]] : List va_W).flatten H := hP
        have hD : va_D A ([hO b, cO b (nI n) (nI k), oQ (cY 2) (b 2) (rr 0) 6, gI (cY 0) (rr 0) 12 fG 6, oQ (cY 2) (b 3) (rr 1) 6, gI (cY 0) (rr 1) 6 fW 6, gO b, [(b 19, .inl (cY 0, 6, .inl fPy))], uO b, [(b 22, .inl (cY 0, 6, .inl (upd fCc i0 (nI (y % 3)))))], [(cc0, .inl (cY 0, 2, .inl fc))], [(ll0, .inl (cY 0, 60, .inl fl))], [(pp0, .inl (cY 0, 12, .inl (upd fp (6 + i0) (nI (y % 3)))))]] : List va_W).flatten := hD
        refine lv_iload hx hb dL_tells_267 (lv_at hl 0 rfl) ?_
        refine lv_icmp_ne (tgt := 276) hx hb dL_tells_269 (by decide) (fun h269 => ?_) (fun h269 => ?_)
        · -- t
          exact absurd (hCq i0 (by omega)).1 h269
        · -- f
          refine lv_iconst (v := nI 1) hx hb dL_tells_272 (by decide) ?_
          refine lv_goto (tgt := 277) hx hb dL_tells_273 (by decide) ?_
          refine eqi (x' := bI true) rfl ?_
          exact r_z hx hb hr hlocks hP hD hS (fG, fW, fPy, (upd fCc i0 (nI (y % 3))), fl, (upd fp (6 + i0) (nI (y % 3)))) rfl (⟨rfl, g, _, LC_col hLC (by omega), hL⟩) dL_tells_277
      · -- f
        refine lv_aload hx hb dL_tells_191 (lv_at hl 8 rfl) ?_
        refine lv_iload hx hb dL_tells_193 (lv_at hl 2 rfl) ?_
        refine b_iald hx hb hK hP 12 0 rfl rfl (by omega) (by decide) dL_tells_195 ?_
        refine lv_istore (lv' := [(9, .int (fp i0)), (8, .int (nI w0)), (7, .int (nI j0)), (6, .int (nI i0)), (0, .ref (b 0)), (1, .int (nI x)), (2, .int (nI y)), (3, .ref cc0), (4, .ref ll0), (5, .ref pp0)]) hx hb dL_tells_196 hl (by decide) rfl (fun ls hl => ?_)
        refine lv_aload hx hb dL_tells_198 (lv_at hl 9 rfl) ?_
        refine lv_iload hx hb dL_tells_200 (lv_at hl 3 rfl) ?_
        refine lv_iload_n hx hb dL_tells_202 rfl (lv_at hl 6 rfl) ?_
        refine lv_ldc (v := 200001) hx hb hown (hts (.constant RL 100 200001) (by decide +kernel)) dL_tells_203 ?_
        refine eqi (x' := nI 200001) (by decide) ?_
        refine lv_irem hx hb dL_tells_205 (nI_ne0 (by omega) (by omega)) ?_
        refine eqi (x' := nI (y % 200001)) (pk_rem (by omega) (by omega) (by omega)) ?_
        refine lv_ldc (v := 100000) hx hb hown (hts (.constant RL 101 100000) (by decide +kernel)) dL_tells_206 ?_
        refine eqi (x' := nI 100000) (by decide) ?_
        refine lv_isub hx hb dL_tells_208 ?_
        refine b_iast hx hb hK hP hD hS 12 0 rfl rfl (by omega) (by decide) dL_tells_209 (fun H locs hP hD hS => ?_)
        have hP : va_P D vwCl ([hO b, cO b (nI n) (nI k), oQ (cY 2) (b 2) (rr 0) 6, gI (cY 0) (rr 0) 12 fG 6, oQ (cY 2) (b 3) (rr 1) 6, gI (cY 0) (rr 1) 6 fW 6, gO b, [(b 19, .inl (cY 0, 6, .inl fPy))], uO b, [(b 22, .inl (cY 0, 6, .inl fCc))], [(cc0, .inl (cY 0, 2, .inl fc))], [(ll0, .inl (cY 0, 60, .inl fl))], [(pp0, .inl (cY 0, 12, .inl (upd fp i0 ((nI (y % 200001)) - (nI 100000)))))]] : List va_W).flatten H := hP
        have hD : va_D A ([hO b, cO b (nI n) (nI k), oQ (cY 2) (b 2) (rr 0) 6, gI (cY 0) (rr 0) 12 fG 6, oQ (cY 2) (b 3) (rr 1) 6, gI (cY 0) (rr 1) 6 fW 6, gO b, [(b 19, .inl (cY 0, 6, .inl fPy))], uO b, [(b 22, .inl (cY 0, 6, .inl fCc))], [(cc0, .inl (cY 0, 2, .inl fc))], [(ll0, .inl (cY 0, 60, .inl fl))], [(pp0, .inl (cY 0, 12, .inl (upd fp i0 ((nI (y % 200001)) - (nI 100000)))))]] : List va_W).flatten := hD
        refine lv_aload_n hx hb dL_tells_210 rfl (lv_at hl 4 rfl) ?_
        refine lv_iload hx hb dL_tells_211 (lv_at hl 3 rfl) ?_
        refine lv_aload hx hb dL_tells_213 (lv_at hl 9 rfl) ?_
        refine lv_iload hx hb dL_tells_215 (lv_at hl 3 rfl) ?_
        refine b_iald hx hb hK hP 12 0 rfl rfl (by omega) (by decide) dL_tells_217 ?_
        refine eqi (x' := nI (y % 200001) - nI 100000) (pk_us) ?_
        refine ca_i (CL := [hO b, cO b (nI n) (nI k), gO b, [(b 19, .inl (cY 0, 6, .inl fPy))]]) (va_runV (As := [.int (nI i0), .int (nI (y % 200001) - nI 100000)]) (rest := []) ⟨hx, hb, hml, hown, hts⟩ (c_X8_pay_ok l D cY H.size b n k fPy g i0 (nI (y % 200001) - nI 100000) (by omega) (by omega) (by omega) (by omega) (by omega) (pay_inT (by omega))) (cwV 2 hts gL_tells_X8_pay rfl rfl rfl (by decide +kernel) ⟨Nat.le_of_ble_eq_true rfl, Nat.le_of_ble_eq_true rfl⟩) (b_preV hVK hP hD [0, 1, 6, 7] rfl rfl 0 rfl rfl) rfl rfl hl.1 rfl (lv_room (Nat.le_of_ble_eq_true rfl)) dL_tells_218 ⟨Nat.le_refl _, Nat.le_refl _⟩) hP hD hS hA [0, 1, 6, 7] rfl rfl (fun _ => rfl) (fun r218 uu H locs hq hP hD hS => ?_)
        subst hq
        have hP : va_P D vwCl ([hO b, cO b (nI n) (nI k), oQ (cY 2) (b 2) (rr 0) 6, gI (cY 0) (rr 0) 12 fG 6, oQ (cY 2) (b 3) (rr 1) 6, gI (cY 0) (rr 1) 6 fW 6, gO b, [(b 19, .inl (cY 0, 6, .inl (upd fPy i0 (nI (y % 200001) - nI 100000))))], uO b, [(b 22, .inl (cY 0, 6, .inl fCc))], [(cc0, .inl (cY 0, 2, .inl fc))], [(ll0, .inl (cY 0, 60, .inl fl))], [(pp0, .inl (cY 0, 12, .inl (upd fp i0 ((nI (y % 200001)) - (nI 100000)))))]] : List va_W).flatten H := hP
        have hD : va_D A ([hO b, cO b (nI n) (nI k), oQ (cY 2) (b 2) (rr 0) 6, gI (cY 0) (rr 0) 12 fG 6, oQ (cY 2) (b 3) (rr 1) 6, gI (cY 0) (rr 1) 6 fW 6, gO b, [(b 19, .inl (cY 0, 6, .inl (upd fPy i0 (nI (y % 200001) - nI 100000))))], uO b, [(b 22, .inl (cY 0, 6, .inl fCc))], [(cc0, .inl (cY 0, 2, .inl fc))], [(ll0, .inl (cY 0, 60, .inl fl))], [(pp0, .inl (cY 0, 12, .inl (upd fp i0 ((nI (y % 200001)) - (nI 100000)))))]] : List va_W).flatten := hD
        refine lv_iload hx hb dL_tells_221 (lv_at hl 0 rfl) ?_
        refine lv_icmp_ne (tgt := 230) hx hb dL_tells_223 (by decide) (fun h223 => ?_) (fun h223 => ?_)
        · -- t
          exact absurd (hPy i0 (by omega)).1 h223
        · -- f
          refine lv_iconst (v := nI 1) hx hb dL_tells_226 (by decide) ?_
          refine lv_goto (tgt := 231) hx hb dL_tells_227 (by decide) ?_
          refine eqi (x' := bI true) rfl ?_
          exact r_z hx hb hr hlocks hP hD hS (fG, fW, (upd fPy i0 (nI (y % 200001) - nI 100000)), fCc, fl, (upd fp i0 ((nI (y % 200001)) - (nI 100000)))) rfl (⟨rfl, g, col, LC_pay hLC (by omega) (pay_inT (by omega)), hL⟩) dL_tells_231
    · -- f
      refine lv_iload_n hx hb dL_tells_91 rfl (lv_at hl 5 rfl) ?_
      refine lv_aload_n hx hb dL_tells_92 rfl (lv_at hl 6 rfl) ?_
      refine lv_iconst (v := nI 1) hx hb dL_tells_93 (by decide) ?_
      refine b_iald hx hb hK hP 10 0 rfl rfl (by omega) (by decide) dL_tells_94 ?_
      refine eqi (x' := nI k) (hck) ?_
      refine lv_irem hx hb dL_tells_95 (nI_ne0 (by omega) (by omega)) ?_
      refine eqi (x' := nI (y % k)) (pk_rem (by omega) (by omega) (by omega)) ?_
      obtain ⟨z1, ez1⟩ : ∃ q, q = y % k := ⟨_, rfl⟩
      have hz1 : z1 < k := by rw [ez1]; exact Nat.mod_lt _ (by omega)
      refine eqi (x' := nI z1) (congrArg nI ez1.symm) ?_
      refine lv_istore (lv' := [(9, .int (nI z1)), (8, .int (nI w0)), (7, .int (nI j0)), (6, .int (nI i0)), (0, .ref (b 0)), (1, .int (nI x)), (2, .int (nI y)), (3, .ref cc0), (4, .ref ll0), (5, .ref pp0)]) hx hb dL_tells_96 hl (by decide) rfl (fun ls hl => ?_)
      refine lv_aload hx hb dL_tells_98 (lv_at hl 8 rfl) ?_
      refine lv_bipush (v := nI 10) hx hb dL_tells_100 (by decide) ?_
      refine lv_iload hx hb dL_tells_102 (lv_at hl 3 rfl) ?_
      refine lv_imul hx hb dL_tells_104 ?_
      refine eqi (x' := nI (10 * i0)) (pk_mul _ _) ?_
      refine lv_iload hx hb dL_tells_105 (lv_at hl 2 rfl) ?_
      refine lv_iadd hx hb dL_tells_107 ?_
      refine eqi (x' := nI (10 * i0 + j0)) (nI_add _ _) ?_
      refine b_iald hx hb hK hP 11 0 rfl rfl (by omega) (by decide) dL_tells_108 ?_
      refine eqi (x' := nI (g i0 j0)) (hL i0 j0 (by omega) (by omega)) ?_
      have hgi := hgn i0 j0 (by omega) (by omega)
      refine lv_istore (lv' := [(10, .int (nI (g i0 j0))), (9, .int (nI z1)), (8, .int (nI w0)), (7, .int (nI j0)), (6, .int (nI i0)), (0, .ref (b 0)), (1, .int (nI x)), (2, .int (nI y)), (3, .ref cc0), (4, .ref ll0), (5, .ref pp0)]) hx hb dL_tells_109 hl (by decide) rfl (fun ls hl => ?_)
      refine lv_aload_n hx hb dL_tells_111 rfl (lv_at hl 5 rfl) ?_
      refine lv_iload hx hb dL_tells_112 (lv_at hl 4 rfl) ?_
      refine lv_iload hx hb dL_tells_114 (lv_at hl 0 rfl) ?_
      refine ca_i (CL := [hO b, cO b (nI n) (nI k), oQ (cY 2) (b 3) (rr 1) 6, gI (cY 0) (rr 1) 6 fW 6]) (va_runV (As := [.int (nI i0), .int (nI (g i0 j0))]) (rest := []) ⟨hx, hb, hml, hown, hts⟩ (c_X8_weight_ok l D cY s.heap.size b rr n k fW g i0 (g i0 j0) (by omega) (by omega) (by omega) (by omega) hW (by omega) (by omega)) (cwV 2 hts gL_tells_X8_weight rfl rfl rfl (by decide +kernel) ⟨Nat.le_of_ble_eq_true rfl, Nat.le_of_ble_eq_true rfl⟩) (b_preV hVK hP hD [0, 1, 4, 5] rfl rfl 0 rfl rfl) rfl rfl hl.1 rfl (lv_room (Nat.le_of_ble_eq_true rfl)) dL_tells_116 ⟨Nat.le_refl _, Nat.le_refl _⟩) hP hD hS hA [0, 1, 4, 5] rfl rfl (fun _ => rfl) (fun r116 uu H locs hq hP hD hS => ?_)
      subst hq
      have hP : va_P D vwCl ([hO b, cO b (nI n) (nI k), oQ (cY 2) (b 2) (rr 0) 6, gI (cY 0) (rr 0) 12 fG 6, oQ (cY 2) (b 3) (rr 1) 6, gI (cY 0) (rr 1) 6 fW 6, gO b, [(b 19, .inl (cY 0, 6, .inl fPy))], uO b, [(b 22, .inl (cY 0, 6, .inl fCc))], [(cc0, .inl (cY 0, 2, .inl fc))], [(ll0, .inl (cY 0, 60, .inl fl))], [(pp0, .inl (cY 0, 12, .inl fp))]] : List va_W).flatten H := hP
      have hD : va_D A ([hO b, cO b (nI n) (nI k), oQ (cY 2) (b 2) (rr 0) 6, gI (cY 0) (rr 0) 12 fG 6, oQ (cY 2) (b 3) (rr 1) 6, gI (cY 0) (rr 1) 6 fW 6, gO b, [(b 19, .inl (cY 0, 6, .inl fPy))], uO b, [(b 22, .inl (cY 0, 6, .inl fCc))], [(cc0, .inl (cY 0, 2, .inl fc))], [(ll0, .inl (cY 0, 60, .inl fl))], [(pp0, .inl (cY 0, 12, .inl fp))]] : List va_W).flatten := hD
      have hct := cnt_le (g i0) (g i0 j0) k
      refine lv_istore (lv' := [(11, .int (nI (cnt (g i0) (g i0 j0) k))), (10, .int (nI (g i0 j0))), (9, .int (nI z1)), (8, .int (nI w0)), (7, .int (nI j0)), (6, .int (nI i0)), (0, .ref (b 0)), (1, .int (nI x)), (2, .int (nI y)), (3, .ref cc0), (4, .ref ll0), (5, .ref pp0)]) hx hb dL_tells_119 hl (by decide) rfl (fun ls hl => ?_)
      refine lv_aload hx hb dL_tells_121 (lv_at hl 10 rfl) ?_
      refine lv_bipush (v := nI 10) hx hb dL_tells_123 (by decide) ?_
      refine lv_iload hx hb dL_tells_125 (lv_at hl 5 rfl) ?_
      refine lv_imul hx hb dL_tells_127 ?_
      refine eqi (x' := nI (10 * i0)) (pk_mul _ _) ?_
      refine lv_iload hx hb dL_tells_128 (lv_at hl 4 rfl) ?_
      refine lv_iadd hx hb dL_tells_130 ?_
      refine eqi (x' := nI (10 * i0 + j0)) (nI_add _ _) ?_
      refine lv_aload hx hb dL_tells_131 (lv_at hl 10 rfl) ?_
      refine lv_bipush (v := nI 10) hx hb dL_tells_133 (by decide) ?_
      refine lv_iload hx hb dL_tells_135 (lv_at hl 5 rfl) ?_
      refine lv_imul hx hb dL_tells_137 ?_
      refine eqi (x' := nI (10 * i0)) (pk_mul _ _) ?_
      refine lv_iload hx hb dL_tells_138 (lv_at hl 2 rfl) ?_
      refine lv_iadd hx hb dL_tells_140 ?_
      refine eqi (x' := nI (10 * i0 + z1)) (nI_add _ _) ?_
      refine b_iald hx hb hK hP 11 0 rfl rfl (by omega) (by decide) dL_tells_141 ?_
      refine eqi (x' := nI (g i0 z1)) (hL i0 z1 (by omega) (by omega)) ?_
      refine b_iast hx hb hK hP hD hS 11 0 rfl rfl (by omega) (by decide) dL_tells_142 (fun H locs hP hD hS => ?_)
      have hP : va_P D vwCl ([hO b, cO b (nI n) (nI k), oQ (cY 2) (b 2) (rr 0) 6, gI (cY 0) (rr 0) 12 fG 6, oQ (cY 2) (b 3) (rr 1) 6, gI (cY 0) (rr 1) 6 fW 6, gO b, [(b 19, .inl (cY 0, 6, .inl fPy))], uO b, [(b 22, .inl (cY 0, 6, .inl fCc))], [(cc0, .inl (cY 0, 2, .inl fc))], [(ll0, .inl (cY 0, 60, .inl (upd fl (10 * i0 + j0) (nI (g i0 z1)))))], [(pp0, .inl (cY 0, 12, .inl fp))]] : List va_W).flatten H := hP
      have hD : va_D A ([hO b, cO b (nI n) (nI k), oQ (cY 2) (b 2) (rr 0) 6, gI (cY 0) (rr 0) 12 fG 6, oQ (cY 2) (b 3) (rr 1) 6, gI (cY 0) (rr 1) 6 fW 6, gO b, [(b 19, .inl (cY 0, 6, .inl fPy))], uO b, [(b 22, .inl (cY 0, 6, .inl fCc))], [(cc0, .inl (cY 0, 2, .inl fc))], [(ll0, .inl (cY 0, 60, .inl (upd fl (10 * i0 + j0) (nI (g i0 z1)))))], [(pp0, .inl (cY 0, 12, .inl fp))]] : List va_W).flatten := hD
      refine lv_aload hx hb dL_tells_143 (lv_at hl 10 rfl) ?_
      refine lv_bipush (v := nI 10) hx hb dL_tells_145 (by decide) ?_
      refine lv_iload hx hb dL_tells_147 (lv_at hl 5 rfl) ?_
      refine lv_imul hx hb dL_tells_149 ?_
      refine eqi (x' := nI (10 * i0)) (pk_mul _ _) ?_
      refine lv_iload hx hb dL_tells_150 (lv_at hl 2 rfl) ?_
      refine lv_iadd hx hb dL_tells_152 ?_
      refine eqi (x' := nI (10 * i0 + z1)) (nI_add _ _) ?_
      refine lv_iload hx hb dL_tells_153 (lv_at hl 1 rfl) ?_
      refine b_iast hx hb hK hP hD hS 11 0 rfl rfl (by omega) (by decide) dL_tells_155 (fun H locs hP hD hS => ?_)
      have hP : va_P D vwCl ([hO b, cO b (nI n) (nI k), oQ (cY 2) (b 2) (rr 0) 6, gI (cY 0) (rr 0) 12 fG 6, oQ (cY 2) (b 3) (rr 1) 6, gI (cY 0) (rr 1) 6 fW 6, gO b, [(b 19, .inl (cY 0, 6, .inl fPy))], uO b, [(b 22, .inl (cY 0, 6, .inl fCc))], [(cc0, .inl (cY 0, 2, .inl fc))], [(ll0, .inl (cY 0, 60, .inl (upd (upd fl (10 * i0 + j0) (nI (g i0 z1))) (10 * i0 + z1) (nI (g i0 j0)))))], [(pp0, .inl (cY 0, 12, .inl fp))]] : List va_W).flatten H := hP
      have hD : va_D A ([hO b, cO b (nI n) (nI k), oQ (cY 2) (b 2) (rr 0) 6, gI (cY 0) (rr 0) 12 fG 6, oQ (cY 2) (b 3) (rr 1) 6, gI (cY 0) (rr 1) 6 fW 6, gO b, [(b 19, .inl (cY 0, 6, .inl fPy))], uO b, [(b 22, .inl (cY 0, 6, .inl fCc))], [(cc0, .inl (cY 0, 2, .inl fc))], [(ll0, .inl (cY 0, 60, .inl (upd (upd fl (10 * i0 + j0) (nI (g i0 z1))) (10 * i0 + z1) (nI (g i0 j0)))))], [(pp0, .inl (cY 0, 12, .inl fp))]] : List va_W).flatten := hD
      refine lv_aload_n hx hb dL_tells_156 rfl (lv_at hl 6 rfl) ?_
      refine lv_iload hx hb dL_tells_157 (lv_at hl 5 rfl) ?_
      refine lv_iload hx hb dL_tells_159 (lv_at hl 4 rfl) ?_
      refine lv_iload hx hb dL_tells_161 (lv_at hl 2 rfl) ?_
      refine ca_v (CL := [hO b, cO b (nI n) (nI k), oQ (cY 2) (b 2) (rr 0) 6, gI (cY 0) (rr 0) 12 fG 6]) (va_runV (As := [.int (nI i0), .int (nI j0), .int (nI z1)]) (rest := []) ⟨hx, hb, hml, hown, hts⟩ (c_X8_swap_ok l D cY H.size b rr n k fG g i0 j0 z1 (by omega) (by omega) (by omega) (by omega) hG hgn (by omega) (by omega) (by omega)) (cwV 3 hts gL_tells_X8_swap rfl rfl rfl (by decide +kernel) ⟨Nat.le_of_ble_eq_true rfl, Nat.le_of_ble_eq_true rfl⟩) (b_preV hVK hP hD [0, 1, 2, 3] rfl rfl 0 rfl rfl) rfl rfl hl.1 rfl (lv_room (Nat.le_of_ble_eq_true rfl)) dL_tells_163 ⟨Nat.le_refl _, Nat.le_refl _⟩) hP hD hS hA [0, 1, 2, 3] rfl rfl (fun _ => rfl) (fun uu H locs hq hP hD hS => ?_)
      have hP : va_P D vwCl ([hO b, cO b (nI n) (nI k), oQ (cY 2) (b 2) (rr 0) 6, gI (cY 0) (rr 0) 12 (va_up (va_up fG i0 (upd (fG i0) j0 (nI (g i0 z1)))) i0 (upd ((va_up fG i0 (upd (fG i0) j0 (nI (g i0 z1)))) i0) z1 (nI (g i0 j0)))) 6, oQ (cY 2) (b 3) (rr 1) 6, gI (cY 0) (rr 1) 6 fW 6, gO b, [(b 19, .inl (cY 0, 6, .inl fPy))], uO b, [(b 22, .inl (cY 0, 6, .inl fCc))], [(cc0, .inl (cY 0, 2, .inl fc))], [(ll0, .inl (cY 0, 60, .inl (upd (upd fl (10 * i0 + j0) (nI (g i0 z1))) (10 * i0 + z1) (nI (g i0 j0)))))], [(pp0, .inl (cY 0, 12, .inl fp))]] : List va_W).flatten H := hP
      have hD : va_D A ([hO b, cO b (nI n) (nI k), oQ (cY 2) (b 2) (rr 0) 6, gI (cY 0) (rr 0) 12 (va_up (va_up fG i0 (upd (fG i0) j0 (nI (g i0 z1)))) i0 (upd ((va_up fG i0 (upd (fG i0) j0 (nI (g i0 z1)))) i0) z1 (nI (g i0 j0)))) 6, oQ (cY 2) (b 3) (rr 1) 6, gI (cY 0) (rr 1) 6 fW 6, gO b, [(b 19, .inl (cY 0, 6, .inl fPy))], uO b, [(b 22, .inl (cY 0, 6, .inl fCc))], [(cc0, .inl (cY 0, 2, .inl fc))], [(ll0, .inl (cY 0, 60, .inl (upd (upd fl (10 * i0 + j0) (nI (g i0 z1))) (10 * i0 + z1) (nI (g i0 j0)))))], [(pp0, .inl (cY 0, 12, .inl fp))]] : List va_W).flatten := hD
      refine lv_aload_n hx hb dL_tells_166 rfl (lv_at hl 6 rfl) ?_
      refine lv_iload hx hb dL_tells_167 (lv_at hl 5 rfl) ?_
      refine lv_iload hx hb dL_tells_169 (lv_at hl 1 rfl) ?_
      refine ca_i (CL := [hO b, cO b (nI n) (nI k), oQ (cY 2) (b 3) (rr 1) 6, gI (cY 0) (rr 1) 6 fW 6]) (va_runV (As := [.int (nI i0), .int (nI (g i0 j0))]) (rest := []) ⟨hx, hb, hml, hown, hts⟩ (c_X8_weight_ok l D cY H.size b rr n k fW g i0 (g i0 j0) (by omega) (by omega) (by omega) (by omega) hW (by omega) (by omega)) (cwV 2 hts gL_tells_X8_weight rfl rfl rfl (by decide +kernel) ⟨Nat.le_of_ble_eq_true rfl, Nat.le_of_ble_eq_true rfl⟩) (b_preV hVK hP hD [0, 1, 4, 5] rfl rfl 0 rfl rfl) rfl rfl hl.1 rfl (lv_room (Nat.le_of_ble_eq_true rfl)) dL_tells_171 ⟨Nat.le_refl _, Nat.le_refl _⟩) hP hD hS hA [0, 1, 4, 5] rfl rfl (fun _ => rfl) (fun r171 uu H locs hq hP hD hS => ?_)
      subst hq
      have hP : va_P D vwCl ([hO b, cO b (nI n) (nI k), oQ (cY 2) (b 2) (rr 0) 6, gI (cY 0) (rr 0) 12 (va_up (va_up fG i0 (upd (fG i0) j0 (nI (g i0 z1)))) i0 (upd ((va_up fG i0 (upd (fG i0) j0 (nI (g i0 z1)))) i0) z1 (nI (g i0 j0)))) 6, oQ (cY 2) (b 3) (rr 1) 6, gI (cY 0) (rr 1) 6 fW 6, gO b, [(b 19, .inl (cY 0, 6, .inl fPy))], uO b, [(b 22, .inl (cY 0, 6, .inl fCc))], [(cc0, .inl (cY 0, 2, .inl fc))], [(ll0, .inl (cY 0, 60, .inl (upd (upd fl (10 * i0 + j0) (nI (g i0 z1))) (10 * i0 + z1) (nI (g i0 j0)))))], [(pp0, .inl (cY 0, 12, .inl fp))]] : List va_W).flatten H := hP
      have hD : va_D A ([hO b, cO b (nI n) (nI k), oQ (cY 2) (b 2) (rr 0) 6, gI (cY 0) (rr 0) 12 (va_up (va_up fG i0 (upd (fG i0) j0 (nI (g i0 z1)))) i0 (upd ((va_up fG i0 (upd (fG i0) j0 (nI (g i0 z1)))) i0) z1 (nI (g i0 j0)))) 6, oQ (cY 2) (b 3) (rr 1) 6, gI (cY 0) (rr 1) 6 fW 6, gO b, [(b 19, .inl (cY 0, 6, .inl fPy))], uO b, [(b 22, .inl (cY 0, 6, .inl fCc))], [(cc0, .inl (cY 0, 2, .inl fc))], [(ll0, .inl (cY 0, 60, .inl (upd (upd fl (10 * i0 + j0) (nI (g i0 z1))) (10 * i0 + z1) (nI (g i0 j0)))))], [(pp0, .inl (cY 0, 12, .inl fp))]] : List va_W).flatten := hD
      refine lv_iload hx hb dL_tells_174 (lv_at hl 0 rfl) ?_
      refine n_icmp_ne (tgt := 183) hx hb dL_tells_176 (by decide) (by omega) (by omega) (fun h176 => ?_) (fun h176 => ?_)
      · -- t
        exact absurd rfl h176
      · -- f
        refine lv_iconst (v := nI 1) hx hb dL_tells_179 (by decide) ?_
        refine lv_goto (tgt := 184) hx hb dL_tells_180 (by decide) ?_
        refine eqi (x' := bI true) rfl ?_
        exact r_z hx hb hr hlocks hP hD hS ((va_up (va_up fG i0 (upd (fG i0) j0 (nI (g i0 z1)))) i0 (upd ((va_up fG i0 (upd (fG i0) j0 (nI (g i0 z1)))) i0) z1 (nI (g i0 j0)))), fW, fPy, fCc, (upd (upd fl (10 * i0 + j0) (nI (g i0 z1))) (10 * i0 + z1) (nI (g i0 j0))), fp) rfl (⟨rfl, _, col, LC_swap hLC (by omega) (by omega) (by omega), T_step hk10 (by omega) (T_step hk10 (by omega) hL)⟩) dL_tells_184
  · -- f
    refine lv_aload hx hb dL_tells_32 (lv_at hl 7 rfl) ?_
    refine lv_bipush (v := nI 10) hx hb dL_tells_34 (by decide) ?_
    refine lv_iload hx hb dL_tells_36 (lv_at hl 2 rfl) ?_
    refine lv_imul hx hb dL_tells_38 ?_
    refine eqi (x' := nI (10 * i0)) (pk_mul _ _) ?_
    refine lv_iload hx hb dL_tells_39 (lv_at hl 1 rfl) ?_
    refine lv_iadd hx hb dL_tells_41 ?_
    refine eqi (x' := nI (10 * i0 + j0)) (nI_add _ _) ?_
    refine b_iald hx hb hK hP 11 0 rfl rfl (by omega) (by decide) dL_tells_42 ?_
    refine eqi (x' := nI (g i0 j0)) (hL i0 j0 (by omega) (by omega)) ?_
    have hgi := hgn i0 j0 (by omega) (by omega)
    refine lv_istore (lv' := [(9, .int (nI (g i0 j0))), (8, .int (nI w0)), (7, .int (nI j0)), (6, .int (nI i0)), (0, .ref (b 0)), (1, .int (nI x)), (2, .int (nI y)), (3, .ref cc0), (4, .ref ll0), (5, .ref pp0)]) hx hb dL_tells_43 hl (by decide) rfl (fun ls hl => ?_)
    refine lv_aload hx hb dL_tells_45 (lv_at hl 8 rfl) ?_
    refine lv_bipush (v := nI 10) hx hb dL_tells_47 (by decide) ?_
    refine lv_iload hx hb dL_tells_49 (lv_at hl 3 rfl) ?_
    refine lv_imul hx hb dL_tells_51 ?_
    refine eqi (x' := nI (10 * i0)) (pk_mul _ _) ?_
    refine lv_iload hx hb dL_tells_52 (lv_at hl 2 rfl) ?_
    refine lv_iadd hx hb dL_tells_54 ?_
    refine eqi (x' := nI (10 * i0 + j0)) (nI_add _ _) ?_
    refine lv_iload_n hx hb dL_tells_55 rfl (lv_at hl 6 rfl) ?_
    refine lv_aload_n hx hb dL_tells_56 rfl (lv_at hl 7 rfl) ?_
    refine lv_iconst (v := nI 0) hx hb dL_tells_57 (by decide) ?_
    refine b_iald hx hb hK hP 10 0 rfl rfl (by omega) (by decide) dL_tells_58 ?_
    refine eqi (x' := nI n) (hcn) ?_
    refine lv_irem hx hb dL_tells_59 (nI_ne0 (by omega) (by omega)) ?_
    refine eqi (x' := nI (y % n)) (pk_rem (by omega) (by omega) (by omega)) ?_
    obtain ⟨z0, ez0⟩ : ∃ q, q = y % n := ⟨_, rfl⟩
    have hz0 : z0 < n := by rw [ez0]; exact Nat.mod_lt _ (by omega)
    refine eqi (x' := nI z0) (congrArg nI ez0.symm) ?_
    refine b_iast hx hb hK hP hD hS 11 0 rfl rfl (by omega) (by decide) dL_tells_60 (fun H locs hP hD hS => ?_)
    have hP : va_P D vwCl ([hO b, cO b (nI n) (nI k), oQ (cY 2) (b 2) (rr 0) 6, gI (cY 0) (rr 0) 12 fG 6, oQ (cY 2) (b 3) (rr 1) 6, gI (cY 0) (rr 1) 6 fW 6, gO b, [(b 19, .inl (cY 0, 6, .inl fPy))], uO b, [(b 22, .inl (cY 0, 6, .inl fCc))], [(cc0, .inl (cY 0, 2, .inl fc))], [(ll0, .inl (cY 0, 60, .inl (upd fl (10 * i0 + j0) (nI z0))))], [(pp0, .inl (cY 0, 12, .inl fp))]] : List va_W).flatten H := hP
    have hD : va_D A ([hO b, cO b (nI n) (nI k), oQ (cY 2) (b 2) (rr 0) 6, gI (cY 0) (rr 0) 12 fG 6, oQ (cY 2) (b 3) (rr 1) 6, gI (cY 0) (rr 1) 6 fW 6, gO b, [(b 19, .inl (cY 0, 6, .inl fPy))], uO b, [(b 22, .inl (cY 0, 6, .inl fCc))], [(cc0, .inl (cY 0, 2, .inl fc))], [(ll0, .inl (cY 0, 60, .inl (upd fl (10 * i0 + j0) (nI z0))))], [(pp0, .inl (cY 0, 12, .inl fp))]] : List va_W).flatten := hD
    refine lv_aload_n hx hb dL_tells_61 rfl (lv_at hl 4 rfl) ?_
    refine lv_iload hx hb dL_tells_62 (lv_at hl 3 rfl) ?_
    refine lv_iload hx hb dL_tells_64 (lv_at hl 2 rfl) ?_
    refine lv_iload_n hx hb dL_tells_66 rfl (lv_at hl 6 rfl) ?_
    refine lv_aload_n hx hb dL_tells_67 rfl (lv_at hl 7 rfl) ?_
    refine lv_iconst (v := nI 0) hx hb dL_tells_68 (by decide) ?_
    refine b_iald hx hb hK hP 10 0 rfl rfl (by omega) (by decide) dL_tells_69 ?_
    refine eqi (x' := nI n) (hcn) ?_
    refine lv_irem hx hb dL_tells_70 (nI_ne0 (by omega) (by omega)) ?_
    refine eqi (x' := nI (y % n)) (pk_rem (by omega) (by omega) (by omega)) ?_
    refine eqi (x' := nI z0) (congrArg nI ez0.symm) ?_
    refine ca_i (CL := [hO b, cO b (nI n) (nI k), oQ (cY 2) (b 2) (rr 0) 6, gI (cY 0) (rr 0) 12 fG 6, oQ (cY 2) (b 3) (rr 1) 6, gI (cY 0) (rr 1) 6 fW 6]) (va_runV (As := [.int (nI i0), .int (nI j0), .int (nI z0)]) (rest := []) ⟨hx, hb, hml, hown, hts⟩ (c_X8_lead_ok l D cY H.size b rr n k fG fW g i0 j0 z0 (by omega) (by omega) (by omega) (by omega) hG hgn hW (by omega) (by omega) (by omega)) (cwV 3 hts gL_tells_X8_lead rfl rfl rfl (by decide +kernel) ⟨Nat.le_of_ble_eq_true rfl, Nat.le_of_ble_eq_true rfl⟩) (b_preV hVK hP hD [0, 1, 2, 3, 4, 5] rfl rfl 0 rfl rfl) rfl rfl hl.1 rfl (lv_room (Nat.le_of_ble_eq_true rfl)) dL_tells_71 ⟨Nat.le_refl _, Nat.le_refl _⟩) hP hD hS hA [0, 1, 2, 3, 4, 5] rfl rfl (fun _ => rfl) (fun r71 uu H locs hq hP hD hS => ?_)
    subst hq
    have hP : va_P D vwCl ([hO b, cO b (nI n) (nI k), oQ (cY 2) (b 2) (rr 0) 6, gI (cY 0) (rr 0) 12 (va_up fG i0 (upd (fG i0) j0 (nI z0))) 6, oQ (cY 2) (b 3) (rr 1) 6, gI (cY 0) (rr 1) 6 (va_up (va_up fW i0 (upd (fW i0) (g i0 j0) (fW i0 (g i0 j0) - nI 1))) i0 (upd ((va_up fW i0 (upd (fW i0) (g i0 j0) (fW i0 (g i0 j0) - nI 1))) i0) z0 (((va_up fW i0 (upd (fW i0) (g i0 j0) (fW i0 (g i0 j0) - nI 1))) i0 z0) + nI 1))) 6, gO b, [(b 19, .inl (cY 0, 6, .inl fPy))], uO b, [(b 22, .inl (cY 0, 6, .inl fCc))], [(cc0, .inl (cY 0, 2, .inl fc))], [(ll0, .inl (cY 0, 60, .inl (upd fl (10 * i0 + j0) (nI z0))))], [(pp0, .inl (cY 0, 12, .inl fp))]] : List va_W).flatten H := hP
    have hD : va_D A ([hO b, cO b (nI n) (nI k), oQ (cY 2) (b 2) (rr 0) 6, gI (cY 0) (rr 0) 12 (va_up fG i0 (upd (fG i0) j0 (nI z0))) 6, oQ (cY 2) (b 3) (rr 1) 6, gI (cY 0) (rr 1) 6 (va_up (va_up fW i0 (upd (fW i0) (g i0 j0) (fW i0 (g i0 j0) - nI 1))) i0 (upd ((va_up fW i0 (upd (fW i0) (g i0 j0) (fW i0 (g i0 j0) - nI 1))) i0) z0 (((va_up fW i0 (upd (fW i0) (g i0 j0) (fW i0 (g i0 j0) - nI 1))) i0 z0) + nI 1))) 6, gO b, [(b 19, .inl (cY 0, 6, .inl fPy))], uO b, [(b 22, .inl (cY 0, 6, .inl fCc))], [(cc0, .inl (cY 0, 2, .inl fc))], [(ll0, .inl (cY 0, 60, .inl (upd fl (10 * i0 + j0) (nI z0))))], [(pp0, .inl (cY 0, 12, .inl fp))]] : List va_W).flatten := hD
    refine lv_iload hx hb dL_tells_74 (lv_at hl 0 rfl) ?_
    refine n_icmp_ne (tgt := 83) hx hb dL_tells_76 (by decide) (by omega) (by omega) (fun h76 => ?_) (fun h76 => ?_)
    · -- t
      exact absurd rfl h76
    · -- f
      refine lv_iconst (v := nI 1) hx hb dL_tells_79 (by decide) ?_
      refine lv_goto (tgt := 84) hx hb dL_tells_80 (by decide) ?_
      refine eqi (x' := bI true) rfl ?_
      exact r_z hx hb hr hlocks hP hD hS ((va_up fG i0 (upd (fG i0) j0 (nI z0))), (va_up (va_up fW i0 (upd (fW i0) (g i0 j0) (fW i0 (g i0 j0) - nI 1))) i0 (upd ((va_up fW i0 (upd (fW i0) (g i0 j0) (fW i0 (g i0 j0) - nI 1))) i0) z0 (((va_up fW i0 (upd (fW i0) (g i0 j0) (fW i0 (g i0 j0) - nI 1))) i0 z0) + nI 1))), fPy, fCc, (upd fl (10 * i0 + j0) (nI z0)), fp) rfl (⟨rfl, _, col, LC_lead hLC (by omega) (by omega) (by omega), T_step hk10 (by omega) hL⟩) dL_tells_84

