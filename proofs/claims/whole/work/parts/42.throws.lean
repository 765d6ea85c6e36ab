theorem c_X8_needState_okr (l : Launch) (D : va_G) (cY : Nat → ClassId) (sz : Nat) (b : Nat → Nat) (n : Nat) (k : Nat) (x : Int32) (hn1 : 1 ≤ n) (hn6 : n ≤ 6) (hk1 : 1 ≤ k) (hk12 : k ≤ 12) (hrg : inR x (nI 0) (nI (n - 1)) = true) : Met l yX8_needState wsX8_needState ({ frames := 1, cells := 0, slots := 0, locals := 40 }) (cP D cY [.ref (b 0), .int x] [hO b, cO b (nI n) (nI k)] sz) (qV (S := Unit) D cY (fun uu => True) (fun uu => [hO b, cO b (nI n) (nI k)]) (va_A ([hO b, cO b (nI n) (nI k)] : List va_W).flatten sz)) 0 0 (va_A ([hO b, cO b (nI n) (nI k)] : List va_W).flatten sz) := by
  obtain ⟨i, hi, rfl⟩ := inR_of (by omega) hrg
  exact c_X8_needState_ok l D cY sz b n k i hn1 hn6 hk1 hk12 (by omega)

theorem c_X8_needSlot_okr (l : Launch) (D : va_G) (cY : Nat → ClassId) (sz : Nat) (b : Nat → Nat) (n : Nat) (k : Nat) (x : Int32) (hn1 : 1 ≤ n) (hn6 : n ≤ 6) (hk1 : 1 ≤ k) (hk12 : k ≤ 12) (hrg : inR x (nI 0) (nI (k - 1)) = true) : Met l yX8_needSlot wsX8_needSlot ({ frames := 1, cells := 0, slots := 0, locals := 40 }) (cP D cY [.ref (b 0), .int x] [hO b, cO b (nI n) (nI k)] sz) (qV (S := Unit) D cY (fun uu => True) (fun uu => [hO b, cO b (nI n) (nI k)]) (va_A ([hO b, cO b (nI n) (nI k)] : List va_W).flatten sz)) 0 0 (va_A ([hO b, cO b (nI n) (nI k)] : List va_W).flatten sz) := by
  obtain ⟨i, hi, rfl⟩ := inR_of (by omega) hrg
  exact c_X8_needSlot_ok l D cY sz b n k i hn1 hn6 hk1 hk12 (by omega)

theorem c_X8_needRange_okr (l : Launch) (D : va_G) (cY : Nat → ClassId) (sz : Nat) (x lo hi : Int32) (hrg : inR x lo hi = true) : Met l yX8_needRange wsX8_needRange ({ frames := 1, cells := 0, slots := 0, locals := 40 }) (cP D cY [.int x, .int lo, .int hi] [] sz) (qV (S := Unit) D cY (fun uu => True) (fun uu => []) (va_A ([] : List va_W).flatten sz)) 0 0 (va_A ([] : List va_W).flatten sz) := c_X8_needRange_ok l D cY sz x lo hi hrg

set_option maxHeartbeats 4000000 in
set_option maxRecDepth 100000 in
theorem c_X8_needState_bad (l : Launch) (D : va_G) (cY : Nat → ClassId) (sz : Nat) (b : Nat → Nat) (n : Nat) (k : Nat) (x : Int32) (hlT : l.stackTraces = false) (hn1 : 1 ≤ n) (hn6 : n ≤ 6) (hk1 : 1 ≤ k) (hk12 : k ≤ 12) (hbad : inR x (nI 0) (nI (n - 1)) = false) : vx_Met l yX8_needState wsX8_needState ({ frames := 10, cells := 1, slots := 6, locals := 200 }) (cPX D cY [.ref (b 0), .int x] [hO b, cO b (nI n) (nI k)] sz) (qV (S := Unit) D cY (fun uu => False) (fun uu => [hO b, cO b (nI n) (nI k)]) (va_A ([hO b, cO b (nI n) (nI k)] : List va_W).flatten sz)) (qX (S := Unit) D cY "java/lang/IndexOutOfBoundsException" (fun uu => [hO b, cO b (nI n) (nI k)]) (va_A ([hO b, cO b (nI n) (nI k)] : List va_W).flatten sz)) 1 6 (va_A ([hO b, cO b (nI n) (nI k)] : List va_W).flatten sz) := by
  refine mtX (Qc := fun A => qV (S := Unit) D cY (fun uu => False) (fun uu => [hO b, cO b (nI n) (nI k)]) A) (XC := fun A => qX (S := Unit) D cY "java/lang/IndexOutOfBoundsException" (fun uu => [hO b, cO b (nI n) (nI k)]) A) (cc := cX8_needState) (maxL := 2) (ret := none) (by decide) rfl (Nat.le_of_ble_eq_true rfl) ?_
  intro p e s m below meth c A ls hx hb hr hml hts hown hlocks hnm hsz hP hK hVK hD hS hA hX hnx hl
  have hown : s.vm.findClass RX8 = some m.cls := hown
  have hl : lv_has ls 2 [(0, .ref (b 0)), (1, .int x)] := hl
  have hP : va_P D vwCl ([hO b, cO b (nI n) (nI k)] : List va_W).flatten s.heap := hP
  have hD : va_D A ([hO b, cO b (nI n) (nI k)] : List va_W).flatten := hD
  refine lv_iload_n hx hb dX8_needState_0 rfl (lv_at hl 1 rfl) ?_
  refine lv_if_lt (tgt := 15) hx hb dX8_needState_1 (by decide) (fun h1 => ?_) (fun h1 => ?_)
  · -- t
    obtain ⟨hX1, ⟨a0, a1, a2, a3, a4, k0, k1, k2, k3, k4⟩, hXU, hXN⟩ := hX
    exact vx_throwS (own := RX8) (cls := "java/lang/IndexOutOfBoundsException") (text := "there is no such state") (names := xN) (ik := 163) (is := 201) (ic := 167) hx hb hlT hown (by decide +kernel) (by decide +kernel) (hts (.classLink RX8 163 "java/lang/IndexOutOfBoundsException") (by decide +kernel)) (hts (.initialized "java/lang/IndexOutOfBoundsException") (by decide +kernel)) k2 (x_hat xL2_ok (fun w hw => hts w (by first | exact List.mem_cons_of_mem _ (List.mem_append_right _ hw) | exact List.mem_cons_of_mem _ (List.mem_append_left _ (List.mem_append_right _ hw)))) (fun w hw hm => hX1 w hw (Or.inr (Or.inl hm)))) (by decide +kernel) hXU hXN hS (hl.1.trans hml.symm) dX8_needState_15 dX8_needState_18 dX8_needState_19 dX8_needState_21 dX8_needState_24 (fun x hx => (hnx x hx).elim) (by decide) (by decide) (by decide) (by decide) hlocks (x_thr hP hD hS () rfl) hS.2.2 (by decide) (by decide)
  · -- f
    refine lv_iload_n hx hb dX8_needState_4 rfl (lv_at hl 1 rfl) ?_
    refine lv_aload_n hx hb dX8_needState_5 rfl (lv_at hl 0 rfl) ?_
    refine b_get (ci := 8) (v := .ref (b 1)) (C := RX8) (T := TX8) (N := 8) hx hb hts (by decide +kernel) hown hK hP 0 rfl rfl 0 (by decide) (hts (.fieldLink RX8 10 "ChanceHall" "chain" "LChanceHall$Chain;") (by decide +kernel)) (fun _ h9 => h9) rfl dX8_needState_6 ?_
    refine b_get (ci := 0) (v := .int (nI n)) (C := RX0) (T := TX0) (N := 4) hx hb hts (by decide +kernel) hown hK hP 1 rfl rfl 0 (by decide) (hts (.fieldLink RX8 171 "ChanceHall$Chain" "states" "I") (by decide +kernel)) (fun _ h9 => h9) rfl dX8_needState_9 ?_
    refine lv_icmp_lt (tgt := 25) hx hb dX8_needState_12 (by decide) (fun h12 => ?_) (fun h12 => ?_)
    · -- t
      exact (inR_ff hbad (by rw [nI_0]; exact h1) (by
  intro h9
  obtain ⟨j, hj, rfl⟩ := nI_of h1
  have h8 := (nI_ltI hj (by omega)).mp h12
  have h7 := (nI_ltI (by omega) hj).mp h9
  omega)).elim
    · -- f
      obtain ⟨hX1, ⟨a0, a1, a2, a3, a4, k0, k1, k2, k3, k4⟩, hXU, hXN⟩ := hX
      exact vx_throwS (own := RX8) (cls := "java/lang/IndexOutOfBoundsException") (text := "there is no such state") (names := xN) (ik := 163) (is := 201) (ic := 167) hx hb hlT hown (by decide +kernel) (by decide +kernel) (hts (.classLink RX8 163 "java/lang/IndexOutOfBoundsException") (by decide +kernel)) (hts (.initialized "java/lang/IndexOutOfBoundsException") (by decide +kernel)) k2 (x_hat xL2_ok (fun w hw => hts w (by first | exact List.mem_cons_of_mem _ (List.mem_append_right _ hw) | exact List.mem_cons_of_mem _ (List.mem_append_left _ (List.mem_append_right _ hw)))) (fun w hw hm => hX1 w hw (Or.inr (Or.inl hm)))) (by decide +kernel) hXU hXN hS (hl.1.trans hml.symm) dX8_needState_15 dX8_needState_18 dX8_needState_19 dX8_needState_21 dX8_needState_24 (fun x hx => (hnx x hx).elim) (by decide) (by decide) (by decide) (by decide) hlocks (x_thr hP hD hS () rfl) hS.2.2 (by decide) (by decide)

set_option maxHeartbeats 4000000 in
set_option maxRecDepth 100000 in
theorem c_X8_needSlot_bad (l : Launch) (D : va_G) (cY : Nat → ClassId) (sz : Nat) (b : Nat → Nat) (n : Nat) (k : Nat) (x : Int32) (hlT : l.stackTraces = false) (hn1 : 1 ≤ n) (hn6 : n ≤ 6) (hk1 : 1 ≤ k) (hk12 : k ≤ 12) (hbad : inR x (nI 0) (nI (k - 1)) = false) : vx_Met l yX8_needSlot wsX8_needSlot ({ frames := 10, cells := 1, slots := 6, locals := 200 }) (cPX D cY [.ref (b 0), .int x] [hO b, cO b (nI n) (nI k)] sz) (qV (S := Unit) D cY (fun uu => False) (fun uu => [hO b, cO b (nI n) (nI k)]) (va_A ([hO b, cO b (nI n) (nI k)] : List va_W).flatten sz)) (qX (S := Unit) D cY "java/lang/IndexOutOfBoundsException" (fun uu => [hO b, cO b (nI n) (nI k)]) (va_A ([hO b, cO b (nI n) (nI k)] : List va_W).flatten sz)) 1 6 (va_A ([hO b, cO b (nI n) (nI k)] : List va_W).flatten sz) := by
  refine mtX (Qc := fun A => qV (S := Unit) D cY (fun uu => False) (fun uu => [hO b, cO b (nI n) (nI k)]) A) (XC := fun A => qX (S := Unit) D cY "java/lang/IndexOutOfBoundsException" (fun uu => [hO b, cO b (nI n) (nI k)]) A) (cc := cX8_needSlot) (maxL := 2) (ret := none) (by decide) rfl (Nat.le_of_ble_eq_true rfl) ?_
  intro p e s m below meth c A ls hx hb hr hml hts hown hlocks hnm hsz hP hK hVK hD hS hA hX hnx hl
  have hown : s.vm.findClass RX8 = some m.cls := hown
  have hl : lv_has ls 2 [(0, .ref (b 0)), (1, .int x)] := hl
  have hP : va_P D vwCl ([hO b, cO b (nI n) (nI k)] : List va_W).flatten s.heap := hP
  have hD : va_D A ([hO b, cO b (nI n) (nI k)] : List va_W).flatten := hD
  refine lv_iload_n hx hb dX8_needSlot_0 rfl (lv_at hl 1 rfl) ?_
  refine lv_if_lt (tgt := 15) hx hb dX8_needSlot_1 (by decide) (fun h1 => ?_) (fun h1 => ?_)
  · -- t
    obtain ⟨hX1, ⟨a0, a1, a2, a3, a4, k0, k1, k2, k3, k4⟩, hXU, hXN⟩ := hX
    exact vx_throwS (own := RX8) (cls := "java/lang/IndexOutOfBoundsException") (text := "there is no such slot") (names := xN) (ik := 163) (is := 206) (ic := 167) hx hb hlT hown (by decide +kernel) (by decide +kernel) (hts (.classLink RX8 163 "java/lang/IndexOutOfBoundsException") (by decide +kernel)) (hts (.initialized "java/lang/IndexOutOfBoundsException") (by decide +kernel)) k3 (x_hat xL2_ok (fun w hw => hts w (by first | exact List.mem_cons_of_mem _ (List.mem_append_right _ hw) | exact List.mem_cons_of_mem _ (List.mem_append_left _ (List.mem_append_right _ hw)))) (fun w hw hm => hX1 w hw (Or.inr (Or.inl hm)))) (by decide +kernel) hXU hXN hS (hl.1.trans hml.symm) dX8_needSlot_15 dX8_needSlot_18 dX8_needSlot_19 dX8_needSlot_21 dX8_needSlot_24 (fun x hx => (hnx x hx).elim) (by decide) (by decide) (by decide) (by decide) hlocks (x_thr hP hD hS () rfl) hS.2.2 (by decide) (by decide)
  · -- f
    refine lv_iload_n hx hb dX8_needSlot_4 rfl (lv_at hl 1 rfl) ?_
    refine lv_aload_n hx hb dX8_needSlot_5 rfl (lv_at hl 0 rfl) ?_
    refine b_get (ci := 8) (v := .ref (b 1)) (C := RX8) (T := TX8) (N := 8) hx hb hts (by decide +kernel) hown hK hP 0 rfl rfl 0 (by decide) (hts (.fieldLink RX8 10 "ChanceHall" "chain" "LChanceHall$Chain;") (by decide +kernel)) (fun _ h9 => h9) rfl dX8_needSlot_6 ?_
    refine b_get (ci := 0) (v := .int (nI k)) (C := RX0) (T := TX0) (N := 4) hx hb hts (by decide +kernel) hown hK hP 1 rfl rfl 1 (by decide) (hts (.fieldLink RX8 203 "ChanceHall$Chain" "slots" "I") (by decide +kernel)) (fun _ h9 => h9) rfl dX8_needSlot_9 ?_
    refine lv_icmp_lt (tgt := 25) hx hb dX8_needSlot_12 (by decide) (fun h12 => ?_) (fun h12 => ?_)
    · -- t
      exact (inR_ff hbad (by rw [nI_0]; exact h1) (by
  intro h9
  obtain ⟨j, hj, rfl⟩ := nI_of h1
  have h8 := (nI_ltI hj (by omega)).mp h12
  have h7 := (nI_ltI (by omega) hj).mp h9
  omega)).elim
    · -- f
      obtain ⟨hX1, ⟨a0, a1, a2, a3, a4, k0, k1, k2, k3, k4⟩, hXU, hXN⟩ := hX
      exact vx_throwS (own := RX8) (cls := "java/lang/IndexOutOfBoundsException") (text := "there is no such slot") (names := xN) (ik := 163) (is := 206) (ic := 167) hx hb hlT hown (by decide +kernel) (by decide +kernel) (hts (.classLink RX8 163 "java/lang/IndexOutOfBoundsException") (by decide +kernel)) (hts (.initialized "java/lang/IndexOutOfBoundsException") (by decide +kernel)) k3 (x_hat xL2_ok (fun w hw => hts w (by first | exact List.mem_cons_of_mem _ (List.mem_append_right _ hw) | exact List.mem_cons_of_mem _ (List.mem_append_left _ (List.mem_append_right _ hw)))) (fun w hw hm => hX1 w hw (Or.inr (Or.inl hm)))) (by decide +kernel) hXU hXN hS (hl.1.trans hml.symm) dX8_needSlot_15 dX8_needSlot_18 dX8_needSlot_19 dX8_needSlot_21 dX8_needSlot_24 (fun x hx => (hnx x hx).elim) (by decide) (by decide) (by decide) (by decide) hlocks (x_thr hP hD hS () rfl) hS.2.2 (by decide) (by decide)

set_option maxHeartbeats 4000000 in
set_option maxRecDepth 100000 in
theorem c_X8_needRange_bad (l : Launch) (D : va_G) (cY : Nat → ClassId) (sz : Nat) (x : Int32) (lo : Int32) (hi : Int32) (hlT : l.stackTraces = false) (hbad : inR x lo hi = false) : vx_Met l yX8_needRange wsX8_needRange ({ frames := 10, cells := 1, slots := 6, locals := 200 }) (cPX D cY [.int x, .int lo, .int hi] [] sz) (qV (S := Unit) D cY (fun uu => False) (fun uu => []) (va_A ([] : List va_W).flatten sz)) (qX (S := Unit) D cY "java/lang/IllegalArgumentException" (fun uu => []) (va_A ([] : List va_W).flatten sz)) 1 6 (va_A ([] : List va_W).flatten sz) := by
  refine mtX (Qc := fun A => qV (S := Unit) D cY (fun uu => False) (fun uu => []) A) (XC := fun A => qX (S := Unit) D cY "java/lang/IllegalArgumentException" (fun uu => []) A) (cc := cX8_needRange) (maxL := 3) (ret := none) (by decide) rfl (Nat.le_of_ble_eq_true rfl) ?_
  intro p e s m below meth c A ls hx hb hr hml hts hown hlocks hnm hsz hP hK hVK hD hS hA hX hnx hl
  have hown : s.vm.findClass RX8 = some m.cls := hown
  have hl : lv_has ls 3 [(0, .int x), (1, .int lo), (2, .int hi)] := hl
  have hP : va_P D vwCl ([] : List va_W).flatten s.heap := hP
  have hD : va_D A ([] : List va_W).flatten := hD
  refine lv_iload_n hx hb dX8_needRange_0 rfl (lv_at hl 0 rfl) ?_
  refine lv_iload_n hx hb dX8_needRange_1 rfl (lv_at hl 1 rfl) ?_
  refine lv_icmp_lt (tgt := 10) hx hb dX8_needRange_2 (by decide) (fun h2 => ?_) (fun h2 => ?_)
  · -- t
    obtain ⟨hX1, ⟨a0, a1, a2, a3, a4, k0, k1, k2, k3, k4⟩, hXU, hXN⟩ := hX
    exact vx_throwS (own := RX8) (cls := "java/lang/IllegalArgumentException") (text := "an argument is out of range") (names := xN) (ik := 208) (is := 210) (ic := 212) hx hb hlT hown (by decide +kernel) (by decide +kernel) (hts (.classLink RX8 208 "java/lang/IllegalArgumentException") (by decide +kernel)) (hts (.initialized "java/lang/IllegalArgumentException") (by decide +kernel)) k4 (x_hat xL1_ok (fun w hw => hts w (by first | exact List.mem_cons_of_mem _ (List.mem_append_right _ hw) | exact List.mem_cons_of_mem _ (List.mem_append_left _ (List.mem_append_right _ hw)))) (fun w hw hm => hX1 w hw (Or.inl hm))) (by decide +kernel) hXU hXN hS (hl.1.trans hml.symm) dX8_needRange_10 dX8_needRange_13 dX8_needRange_14 dX8_needRange_16 dX8_needRange_19 (fun x hx => (hnx x hx).elim) (by decide) (by decide) (by decide) (by decide) hlocks (x_thr hP hD hS () rfl) hS.2.2 (by decide) (by decide)
  · -- f
    refine lv_iload_n hx hb dX8_needRange_5 rfl (lv_at hl 0 rfl) ?_
    refine lv_iload_n hx hb dX8_needRange_6 rfl (lv_at hl 2 rfl) ?_
    refine lv_icmp_le (tgt := 20) hx hb dX8_needRange_7 (by decide) (fun h7 => ?_) (fun h7 => ?_)
    · -- t
      exact (inR_ff hbad h2 (Int32.not_lt.mpr h7)).elim
    · -- f
      obtain ⟨hX1, ⟨a0, a1, a2, a3, a4, k0, k1, k2, k3, k4⟩, hXU, hXN⟩ := hX
      exact vx_throwS (own := RX8) (cls := "java/lang/IllegalArgumentException") (text := "an argument is out of range") (names := xN) (ik := 208) (is := 210) (ic := 212) hx hb hlT hown (by decide +kernel) (by decide +kernel) (hts (.classLink RX8 208 "java/lang/IllegalArgumentException") (by decide +kernel)) (hts (.initialized "java/lang/IllegalArgumentException") (by decide +kernel)) k4 (x_hat xL1_ok (fun w hw => hts w (by first | exact List.mem_cons_of_mem _ (List.mem_append_right _ hw) | exact List.mem_cons_of_mem _ (List.mem_append_left _ (List.mem_append_right _ hw)))) (fun w hw hm => hX1 w hw (Or.inl hm))) (by decide +kernel) hXU hXN hS (hl.1.trans hml.symm) dX8_needRange_10 dX8_needRange_13 dX8_needRange_14 dX8_needRange_16 dX8_needRange_19 (fun x hx => (hnx x hx).elim) (by decide) (by decide) (by decide) (by decide) hlocks (x_thr hP hD hS () rfl) hS.2.2 (by decide) (by decide)

set_option maxHeartbeats 4000000 in
set_option maxRecDepth 100000 in
theorem c_X8_begin_bad (l : Launch) (D : va_G) (cY : Nat → ClassId) (sz : Nat) (b : Nat → Nat) (n : Nat) (k : Nat) (x : Int32) (y : Int32) (hlT : l.stackTraces = false) (hn1 : 1 ≤ n) (hn6 : n ≤ 6) (hk1 : 1 ≤ k) (hk12 : k ≤ 12) (hbad : (inR x (nI 1) (nI 6) && inR y (nI 1) (nI 12)) = false) : vx_Met l yX8_begin wsX8_begin ({ frames := 12, cells := 1, slots := 6, locals := 320 }) (cPX D cY [.ref (b 0), .int x, .int y] [hO b, cO b (nI n) (nI k)] sz) (qV (S := Unit) D cY (fun uu => False) (fun uu => [hO b, cO b (nI n) (nI k)]) (va_A ([hO b, cO b (nI n) (nI k)] : List va_W).flatten sz)) (qX (S := Unit) D cY "java/lang/IllegalArgumentException" (fun uu => [hO b, cO b (nI n) (nI k)]) (va_A ([hO b, cO b (nI n) (nI k)] : List va_W).flatten sz)) 1 6 (va_A ([hO b, cO b (nI n) (nI k)] : List va_W).flatten sz) := by
  refine mtX (Qc := fun A => qV (S := Unit) D cY (fun uu => False) (fun uu => [hO b, cO b (nI n) (nI k)]) A) (XC := fun A => qX (S := Unit) D cY "java/lang/IllegalArgumentException" (fun uu => [hO b, cO b (nI n) (nI k)]) A) (cc := cX8_begin) (maxL := 3) (ret := none) (by decide) rfl (Nat.le_of_ble_eq_true rfl) ?_
  intro p e s m below meth c A ls hx hb hr hml hts hown hlocks hnm hsz hP hK hVK hD hS hA hX hnx hl
  have hown : s.vm.findClass RX8 = some m.cls := hown
  have hl : lv_has ls 3 [(0, .ref (b 0)), (1, .int x), (2, .int y)] := hl
  have hP : va_P D vwCl ([hO b, cO b (nI n) (nI k)] : List va_W).flatten s.heap := hP
  have hD : va_D A ([hO b, cO b (nI n) (nI k)] : List va_W).flatten := hD
  refine lv_iload_n hx hb dX8_begin_0 rfl (lv_at hl 1 rfl) ?_
  refine lv_iconst (v := nI 1) hx hb dX8_begin_1 (by decide) ?_
  refine lv_bipush (v := nI 6) hx hb dX8_begin_2 (by decide) ?_
  rcases Bool.eq_false_or_eq_true (inR x (nI 1) (nI 6)) with hc4 | hc4
  · -- holds
    refine ca_v (CL := []) (va_runS (As := [.int x, .int (nI 1), .int (nI 6)]) (rest := []) ⟨hx, hb, hml, hown, hts⟩ (c_X8_needRange_okr l D cY s.heap.size x (nI 1) (nI 6) hc4) (va_cwS 3 hts gX8_begin_X8_needRange rfl rfl rfl (by decide +kernel) ⟨Nat.le_of_ble_eq_true rfl, Nat.le_of_ble_eq_true rfl⟩) (b_preS hVK hP hD [] rfl rfl) rfl rfl hl.1 rfl (lv_room (Nat.le_of_ble_eq_true rfl)) dX8_begin_4 ⟨Nat.zero_le _, Nat.zero_le _⟩) hP hD hS hA [] rfl rfl (fun _ => rfl) (fun uu H locs hq hP hD hS => ?_)
    have hP : va_P D vwCl ([hO b, cO b (nI n) (nI k)] : List va_W).flatten H := hP
    have hD : va_D A ([hO b, cO b (nI n) (nI k)] : List va_W).flatten := hD
    refine lv_iload_n hx hb dX8_begin_7 rfl (lv_at hl 2 rfl) ?_
    refine lv_iconst (v := nI 1) hx hb dX8_begin_8 (by decide) ?_
    refine lv_bipush (v := nI 12) hx hb dX8_begin_9 (by decide) ?_
    rcases Bool.eq_false_or_eq_true (inR y (nI 1) (nI 12)) with hc11 | hc11
    · -- holds
      refine ca_v (CL := []) (va_runS (As := [.int y, .int (nI 1), .int (nI 12)]) (rest := []) ⟨hx, hb, hml, hown, hts⟩ (c_X8_needRange_okr l D cY H.size y (nI 1) (nI 12) hc11) (va_cwS 3 hts gX8_begin_X8_needRange rfl rfl rfl (by decide +kernel) ⟨Nat.le_of_ble_eq_true rfl, Nat.le_of_ble_eq_true rfl⟩) (b_preS hVK hP hD [] rfl rfl) rfl rfl hl.1 rfl (lv_room (Nat.le_of_ble_eq_true rfl)) dX8_begin_11 ⟨Nat.zero_le _, Nat.zero_le _⟩) hP hD hS hA [] rfl rfl (fun _ => rfl) (fun uu H locs hq hP hD hS => ?_)
      have hP : va_P D vwCl ([hO b, cO b (nI n) (nI k)] : List va_W).flatten H := hP
      have hD : va_D A ([hO b, cO b (nI n) (nI k)] : List va_W).flatten := hD
      exact (b2 hbad hc4 hc11).elim
    · -- throws
      exact xc_v (CL := []) (vx_runS (As := [.int y, .int (nI 1), .int (nI 12)]) (rest := []) ⟨hx, hb, hml, hown, hts⟩ (c_X8_needRange_bad l D cY H.size y (nI 1) (nI 12) hlT hc11) (va_cwS 3 hts gX8_begin_X8_needRange rfl rfl rfl (by decide +kernel) ⟨Nat.le_of_ble_eq_true rfl, Nat.le_of_ble_eq_true rfl⟩) (b_preXS hVK hP hD hS hA hX [] rfl rfl) rfl rfl hl.1 rfl (lv_room (Nat.le_of_ble_eq_true rfl)) dX8_begin_11 ⟨by decide, by decide⟩) hP hD hS hA [] rfl rfl rfl hnx hlocks () rfl (by decide) (by decide)
  · -- throws
    exact xc_v (CL := []) (vx_runS (As := [.int x, .int (nI 1), .int (nI 6)]) (rest := []) ⟨hx, hb, hml, hown, hts⟩ (c_X8_needRange_bad l D cY s.heap.size x (nI 1) (nI 6) hlT hc4) (va_cwS 3 hts gX8_begin_X8_needRange rfl rfl rfl (by decide +kernel) ⟨Nat.le_of_ble_eq_true rfl, Nat.le_of_ble_eq_true rfl⟩) (b_preXS hVK hP hD hS hA hX [] rfl rfl) rfl rfl hl.1 rfl (lv_room (Nat.le_of_ble_eq_true rfl)) dX8_begin_4 ⟨by decide, by decide⟩) hP hD hS hA [] rfl rfl rfl hnx hlocks () rfl (by decide) (by decide)

set_option maxHeartbeats 4000000 in
set_option maxRecDepth 100000 in
theorem c_X8_lead_bad (l : Launch) (D : va_G) (cY : Nat → ClassId) (sz : Nat) (b : Nat → Nat) (n : Nat) (k : Nat) (x : Int32) (y : Int32) (z : Int32) (hlT : l.stackTraces = false) (hn1 : 1 ≤ n) (hn6 : n ≤ 6) (hk1 : 1 ≤ k) (hk12 : k ≤ 12) (hbad : (inR x (nI 0) (nI (n - 1)) && inR z (nI 0) (nI (n - 1)) && inR y (nI 0) (nI (k - 1))) = false) : vx_Met l yX8_lead wsX8_lead ({ frames := 12, cells := 1, slots := 6, locals := 320 }) (cPX D cY [.ref (b 0), .int x, .int y, .int z] [hO b, cO b (nI n) (nI k)] sz) (qI (S := Unit) D cY (fun r uu => False) (fun uu => [hO b, cO b (nI n) (nI k)]) (va_A ([hO b, cO b (nI n) (nI k)] : List va_W).flatten sz)) (qX (S := Unit) D cY "java/lang/IndexOutOfBoundsException" (fun uu => [hO b, cO b (nI n) (nI k)]) (va_A ([hO b, cO b (nI n) (nI k)] : List va_W).flatten sz)) 1 6 (va_A ([hO b, cO b (nI n) (nI k)] : List va_W).flatten sz) := by
  refine mtX (Qc := fun A => qI (S := Unit) D cY (fun r uu => False) (fun uu => [hO b, cO b (nI n) (nI k)]) A) (XC := fun A => qX (S := Unit) D cY "java/lang/IndexOutOfBoundsException" (fun uu => [hO b, cO b (nI n) (nI k)]) A) (cc := cX8_lead) (maxL := 4) (ret := (some .int)) (by decide) rfl (Nat.le_of_ble_eq_true rfl) ?_
  intro p e s m below meth c A ls hx hb hr hml hts hown hlocks hnm hsz hP hK hVK hD hS hA hX hnx hl
  have hown : s.vm.findClass RX8 = some m.cls := hown
  have hl : lv_has ls 4 [(0, .ref (b 0)), (1, .int x), (2, .int y), (3, .int z)] := hl
  have hP : va_P D vwCl ([hO b, cO b (nI n) (nI k)] : List va_W).flatten s.heap := hP
  have hD : va_D A ([hO b, cO b (nI n) (nI k)] : List va_W).flatten := hD
  refine lv_aload_n hx hb dX8_lead_0 rfl (lv_at hl 0 rfl) ?_
  refine lv_iload_n hx hb dX8_lead_1 rfl (lv_at hl 1 rfl) ?_
  rcases Bool.eq_false_or_eq_true (inR x (nI 0) (nI (n - 1))) with hc2 | hc2
  · -- holds
    refine ca_v (CL := [hO b, cO b (nI n) (nI k)]) (va_runV (As := [.int x]) (rest := []) ⟨hx, hb, hml, hown, hts⟩ (c_X8_needState_okr l D cY s.heap.size b n k x (by omega) (by omega) (by omega) (by omega) hc2) (cwV 1 hts gX8_lead_X8_needState rfl rfl rfl (by decide +kernel) ⟨Nat.le_of_ble_eq_true rfl, Nat.le_of_ble_eq_true rfl⟩) (b_preV hVK hP hD [0, 1] rfl rfl 0 rfl rfl) rfl rfl hl.1 rfl (lv_room (Nat.le_of_ble_eq_true rfl)) dX8_lead_2 ⟨Nat.zero_le _, Nat.zero_le _⟩) hP hD hS hA [0, 1] rfl rfl (fun _ => rfl) (fun uu H locs hq hP hD hS => ?_)
    have hP : va_P D vwCl ([hO b, cO b (nI n) (nI k)] : List va_W).flatten H := hP
    have hD : va_D A ([hO b, cO b (nI n) (nI k)] : List va_W).flatten := hD
    refine lv_aload_n hx hb dX8_lead_5 rfl (lv_at hl 0 rfl) ?_
    refine lv_iload_n hx hb dX8_lead_6 rfl (lv_at hl 2 rfl) ?_
    rcases Bool.eq_false_or_eq_true (inR y (nI 0) (nI (k - 1))) with hc7 | hc7
    · -- holds
      refine ca_v (CL := [hO b, cO b (nI n) (nI k)]) (va_runV (As := [.int y]) (rest := []) ⟨hx, hb, hml, hown, hts⟩ (c_X8_needSlot_okr l D cY H.size b n k y (by omega) (by omega) (by omega) (by omega) hc7) (cwV 1 hts gX8_lead_X8_needSlot rfl rfl rfl (by decide +kernel) ⟨Nat.le_of_ble_eq_true rfl, Nat.le_of_ble_eq_true rfl⟩) (b_preV hVK hP hD [0, 1] rfl rfl 0 rfl rfl) rfl rfl hl.1 rfl (lv_room (Nat.le_of_ble_eq_true rfl)) dX8_lead_7 ⟨Nat.zero_le _, Nat.zero_le _⟩) hP hD hS hA [0, 1] rfl rfl (fun _ => rfl) (fun uu H locs hq hP hD hS => ?_)
      have hP : va_P D vwCl ([hO b, cO b (nI n) (nI k)] : List va_W).flatten H := hP
      have hD : va_D A ([hO b, cO b (nI n) (nI k)] : List va_W).flatten := hD
      refine lv_aload_n hx hb dX8_lead_10 rfl (lv_at hl 0 rfl) ?_
      refine lv_iload_n hx hb dX8_lead_11 rfl (lv_at hl 3 rfl) ?_
      rcases Bool.eq_false_or_eq_true (inR z (nI 0) (nI (n - 1))) with hc12 | hc12
      · -- holds
        refine ca_v (CL := [hO b, cO b (nI n) (nI k)]) (va_runV (As := [.int z]) (rest := []) ⟨hx, hb, hml, hown, hts⟩ (c_X8_needState_okr l D cY H.size b n k z (by omega) (by omega) (by omega) (by omega) hc12) (cwV 1 hts gX8_lead_X8_needState rfl rfl rfl (by decide +kernel) ⟨Nat.le_of_ble_eq_true rfl, Nat.le_of_ble_eq_true rfl⟩) (b_preV hVK hP hD [0, 1] rfl rfl 0 rfl rfl) rfl rfl hl.1 rfl (lv_room (Nat.le_of_ble_eq_true rfl)) dX8_lead_12 ⟨Nat.zero_le _, Nat.zero_le _⟩) hP hD hS hA [0, 1] rfl rfl (fun _ => rfl) (fun uu H locs hq hP hD hS => ?_)
        have hP : va_P D vwCl ([hO b, cO b (nI n) (nI k)] : List va_W).flatten H := hP
        have hD : va_D A ([hO b, cO b (nI n) (nI k)] : List va_W).flatten := hD
        exact (b3 hbad hc2 hc12 hc7).elim
      · -- throws
        exact xc_v (CL := [hO b, cO b (nI n) (nI k)]) (vx_runV (As := [.int z]) (rest := []) ⟨hx, hb, hml, hown, hts⟩ (c_X8_needState_bad l D cY H.size b n k z hlT (by omega) (by omega) (by omega) (by omega) hc12) (cwV 1 hts gX8_lead_X8_needState rfl rfl rfl (by decide +kernel) ⟨Nat.le_of_ble_eq_true rfl, Nat.le_of_ble_eq_true rfl⟩) (b_preXV hVK hP hD hS hA hX [0, 1] rfl rfl 0 rfl rfl) rfl rfl hl.1 rfl (lv_room (Nat.le_of_ble_eq_true rfl)) dX8_lead_12 ⟨by decide, by decide⟩) hP hD hS hA [0, 1] rfl rfl rfl hnx hlocks () rfl (by decide) (by decide)
    · -- throws
      exact xc_v (CL := [hO b, cO b (nI n) (nI k)]) (vx_runV (As := [.int y]) (rest := []) ⟨hx, hb, hml, hown, hts⟩ (c_X8_needSlot_bad l D cY H.size b n k y hlT (by omega) (by omega) (by omega) (by omega) hc7) (cwV 1 hts gX8_lead_X8_needSlot rfl rfl rfl (by decide +kernel) ⟨Nat.le_of_ble_eq_true rfl, Nat.le_of_ble_eq_true rfl⟩) (b_preXV hVK hP hD hS hA hX [0, 1] rfl rfl 0 rfl rfl) rfl rfl hl.1 rfl (lv_room (Nat.le_of_ble_eq_true rfl)) dX8_lead_7 ⟨by decide, by decide⟩) hP hD hS hA [0, 1] rfl rfl rfl hnx hlocks () rfl (by decide) (by decide)
  · -- throws
    exact xc_v (CL := [hO b, cO b (nI n) (nI k)]) (vx_runV (As := [.int x]) (rest := []) ⟨hx, hb, hml, hown, hts⟩ (c_X8_needState_bad l D cY s.heap.size b n k x hlT (by omega) (by omega) (by omega) (by omega) hc2) (cwV 1 hts gX8_lead_X8_needState rfl rfl rfl (by decide +kernel) ⟨Nat.le_of_ble_eq_true rfl, Nat.le_of_ble_eq_true rfl⟩) (b_preXV hVK hP hD hS hA hX [0, 1] rfl rfl 0 rfl rfl) rfl rfl hl.1 rfl (lv_room (Nat.le_of_ble_eq_true rfl)) dX8_lead_2 ⟨by decide, by decide⟩) hP hD hS hA [0, 1] rfl rfl rfl hnx hlocks () rfl (by decide) (by decide)

set_option maxHeartbeats 4000000 in
set_option maxRecDepth 100000 in
theorem c_X8_swap_bad (l : Launch) (D : va_G) (cY : Nat → ClassId) (sz : Nat) (b : Nat → Nat) (n : Nat) (k : Nat) (x : Int32) (y : Int32) (z : Int32) (hlT : l.stackTraces = false) (hn1 : 1 ≤ n) (hn6 : n ≤ 6) (hk1 : 1 ≤ k) (hk12 : k ≤ 12) (hbad : (inR x (nI 0) (nI (n - 1)) && inR y (nI 0) (nI (k - 1)) && inR z (nI 0) (nI (k - 1))) = false) : vx_Met l yX8_swap wsX8_swap ({ frames := 12, cells := 1, slots := 6, locals := 320 }) (cPX D cY [.ref (b 0), .int x, .int y, .int z] [hO b, cO b (nI n) (nI k)] sz) (qV (S := Unit) D cY (fun uu => False) (fun uu => [hO b, cO b (nI n) (nI k)]) (va_A ([hO b, cO b (nI n) (nI k)] : List va_W).flatten sz)) (qX (S := Unit) D cY "java/lang/IndexOutOfBoundsException" (fun uu => [hO b, cO b (nI n) (nI k)]) (va_A ([hO b, cO b (nI n) (nI k)] : List va_W).flatten sz)) 1 6 (va_A ([hO b, cO b (nI n) (nI k)] : List va_W).flatten sz) := by
  refine mtX (Qc := fun A => qV (S := Unit) D cY (fun uu => False) (fun uu => [hO b, cO b (nI n) (nI k)]) A) (XC := fun A => qX (S := Unit) D cY "java/lang/IndexOutOfBoundsException" (fun uu => [hO b, cO b (nI n) (nI k)]) A) (cc := cX8_swap) (maxL := 4) (ret := none) (by decide) rfl (Nat.le_of_ble_eq_true rfl) ?_
  intro p e s m below meth c A ls hx hb hr hml hts hown hlocks hnm hsz hP hK hVK hD hS hA hX hnx hl
  have hown : s.vm.findClass RX8 = some m.cls := hown
  have hl : lv_has ls 4 [(0, .ref (b 0)), (1, .int x), (2, .int y), (3, .int z)] := hl
  have hP : va_P D vwCl ([hO b, cO b (nI n) (nI k)] : List va_W).flatten s.heap := hP
  have hD : va_D A ([hO b, cO b (nI n) (nI k)] : List va_W).flatten := hD
  refine lv_aload_n hx hb dX8_swap_0 rfl (lv_at hl 0 rfl) ?_
  refine lv_iload_n hx hb dX8_swap_1 rfl (lv_at hl 1 rfl) ?_
  rcases Bool.eq_false_or_eq_true (inR x (nI 0) (nI (n - 1))) with hc2 | hc2
  · -- holds
    refine ca_v (CL := [hO b, cO b (nI n) (nI k)]) (va_runV (As := [.int x]) (rest := []) ⟨hx, hb, hml, hown, hts⟩ (c_X8_needState_okr l D cY s.heap.size b n k x (by omega) (by omega) (by omega) (by omega) hc2) (cwV 1 hts gX8_swap_X8_needState rfl rfl rfl (by decide +kernel) ⟨Nat.le_of_ble_eq_true rfl, Nat.le_of_ble_eq_true rfl⟩) (b_preV hVK hP hD [0, 1] rfl rfl 0 rfl rfl) rfl rfl hl.1 rfl (lv_room (Nat.le_of_ble_eq_true rfl)) dX8_swap_2 ⟨Nat.zero_le _, Nat.zero_le _⟩) hP hD hS hA [0, 1] rfl rfl (fun _ => rfl) (fun uu H locs hq hP hD hS => ?_)
    have hP : va_P D vwCl ([hO b, cO b (nI n) (nI k)] : List va_W).flatten H := hP
    have hD : va_D A ([hO b, cO b (nI n) (nI k)] : List va_W).flatten := hD
    refine lv_aload_n hx hb dX8_swap_5 rfl (lv_at hl 0 rfl) ?_
    refine lv_iload_n hx hb dX8_swap_6 rfl (lv_at hl 2 rfl) ?_
    rcases Bool.eq_false_or_eq_true (inR y (nI 0) (nI (k - 1))) with hc7 | hc7
    · -- holds
      refine ca_v (CL := [hO b, cO b (nI n) (nI k)]) (va_runV (As := [.int y]) (rest := []) ⟨hx, hb, hml, hown, hts⟩ (c_X8_needSlot_okr l D cY H.size b n k y (by omega) (by omega) (by omega) (by omega) hc7) (cwV 1 hts gX8_swap_X8_needSlot rfl rfl rfl (by decide +kernel) ⟨Nat.le_of_ble_eq_true rfl, Nat.le_of_ble_eq_true rfl⟩) (b_preV hVK hP hD [0, 1] rfl rfl 0 rfl rfl) rfl rfl hl.1 rfl (lv_room (Nat.le_of_ble_eq_true rfl)) dX8_swap_7 ⟨Nat.zero_le _, Nat.zero_le _⟩) hP hD hS hA [0, 1] rfl rfl (fun _ => rfl) (fun uu H locs hq hP hD hS => ?_)
      have hP : va_P D vwCl ([hO b, cO b (nI n) (nI k)] : List va_W).flatten H := hP
      have hD : va_D A ([hO b, cO b (nI n) (nI k)] : List va_W).flatten := hD
      refine lv_aload_n hx hb dX8_swap_10 rfl (lv_at hl 0 rfl) ?_
      refine lv_iload_n hx hb dX8_swap_11 rfl (lv_at hl 3 rfl) ?_
      rcases Bool.eq_false_or_eq_true (inR z (nI 0) (nI (k - 1))) with hc12 | hc12
      · -- holds
        refine ca_v (CL := [hO b, cO b (nI n) (nI k)]) (va_runV (As := [.int z]) (rest := []) ⟨hx, hb, hml, hown, hts⟩ (c_X8_needSlot_okr l D cY H.size b n k z (by omega) (by omega) (by omega) (by omega) hc12) (cwV 1 hts gX8_swap_X8_needSlot rfl rfl rfl (by decide +kernel) ⟨Nat.le_of_ble_eq_true rfl, Nat.le_of_ble_eq_true rfl⟩) (b_preV hVK hP hD [0, 1] rfl rfl 0 rfl rfl) rfl rfl hl.1 rfl (lv_room (Nat.le_of_ble_eq_true rfl)) dX8_swap_12 ⟨Nat.zero_le _, Nat.zero_le _⟩) hP hD hS hA [0, 1] rfl rfl (fun _ => rfl) (fun uu H locs hq hP hD hS => ?_)
        have hP : va_P D vwCl ([hO b, cO b (nI n) (nI k)] : List va_W).flatten H := hP
        have hD : va_D A ([hO b, cO b (nI n) (nI k)] : List va_W).flatten := hD
        exact (b3 hbad hc2 hc7 hc12).elim
      · -- throws
        exact xc_v (CL := [hO b, cO b (nI n) (nI k)]) (vx_runV (As := [.int z]) (rest := []) ⟨hx, hb, hml, hown, hts⟩ (c_X8_needSlot_bad l D cY H.size b n k z hlT (by omega) (by omega) (by omega) (by omega) hc12) (cwV 1 hts gX8_swap_X8_needSlot rfl rfl rfl (by decide +kernel) ⟨Nat.le_of_ble_eq_true rfl, Nat.le_of_ble_eq_true rfl⟩) (b_preXV hVK hP hD hS hA hX [0, 1] rfl rfl 0 rfl rfl) rfl rfl hl.1 rfl (lv_room (Nat.le_of_ble_eq_true rfl)) dX8_swap_12 ⟨by decide, by decide⟩) hP hD hS hA [0, 1] rfl rfl rfl hnx hlocks () rfl (by decide) (by decide)
    · -- throws
      exact xc_v (CL := [hO b, cO b (nI n) (nI k)]) (vx_runV (As := [.int y]) (rest := []) ⟨hx, hb, hml, hown, hts⟩ (c_X8_needSlot_bad l D cY H.size b n k y hlT (by omega) (by omega) (by omega) (by omega) hc7) (cwV 1 hts gX8_swap_X8_needSlot rfl rfl rfl (by decide +kernel) ⟨Nat.le_of_ble_eq_true rfl, Nat.le_of_ble_eq_true rfl⟩) (b_preXV hVK hP hD hS hA hX [0, 1] rfl rfl 0 rfl rfl) rfl rfl hl.1 rfl (lv_room (Nat.le_of_ble_eq_true rfl)) dX8_swap_7 ⟨by decide, by decide⟩) hP hD hS hA [0, 1] rfl rfl rfl hnx hlocks () rfl (by decide) (by decide)
  · -- throws
    exact xc_v (CL := [hO b, cO b (nI n) (nI k)]) (vx_runV (As := [.int x]) (rest := []) ⟨hx, hb, hml, hown, hts⟩ (c_X8_needState_bad l D cY s.heap.size b n k x hlT (by omega) (by omega) (by omega) (by omega) hc2) (cwV 1 hts gX8_swap_X8_needState rfl rfl rfl (by decide +kernel) ⟨Nat.le_of_ble_eq_true rfl, Nat.le_of_ble_eq_true rfl⟩) (b_preXV hVK hP hD hS hA hX [0, 1] rfl rfl 0 rfl rfl) rfl rfl hl.1 rfl (lv_room (Nat.le_of_ble_eq_true rfl)) dX8_swap_2 ⟨by decide, by decide⟩) hP hD hS hA [0, 1] rfl rfl rfl hnx hlocks () rfl (by decide) (by decide)

set_option maxHeartbeats 4000000 in
set_option maxRecDepth 100000 in
theorem c_X8_pay_b1 (l : Launch) (D : va_G) (cY : Nat → ClassId) (sz : Nat) (b : Nat → Nat) (n : Nat) (k : Nat) (x : Int32) (v0 : Int32) (hlT : l.stackTraces = false) (hn1 : 1 ≤ n) (hn6 : n ≤ 6) (hk1 : 1 ≤ k) (hk12 : k ≤ 12) (hbad : inR x (nI 0) (nI (n - 1)) = false) : vx_Met l yX8_pay wsX8_pay ({ frames := 12, cells := 1, slots := 6, locals := 320 }) (cPX D cY [.ref (b 0), .int x, .int v0] [hO b, cO b (nI n) (nI k)] sz) (qI (S := Unit) D cY (fun r uu => False) (fun uu => [hO b, cO b (nI n) (nI k)]) (va_A ([hO b, cO b (nI n) (nI k)] : List va_W).flatten sz)) (qX (S := Unit) D cY "java/lang/IndexOutOfBoundsException" (fun uu => [hO b, cO b (nI n) (nI k)]) (va_A ([hO b, cO b (nI n) (nI k)] : List va_W).flatten sz)) 1 6 (va_A ([hO b, cO b (nI n) (nI k)] : List va_W).flatten sz) := by
  refine mtX (Qc := fun A => qI (S := Unit) D cY (fun r uu => False) (fun uu => [hO b, cO b (nI n) (nI k)]) A) (XC := fun A => qX (S := Unit) D cY "java/lang/IndexOutOfBoundsException" (fun uu => [hO b, cO b (nI n) (nI k)]) A) (cc := cX8_pay) (maxL := 3) (ret := (some .int)) (by decide) rfl (Nat.le_of_ble_eq_true rfl) ?_
  intro p e s m below meth c A ls hx hb hr hml hts hown hlocks hnm hsz hP hK hVK hD hS hA hX hnx hl
  have hown : s.vm.findClass RX8 = some m.cls := hown
  have hl : lv_has ls 3 [(0, .ref (b 0)), (1, .int x), (2, .int v0)] := hl
  have hP : va_P D vwCl ([hO b, cO b (nI n) (nI k)] : List va_W).flatten s.heap := hP
  have hD : va_D A ([hO b, cO b (nI n) (nI k)] : List va_W).flatten := hD
  refine lv_aload_n hx hb dX8_pay_0 rfl (lv_at hl 0 rfl) ?_
  refine lv_iload_n hx hb dX8_pay_1 rfl (lv_at hl 1 rfl) ?_
  exact xc_v (CL := [hO b, cO b (nI n) (nI k)]) (vx_runV (As := [.int x]) (rest := []) ⟨hx, hb, hml, hown, hts⟩ (c_X8_needState_bad l D cY s.heap.size b n k x hlT (by omega) (by omega) (by omega) (by omega) hbad) (cwV 1 hts gX8_pay_X8_needState rfl rfl rfl (by decide +kernel) ⟨Nat.le_of_ble_eq_true rfl, Nat.le_of_ble_eq_true rfl⟩) (b_preXV hVK hP hD hS hA hX [0, 1] rfl rfl 0 rfl rfl) rfl rfl hl.1 rfl (lv_room (Nat.le_of_ble_eq_true rfl)) dX8_pay_2 ⟨by decide, by decide⟩) hP hD hS hA [0, 1] rfl rfl rfl hnx hlocks () rfl (by decide) (by decide)

set_option maxHeartbeats 4000000 in
set_option maxRecDepth 100000 in
theorem c_X8_pay_b2 (l : Launch) (D : va_G) (cY : Nat → ClassId) (sz : Nat) (b : Nat → Nat) (n : Nat) (k : Nat) (x : Int32) (v0 : Int32) (hlT : l.stackTraces = false) (hn1 : 1 ≤ n) (hn6 : n ≤ 6) (hk1 : 1 ≤ k) (hk12 : k ≤ 12) (hAa : inR x (nI 0) (nI (n - 1)) = true) (hbad : inR v0 (-100000) (nI 100000) = false) : vx_Met l yX8_pay wsX8_pay ({ frames := 12, cells := 1, slots := 6, locals := 320 }) (cPX D cY [.ref (b 0), .int x, .int v0] [hO b, cO b (nI n) (nI k)] sz) (qI (S := Unit) D cY (fun r uu => False) (fun uu => [hO b, cO b (nI n) (nI k)]) (va_A ([hO b, cO b (nI n) (nI k)] : List va_W).flatten sz)) (qX (S := Unit) D cY "java/lang/IllegalArgumentException" (fun uu => [hO b, cO b (nI n) (nI k)]) (va_A ([hO b, cO b (nI n) (nI k)] : List va_W).flatten sz)) 1 6 (va_A ([hO b, cO b (nI n) (nI k)] : List va_W).flatten sz) := by
  refine mtX (Qc := fun A => qI (S := Unit) D cY (fun r uu => False) (fun uu => [hO b, cO b (nI n) (nI k)]) A) (XC := fun A => qX (S := Unit) D cY "java/lang/IllegalArgumentException" (fun uu => [hO b, cO b (nI n) (nI k)]) A) (cc := cX8_pay) (maxL := 3) (ret := (some .int)) (by decide) rfl (Nat.le_of_ble_eq_true rfl) ?_
  intro p e s m below meth c A ls hx hb hr hml hts hown hlocks hnm hsz hP hK hVK hD hS hA hX hnx hl
  have hown : s.vm.findClass RX8 = some m.cls := hown
  have hl : lv_has ls 3 [(0, .ref (b 0)), (1, .int x), (2, .int v0)] := hl
  have hP : va_P D vwCl ([hO b, cO b (nI n) (nI k)] : List va_W).flatten s.heap := hP
  have hD : va_D A ([hO b, cO b (nI n) (nI k)] : List va_W).flatten := hD
  refine lv_aload_n hx hb dX8_pay_0 rfl (lv_at hl 0 rfl) ?_
  refine lv_iload_n hx hb dX8_pay_1 rfl (lv_at hl 1 rfl) ?_
  refine ca_v (CL := [hO b, cO b (nI n) (nI k)]) (va_runV (As := [.int x]) (rest := []) ⟨hx, hb, hml, hown, hts⟩ (c_X8_needState_okr l D cY s.heap.size b n k x (by omega) (by omega) (by omega) (by omega) hAa) (cwV 1 hts gX8_pay_X8_needState rfl rfl rfl (by decide +kernel) ⟨Nat.le_of_ble_eq_true rfl, Nat.le_of_ble_eq_true rfl⟩) (b_preV hVK hP hD [0, 1] rfl rfl 0 rfl rfl) rfl rfl hl.1 rfl (lv_room (Nat.le_of_ble_eq_true rfl)) dX8_pay_2 ⟨Nat.zero_le _, Nat.zero_le _⟩) hP hD hS hA [0, 1] rfl rfl (fun _ => rfl) (fun uu H locs hq hP hD hS => ?_)
  have hP : va_P D vwCl ([hO b, cO b (nI n) (nI k)] : List va_W).flatten H := hP
  have hD : va_D A ([hO b, cO b (nI n) (nI k)] : List va_W).flatten := hD
  refine lv_iload_n hx hb dX8_pay_5 rfl (lv_at hl 2 rfl) ?_
  refine lv_ldc (v := (-100000)) hx hb hown (hts (.constant RX8 93 (-100000)) (by decide +kernel)) dX8_pay_6 ?_
  refine lv_ldc (v := 100000) hx hb hown (hts (.constant RX8 94 100000) (by decide +kernel)) dX8_pay_8 ?_
  refine eqi (x' := nI 100000) (by decide) ?_
  exact xc_v (CL := []) (vx_runS (As := [.int v0, .int (-100000), .int (nI 100000)]) (rest := []) ⟨hx, hb, hml, hown, hts⟩ (c_X8_needRange_bad l D cY H.size v0 (-100000) (nI 100000) hlT hbad) (va_cwS 3 hts gX8_pay_X8_needRange rfl rfl rfl (by decide +kernel) ⟨Nat.le_of_ble_eq_true rfl, Nat.le_of_ble_eq_true rfl⟩) (b_preXS hVK hP hD hS hA hX [] rfl rfl) rfl rfl hl.1 rfl (lv_room (Nat.le_of_ble_eq_true rfl)) dX8_pay_10 ⟨by decide, by decide⟩) hP hD hS hA [] rfl rfl rfl hnx hlocks () rfl (by decide) (by decide)

set_option maxHeartbeats 4000000 in
set_option maxRecDepth 100000 in
theorem c_X8_colour_b1 (l : Launch) (D : va_G) (cY : Nat → ClassId) (sz : Nat) (b : Nat → Nat) (n : Nat) (k : Nat) (x : Int32) (v0 : Int32) (hlT : l.stackTraces = false) (hn1 : 1 ≤ n) (hn6 : n ≤ 6) (hk1 : 1 ≤ k) (hk12 : k ≤ 12) (hbad : inR x (nI 0) (nI (n - 1)) = false) : vx_Met l yX8_colour wsX8_colour ({ frames := 12, cells := 1, slots := 6, locals := 320 }) (cPX D cY [.ref (b 0), .int x, .int v0] [hO b, cO b (nI n) (nI k)] sz) (qI (S := Unit) D cY (fun r uu => False) (fun uu => [hO b, cO b (nI n) (nI k)]) (va_A ([hO b, cO b (nI n) (nI k)] : List va_W).flatten sz)) (qX (S := Unit) D cY "java/lang/IndexOutOfBoundsException" (fun uu => [hO b, cO b (nI n) (nI k)]) (va_A ([hO b, cO b (nI n) (nI k)] : List va_W).flatten sz)) 1 6 (va_A ([hO b, cO b (nI n) (nI k)] : List va_W).flatten sz) := by
  refine mtX (Qc := fun A => qI (S := Unit) D cY (fun r uu => False) (fun uu => [hO b, cO b (nI n) (nI k)]) A) (XC := fun A => qX (S := Unit) D cY "java/lang/IndexOutOfBoundsException" (fun uu => [hO b, cO b (nI n) (nI k)]) A) (cc := cX8_colour) (maxL := 3) (ret := (some .int)) (by decide) rfl (Nat.le_of_ble_eq_true rfl) ?_
  intro p e s m below meth c A ls hx hb hr hml hts hown hlocks hnm hsz hP hK hVK hD hS hA hX hnx hl
  have hown : s.vm.findClass RX8 = some m.cls := hown
  have hl : lv_has ls 3 [(0, .ref (b 0)), (1, .int x), (2, .int v0)] := hl
  have hP : va_P D vwCl ([hO b, cO b (nI n) (nI k)] : List va_W).flatten s.heap := hP
  have hD : va_D A ([hO b, cO b (nI n) (nI k)] : List va_W).flatten := hD
  refine lv_aload_n hx hb dX8_colour_0 rfl (lv_at hl 0 rfl) ?_
  refine lv_iload_n hx hb dX8_colour_1 rfl (lv_at hl 1 rfl) ?_
  exact xc_v (CL := [hO b, cO b (nI n) (nI k)]) (vx_runV (As := [.int x]) (rest := []) ⟨hx, hb, hml, hown, hts⟩ (c_X8_needState_bad l D cY s.heap.size b n k x hlT (by omega) (by omega) (by omega) (by omega) hbad) (cwV 1 hts gX8_colour_X8_needState rfl rfl rfl (by decide +kernel) ⟨Nat.le_of_ble_eq_true rfl, Nat.le_of_ble_eq_true rfl⟩) (b_preXV hVK hP hD hS hA hX [0, 1] rfl rfl 0 rfl rfl) rfl rfl hl.1 rfl (lv_room (Nat.le_of_ble_eq_true rfl)) dX8_colour_2 ⟨by decide, by decide⟩) hP hD hS hA [0, 1] rfl rfl rfl hnx hlocks () rfl (by decide) (by decide)

set_option maxHeartbeats 4000000 in
set_option maxRecDepth 100000 in
theorem c_X8_colour_b2 (l : Launch) (D : va_G) (cY : Nat → ClassId) (sz : Nat) (b : Nat → Nat) (n : Nat) (k : Nat) (x : Int32) (v0 : Int32) (hlT : l.stackTraces = false) (hn1 : 1 ≤ n) (hn6 : n ≤ 6) (hk1 : 1 ≤ k) (hk12 : k ≤ 12) (hAa : inR x (nI 0) (nI (n - 1)) = true) (hbad : inR v0 (nI 0) (nI 5) = false) : vx_Met l yX8_colour wsX8_colour ({ frames := 12, cells := 1, slots := 6, locals := 320 }) (cPX D cY [.ref (b 0), .int x, .int v0] [hO b, cO b (nI n) (nI k)] sz) (qI (S := Unit) D cY (fun r uu => False) (fun uu => [hO b, cO b (nI n) (nI k)]) (va_A ([hO b, cO b (nI n) (nI k)] : List va_W).flatten sz)) (qX (S := Unit) D cY "java/lang/IllegalArgumentException" (fun uu => [hO b, cO b (nI n) (nI k)]) (va_A ([hO b, cO b (nI n) (nI k)] : List va_W).flatten sz)) 1 6 (va_A ([hO b, cO b (nI n) (nI k)] : List va_W).flatten sz) := by
  refine mtX (Qc := fun A => qI (S := Unit) D cY (fun r uu => False) (fun uu => [hO b, cO b (nI n) (nI k)]) A) (XC := fun A => qX (S := Unit) D cY "java/lang/IllegalArgumentException" (fun uu => [hO b, cO b (nI n) (nI k)]) A) (cc := cX8_colour) (maxL := 3) (ret := (some .int)) (by decide) rfl (Nat.le_of_ble_eq_true rfl) ?_
  intro p e s m below meth c A ls hx hb hr hml hts hown hlocks hnm hsz hP hK hVK hD hS hA hX hnx hl
  have hown : s.vm.findClass RX8 = some m.cls := hown
  have hl : lv_has ls 3 [(0, .ref (b 0)), (1, .int x), (2, .int v0)] := hl
  have hP : va_P D vwCl ([hO b, cO b (nI n) (nI k)] : List va_W).flatten s.heap := hP
  have hD : va_D A ([hO b, cO b (nI n) (nI k)] : List va_W).flatten := hD
  refine lv_aload_n hx hb dX8_colour_0 rfl (lv_at hl 0 rfl) ?_
  refine lv_iload_n hx hb dX8_colour_1 rfl (lv_at hl 1 rfl) ?_
  refine ca_v (CL := [hO b, cO b (nI n) (nI k)]) (va_runV (As := [.int x]) (rest := []) ⟨hx, hb, hml, hown, hts⟩ (c_X8_needState_okr l D cY s.heap.size b n k x (by omega) (by omega) (by omega) (by omega) hAa) (cwV 1 hts gX8_colour_X8_needState rfl rfl rfl (by decide +kernel) ⟨Nat.le_of_ble_eq_true rfl, Nat.le_of_ble_eq_true rfl⟩) (b_preV hVK hP hD [0, 1] rfl rfl 0 rfl rfl) rfl rfl hl.1 rfl (lv_room (Nat.le_of_ble_eq_true rfl)) dX8_colour_2 ⟨Nat.zero_le _, Nat.zero_le _⟩) hP hD hS hA [0, 1] rfl rfl (fun _ => rfl) (fun uu H locs hq hP hD hS => ?_)
  have hP : va_P D vwCl ([hO b, cO b (nI n) (nI k)] : List va_W).flatten H := hP
  have hD : va_D A ([hO b, cO b (nI n) (nI k)] : List va_W).flatten := hD
  refine lv_iload_n hx hb dX8_colour_5 rfl (lv_at hl 2 rfl) ?_
  refine lv_iconst (v := nI 0) hx hb dX8_colour_6 (by decide) ?_
  refine lv_iconst (v := nI 5) hx hb dX8_colour_7 (by decide) ?_
  exact xc_v (CL := []) (vx_runS (As := [.int v0, .int (nI 0), .int (nI 5)]) (rest := []) ⟨hx, hb, hml, hown, hts⟩ (c_X8_needRange_bad l D cY H.size v0 (nI 0) (nI 5) hlT hbad) (va_cwS 3 hts gX8_colour_X8_needRange rfl rfl rfl (by decide +kernel) ⟨Nat.le_of_ble_eq_true rfl, Nat.le_of_ble_eq_true rfl⟩) (b_preXS hVK hP hD hS hA hX [] rfl rfl) rfl rfl hl.1 rfl (lv_room (Nat.le_of_ble_eq_true rfl)) dX8_colour_8 ⟨by decide, by decide⟩) hP hD hS hA [] rfl rfl rfl hnx hlocks () rfl (by decide) (by decide)

set_option maxHeartbeats 4000000 in
set_option maxRecDepth 100000 in
theorem c_X8_weight_bad (l : Launch) (D : va_G) (cY : Nat → ClassId) (sz : Nat) (b : Nat → Nat) (n : Nat) (k : Nat) (x : Int32) (y : Int32) (hlT : l.stackTraces = false) (hn1 : 1 ≤ n) (hn6 : n ≤ 6) (hk1 : 1 ≤ k) (hk12 : k ≤ 12) (hbad : (inR x (nI 0) (nI (n - 1)) && inR y (nI 0) (nI (n - 1))) = false) : vx_Met l yX8_weight wsX8_weight ({ frames := 12, cells := 1, slots := 6, locals := 320 }) (cPX D cY [.ref (b 0), .int x, .int y] [hO b, cO b (nI n) (nI k)] sz) (qI (S := Unit) D cY (fun r uu => False) (fun uu => [hO b, cO b (nI n) (nI k)]) (va_A ([hO b, cO b (nI n) (nI k)] : List va_W).flatten sz)) (qX (S := Unit) D cY "java/lang/IndexOutOfBoundsException" (fun uu => [hO b, cO b (nI n) (nI k)]) (va_A ([hO b, cO b (nI n) (nI k)] : List va_W).flatten sz)) 1 6 (va_A ([hO b, cO b (nI n) (nI k)] : List va_W).flatten sz) := by
  refine mtX (Qc := fun A => qI (S := Unit) D cY (fun r uu => False) (fun uu => [hO b, cO b (nI n) (nI k)]) A) (XC := fun A => qX (S := Unit) D cY "java/lang/IndexOutOfBoundsException" (fun uu => [hO b, cO b (nI n) (nI k)]) A) (cc := cX8_weight) (maxL := 3) (ret := (some .int)) (by decide) rfl (Nat.le_of_ble_eq_true rfl) ?_
  intro p e s m below meth c A ls hx hb hr hml hts hown hlocks hnm hsz hP hK hVK hD hS hA hX hnx hl
  have hown : s.vm.findClass RX8 = some m.cls := hown
  have hl : lv_has ls 3 [(0, .ref (b 0)), (1, .int x), (2, .int y)] := hl
  have hP : va_P D vwCl ([hO b, cO b (nI n) (nI k)] : List va_W).flatten s.heap := hP
  have hD : va_D A ([hO b, cO b (nI n) (nI k)] : List va_W).flatten := hD
  refine lv_aload_n hx hb dX8_weight_0 rfl (lv_at hl 0 rfl) ?_
  refine lv_iload_n hx hb dX8_weight_1 rfl (lv_at hl 1 rfl) ?_
  rcases Bool.eq_false_or_eq_true (inR x (nI 0) (nI (n - 1))) with hc2 | hc2
  · -- holds
    refine ca_v (CL := [hO b, cO b (nI n) (nI k)]) (va_runV (As := [.int x]) (rest := []) ⟨hx, hb, hml, hown, hts⟩ (c_X8_needState_okr l D cY s.heap.size b n k x (by omega) (by omega) (by omega) (by omega) hc2) (cwV 1 hts gX8_weight_X8_needState rfl rfl rfl (by decide +kernel) ⟨Nat.le_of_ble_eq_true rfl, Nat.le_of_ble_eq_true rfl⟩) (b_preV hVK hP hD [0, 1] rfl rfl 0 rfl rfl) rfl rfl hl.1 rfl (lv_room (Nat.le_of_ble_eq_true rfl)) dX8_weight_2 ⟨Nat.zero_le _, Nat.zero_le _⟩) hP hD hS hA [0, 1] rfl rfl (fun _ => rfl) (fun uu H locs hq hP hD hS => ?_)
    have hP : va_P D vwCl ([hO b, cO b (nI n) (nI k)] : List va_W).flatten H := hP
    have hD : va_D A ([hO b, cO b (nI n) (nI k)] : List va_W).flatten := hD
    refine lv_aload_n hx hb dX8_weight_5 rfl (lv_at hl 0 rfl) ?_
    refine lv_iload_n hx hb dX8_weight_6 rfl (lv_at hl 2 rfl) ?_
    rcases Bool.eq_false_or_eq_true (inR y (nI 0) (nI (n - 1))) with hc7 | hc7
    · -- holds
      refine ca_v (CL := [hO b, cO b (nI n) (nI k)]) (va_runV (As := [.int y]) (rest := []) ⟨hx, hb, hml, hown, hts⟩ (c_X8_needState_okr l D cY H.size b n k y (by omega) (by omega) (by omega) (by omega) hc7) (cwV 1 hts gX8_weight_X8_needState rfl rfl rfl (by decide +kernel) ⟨Nat.le_of_ble_eq_true rfl, Nat.le_of_ble_eq_true rfl⟩) (b_preV hVK hP hD [0, 1] rfl rfl 0 rfl rfl) rfl rfl hl.1 rfl (lv_room (Nat.le_of_ble_eq_true rfl)) dX8_weight_7 ⟨Nat.zero_le _, Nat.zero_le _⟩) hP hD hS hA [0, 1] rfl rfl (fun _ => rfl) (fun uu H locs hq hP hD hS => ?_)
      have hP : va_P D vwCl ([hO b, cO b (nI n) (nI k)] : List va_W).flatten H := hP
      have hD : va_D A ([hO b, cO b (nI n) (nI k)] : List va_W).flatten := hD
      exact (b2 hbad hc2 hc7).elim
    · -- throws
      exact xc_v (CL := [hO b, cO b (nI n) (nI k)]) (vx_runV (As := [.int y]) (rest := []) ⟨hx, hb, hml, hown, hts⟩ (c_X8_needState_bad l D cY H.size b n k y hlT (by omega) (by omega) (by omega) (by omega) hc7) (cwV 1 hts gX8_weight_X8_needState rfl rfl rfl (by decide +kernel) ⟨Nat.le_of_ble_eq_true rfl, Nat.le_of_ble_eq_true rfl⟩) (b_preXV hVK hP hD hS hA hX [0, 1] rfl rfl 0 rfl rfl) rfl rfl hl.1 rfl (lv_room (Nat.le_of_ble_eq_true rfl)) dX8_weight_7 ⟨by decide, by decide⟩) hP hD hS hA [0, 1] rfl rfl rfl hnx hlocks () rfl (by decide) (by decide)
  · -- throws
    exact xc_v (CL := [hO b, cO b (nI n) (nI k)]) (vx_runV (As := [.int x]) (rest := []) ⟨hx, hb, hml, hown, hts⟩ (c_X8_needState_bad l D cY s.heap.size b n k x hlT (by omega) (by omega) (by omega) (by omega) hc2) (cwV 1 hts gX8_weight_X8_needState rfl rfl rfl (by decide +kernel) ⟨Nat.le_of_ble_eq_true rfl, Nat.le_of_ble_eq_true rfl⟩) (b_preXV hVK hP hD hS hA hX [0, 1] rfl rfl 0 rfl rfl) rfl rfl hl.1 rfl (lv_room (Nat.le_of_ble_eq_true rfl)) dX8_weight_2 ⟨by decide, by decide⟩) hP hD hS hA [0, 1] rfl rfl rfl hnx hlocks () rfl (by decide) (by decide)

set_option maxHeartbeats 4000000 in
set_option maxRecDepth 100000 in
theorem c_X8_words_bad (l : Launch) (D : va_G) (cY : Nat → ClassId) (sz : Nat) (b : Nat → Nat) (n : Nat) (k : Nat) (x : Int32) (hlT : l.stackTraces = false) (hn1 : 1 ≤ n) (hn6 : n ≤ 6) (hk1 : 1 ≤ k) (hk12 : k ≤ 12) (hbad : inR x (nI 0) (nI 12) = false) : vx_Met l yX8_words wsX8_words ({ frames := 12, cells := 1, slots := 6, locals := 320 }) (cPX D cY [.ref (b 0), .int x] [hO b, cO b (nI n) (nI k)] sz) (qL (S := Unit) D cY (fun r uu => False) (fun uu => [hO b, cO b (nI n) (nI k)]) (va_A ([hO b, cO b (nI n) (nI k)] : List va_W).flatten sz)) (qX (S := Unit) D cY "java/lang/IllegalArgumentException" (fun uu => [hO b, cO b (nI n) (nI k)]) (va_A ([hO b, cO b (nI n) (nI k)] : List va_W).flatten sz)) 1 6 (va_A ([hO b, cO b (nI n) (nI k)] : List va_W).flatten sz) := by
  refine mtX (Qc := fun A => qL (S := Unit) D cY (fun r uu => False) (fun uu => [hO b, cO b (nI n) (nI k)]) A) (XC := fun A => qX (S := Unit) D cY "java/lang/IllegalArgumentException" (fun uu => [hO b, cO b (nI n) (nI k)]) A) (cc := cX8_words) (maxL := 2) (ret := (some .long)) (by decide) rfl (Nat.le_of_ble_eq_true rfl) ?_
  intro p e s m below meth c A ls hx hb hr hml hts hown hlocks hnm hsz hP hK hVK hD hS hA hX hnx hl
  have hown : s.vm.findClass RX8 = some m.cls := hown
  have hl : lv_has ls 2 [(0, .ref (b 0)), (1, .int x)] := hl
  have hP : va_P D vwCl ([hO b, cO b (nI n) (nI k)] : List va_W).flatten s.heap := hP
  have hD : va_D A ([hO b, cO b (nI n) (nI k)] : List va_W).flatten := hD
  refine lv_iload_n hx hb dX8_words_0 rfl (lv_at hl 1 rfl) ?_
  refine lv_iconst (v := nI 0) hx hb dX8_words_1 (by decide) ?_
  refine lv_bipush (v := nI 12) hx hb dX8_words_2 (by decide) ?_
  exact xc_v (CL := []) (vx_runS (As := [.int x, .int (nI 0), .int (nI 12)]) (rest := []) ⟨hx, hb, hml, hown, hts⟩ (c_X8_needRange_bad l D cY s.heap.size x (nI 0) (nI 12) hlT hbad) (va_cwS 3 hts gX8_words_X8_needRange rfl rfl rfl (by decide +kernel) ⟨Nat.le_of_ble_eq_true rfl, Nat.le_of_ble_eq_true rfl⟩) (b_preXS hVK hP hD hS hA hX [] rfl rfl) rfl rfl hl.1 rfl (lv_room (Nat.le_of_ble_eq_true rfl)) dX8_words_4 ⟨by decide, by decide⟩) hP hD hS hA [] rfl rfl rfl hnx hlocks () rfl (by decide) (by decide)

set_option maxHeartbeats 4000000 in
set_option maxRecDepth 100000 in
theorem c_X8_law_b1 (l : Launch) (D : va_G) (cY : Nat → ClassId) (sz : Nat) (b : Nat → Nat) (n : Nat) (k : Nat) (x : Int32) (y : Int32) (z : Int32) (hlT : l.stackTraces = false) (hn1 : 1 ≤ n) (hn6 : n ≤ 6) (hk1 : 1 ≤ k) (hk12 : k ≤ 12) (hbad : (inR x (nI 0) (nI (n - 1)) && inR z (nI 0) (nI (n - 1))) = false) : vx_Met l yX8_law wsX8_law ({ frames := 12, cells := 1, slots := 6, locals := 320 }) (cPX D cY [.ref (b 0), .int x, .int y, .int z] [hO b, cO b (nI n) (nI k)] sz) (qL (S := Unit) D cY (fun r uu => False) (fun uu => [hO b, cO b (nI n) (nI k)]) (va_A ([hO b, cO b (nI n) (nI k)] : List va_W).flatten sz)) (qX (S := Unit) D cY "java/lang/IndexOutOfBoundsException" (fun uu => [hO b, cO b (nI n) (nI k)]) (va_A ([hO b, cO b (nI n) (nI k)] : List va_W).flatten sz)) 1 6 (va_A ([hO b, cO b (nI n) (nI k)] : List va_W).flatten sz) := by
  refine mtX (Qc := fun A => qL (S := Unit) D cY (fun r uu => False) (fun uu => [hO b, cO b (nI n) (nI k)]) A) (XC := fun A => qX (S := Unit) D cY "java/lang/IndexOutOfBoundsException" (fun uu => [hO b, cO b (nI n) (nI k)]) A) (cc := cX8_law) (maxL := 4) (ret := (some .long)) (by decide) rfl (Nat.le_of_ble_eq_true rfl) ?_
  intro p e s m below meth c A ls hx hb hr hml hts hown hlocks hnm hsz hP hK hVK hD hS hA hX hnx hl
  have hown : s.vm.findClass RX8 = some m.cls := hown
  have hl : lv_has ls 4 [(0, .ref (b 0)), (1, .int x), (2, .int y), (3, .int z)] := hl
  have hP : va_P D vwCl ([hO b, cO b (nI n) (nI k)] : List va_W).flatten s.heap := hP
  have hD : va_D A ([hO b, cO b (nI n) (nI k)] : List va_W).flatten := hD
  refine lv_aload_n hx hb dX8_law_0 rfl (lv_at hl 0 rfl) ?_
  refine lv_iload_n hx hb dX8_law_1 rfl (lv_at hl 1 rfl) ?_
  rcases Bool.eq_false_or_eq_true (inR x (nI 0) (nI (n - 1))) with hc2 | hc2
  · -- holds
    refine ca_v (CL := [hO b, cO b (nI n) (nI k)]) (va_runV (As := [.int x]) (rest := []) ⟨hx, hb, hml, hown, hts⟩ (c_X8_needState_okr l D cY s.heap.size b n k x (by omega) (by omega) (by omega) (by omega) hc2) (cwV 1 hts gX8_law_X8_needState rfl rfl rfl (by decide +kernel) ⟨Nat.le_of_ble_eq_true rfl, Nat.le_of_ble_eq_true rfl⟩) (b_preV hVK hP hD [0, 1] rfl rfl 0 rfl rfl) rfl rfl hl.1 rfl (lv_room (Nat.le_of_ble_eq_true rfl)) dX8_law_2 ⟨Nat.zero_le _, Nat.zero_le _⟩) hP hD hS hA [0, 1] rfl rfl (fun _ => rfl) (fun uu H locs hq hP hD hS => ?_)
    have hP : va_P D vwCl ([hO b, cO b (nI n) (nI k)] : List va_W).flatten H := hP
    have hD : va_D A ([hO b, cO b (nI n) (nI k)] : List va_W).flatten := hD
    refine lv_aload_n hx hb dX8_law_5 rfl (lv_at hl 0 rfl) ?_
    refine lv_iload_n hx hb dX8_law_6 rfl (lv_at hl 3 rfl) ?_
    rcases Bool.eq_false_or_eq_true (inR z (nI 0) (nI (n - 1))) with hc7 | hc7
    · -- holds
      refine ca_v (CL := [hO b, cO b (nI n) (nI k)]) (va_runV (As := [.int z]) (rest := []) ⟨hx, hb, hml, hown, hts⟩ (c_X8_needState_okr l D cY H.size b n k z (by omega) (by omega) (by omega) (by omega) hc7) (cwV 1 hts gX8_law_X8_needState rfl rfl rfl (by decide +kernel) ⟨Nat.le_of_ble_eq_true rfl, Nat.le_of_ble_eq_true rfl⟩) (b_preV hVK hP hD [0, 1] rfl rfl 0 rfl rfl) rfl rfl hl.1 rfl (lv_room (Nat.le_of_ble_eq_true rfl)) dX8_law_7 ⟨Nat.zero_le _, Nat.zero_le _⟩) hP hD hS hA [0, 1] rfl rfl (fun _ => rfl) (fun uu H locs hq hP hD hS => ?_)
      have hP : va_P D vwCl ([hO b, cO b (nI n) (nI k)] : List va_W).flatten H := hP
      have hD : va_D A ([hO b, cO b (nI n) (nI k)] : List va_W).flatten := hD
      exact (b2 hbad hc2 hc7).elim
    · -- throws
      exact xc_v (CL := [hO b, cO b (nI n) (nI k)]) (vx_runV (As := [.int z]) (rest := []) ⟨hx, hb, hml, hown, hts⟩ (c_X8_needState_bad l D cY H.size b n k z hlT (by omega) (by omega) (by omega) (by omega) hc7) (cwV 1 hts gX8_law_X8_needState rfl rfl rfl (by decide +kernel) ⟨Nat.le_of_ble_eq_true rfl, Nat.le_of_ble_eq_true rfl⟩) (b_preXV hVK hP hD hS hA hX [0, 1] rfl rfl 0 rfl rfl) rfl rfl hl.1 rfl (lv_room (Nat.le_of_ble_eq_true rfl)) dX8_law_7 ⟨by decide, by decide⟩) hP hD hS hA [0, 1] rfl rfl rfl hnx hlocks () rfl (by decide) (by decide)
  · -- throws
    exact xc_v (CL := [hO b, cO b (nI n) (nI k)]) (vx_runV (As := [.int x]) (rest := []) ⟨hx, hb, hml, hown, hts⟩ (c_X8_needState_bad l D cY s.heap.size b n k x hlT (by omega) (by omega) (by omega) (by omega) hc2) (cwV 1 hts gX8_law_X8_needState rfl rfl rfl (by decide +kernel) ⟨Nat.le_of_ble_eq_true rfl, Nat.le_of_ble_eq_true rfl⟩) (b_preXV hVK hP hD hS hA hX [0, 1] rfl rfl 0 rfl rfl) rfl rfl hl.1 rfl (lv_room (Nat.le_of_ble_eq_true rfl)) dX8_law_2 ⟨by decide, by decide⟩) hP hD hS hA [0, 1] rfl rfl rfl hnx hlocks () rfl (by decide) (by decide)

set_option maxHeartbeats 4000000 in
set_option maxRecDepth 100000 in
theorem c_X8_law_b2 (l : Launch) (D : va_G) (cY : Nat → ClassId) (sz : Nat) (b : Nat → Nat) (n : Nat) (k : Nat) (x : Int32) (y : Int32) (z : Int32) (hlT : l.stackTraces = false) (hn1 : 1 ≤ n) (hn6 : n ≤ 6) (hk1 : 1 ≤ k) (hk12 : k ≤ 12) (hAa : (inR x (nI 0) (nI (n - 1)) && inR z (nI 0) (nI (n - 1))) = true) (hbad : inR y (nI 0) (nI 12) = false) : vx_Met l yX8_law wsX8_law ({ frames := 12, cells := 1, slots := 6, locals := 320 }) (cPX D cY [.ref (b 0), .int x, .int y, .int z] [hO b, cO b (nI n) (nI k)] sz) (qL (S := Unit) D cY (fun r uu => False) (fun uu => [hO b, cO b (nI n) (nI k)]) (va_A ([hO b, cO b (nI n) (nI k)] : List va_W).flatten sz)) (qX (S := Unit) D cY "java/lang/IllegalArgumentException" (fun uu => [hO b, cO b (nI n) (nI k)]) (va_A ([hO b, cO b (nI n) (nI k)] : List va_W).flatten sz)) 1 6 (va_A ([hO b, cO b (nI n) (nI k)] : List va_W).flatten sz) := by
  refine mtX (Qc := fun A => qL (S := Unit) D cY (fun r uu => False) (fun uu => [hO b, cO b (nI n) (nI k)]) A) (XC := fun A => qX (S := Unit) D cY "java/lang/IllegalArgumentException" (fun uu => [hO b, cO b (nI n) (nI k)]) A) (cc := cX8_law) (maxL := 4) (ret := (some .long)) (by decide) rfl (Nat.le_of_ble_eq_true rfl) ?_
  intro p e s m below meth c A ls hx hb hr hml hts hown hlocks hnm hsz hP hK hVK hD hS hA hX hnx hl
  have hown : s.vm.findClass RX8 = some m.cls := hown
  have hl : lv_has ls 4 [(0, .ref (b 0)), (1, .int x), (2, .int y), (3, .int z)] := hl
  have hP : va_P D vwCl ([hO b, cO b (nI n) (nI k)] : List va_W).flatten s.heap := hP
  have hD : va_D A ([hO b, cO b (nI n) (nI k)] : List va_W).flatten := hD
  refine lv_aload_n hx hb dX8_law_0 rfl (lv_at hl 0 rfl) ?_
  refine lv_iload_n hx hb dX8_law_1 rfl (lv_at hl 1 rfl) ?_
  refine ca_v (CL := [hO b, cO b (nI n) (nI k)]) (va_runV (As := [.int x]) (rest := []) ⟨hx, hb, hml, hown, hts⟩ (c_X8_needState_okr l D cY s.heap.size b n k x (by omega) (by omega) (by omega) (by omega) (a2_1 hAa)) (cwV 1 hts gX8_law_X8_needState rfl rfl rfl (by decide +kernel) ⟨Nat.le_of_ble_eq_true rfl, Nat.le_of_ble_eq_true rfl⟩) (b_preV hVK hP hD [0, 1] rfl rfl 0 rfl rfl) rfl rfl hl.1 rfl (lv_room (Nat.le_of_ble_eq_true rfl)) dX8_law_2 ⟨Nat.zero_le _, Nat.zero_le _⟩) hP hD hS hA [0, 1] rfl rfl (fun _ => rfl) (fun uu H locs hq hP hD hS => ?_)
  have hP : va_P D vwCl ([hO b, cO b (nI n) (nI k)] : List va_W).flatten H := hP
  have hD : va_D A ([hO b, cO b (nI n) (nI k)] : List va_W).flatten := hD
  refine lv_aload_n hx hb dX8_law_5 rfl (lv_at hl 0 rfl) ?_
  refine lv_iload_n hx hb dX8_law_6 rfl (lv_at hl 3 rfl) ?_
  refine ca_v (CL := [hO b, cO b (nI n) (nI k)]) (va_runV (As := [.int z]) (rest := []) ⟨hx, hb, hml, hown, hts⟩ (c_X8_needState_okr l D cY H.size b n k z (by omega) (by omega) (by omega) (by omega) (a2_2 hAa)) (cwV 1 hts gX8_law_X8_needState rfl rfl rfl (by decide +kernel) ⟨Nat.le_of_ble_eq_true rfl, Nat.le_of_ble_eq_true rfl⟩) (b_preV hVK hP hD [0, 1] rfl rfl 0 rfl rfl) rfl rfl hl.1 rfl (lv_room (Nat.le_of_ble_eq_true rfl)) dX8_law_7 ⟨Nat.zero_le _, Nat.zero_le _⟩) hP hD hS hA [0, 1] rfl rfl (fun _ => rfl) (fun uu H locs hq hP hD hS => ?_)
  have hP : va_P D vwCl ([hO b, cO b (nI n) (nI k)] : List va_W).flatten H := hP
  have hD : va_D A ([hO b, cO b (nI n) (nI k)] : List va_W).flatten := hD
  refine lv_iload_n hx hb dX8_law_10 rfl (lv_at hl 2 rfl) ?_
  refine lv_iconst (v := nI 0) hx hb dX8_law_11 (by decide) ?_
  refine lv_bipush (v := nI 12) hx hb dX8_law_12 (by decide) ?_
  exact xc_v (CL := []) (vx_runS (As := [.int y, .int (nI 0), .int (nI 12)]) (rest := []) ⟨hx, hb, hml, hown, hts⟩ (c_X8_needRange_bad l D cY H.size y (nI 0) (nI 12) hlT hbad) (va_cwS 3 hts gX8_law_X8_needRange rfl rfl rfl (by decide +kernel) ⟨Nat.le_of_ble_eq_true rfl, Nat.le_of_ble_eq_true rfl⟩) (b_preXS hVK hP hD hS hA hX [] rfl rfl) rfl rfl hl.1 rfl (lv_room (Nat.le_of_ble_eq_true rfl)) dX8_law_14 ⟨by decide, by decide⟩) hP hD hS hA [] rfl rfl rfl hnx hlocks () rfl (by decide) (by decide)

set_option maxHeartbeats 4000000 in
set_option maxRecDepth 100000 in
theorem c_X8_lawAnew_b1 (l : Launch) (D : va_G) (cY : Nat → ClassId) (sz : Nat) (b : Nat → Nat) (n : Nat) (k : Nat) (x : Int32) (y : Int32) (z : Int32) (hlT : l.stackTraces = false) (hn1 : 1 ≤ n) (hn6 : n ≤ 6) (hk1 : 1 ≤ k) (hk12 : k ≤ 12) (hbad : (inR x (nI 0) (nI (n - 1)) && inR z (nI 0) (nI (n - 1))) = false) : vx_Met l yX8_lawAnew wsX8_lawAnew ({ frames := 12, cells := 1, slots := 6, locals := 320 }) (cPX D cY [.ref (b 0), .int x, .int y, .int z] [hO b, cO b (nI n) (nI k)] sz) (qL (S := Unit) D cY (fun r uu => False) (fun uu => [hO b, cO b (nI n) (nI k)]) (va_A ([hO b, cO b (nI n) (nI k)] : List va_W).flatten sz)) (qX (S := Unit) D cY "java/lang/IndexOutOfBoundsException" (fun uu => [hO b, cO b (nI n) (nI k)]) (va_A ([hO b, cO b (nI n) (nI k)] : List va_W).flatten sz)) 1 6 (va_A ([hO b, cO b (nI n) (nI k)] : List va_W).flatten sz) := by
  refine mtX (Qc := fun A => qL (S := Unit) D cY (fun r uu => False) (fun uu => [hO b, cO b (nI n) (nI k)]) A) (XC := fun A => qX (S := Unit) D cY "java/lang/IndexOutOfBoundsException" (fun uu => [hO b, cO b (nI n) (nI k)]) A) (cc := cX8_lawAnew) (maxL := 4) (ret := (some .long)) (by decide) rfl (Nat.le_of_ble_eq_true rfl) ?_
  intro p e s m below meth c A ls hx hb hr hml hts hown hlocks hnm hsz hP hK hVK hD hS hA hX hnx hl
  have hown : s.vm.findClass RX8 = some m.cls := hown
  have hl : lv_has ls 4 [(0, .ref (b 0)), (1, .int x), (2, .int y), (3, .int z)] := hl
  have hP : va_P D vwCl ([hO b, cO b (nI n) (nI k)] : List va_W).flatten s.heap := hP
  have hD : va_D A ([hO b, cO b (nI n) (nI k)] : List va_W).flatten := hD
  refine lv_aload_n hx hb dX8_lawAnew_0 rfl (lv_at hl 0 rfl) ?_
  refine lv_iload_n hx hb dX8_lawAnew_1 rfl (lv_at hl 1 rfl) ?_
  rcases Bool.eq_false_or_eq_true (inR x (nI 0) (nI (n - 1))) with hc2 | hc2
  · -- holds
    refine ca_v (CL := [hO b, cO b (nI n) (nI k)]) (va_runV (As := [.int x]) (rest := []) ⟨hx, hb, hml, hown, hts⟩ (c_X8_needState_okr l D cY s.heap.size b n k x (by omega) (by omega) (by omega) (by omega) hc2) (cwV 1 hts gX8_lawAnew_X8_needState rfl rfl rfl (by decide +kernel) ⟨Nat.le_of_ble_eq_true rfl, Nat.le_of_ble_eq_true rfl⟩) (b_preV hVK hP hD [0, 1] rfl rfl 0 rfl rfl) rfl rfl hl.1 rfl (lv_room (Nat.le_of_ble_eq_true rfl)) dX8_lawAnew_2 ⟨Nat.zero_le _, Nat.zero_le _⟩) hP hD hS hA [0, 1] rfl rfl (fun _ => rfl) (fun uu H locs hq hP hD hS => ?_)
    have hP : va_P D vwCl ([hO b, cO b (nI n) (nI k)] : List va_W).flatten H := hP
    have hD : va_D A ([hO b, cO b (nI n) (nI k)] : List va_W).flatten := hD
    refine lv_aload_n hx hb dX8_lawAnew_5 rfl (lv_at hl 0 rfl) ?_
    refine lv_iload_n hx hb dX8_lawAnew_6 rfl (lv_at hl 3 rfl) ?_
    rcases Bool.eq_false_or_eq_true (inR z (nI 0) (nI (n - 1))) with hc7 | hc7
    · -- holds
      refine ca_v (CL := [hO b, cO b (nI n) (nI k)]) (va_runV (As := [.int z]) (rest := []) ⟨hx, hb, hml, hown, hts⟩ (c_X8_needState_okr l D cY H.size b n k z (by omega) (by omega) (by omega) (by omega) hc7) (cwV 1 hts gX8_lawAnew_X8_needState rfl rfl rfl (by decide +kernel) ⟨Nat.le_of_ble_eq_true rfl, Nat.le_of_ble_eq_true rfl⟩) (b_preV hVK hP hD [0, 1] rfl rfl 0 rfl rfl) rfl rfl hl.1 rfl (lv_room (Nat.le_of_ble_eq_true rfl)) dX8_lawAnew_7 ⟨Nat.zero_le _, Nat.zero_le _⟩) hP hD hS hA [0, 1] rfl rfl (fun _ => rfl) (fun uu H locs hq hP hD hS => ?_)
      have hP : va_P D vwCl ([hO b, cO b (nI n) (nI k)] : List va_W).flatten H := hP
      have hD : va_D A ([hO b, cO b (nI n) (nI k)] : List va_W).flatten := hD
      exact (b2 hbad hc2 hc7).elim
    · -- throws
      exact xc_v (CL := [hO b, cO b (nI n) (nI k)]) (vx_runV (As := [.int z]) (rest := []) ⟨hx, hb, hml, hown, hts⟩ (c_X8_needState_bad l D cY H.size b n k z hlT (by omega) (by omega) (by omega) (by omega) hc7) (cwV 1 hts gX8_lawAnew_X8_needState rfl rfl rfl (by decide +kernel) ⟨Nat.le_of_ble_eq_true rfl, Nat.le_of_ble_eq_true rfl⟩) (b_preXV hVK hP hD hS hA hX [0, 1] rfl rfl 0 rfl rfl) rfl rfl hl.1 rfl (lv_room (Nat.le_of_ble_eq_true rfl)) dX8_lawAnew_7 ⟨by decide, by decide⟩) hP hD hS hA [0, 1] rfl rfl rfl hnx hlocks () rfl (by decide) (by decide)
  · -- throws
    exact xc_v (CL := [hO b, cO b (nI n) (nI k)]) (vx_runV (As := [.int x]) (rest := []) ⟨hx, hb, hml, hown, hts⟩ (c_X8_needState_bad l D cY s.heap.size b n k x hlT (by omega) (by omega) (by omega) (by omega) hc2) (cwV 1 hts gX8_lawAnew_X8_needState rfl rfl rfl (by decide +kernel) ⟨Nat.le_of_ble_eq_true rfl, Nat.le_of_ble_eq_true rfl⟩) (b_preXV hVK hP hD hS hA hX [0, 1] rfl rfl 0 rfl rfl) rfl rfl hl.1 rfl (lv_room (Nat.le_of_ble_eq_true rfl)) dX8_lawAnew_2 ⟨by decide, by decide⟩) hP hD hS hA [0, 1] rfl rfl rfl hnx hlocks () rfl (by decide) (by decide)

set_option maxHeartbeats 4000000 in
set_option maxRecDepth 100000 in
theorem c_X8_lawAnew_b2 (l : Launch) (D : va_G) (cY : Nat → ClassId) (sz : Nat) (b : Nat → Nat) (n : Nat) (k : Nat) (x : Int32) (y : Int32) (z : Int32) (hlT : l.stackTraces = false) (hn1 : 1 ≤ n) (hn6 : n ≤ 6) (hk1 : 1 ≤ k) (hk12 : k ≤ 12) (hAa : (inR x (nI 0) (nI (n - 1)) && inR z (nI 0) (nI (n - 1))) = true) (hbad : inR y (nI 0) (nI 4) = false) : vx_Met l yX8_lawAnew wsX8_lawAnew ({ frames := 12, cells := 1, slots := 6, locals := 320 }) (cPX D cY [.ref (b 0), .int x, .int y, .int z] [hO b, cO b (nI n) (nI k)] sz) (qL (S := Unit) D cY (fun r uu => False) (fun uu => [hO b, cO b (nI n) (nI k)]) (va_A ([hO b, cO b (nI n) (nI k)] : List va_W).flatten sz)) (qX (S := Unit) D cY "java/lang/IllegalArgumentException" (fun uu => [hO b, cO b (nI n) (nI k)]) (va_A ([hO b, cO b (nI n) (nI k)] : List va_W).flatten sz)) 1 6 (va_A ([hO b, cO b (nI n) (nI k)] : List va_W).flatten sz) := by
  refine mtX (Qc := fun A => qL (S := Unit) D cY (fun r uu => False) (fun uu => [hO b, cO b (nI n) (nI k)]) A) (XC := fun A => qX (S := Unit) D cY "java/lang/IllegalArgumentException" (fun uu => [hO b, cO b (nI n) (nI k)]) A) (cc := cX8_lawAnew) (maxL := 4) (ret := (some .long)) (by decide) rfl (Nat.le_of_ble_eq_true rfl) ?_
  intro p e s m below meth c A ls hx hb hr hml hts hown hlocks hnm hsz hP hK hVK hD hS hA hX hnx hl
  have hown : s.vm.findClass RX8 = some m.cls := hown
  have hl : lv_has ls 4 [(0, .ref (b 0)), (1, .int x), (2, .int y), (3, .int z)] := hl
  have hP : va_P D vwCl ([hO b, cO b (nI n) (nI k)] : List va_W).flatten s.heap := hP
  have hD : va_D A ([hO b, cO b (nI n) (nI k)] : List va_W).flatten := hD
  refine lv_aload_n hx hb dX8_lawAnew_0 rfl (lv_at hl 0 rfl) ?_
  refine lv_iload_n hx hb dX8_lawAnew_1 rfl (lv_at hl 1 rfl) ?_
  refine ca_v (CL := [hO b, cO b (nI n) (nI k)]) (va_runV (As := [.int x]) (rest := []) ⟨hx, hb, hml, hown, hts⟩ (c_X8_needState_okr l D cY s.heap.size b n k x (by omega) (by omega) (by omega) (by omega) (a2_1 hAa)) (cwV 1 hts gX8_lawAnew_X8_needState rfl rfl rfl (by decide +kernel) ⟨Nat.le_of_ble_eq_true rfl, Nat.le_of_ble_eq_true rfl⟩) (b_preV hVK hP hD [0, 1] rfl rfl 0 rfl rfl) rfl rfl hl.1 rfl (lv_room (Nat.le_of_ble_eq_true rfl)) dX8_lawAnew_2 ⟨Nat.zero_le _, Nat.zero_le _⟩) hP hD hS hA [0, 1] rfl rfl (fun _ => rfl) (fun uu H locs hq hP hD hS => ?_)
  have hP : va_P D vwCl ([hO b, cO b (nI n) (nI k)] : List va_W).flatten H := hP
  have hD : va_D A ([hO b, cO b (nI n) (nI k)] : List va_W).flatten := hD
  refine lv_aload_n hx hb dX8_lawAnew_5 rfl (lv_at hl 0 rfl) ?_
  refine lv_iload_n hx hb dX8_lawAnew_6 rfl (lv_at hl 3 rfl) ?_
  refine ca_v (CL := [hO b, cO b (nI n) (nI k)]) (va_runV (As := [.int z]) (rest := []) ⟨hx, hb, hml, hown, hts⟩ (c_X8_needState_okr l D cY H.size b n k z (by omega) (by omega) (by omega) (by omega) (a2_2 hAa)) (cwV 1 hts gX8_lawAnew_X8_needState rfl rfl rfl (by decide +kernel) ⟨Nat.le_of_ble_eq_true rfl, Nat.le_of_ble_eq_true rfl⟩) (b_preV hVK hP hD [0, 1] rfl rfl 0 rfl rfl) rfl rfl hl.1 rfl (lv_room (Nat.le_of_ble_eq_true rfl)) dX8_lawAnew_7 ⟨Nat.zero_le _, Nat.zero_le _⟩) hP hD hS hA [0, 1] rfl rfl (fun _ => rfl) (fun uu H locs hq hP hD hS => ?_)
  have hP : va_P D vwCl ([hO b, cO b (nI n) (nI k)] : List va_W).flatten H := hP
  have hD : va_D A ([hO b, cO b (nI n) (nI k)] : List va_W).flatten := hD
  refine lv_iload_n hx hb dX8_lawAnew_10 rfl (lv_at hl 2 rfl) ?_
  refine lv_iconst (v := nI 0) hx hb dX8_lawAnew_11 (by decide) ?_
  refine lv_iconst (v := nI 4) hx hb dX8_lawAnew_12 (by decide) ?_
  exact xc_v (CL := []) (vx_runS (As := [.int y, .int (nI 0), .int (nI 4)]) (rest := []) ⟨hx, hb, hml, hown, hts⟩ (c_X8_needRange_bad l D cY H.size y (nI 0) (nI 4) hlT hbad) (va_cwS 3 hts gX8_lawAnew_X8_needRange rfl rfl rfl (by decide +kernel) ⟨Nat.le_of_ble_eq_true rfl, Nat.le_of_ble_eq_true rfl⟩) (b_preXS hVK hP hD hS hA hX [] rfl rfl) rfl rfl hl.1 rfl (lv_room (Nat.le_of_ble_eq_true rfl)) dX8_lawAnew_13 ⟨by decide, by decide⟩) hP hD hS hA [] rfl rfl rfl hnx hlocks () rfl (by decide) (by decide)

set_option maxHeartbeats 4000000 in
set_option maxRecDepth 100000 in
theorem c_X8_distance_b1 (l : Launch) (D : va_G) (cY : Nat → ClassId) (sz : Nat) (b : Nat → Nat) (n : Nat) (k : Nat) (x : Int32) (z : Int32) (y : Int32) (hlT : l.stackTraces = false) (hn1 : 1 ≤ n) (hn6 : n ≤ 6) (hk1 : 1 ≤ k) (hk12 : k ≤ 12) (hbad : (inR x (nI 0) (nI (n - 1)) && inR z (nI 0) (nI (n - 1))) = false) : vx_Met l yX8_distance wsX8_distance ({ frames := 12, cells := 1, slots := 6, locals := 320 }) (cPX D cY [.ref (b 0), .int x, .int z, .int y] [hO b, cO b (nI n) (nI k)] sz) (qL (S := Unit) D cY (fun r uu => False) (fun uu => [hO b, cO b (nI n) (nI k)]) (va_A ([hO b, cO b (nI n) (nI k)] : List va_W).flatten sz)) (qX (S := Unit) D cY "java/lang/IndexOutOfBoundsException" (fun uu => [hO b, cO b (nI n) (nI k)]) (va_A ([hO b, cO b (nI n) (nI k)] : List va_W).flatten sz)) 1 6 (va_A ([hO b, cO b (nI n) (nI k)] : List va_W).flatten sz) := by
  refine mtX (Qc := fun A => qL (S := Unit) D cY (fun r uu => False) (fun uu => [hO b, cO b (nI n) (nI k)]) A) (XC := fun A => qX (S := Unit) D cY "java/lang/IndexOutOfBoundsException" (fun uu => [hO b, cO b (nI n) (nI k)]) A) (cc := cX8_distance) (maxL := 4) (ret := (some .long)) (by decide) rfl (Nat.le_of_ble_eq_true rfl) ?_
  intro p e s m below meth c A ls hx hb hr hml hts hown hlocks hnm hsz hP hK hVK hD hS hA hX hnx hl
  have hown : s.vm.findClass RX8 = some m.cls := hown
  have hl : lv_has ls 4 [(0, .ref (b 0)), (1, .int x), (2, .int z), (3, .int y)] := hl
  have hP : va_P D vwCl ([hO b, cO b (nI n) (nI k)] : List va_W).flatten s.heap := hP
  have hD : va_D A ([hO b, cO b (nI n) (nI k)] : List va_W).flatten := hD
  refine lv_aload_n hx hb dX8_distance_0 rfl (lv_at hl 0 rfl) ?_
  refine lv_iload_n hx hb dX8_distance_1 rfl (lv_at hl 1 rfl) ?_
  rcases Bool.eq_false_or_eq_true (inR x (nI 0) (nI (n - 1))) with hc2 | hc2
  · -- holds
    refine ca_v (CL := [hO b, cO b (nI n) (nI k)]) (va_runV (As := [.int x]) (rest := []) ⟨hx, hb, hml, hown, hts⟩ (c_X8_needState_okr l D cY s.heap.size b n k x (by omega) (by omega) (by omega) (by omega) hc2) (cwV 1 hts gX8_distance_X8_needState rfl rfl rfl (by decide +kernel) ⟨Nat.le_of_ble_eq_true rfl, Nat.le_of_ble_eq_true rfl⟩) (b_preV hVK hP hD [0, 1] rfl rfl 0 rfl rfl) rfl rfl hl.1 rfl (lv_room (Nat.le_of_ble_eq_true rfl)) dX8_distance_2 ⟨Nat.zero_le _, Nat.zero_le _⟩) hP hD hS hA [0, 1] rfl rfl (fun _ => rfl) (fun uu H locs hq hP hD hS => ?_)
    have hP : va_P D vwCl ([hO b, cO b (nI n) (nI k)] : List va_W).flatten H := hP
    have hD : va_D A ([hO b, cO b (nI n) (nI k)] : List va_W).flatten := hD
    refine lv_aload_n hx hb dX8_distance_5 rfl (lv_at hl 0 rfl) ?_
    refine lv_iload_n hx hb dX8_distance_6 rfl (lv_at hl 2 rfl) ?_
    rcases Bool.eq_false_or_eq_true (inR z (nI 0) (nI (n - 1))) with hc7 | hc7
    · -- holds
      refine ca_v (CL := [hO b, cO b (nI n) (nI k)]) (va_runV (As := [.int z]) (rest := []) ⟨hx, hb, hml, hown, hts⟩ (c_X8_needState_okr l D cY H.size b n k z (by omega) (by omega) (by omega) (by omega) hc7) (cwV 1 hts gX8_distance_X8_needState rfl rfl rfl (by decide +kernel) ⟨Nat.le_of_ble_eq_true rfl, Nat.le_of_ble_eq_true rfl⟩) (b_preV hVK hP hD [0, 1] rfl rfl 0 rfl rfl) rfl rfl hl.1 rfl (lv_room (Nat.le_of_ble_eq_true rfl)) dX8_distance_7 ⟨Nat.zero_le _, Nat.zero_le _⟩) hP hD hS hA [0, 1] rfl rfl (fun _ => rfl) (fun uu H locs hq hP hD hS => ?_)
      have hP : va_P D vwCl ([hO b, cO b (nI n) (nI k)] : List va_W).flatten H := hP
      have hD : va_D A ([hO b, cO b (nI n) (nI k)] : List va_W).flatten := hD
      exact (b2 hbad hc2 hc7).elim
    · -- throws
      exact xc_v (CL := [hO b, cO b (nI n) (nI k)]) (vx_runV (As := [.int z]) (rest := []) ⟨hx, hb, hml, hown, hts⟩ (c_X8_needState_bad l D cY H.size b n k z hlT (by omega) (by omega) (by omega) (by omega) hc7) (cwV 1 hts gX8_distance_X8_needState rfl rfl rfl (by decide +kernel) ⟨Nat.le_of_ble_eq_true rfl, Nat.le_of_ble_eq_true rfl⟩) (b_preXV hVK hP hD hS hA hX [0, 1] rfl rfl 0 rfl rfl) rfl rfl hl.1 rfl (lv_room (Nat.le_of_ble_eq_true rfl)) dX8_distance_7 ⟨by decide, by decide⟩) hP hD hS hA [0, 1] rfl rfl rfl hnx hlocks () rfl (by decide) (by decide)
  · -- throws
    exact xc_v (CL := [hO b, cO b (nI n) (nI k)]) (vx_runV (As := [.int x]) (rest := []) ⟨hx, hb, hml, hown, hts⟩ (c_X8_needState_bad l D cY s.heap.size b n k x hlT (by omega) (by omega) (by omega) (by omega) hc2) (cwV 1 hts gX8_distance_X8_needState rfl rfl rfl (by decide +kernel) ⟨Nat.le_of_ble_eq_true rfl, Nat.le_of_ble_eq_true rfl⟩) (b_preXV hVK hP hD hS hA hX [0, 1] rfl rfl 0 rfl rfl) rfl rfl hl.1 rfl (lv_room (Nat.le_of_ble_eq_true rfl)) dX8_distance_2 ⟨by decide, by decide⟩) hP hD hS hA [0, 1] rfl rfl rfl hnx hlocks () rfl (by decide) (by decide)

set_option maxHeartbeats 4000000 in
set_option maxRecDepth 100000 in
theorem c_X8_distance_b2 (l : Launch) (D : va_G) (cY : Nat → ClassId) (sz : Nat) (b : Nat → Nat) (n : Nat) (k : Nat) (x : Int32) (z : Int32) (y : Int32) (hlT : l.stackTraces = false) (hn1 : 1 ≤ n) (hn6 : n ≤ 6) (hk1 : 1 ≤ k) (hk12 : k ≤ 12) (hAa : (inR x (nI 0) (nI (n - 1)) && inR z (nI 0) (nI (n - 1))) = true) (hbad : inR y (nI 0) (nI 12) = false) : vx_Met l yX8_distance wsX8_distance ({ frames := 12, cells := 1, slots := 6, locals := 320 }) (cPX D cY [.ref (b 0), .int x, .int z, .int y] [hO b, cO b (nI n) (nI k)] sz) (qL (S := Unit) D cY (fun r uu => False) (fun uu => [hO b, cO b (nI n) (nI k)]) (va_A ([hO b, cO b (nI n) (nI k)] : List va_W).flatten sz)) (qX (S := Unit) D cY "java/lang/IllegalArgumentException" (fun uu => [hO b, cO b (nI n) (nI k)]) (va_A ([hO b, cO b (nI n) (nI k)] : List va_W).flatten sz)) 1 6 (va_A ([hO b, cO b (nI n) (nI k)] : List va_W).flatten sz) := by
  refine mtX (Qc := fun A => qL (S := Unit) D cY (fun r uu => False) (fun uu => [hO b, cO b (nI n) (nI k)]) A) (XC := fun A => qX (S := Unit) D cY "java/lang/IllegalArgumentException" (fun uu => [hO b, cO b (nI n) (nI k)]) A) (cc := cX8_distance) (maxL := 4) (ret := (some .long)) (by decide) rfl (Nat.le_of_ble_eq_true rfl) ?_
  intro p e s m below meth c A ls hx hb hr hml hts hown hlocks hnm hsz hP hK hVK hD hS hA hX hnx hl
  have hown : s.vm.findClass RX8 = some m.cls := hown
  have hl : lv_has ls 4 [(0, .ref (b 0)), (1, .int x), (2, .int z), (3, .int y)] := hl
  have hP : va_P D vwCl ([hO b, cO b (nI n) (nI k)] : List va_W).flatten s.heap := hP
  have hD : va_D A ([hO b, cO b (nI n) (nI k)] : List va_W).flatten := hD
  refine lv_aload_n hx hb dX8_distance_0 rfl (lv_at hl 0 rfl) ?_
  refine lv_iload_n hx hb dX8_distance_1 rfl (lv_at hl 1 rfl) ?_
  refine ca_v (CL := [hO b, cO b (nI n) (nI k)]) (va_runV (As := [.int x]) (rest := []) ⟨hx, hb, hml, hown, hts⟩ (c_X8_needState_okr l D cY s.heap.size b n k x (by omega) (by omega) (by omega) (by omega) (a2_1 hAa)) (cwV 1 hts gX8_distance_X8_needState rfl rfl rfl (by decide +kernel) ⟨Nat.le_of_ble_eq_true rfl, Nat.le_of_ble_eq_true rfl⟩) (b_preV hVK hP hD [0, 1] rfl rfl 0 rfl rfl) rfl rfl hl.1 rfl (lv_room (Nat.le_of_ble_eq_true rfl)) dX8_distance_2 ⟨Nat.zero_le _, Nat.zero_le _⟩) hP hD hS hA [0, 1] rfl rfl (fun _ => rfl) (fun uu H locs hq hP hD hS => ?_)
  have hP : va_P D vwCl ([hO b, cO b (nI n) (nI k)] : List va_W).flatten H := hP
  have hD : va_D A ([hO b, cO b (nI n) (nI k)] : List va_W).flatten := hD
  refine lv_aload_n hx hb dX8_distance_5 rfl (lv_at hl 0 rfl) ?_
  refine lv_iload_n hx hb dX8_distance_6 rfl (lv_at hl 2 rfl) ?_
  refine ca_v (CL := [hO b, cO b (nI n) (nI k)]) (va_runV (As := [.int z]) (rest := []) ⟨hx, hb, hml, hown, hts⟩ (c_X8_needState_okr l D cY H.size b n k z (by omega) (by omega) (by omega) (by omega) (a2_2 hAa)) (cwV 1 hts gX8_distance_X8_needState rfl rfl rfl (by decide +kernel) ⟨Nat.le_of_ble_eq_true rfl, Nat.le_of_ble_eq_true rfl⟩) (b_preV hVK hP hD [0, 1] rfl rfl 0 rfl rfl) rfl rfl hl.1 rfl (lv_room (Nat.le_of_ble_eq_true rfl)) dX8_distance_7 ⟨Nat.zero_le _, Nat.zero_le _⟩) hP hD hS hA [0, 1] rfl rfl (fun _ => rfl) (fun uu H locs hq hP hD hS => ?_)
  have hP : va_P D vwCl ([hO b, cO b (nI n) (nI k)] : List va_W).flatten H := hP
  have hD : va_D A ([hO b, cO b (nI n) (nI k)] : List va_W).flatten := hD
  refine lv_iload_n hx hb dX8_distance_10 rfl (lv_at hl 3 rfl) ?_
  refine lv_iconst (v := nI 0) hx hb dX8_distance_11 (by decide) ?_
  refine lv_bipush (v := nI 12) hx hb dX8_distance_12 (by decide) ?_
  exact xc_v (CL := []) (vx_runS (As := [.int y, .int (nI 0), .int (nI 12)]) (rest := []) ⟨hx, hb, hml, hown, hts⟩ (c_X8_needRange_bad l D cY H.size y (nI 0) (nI 12) hlT hbad) (va_cwS 3 hts gX8_distance_X8_needRange rfl rfl rfl (by decide +kernel) ⟨Nat.le_of_ble_eq_true rfl, Nat.le_of_ble_eq_true rfl⟩) (b_preXS hVK hP hD hS hA hX [] rfl rfl) rfl rfl hl.1 rfl (lv_room (Nat.le_of_ble_eq_true rfl)) dX8_distance_14 ⟨by decide, by decide⟩) hP hD hS hA [] rfl rfl rfl hnx hlocks () rfl (by decide) (by decide)

set_option maxHeartbeats 4000000 in
set_option maxRecDepth 100000 in
theorem c_X8_apart_b1 (l : Launch) (D : va_G) (cY : Nat → ClassId) (sz : Nat) (b : Nat → Nat) (n : Nat) (k : Nat) (x : Int32) (z : Int32) (y : Int32) (hlT : l.stackTraces = false) (hn1 : 1 ≤ n) (hn6 : n ≤ 6) (hk1 : 1 ≤ k) (hk12 : k ≤ 12) (hbad : (inR x (nI 0) (nI (n - 1)) && inR z (nI 0) (nI (n - 1))) = false) : vx_Met l yX8_apart wsX8_apart ({ frames := 12, cells := 1, slots := 6, locals := 320 }) (cPX D cY [.ref (b 0), .int x, .int z, .int y] [hO b, cO b (nI n) (nI k)] sz) (qL (S := Unit) D cY (fun r uu => False) (fun uu => [hO b, cO b (nI n) (nI k)]) (va_A ([hO b, cO b (nI n) (nI k)] : List va_W).flatten sz)) (qX (S := Unit) D cY "java/lang/IndexOutOfBoundsException" (fun uu => [hO b, cO b (nI n) (nI k)]) (va_A ([hO b, cO b (nI n) (nI k)] : List va_W).flatten sz)) 1 6 (va_A ([hO b, cO b (nI n) (nI k)] : List va_W).flatten sz) := by
  refine mtX (Qc := fun A => qL (S := Unit) D cY (fun r uu => False) (fun uu => [hO b, cO b (nI n) (nI k)]) A) (XC := fun A => qX (S := Unit) D cY "java/lang/IndexOutOfBoundsException" (fun uu => [hO b, cO b (nI n) (nI k)]) A) (cc := cX8_apart) (maxL := 4) (ret := (some .long)) (by decide) rfl (Nat.le_of_ble_eq_true rfl) ?_
  intro p e s m below meth c A ls hx hb hr hml hts hown hlocks hnm hsz hP hK hVK hD hS hA hX hnx hl
  have hown : s.vm.findClass RX8 = some m.cls := hown
  have hl : lv_has ls 4 [(0, .ref (b 0)), (1, .int x), (2, .int z), (3, .int y)] := hl
  have hP : va_P D vwCl ([hO b, cO b (nI n) (nI k)] : List va_W).flatten s.heap := hP
  have hD : va_D A ([hO b, cO b (nI n) (nI k)] : List va_W).flatten := hD
  refine lv_aload_n hx hb dX8_apart_0 rfl (lv_at hl 0 rfl) ?_
  refine lv_iload_n hx hb dX8_apart_1 rfl (lv_at hl 1 rfl) ?_
  rcases Bool.eq_false_or_eq_true (inR x (nI 0) (nI (n - 1))) with hc2 | hc2
  · -- holds
    refine ca_v (CL := [hO b, cO b (nI n) (nI k)]) (va_runV (As := [.int x]) (rest := []) ⟨hx, hb, hml, hown, hts⟩ (c_X8_needState_okr l D cY s.heap.size b n k x (by omega) (by omega) (by omega) (by omega) hc2) (cwV 1 hts gX8_apart_X8_needState rfl rfl rfl (by decide +kernel) ⟨Nat.le_of_ble_eq_true rfl, Nat.le_of_ble_eq_true rfl⟩) (b_preV hVK hP hD [0, 1] rfl rfl 0 rfl rfl) rfl rfl hl.1 rfl (lv_room (Nat.le_of_ble_eq_true rfl)) dX8_apart_2 ⟨Nat.zero_le _, Nat.zero_le _⟩) hP hD hS hA [0, 1] rfl rfl (fun _ => rfl) (fun uu H locs hq hP hD hS => ?_)
    have hP : va_P D vwCl ([hO b, cO b (nI n) (nI k)] : List va_W).flatten H := hP
    have hD : va_D A ([hO b, cO b (nI n) (nI k)] : List va_W).flatten := hD
    refine lv_aload_n hx hb dX8_apart_5 rfl (lv_at hl 0 rfl) ?_
    refine lv_iload_n hx hb dX8_apart_6 rfl (lv_at hl 2 rfl) ?_
    rcases Bool.eq_false_or_eq_true (inR z (nI 0) (nI (n - 1))) with hc7 | hc7
    · -- holds
      refine ca_v (CL := [hO b, cO b (nI n) (nI k)]) (va_runV (As := [.int z]) (rest := []) ⟨hx, hb, hml, hown, hts⟩ (c_X8_needState_okr l D cY H.size b n k z (by omega) (by omega) (by omega) (by omega) hc7) (cwV 1 hts gX8_apart_X8_needState rfl rfl rfl (by decide +kernel) ⟨Nat.le_of_ble_eq_true rfl, Nat.le_of_ble_eq_true rfl⟩) (b_preV hVK hP hD [0, 1] rfl rfl 0 rfl rfl) rfl rfl hl.1 rfl (lv_room (Nat.le_of_ble_eq_true rfl)) dX8_apart_7 ⟨Nat.zero_le _, Nat.zero_le _⟩) hP hD hS hA [0, 1] rfl rfl (fun _ => rfl) (fun uu H locs hq hP hD hS => ?_)
      have hP : va_P D vwCl ([hO b, cO b (nI n) (nI k)] : List va_W).flatten H := hP
      have hD : va_D A ([hO b, cO b (nI n) (nI k)] : List va_W).flatten := hD
      exact (b2 hbad hc2 hc7).elim
    · -- throws
      exact xc_v (CL := [hO b, cO b (nI n) (nI k)]) (vx_runV (As := [.int z]) (rest := []) ⟨hx, hb, hml, hown, hts⟩ (c_X8_needState_bad l D cY H.size b n k z hlT (by omega) (by omega) (by omega) (by omega) hc7) (cwV 1 hts gX8_apart_X8_needState rfl rfl rfl (by decide +kernel) ⟨Nat.le_of_ble_eq_true rfl, Nat.le_of_ble_eq_true rfl⟩) (b_preXV hVK hP hD hS hA hX [0, 1] rfl rfl 0 rfl rfl) rfl rfl hl.1 rfl (lv_room (Nat.le_of_ble_eq_true rfl)) dX8_apart_7 ⟨by decide, by decide⟩) hP hD hS hA [0, 1] rfl rfl rfl hnx hlocks () rfl (by decide) (by decide)
  · -- throws
    exact xc_v (CL := [hO b, cO b (nI n) (nI k)]) (vx_runV (As := [.int x]) (rest := []) ⟨hx, hb, hml, hown, hts⟩ (c_X8_needState_bad l D cY s.heap.size b n k x hlT (by omega) (by omega) (by omega) (by omega) hc2) (cwV 1 hts gX8_apart_X8_needState rfl rfl rfl (by decide +kernel) ⟨Nat.le_of_ble_eq_true rfl, Nat.le_of_ble_eq_true rfl⟩) (b_preXV hVK hP hD hS hA hX [0, 1] rfl rfl 0 rfl rfl) rfl rfl hl.1 rfl (lv_room (Nat.le_of_ble_eq_true rfl)) dX8_apart_2 ⟨by decide, by decide⟩) hP hD hS hA [0, 1] rfl rfl rfl hnx hlocks () rfl (by decide) (by decide)

set_option maxHeartbeats 4000000 in
set_option maxRecDepth 100000 in
theorem c_X8_apart_b2 (l : Launch) (D : va_G) (cY : Nat → ClassId) (sz : Nat) (b : Nat → Nat) (n : Nat) (k : Nat) (x : Int32) (z : Int32) (y : Int32) (hlT : l.stackTraces = false) (hn1 : 1 ≤ n) (hn6 : n ≤ 6) (hk1 : 1 ≤ k) (hk12 : k ≤ 12) (hAa : (inR x (nI 0) (nI (n - 1)) && inR z (nI 0) (nI (n - 1))) = true) (hbad : inR y (nI 0) (nI 12) = false) : vx_Met l yX8_apart wsX8_apart ({ frames := 12, cells := 1, slots := 6, locals := 320 }) (cPX D cY [.ref (b 0), .int x, .int z, .int y] [hO b, cO b (nI n) (nI k)] sz) (qL (S := Unit) D cY (fun r uu => False) (fun uu => [hO b, cO b (nI n) (nI k)]) (va_A ([hO b, cO b (nI n) (nI k)] : List va_W).flatten sz)) (qX (S := Unit) D cY "java/lang/IllegalArgumentException" (fun uu => [hO b, cO b (nI n) (nI k)]) (va_A ([hO b, cO b (nI n) (nI k)] : List va_W).flatten sz)) 1 6 (va_A ([hO b, cO b (nI n) (nI k)] : List va_W).flatten sz) := by
  refine mtX (Qc := fun A => qL (S := Unit) D cY (fun r uu => False) (fun uu => [hO b, cO b (nI n) (nI k)]) A) (XC := fun A => qX (S := Unit) D cY "java/lang/IllegalArgumentException" (fun uu => [hO b, cO b (nI n) (nI k)]) A) (cc := cX8_apart) (maxL := 4) (ret := (some .long)) (by decide) rfl (Nat.le_of_ble_eq_true rfl) ?_
  intro p e s m below meth c A ls hx hb hr hml hts hown hlocks hnm hsz hP hK hVK hD hS hA hX hnx hl
  have hown : s.vm.findClass RX8 = some m.cls := hown
  have hl : lv_has ls 4 [(0, .ref (b 0)), (1, .int x), (2, .int z), (3, .int y)] := hl
  have hP : va_P D vwCl ([hO b, cO b (nI n) (nI k)] : List va_W).flatten s.heap := hP
  have hD : va_D A ([hO b, cO b (nI n) (nI k)] : List va_W).flatten := hD
  refine lv_aload_n hx hb dX8_apart_0 rfl (lv_at hl 0 rfl) ?_
  refine lv_iload_n hx hb dX8_apart_1 rfl (lv_at hl 1 rfl) ?_
  refine ca_v (CL := [hO b, cO b (nI n) (nI k)]) (va_runV (As := [.int x]) (rest := []) ⟨hx, hb, hml, hown, hts⟩ (c_X8_needState_okr l D cY s.heap.size b n k x (by omega) (by omega) (by omega) (by omega) (a2_1 hAa)) (cwV 1 hts gX8_apart_X8_needState rfl rfl rfl (by decide +kernel) ⟨Nat.le_of_ble_eq_true rfl, Nat.le_of_ble_eq_true rfl⟩) (b_preV hVK hP hD [0, 1] rfl rfl 0 rfl rfl) rfl rfl hl.1 rfl (lv_room (Nat.le_of_ble_eq_true rfl)) dX8_apart_2 ⟨Nat.zero_le _, Nat.zero_le _⟩) hP hD hS hA [0, 1] rfl rfl (fun _ => rfl) (fun uu H locs hq hP hD hS => ?_)
  have hP : va_P D vwCl ([hO b, cO b (nI n) (nI k)] : List va_W).flatten H := hP
  have hD : va_D A ([hO b, cO b (nI n) (nI k)] : List va_W).flatten := hD
  refine lv_aload_n hx hb dX8_apart_5 rfl (lv_at hl 0 rfl) ?_
  refine lv_iload_n hx hb dX8_apart_6 rfl (lv_at hl 2 rfl) ?_
  refine ca_v (CL := [hO b, cO b (nI n) (nI k)]) (va_runV (As := [.int z]) (rest := []) ⟨hx, hb, hml, hown, hts⟩ (c_X8_needState_okr l D cY H.size b n k z (by omega) (by omega) (by omega) (by omega) (a2_2 hAa)) (cwV 1 hts gX8_apart_X8_needState rfl rfl rfl (by decide +kernel) ⟨Nat.le_of_ble_eq_true rfl, Nat.le_of_ble_eq_true rfl⟩) (b_preV hVK hP hD [0, 1] rfl rfl 0 rfl rfl) rfl rfl hl.1 rfl (lv_room (Nat.le_of_ble_eq_true rfl)) dX8_apart_7 ⟨Nat.zero_le _, Nat.zero_le _⟩) hP hD hS hA [0, 1] rfl rfl (fun _ => rfl) (fun uu H locs hq hP hD hS => ?_)
  have hP : va_P D vwCl ([hO b, cO b (nI n) (nI k)] : List va_W).flatten H := hP
  have hD : va_D A ([hO b, cO b (nI n) (nI k)] : List va_W).flatten := hD
  refine lv_iload_n hx hb dX8_apart_10 rfl (lv_at hl 3 rfl) ?_
  refine lv_iconst (v := nI 0) hx hb dX8_apart_11 (by decide) ?_
  refine lv_bipush (v := nI 12) hx hb dX8_apart_12 (by decide) ?_
  exact xc_v (CL := []) (vx_runS (As := [.int y, .int (nI 0), .int (nI 12)]) (rest := []) ⟨hx, hb, hml, hown, hts⟩ (c_X8_needRange_bad l D cY H.size y (nI 0) (nI 12) hlT hbad) (va_cwS 3 hts gX8_apart_X8_needRange rfl rfl rfl (by decide +kernel) ⟨Nat.le_of_ble_eq_true rfl, Nat.le_of_ble_eq_true rfl⟩) (b_preXS hVK hP hD hS hA hX [] rfl rfl) rfl rfl hl.1 rfl (lv_room (Nat.le_of_ble_eq_true rfl)) dX8_apart_14 ⟨by decide, by decide⟩) hP hD hS hA [] rfl rfl rfl hnx hlocks () rfl (by decide) (by decide)

set_option maxHeartbeats 4000000 in
set_option maxRecDepth 100000 in
theorem c_X8_hits_b1 (l : Launch) (D : va_G) (cY : Nat → ClassId) (sz : Nat) (b : Nat → Nat) (n : Nat) (k : Nat) (x : Int32) (y : Int32) (z : Int32) (hlT : l.stackTraces = false) (hn1 : 1 ≤ n) (hn6 : n ≤ 6) (hk1 : 1 ≤ k) (hk12 : k ≤ 12) (hbad : (inR x (nI 0) (nI (n - 1)) && inR z (nI 0) (nI (n - 1))) = false) : vx_Met l yX8_hits wsX8_hits ({ frames := 12, cells := 1, slots := 6, locals := 320 }) (cPX D cY [.ref (b 0), .int x, .int y, .int z] [hO b, cO b (nI n) (nI k)] sz) (qL (S := Unit) D cY (fun r uu => False) (fun uu => [hO b, cO b (nI n) (nI k)]) (va_A ([hO b, cO b (nI n) (nI k)] : List va_W).flatten sz)) (qX (S := Unit) D cY "java/lang/IndexOutOfBoundsException" (fun uu => [hO b, cO b (nI n) (nI k)]) (va_A ([hO b, cO b (nI n) (nI k)] : List va_W).flatten sz)) 1 6 (va_A ([hO b, cO b (nI n) (nI k)] : List va_W).flatten sz) := by
  refine mtX (Qc := fun A => qL (S := Unit) D cY (fun r uu => False) (fun uu => [hO b, cO b (nI n) (nI k)]) A) (XC := fun A => qX (S := Unit) D cY "java/lang/IndexOutOfBoundsException" (fun uu => [hO b, cO b (nI n) (nI k)]) A) (cc := cX8_hits) (maxL := 4) (ret := (some .long)) (by decide) rfl (Nat.le_of_ble_eq_true rfl) ?_
  intro p e s m below meth c A ls hx hb hr hml hts hown hlocks hnm hsz hP hK hVK hD hS hA hX hnx hl
  have hown : s.vm.findClass RX8 = some m.cls := hown
  have hl : lv_has ls 4 [(0, .ref (b 0)), (1, .int x), (2, .int y), (3, .int z)] := hl
  have hP : va_P D vwCl ([hO b, cO b (nI n) (nI k)] : List va_W).flatten s.heap := hP
  have hD : va_D A ([hO b, cO b (nI n) (nI k)] : List va_W).flatten := hD
  refine lv_aload_n hx hb dX8_hits_0 rfl (lv_at hl 0 rfl) ?_
  refine lv_iload_n hx hb dX8_hits_1 rfl (lv_at hl 1 rfl) ?_
  rcases Bool.eq_false_or_eq_true (inR x (nI 0) (nI (n - 1))) with hc2 | hc2
  · -- holds
    refine ca_v (CL := [hO b, cO b (nI n) (nI k)]) (va_runV (As := [.int x]) (rest := []) ⟨hx, hb, hml, hown, hts⟩ (c_X8_needState_okr l D cY s.heap.size b n k x (by omega) (by omega) (by omega) (by omega) hc2) (cwV 1 hts gX8_hits_X8_needState rfl rfl rfl (by decide +kernel) ⟨Nat.le_of_ble_eq_true rfl, Nat.le_of_ble_eq_true rfl⟩) (b_preV hVK hP hD [0, 1] rfl rfl 0 rfl rfl) rfl rfl hl.1 rfl (lv_room (Nat.le_of_ble_eq_true rfl)) dX8_hits_2 ⟨Nat.zero_le _, Nat.zero_le _⟩) hP hD hS hA [0, 1] rfl rfl (fun _ => rfl) (fun uu H locs hq hP hD hS => ?_)
    have hP : va_P D vwCl ([hO b, cO b (nI n) (nI k)] : List va_W).flatten H := hP
    have hD : va_D A ([hO b, cO b (nI n) (nI k)] : List va_W).flatten := hD
    refine lv_aload_n hx hb dX8_hits_5 rfl (lv_at hl 0 rfl) ?_
    refine lv_iload_n hx hb dX8_hits_6 rfl (lv_at hl 3 rfl) ?_
    rcases Bool.eq_false_or_eq_true (inR z (nI 0) (nI (n - 1))) with hc7 | hc7
    · -- holds
      refine ca_v (CL := [hO b, cO b (nI n) (nI k)]) (va_runV (As := [.int z]) (rest := []) ⟨hx, hb, hml, hown, hts⟩ (c_X8_needState_okr l D cY H.size b n k z (by omega) (by omega) (by omega) (by omega) hc7) (cwV 1 hts gX8_hits_X8_needState rfl rfl rfl (by decide +kernel) ⟨Nat.le_of_ble_eq_true rfl, Nat.le_of_ble_eq_true rfl⟩) (b_preV hVK hP hD [0, 1] rfl rfl 0 rfl rfl) rfl rfl hl.1 rfl (lv_room (Nat.le_of_ble_eq_true rfl)) dX8_hits_7 ⟨Nat.zero_le _, Nat.zero_le _⟩) hP hD hS hA [0, 1] rfl rfl (fun _ => rfl) (fun uu H locs hq hP hD hS => ?_)
      have hP : va_P D vwCl ([hO b, cO b (nI n) (nI k)] : List va_W).flatten H := hP
      have hD : va_D A ([hO b, cO b (nI n) (nI k)] : List va_W).flatten := hD
      exact (b2 hbad hc2 hc7).elim
    · -- throws
      exact xc_v (CL := [hO b, cO b (nI n) (nI k)]) (vx_runV (As := [.int z]) (rest := []) ⟨hx, hb, hml, hown, hts⟩ (c_X8_needState_bad l D cY H.size b n k z hlT (by omega) (by omega) (by omega) (by omega) hc7) (cwV 1 hts gX8_hits_X8_needState rfl rfl rfl (by decide +kernel) ⟨Nat.le_of_ble_eq_true rfl, Nat.le_of_ble_eq_true rfl⟩) (b_preXV hVK hP hD hS hA hX [0, 1] rfl rfl 0 rfl rfl) rfl rfl hl.1 rfl (lv_room (Nat.le_of_ble_eq_true rfl)) dX8_hits_7 ⟨by decide, by decide⟩) hP hD hS hA [0, 1] rfl rfl rfl hnx hlocks () rfl (by decide) (by decide)
  · -- throws
    exact xc_v (CL := [hO b, cO b (nI n) (nI k)]) (vx_runV (As := [.int x]) (rest := []) ⟨hx, hb, hml, hown, hts⟩ (c_X8_needState_bad l D cY s.heap.size b n k x hlT (by omega) (by omega) (by omega) (by omega) hc2) (cwV 1 hts gX8_hits_X8_needState rfl rfl rfl (by decide +kernel) ⟨Nat.le_of_ble_eq_true rfl, Nat.le_of_ble_eq_true rfl⟩) (b_preXV hVK hP hD hS hA hX [0, 1] rfl rfl 0 rfl rfl) rfl rfl hl.1 rfl (lv_room (Nat.le_of_ble_eq_true rfl)) dX8_hits_2 ⟨by decide, by decide⟩) hP hD hS hA [0, 1] rfl rfl rfl hnx hlocks () rfl (by decide) (by decide)

set_option maxHeartbeats 4000000 in
set_option maxRecDepth 100000 in
theorem c_X8_hits_b2 (l : Launch) (D : va_G) (cY : Nat → ClassId) (sz : Nat) (b : Nat → Nat) (n : Nat) (k : Nat) (x : Int32) (y : Int32) (z : Int32) (hlT : l.stackTraces = false) (hn1 : 1 ≤ n) (hn6 : n ≤ 6) (hk1 : 1 ≤ k) (hk12 : k ≤ 12) (hAa : (inR x (nI 0) (nI (n - 1)) && inR z (nI 0) (nI (n - 1))) = true) (hbad : inR y (nI 0) (nI 12) = false) : vx_Met l yX8_hits wsX8_hits ({ frames := 12, cells := 1, slots := 6, locals := 320 }) (cPX D cY [.ref (b 0), .int x, .int y, .int z] [hO b, cO b (nI n) (nI k)] sz) (qL (S := Unit) D cY (fun r uu => False) (fun uu => [hO b, cO b (nI n) (nI k)]) (va_A ([hO b, cO b (nI n) (nI k)] : List va_W).flatten sz)) (qX (S := Unit) D cY "java/lang/IllegalArgumentException" (fun uu => [hO b, cO b (nI n) (nI k)]) (va_A ([hO b, cO b (nI n) (nI k)] : List va_W).flatten sz)) 1 6 (va_A ([hO b, cO b (nI n) (nI k)] : List va_W).flatten sz) := by
  refine mtX (Qc := fun A => qL (S := Unit) D cY (fun r uu => False) (fun uu => [hO b, cO b (nI n) (nI k)]) A) (XC := fun A => qX (S := Unit) D cY "java/lang/IllegalArgumentException" (fun uu => [hO b, cO b (nI n) (nI k)]) A) (cc := cX8_hits) (maxL := 4) (ret := (some .long)) (by decide) rfl (Nat.le_of_ble_eq_true rfl) ?_
  intro p e s m below meth c A ls hx hb hr hml hts hown hlocks hnm hsz hP hK hVK hD hS hA hX hnx hl
  have hown : s.vm.findClass RX8 = some m.cls := hown
  have hl : lv_has ls 4 [(0, .ref (b 0)), (1, .int x), (2, .int y), (3, .int z)] := hl
  have hP : va_P D vwCl ([hO b, cO b (nI n) (nI k)] : List va_W).flatten s.heap := hP
  have hD : va_D A ([hO b, cO b (nI n) (nI k)] : List va_W).flatten := hD
  refine lv_aload_n hx hb dX8_hits_0 rfl (lv_at hl 0 rfl) ?_
  refine lv_iload_n hx hb dX8_hits_1 rfl (lv_at hl 1 rfl) ?_
  refine ca_v (CL := [hO b, cO b (nI n) (nI k)]) (va_runV (As := [.int x]) (rest := []) ⟨hx, hb, hml, hown, hts⟩ (c_X8_needState_okr l D cY s.heap.size b n k x (by omega) (by omega) (by omega) (by omega) (a2_1 hAa)) (cwV 1 hts gX8_hits_X8_needState rfl rfl rfl (by decide +kernel) ⟨Nat.le_of_ble_eq_true rfl, Nat.le_of_ble_eq_true rfl⟩) (b_preV hVK hP hD [0, 1] rfl rfl 0 rfl rfl) rfl rfl hl.1 rfl (lv_room (Nat.le_of_ble_eq_true rfl)) dX8_hits_2 ⟨Nat.zero_le _, Nat.zero_le _⟩) hP hD hS hA [0, 1] rfl rfl (fun _ => rfl) (fun uu H locs hq hP hD hS => ?_)
  have hP : va_P D vwCl ([hO b, cO b (nI n) (nI k)] : List va_W).flatten H := hP
  have hD : va_D A ([hO b, cO b (nI n) (nI k)] : List va_W).flatten := hD
  refine lv_aload_n hx hb dX8_hits_5 rfl (lv_at hl 0 rfl) ?_
  refine lv_iload_n hx hb dX8_hits_6 rfl (lv_at hl 3 rfl) ?_
  refine ca_v (CL := [hO b, cO b (nI n) (nI k)]) (va_runV (As := [.int z]) (rest := []) ⟨hx, hb, hml, hown, hts⟩ (c_X8_needState_okr l D cY H.size b n k z (by omega) (by omega) (by omega) (by omega) (a2_2 hAa)) (cwV 1 hts gX8_hits_X8_needState rfl rfl rfl (by decide +kernel) ⟨Nat.le_of_ble_eq_true rfl, Nat.le_of_ble_eq_true rfl⟩) (b_preV hVK hP hD [0, 1] rfl rfl 0 rfl rfl) rfl rfl hl.1 rfl (lv_room (Nat.le_of_ble_eq_true rfl)) dX8_hits_7 ⟨Nat.zero_le _, Nat.zero_le _⟩) hP hD hS hA [0, 1] rfl rfl (fun _ => rfl) (fun uu H locs hq hP hD hS => ?_)
  have hP : va_P D vwCl ([hO b, cO b (nI n) (nI k)] : List va_W).flatten H := hP
  have hD : va_D A ([hO b, cO b (nI n) (nI k)] : List va_W).flatten := hD
  refine lv_iload_n hx hb dX8_hits_10 rfl (lv_at hl 2 rfl) ?_
  refine lv_iconst (v := nI 0) hx hb dX8_hits_11 (by decide) ?_
  refine lv_bipush (v := nI 12) hx hb dX8_hits_12 (by decide) ?_
  exact xc_v (CL := []) (vx_runS (As := [.int y, .int (nI 0), .int (nI 12)]) (rest := []) ⟨hx, hb, hml, hown, hts⟩ (c_X8_needRange_bad l D cY H.size y (nI 0) (nI 12) hlT hbad) (va_cwS 3 hts gX8_hits_X8_needRange rfl rfl rfl (by decide +kernel) ⟨Nat.le_of_ble_eq_true rfl, Nat.le_of_ble_eq_true rfl⟩) (b_preXS hVK hP hD hS hA hX [] rfl rfl) rfl rfl hl.1 rfl (lv_room (Nat.le_of_ble_eq_true rfl)) dX8_hits_14 ⟨by decide, by decide⟩) hP hD hS hA [] rfl rfl rfl hnx hlocks () rfl (by decide) (by decide)

set_option maxHeartbeats 4000000 in
set_option maxRecDepth 100000 in
theorem c_X8_together_b1 (l : Launch) (D : va_G) (cY : Nat → ClassId) (sz : Nat) (b : Nat → Nat) (n : Nat) (k : Nat) (y : Int32) (x : Int32) (hlT : l.stackTraces = false) (hn1 : 1 ≤ n) (hn6 : n ≤ 6) (hk1 : 1 ≤ k) (hk12 : k ≤ 12) (hbad : inR x (nI 0) (nI (n - 1)) = false) : vx_Met l yX8_together wsX8_together ({ frames := 12, cells := 1, slots := 6, locals := 320 }) (cPX D cY [.ref (b 0), .int y, .int x] [hO b, cO b (nI n) (nI k)] sz) (qL (S := Unit) D cY (fun r uu => False) (fun uu => [hO b, cO b (nI n) (nI k)]) (va_A ([hO b, cO b (nI n) (nI k)] : List va_W).flatten sz)) (qX (S := Unit) D cY "java/lang/IndexOutOfBoundsException" (fun uu => [hO b, cO b (nI n) (nI k)]) (va_A ([hO b, cO b (nI n) (nI k)] : List va_W).flatten sz)) 1 6 (va_A ([hO b, cO b (nI n) (nI k)] : List va_W).flatten sz) := by
  refine mtX (Qc := fun A => qL (S := Unit) D cY (fun r uu => False) (fun uu => [hO b, cO b (nI n) (nI k)]) A) (XC := fun A => qX (S := Unit) D cY "java/lang/IndexOutOfBoundsException" (fun uu => [hO b, cO b (nI n) (nI k)]) A) (cc := cX8_together) (maxL := 3) (ret := (some .long)) (by decide) rfl (Nat.le_of_ble_eq_true rfl) ?_
  intro p e s m below meth c A ls hx hb hr hml hts hown hlocks hnm hsz hP hK hVK hD hS hA hX hnx hl
  have hown : s.vm.findClass RX8 = some m.cls := hown
  have hl : lv_has ls 3 [(0, .ref (b 0)), (1, .int y), (2, .int x)] := hl
  have hP : va_P D vwCl ([hO b, cO b (nI n) (nI k)] : List va_W).flatten s.heap := hP
  have hD : va_D A ([hO b, cO b (nI n) (nI k)] : List va_W).flatten := hD
  refine lv_aload_n hx hb dX8_together_0 rfl (lv_at hl 0 rfl) ?_
  refine lv_iload_n hx hb dX8_together_1 rfl (lv_at hl 2 rfl) ?_
  exact xc_v (CL := [hO b, cO b (nI n) (nI k)]) (vx_runV (As := [.int x]) (rest := []) ⟨hx, hb, hml, hown, hts⟩ (c_X8_needState_bad l D cY s.heap.size b n k x hlT (by omega) (by omega) (by omega) (by omega) hbad) (cwV 1 hts gX8_together_X8_needState rfl rfl rfl (by decide +kernel) ⟨Nat.le_of_ble_eq_true rfl, Nat.le_of_ble_eq_true rfl⟩) (b_preXV hVK hP hD hS hA hX [0, 1] rfl rfl 0 rfl rfl) rfl rfl hl.1 rfl (lv_room (Nat.le_of_ble_eq_true rfl)) dX8_together_2 ⟨by decide, by decide⟩) hP hD hS hA [0, 1] rfl rfl rfl hnx hlocks () rfl (by decide) (by decide)

set_option maxHeartbeats 4000000 in
set_option maxRecDepth 100000 in
theorem c_X8_together_b2 (l : Launch) (D : va_G) (cY : Nat → ClassId) (sz : Nat) (b : Nat → Nat) (n : Nat) (k : Nat) (y : Int32) (x : Int32) (hlT : l.stackTraces = false) (hn1 : 1 ≤ n) (hn6 : n ≤ 6) (hk1 : 1 ≤ k) (hk12 : k ≤ 12) (hAa : inR x (nI 0) (nI (n - 1)) = true) (hbad : inR y (nI 0) (nI 12) = false) : vx_Met l yX8_together wsX8_together ({ frames := 12, cells := 1, slots := 6, locals := 320 }) (cPX D cY [.ref (b 0), .int y, .int x] [hO b, cO b (nI n) (nI k)] sz) (qL (S := Unit) D cY (fun r uu => False) (fun uu => [hO b, cO b (nI n) (nI k)]) (va_A ([hO b, cO b (nI n) (nI k)] : List va_W).flatten sz)) (qX (S := Unit) D cY "java/lang/IllegalArgumentException" (fun uu => [hO b, cO b (nI n) (nI k)]) (va_A ([hO b, cO b (nI n) (nI k)] : List va_W).flatten sz)) 1 6 (va_A ([hO b, cO b (nI n) (nI k)] : List va_W).flatten sz) := by
  refine mtX (Qc := fun A => qL (S := Unit) D cY (fun r uu => False) (fun uu => [hO b, cO b (nI n) (nI k)]) A) (XC := fun A => qX (S := Unit) D cY "java/lang/IllegalArgumentException" (fun uu => [hO b, cO b (nI n) (nI k)]) A) (cc := cX8_together) (maxL := 3) (ret := (some .long)) (by decide) rfl (Nat.le_of_ble_eq_true rfl) ?_
  intro p e s m below meth c A ls hx hb hr hml hts hown hlocks hnm hsz hP hK hVK hD hS hA hX hnx hl
  have hown : s.vm.findClass RX8 = some m.cls := hown
  have hl : lv_has ls 3 [(0, .ref (b 0)), (1, .int y), (2, .int x)] := hl
  have hP : va_P D vwCl ([hO b, cO b (nI n) (nI k)] : List va_W).flatten s.heap := hP
  have hD : va_D A ([hO b, cO b (nI n) (nI k)] : List va_W).flatten := hD
  refine lv_aload_n hx hb dX8_together_0 rfl (lv_at hl 0 rfl) ?_
  refine lv_iload_n hx hb dX8_together_1 rfl (lv_at hl 2 rfl) ?_
  refine ca_v (CL := [hO b, cO b (nI n) (nI k)]) (va_runV (As := [.int x]) (rest := []) ⟨hx, hb, hml, hown, hts⟩ (c_X8_needState_okr l D cY s.heap.size b n k x (by omega) (by omega) (by omega) (by omega) hAa) (cwV 1 hts gX8_together_X8_needState rfl rfl rfl (by decide +kernel) ⟨Nat.le_of_ble_eq_true rfl, Nat.le_of_ble_eq_true rfl⟩) (b_preV hVK hP hD [0, 1] rfl rfl 0 rfl rfl) rfl rfl hl.1 rfl (lv_room (Nat.le_of_ble_eq_true rfl)) dX8_together_2 ⟨Nat.zero_le _, Nat.zero_le _⟩) hP hD hS hA [0, 1] rfl rfl (fun _ => rfl) (fun uu H locs hq hP hD hS => ?_)
  have hP : va_P D vwCl ([hO b, cO b (nI n) (nI k)] : List va_W).flatten H := hP
  have hD : va_D A ([hO b, cO b (nI n) (nI k)] : List va_W).flatten := hD
  refine lv_iload_n hx hb dX8_together_5 rfl (lv_at hl 1 rfl) ?_
  refine lv_iconst (v := nI 0) hx hb dX8_together_6 (by decide) ?_
  refine lv_bipush (v := nI 12) hx hb dX8_together_7 (by decide) ?_
  exact xc_v (CL := []) (vx_runS (As := [.int y, .int (nI 0), .int (nI 12)]) (rest := []) ⟨hx, hb, hml, hown, hts⟩ (c_X8_needRange_bad l D cY H.size y (nI 0) (nI 12) hlT hbad) (va_cwS 3 hts gX8_together_X8_needRange rfl rfl rfl (by decide +kernel) ⟨Nat.le_of_ble_eq_true rfl, Nat.le_of_ble_eq_true rfl⟩) (b_preXS hVK hP hD hS hA hX [] rfl rfl) rfl rfl hl.1 rfl (lv_room (Nat.le_of_ble_eq_true rfl)) dX8_together_9 ⟨by decide, by decide⟩) hP hD hS hA [] rfl rfl rfl hnx hlocks () rfl (by decide) (by decide)

set_option maxHeartbeats 4000000 in
set_option maxRecDepth 100000 in
theorem c_X8_best_b1 (l : Launch) (D : va_G) (cY : Nat → ClassId) (sz : Nat) (b : Nat → Nat) (n : Nat) (k : Nat) (x : Int32) (y : Int32) (hlT : l.stackTraces = false) (hn1 : 1 ≤ n) (hn6 : n ≤ 6) (hk1 : 1 ≤ k) (hk12 : k ≤ 12) (hbad : inR x (nI 0) (nI (n - 1)) = false) : vx_Met l yX8_best wsX8_best ({ frames := 12, cells := 1, slots := 6, locals := 320 }) (cPX D cY [.ref (b 0), .int x, .int y] [hO b, cO b (nI n) (nI k)] sz) (qL (S := Unit) D cY (fun r uu => False) (fun uu => [hO b, cO b (nI n) (nI k)]) (va_A ([hO b, cO b (nI n) (nI k)] : List va_W).flatten sz)) (qX (S := Unit) D cY "java/lang/IndexOutOfBoundsException" (fun uu => [hO b, cO b (nI n) (nI k)]) (va_A ([hO b, cO b (nI n) (nI k)] : List va_W).flatten sz)) 1 6 (va_A ([hO b, cO b (nI n) (nI k)] : List va_W).flatten sz) := by
  refine mtX (Qc := fun A => qL (S := Unit) D cY (fun r uu => False) (fun uu => [hO b, cO b (nI n) (nI k)]) A) (XC := fun A => qX (S := Unit) D cY "java/lang/IndexOutOfBoundsException" (fun uu => [hO b, cO b (nI n) (nI k)]) A) (cc := cX8_best) (maxL := 3) (ret := (some .long)) (by decide) rfl (Nat.le_of_ble_eq_true rfl) ?_
  intro p e s m below meth c A ls hx hb hr hml hts hown hlocks hnm hsz hP hK hVK hD hS hA hX hnx hl
  have hown : s.vm.findClass RX8 = some m.cls := hown
  have hl : lv_has ls 3 [(0, .ref (b 0)), (1, .int x), (2, .int y)] := hl
  have hP : va_P D vwCl ([hO b, cO b (nI n) (nI k)] : List va_W).flatten s.heap := hP
  have hD : va_D A ([hO b, cO b (nI n) (nI k)] : List va_W).flatten := hD
  refine lv_aload_n hx hb dX8_best_0 rfl (lv_at hl 0 rfl) ?_
  refine lv_iload_n hx hb dX8_best_1 rfl (lv_at hl 1 rfl) ?_
  exact xc_v (CL := [hO b, cO b (nI n) (nI k)]) (vx_runV (As := [.int x]) (rest := []) ⟨hx, hb, hml, hown, hts⟩ (c_X8_needState_bad l D cY s.heap.size b n k x hlT (by omega) (by omega) (by omega) (by omega) hbad) (cwV 1 hts gX8_best_X8_needState rfl rfl rfl (by decide +kernel) ⟨Nat.le_of_ble_eq_true rfl, Nat.le_of_ble_eq_true rfl⟩) (b_preXV hVK hP hD hS hA hX [0, 1] rfl rfl 0 rfl rfl) rfl rfl hl.1 rfl (lv_room (Nat.le_of_ble_eq_true rfl)) dX8_best_2 ⟨by decide, by decide⟩) hP hD hS hA [0, 1] rfl rfl rfl hnx hlocks () rfl (by decide) (by decide)

set_option maxHeartbeats 4000000 in
set_option maxRecDepth 100000 in
theorem c_X8_best_b2 (l : Launch) (D : va_G) (cY : Nat → ClassId) (sz : Nat) (b : Nat → Nat) (n : Nat) (k : Nat) (x : Int32) (y : Int32) (hlT : l.stackTraces = false) (hn1 : 1 ≤ n) (hn6 : n ≤ 6) (hk1 : 1 ≤ k) (hk12 : k ≤ 12) (hAa : inR x (nI 0) (nI (n - 1)) = true) (hbad : inR y (nI 0) (nI 12) = false) : vx_Met l yX8_best wsX8_best ({ frames := 12, cells := 1, slots := 6, locals := 320 }) (cPX D cY [.ref (b 0), .int x, .int y] [hO b, cO b (nI n) (nI k)] sz) (qL (S := Unit) D cY (fun r uu => False) (fun uu => [hO b, cO b (nI n) (nI k)]) (va_A ([hO b, cO b (nI n) (nI k)] : List va_W).flatten sz)) (qX (S := Unit) D cY "java/lang/IllegalArgumentException" (fun uu => [hO b, cO b (nI n) (nI k)]) (va_A ([hO b, cO b (nI n) (nI k)] : List va_W).flatten sz)) 1 6 (va_A ([hO b, cO b (nI n) (nI k)] : List va_W).flatten sz) := by
  refine mtX (Qc := fun A => qL (S := Unit) D cY (fun r uu => False) (fun uu => [hO b, cO b (nI n) (nI k)]) A) (XC := fun A => qX (S := Unit) D cY "java/lang/IllegalArgumentException" (fun uu => [hO b, cO b (nI n) (nI k)]) A) (cc := cX8_best) (maxL := 3) (ret := (some .long)) (by decide) rfl (Nat.le_of_ble_eq_true rfl) ?_
  intro p e s m below meth c A ls hx hb hr hml hts hown hlocks hnm hsz hP hK hVK hD hS hA hX hnx hl
  have hown : s.vm.findClass RX8 = some m.cls := hown
  have hl : lv_has ls 3 [(0, .ref (b 0)), (1, .int x), (2, .int y)] := hl
  have hP : va_P D vwCl ([hO b, cO b (nI n) (nI k)] : List va_W).flatten s.heap := hP
  have hD : va_D A ([hO b, cO b (nI n) (nI k)] : List va_W).flatten := hD
  refine lv_aload_n hx hb dX8_best_0 rfl (lv_at hl 0 rfl) ?_
  refine lv_iload_n hx hb dX8_best_1 rfl (lv_at hl 1 rfl) ?_
  refine ca_v (CL := [hO b, cO b (nI n) (nI k)]) (va_runV (As := [.int x]) (rest := []) ⟨hx, hb, hml, hown, hts⟩ (c_X8_needState_okr l D cY s.heap.size b n k x (by omega) (by omega) (by omega) (by omega) hAa) (cwV 1 hts gX8_best_X8_needState rfl rfl rfl (by decide +kernel) ⟨Nat.le_of_ble_eq_true rfl, Nat.le_of_ble_eq_true rfl⟩) (b_preV hVK hP hD [0, 1] rfl rfl 0 rfl rfl) rfl rfl hl.1 rfl (lv_room (Nat.le_of_ble_eq_true rfl)) dX8_best_2 ⟨Nat.zero_le _, Nat.zero_le _⟩) hP hD hS hA [0, 1] rfl rfl (fun _ => rfl) (fun uu H locs hq hP hD hS => ?_)
  have hP : va_P D vwCl ([hO b, cO b (nI n) (nI k)] : List va_W).flatten H := hP
  have hD : va_D A ([hO b, cO b (nI n) (nI k)] : List va_W).flatten := hD
  refine lv_iload_n hx hb dX8_best_5 rfl (lv_at hl 2 rfl) ?_
  refine lv_iconst (v := nI 0) hx hb dX8_best_6 (by decide) ?_
  refine lv_bipush (v := nI 12) hx hb dX8_best_7 (by decide) ?_
  exact xc_v (CL := []) (vx_runS (As := [.int y, .int (nI 0), .int (nI 12)]) (rest := []) ⟨hx, hb, hml, hown, hts⟩ (c_X8_needRange_bad l D cY H.size y (nI 0) (nI 12) hlT hbad) (va_cwS 3 hts gX8_best_X8_needRange rfl rfl rfl (by decide +kernel) ⟨Nat.le_of_ble_eq_true rfl, Nat.le_of_ble_eq_true rfl⟩) (b_preXS hVK hP hD hS hA hX [] rfl rfl) rfl rfl hl.1 rfl (lv_room (Nat.le_of_ble_eq_true rfl)) dX8_best_9 ⟨by decide, by decide⟩) hP hD hS hA [] rfl rfl rfl hnx hlocks () rfl (by decide) (by decide)

set_option maxHeartbeats 4000000 in
set_option maxRecDepth 100000 in
theorem c_X8_stops_b1 (l : Launch) (D : va_G) (cY : Nat → ClassId) (sz : Nat) (b : Nat → Nat) (n : Nat) (k : Nat) (x : Int32) (y : Int32) (hlT : l.stackTraces = false) (hn1 : 1 ≤ n) (hn6 : n ≤ 6) (hk1 : 1 ≤ k) (hk12 : k ≤ 12) (hbad : inR x (nI 0) (nI (n - 1)) = false) : vx_Met l yX8_stops wsX8_stops ({ frames := 12, cells := 1, slots := 6, locals := 320 }) (cPX D cY [.ref (b 0), .int x, .int y] [hO b, cO b (nI n) (nI k)] sz) (qI (S := Unit) D cY (fun r uu => False) (fun uu => [hO b, cO b (nI n) (nI k)]) (va_A ([hO b, cO b (nI n) (nI k)] : List va_W).flatten sz)) (qX (S := Unit) D cY "java/lang/IndexOutOfBoundsException" (fun uu => [hO b, cO b (nI n) (nI k)]) (va_A ([hO b, cO b (nI n) (nI k)] : List va_W).flatten sz)) 1 6 (va_A ([hO b, cO b (nI n) (nI k)] : List va_W).flatten sz) := by
  refine mtX (Qc := fun A => qI (S := Unit) D cY (fun r uu => False) (fun uu => [hO b, cO b (nI n) (nI k)]) A) (XC := fun A => qX (S := Unit) D cY "java/lang/IndexOutOfBoundsException" (fun uu => [hO b, cO b (nI n) (nI k)]) A) (cc := cX8_stops) (maxL := 3) (ret := (some .boolean)) (by decide) rfl (Nat.le_of_ble_eq_true rfl) ?_
  intro p e s m below meth c A ls hx hb hr hml hts hown hlocks hnm hsz hP hK hVK hD hS hA hX hnx hl
  have hown : s.vm.findClass RX8 = some m.cls := hown
  have hl : lv_has ls 3 [(0, .ref (b 0)), (1, .int x), (2, .int y)] := hl
  have hP : va_P D vwCl ([hO b, cO b (nI n) (nI k)] : List va_W).flatten s.heap := hP
  have hD : va_D A ([hO b, cO b (nI n) (nI k)] : List va_W).flatten := hD
  refine lv_aload_n hx hb dX8_stops_0 rfl (lv_at hl 0 rfl) ?_
  refine lv_iload_n hx hb dX8_stops_1 rfl (lv_at hl 1 rfl) ?_
  exact xc_v (CL := [hO b, cO b (nI n) (nI k)]) (vx_runV (As := [.int x]) (rest := []) ⟨hx, hb, hml, hown, hts⟩ (c_X8_needState_bad l D cY s.heap.size b n k x hlT (by omega) (by omega) (by omega) (by omega) hbad) (cwV 1 hts gX8_stops_X8_needState rfl rfl rfl (by decide +kernel) ⟨Nat.le_of_ble_eq_true rfl, Nat.le_of_ble_eq_true rfl⟩) (b_preXV hVK hP hD hS hA hX [0, 1] rfl rfl 0 rfl rfl) rfl rfl hl.1 rfl (lv_room (Nat.le_of_ble_eq_true rfl)) dX8_stops_2 ⟨by decide, by decide⟩) hP hD hS hA [0, 1] rfl rfl rfl hnx hlocks () rfl (by decide) (by decide)

set_option maxHeartbeats 4000000 in
set_option maxRecDepth 100000 in
theorem c_X8_stops_b2 (l : Launch) (D : va_G) (cY : Nat → ClassId) (sz : Nat) (b : Nat → Nat) (n : Nat) (k : Nat) (x : Int32) (y : Int32) (hlT : l.stackTraces = false) (hn1 : 1 ≤ n) (hn6 : n ≤ 6) (hk1 : 1 ≤ k) (hk12 : k ≤ 12) (hAa : inR x (nI 0) (nI (n - 1)) = true) (hbad : inR y (nI 0) (nI 12) = false) : vx_Met l yX8_stops wsX8_stops ({ frames := 12, cells := 1, slots := 6, locals := 320 }) (cPX D cY [.ref (b 0), .int x, .int y] [hO b, cO b (nI n) (nI k)] sz) (qI (S := Unit) D cY (fun r uu => False) (fun uu => [hO b, cO b (nI n) (nI k)]) (va_A ([hO b, cO b (nI n) (nI k)] : List va_W).flatten sz)) (qX (S := Unit) D cY "java/lang/IllegalArgumentException" (fun uu => [hO b, cO b (nI n) (nI k)]) (va_A ([hO b, cO b (nI n) (nI k)] : List va_W).flatten sz)) 1 6 (va_A ([hO b, cO b (nI n) (nI k)] : List va_W).flatten sz) := by
  refine mtX (Qc := fun A => qI (S := Unit) D cY (fun r uu => False) (fun uu => [hO b, cO b (nI n) (nI k)]) A) (XC := fun A => qX (S := Unit) D cY "java/lang/IllegalArgumentException" (fun uu => [hO b, cO b (nI n) (nI k)]) A) (cc := cX8_stops) (maxL := 3) (ret := (some .boolean)) (by decide) rfl (Nat.le_of_ble_eq_true rfl) ?_
  intro p e s m below meth c A ls hx hb hr hml hts hown hlocks hnm hsz hP hK hVK hD hS hA hX hnx hl
  have hown : s.vm.findClass RX8 = some m.cls := hown
  have hl : lv_has ls 3 [(0, .ref (b 0)), (1, .int x), (2, .int y)] := hl
  have hP : va_P D vwCl ([hO b, cO b (nI n) (nI k)] : List va_W).flatten s.heap := hP
  have hD : va_D A ([hO b, cO b (nI n) (nI k)] : List va_W).flatten := hD
  refine lv_aload_n hx hb dX8_stops_0 rfl (lv_at hl 0 rfl) ?_
  refine lv_iload_n hx hb dX8_stops_1 rfl (lv_at hl 1 rfl) ?_
  refine ca_v (CL := [hO b, cO b (nI n) (nI k)]) (va_runV (As := [.int x]) (rest := []) ⟨hx, hb, hml, hown, hts⟩ (c_X8_needState_okr l D cY s.heap.size b n k x (by omega) (by omega) (by omega) (by omega) hAa) (cwV 1 hts gX8_stops_X8_needState rfl rfl rfl (by decide +kernel) ⟨Nat.le_of_ble_eq_true rfl, Nat.le_of_ble_eq_true rfl⟩) (b_preV hVK hP hD [0, 1] rfl rfl 0 rfl rfl) rfl rfl hl.1 rfl (lv_room (Nat.le_of_ble_eq_true rfl)) dX8_stops_2 ⟨Nat.zero_le _, Nat.zero_le _⟩) hP hD hS hA [0, 1] rfl rfl (fun _ => rfl) (fun uu H locs hq hP hD hS => ?_)
  have hP : va_P D vwCl ([hO b, cO b (nI n) (nI k)] : List va_W).flatten H := hP
  have hD : va_D A ([hO b, cO b (nI n) (nI k)] : List va_W).flatten := hD
  refine lv_iload_n hx hb dX8_stops_5 rfl (lv_at hl 2 rfl) ?_
  refine lv_iconst (v := nI 0) hx hb dX8_stops_6 (by decide) ?_
  refine lv_bipush (v := nI 12) hx hb dX8_stops_7 (by decide) ?_
  exact xc_v (CL := []) (vx_runS (As := [.int y, .int (nI 0), .int (nI 12)]) (rest := []) ⟨hx, hb, hml, hown, hts⟩ (c_X8_needRange_bad l D cY H.size y (nI 0) (nI 12) hlT hbad) (va_cwS 3 hts gX8_stops_X8_needRange rfl rfl rfl (by decide +kernel) ⟨Nat.le_of_ble_eq_true rfl, Nat.le_of_ble_eq_true rfl⟩) (b_preXS hVK hP hD hS hA hX [] rfl rfl) rfl rfl hl.1 rfl (lv_room (Nat.le_of_ble_eq_true rfl)) dX8_stops_9 ⟨by decide, by decide⟩) hP hD hS hA [] rfl rfl rfl hnx hlocks () rfl (by decide) (by decide)

set_option maxHeartbeats 4000000 in
set_option maxRecDepth 100000 in
theorem c_X8_reach_bad (l : Launch) (D : va_G) (cY : Nat → ClassId) (sz : Nat) (b : Nat → Nat) (n : Nat) (k : Nat) (x : Int32) (hlT : l.stackTraces = false) (hn1 : 1 ≤ n) (hn6 : n ≤ 6) (hk1 : 1 ≤ k) (hk12 : k ≤ 12) (hbad : inR x (nI 0) (nI (n - 1)) = false) : vx_Met l yX8_reach wsX8_reach ({ frames := 12, cells := 1, slots := 6, locals := 320 }) (cPX D cY [.ref (b 0), .int x] [hO b, cO b (nI n) (nI k)] sz) (qI (S := Unit) D cY (fun r uu => False) (fun uu => [hO b, cO b (nI n) (nI k)]) (va_A ([hO b, cO b (nI n) (nI k)] : List va_W).flatten sz)) (qX (S := Unit) D cY "java/lang/IndexOutOfBoundsException" (fun uu => [hO b, cO b (nI n) (nI k)]) (va_A ([hO b, cO b (nI n) (nI k)] : List va_W).flatten sz)) 1 6 (va_A ([hO b, cO b (nI n) (nI k)] : List va_W).flatten sz) := by
  refine mtX (Qc := fun A => qI (S := Unit) D cY (fun r uu => False) (fun uu => [hO b, cO b (nI n) (nI k)]) A) (XC := fun A => qX (S := Unit) D cY "java/lang/IndexOutOfBoundsException" (fun uu => [hO b, cO b (nI n) (nI k)]) A) (cc := cX8_reach) (maxL := 2) (ret := (some .int)) (by decide) rfl (Nat.le_of_ble_eq_true rfl) ?_
  intro p e s m below meth c A ls hx hb hr hml hts hown hlocks hnm hsz hP hK hVK hD hS hA hX hnx hl
  have hown : s.vm.findClass RX8 = some m.cls := hown
  have hl : lv_has ls 2 [(0, .ref (b 0)), (1, .int x)] := hl
  have hP : va_P D vwCl ([hO b, cO b (nI n) (nI k)] : List va_W).flatten s.heap := hP
  have hD : va_D A ([hO b, cO b (nI n) (nI k)] : List va_W).flatten := hD
  refine lv_aload_n hx hb dX8_reach_0 rfl (lv_at hl 0 rfl) ?_
  refine lv_iload_n hx hb dX8_reach_1 rfl (lv_at hl 1 rfl) ?_
  exact xc_v (CL := [hO b, cO b (nI n) (nI k)]) (vx_runV (As := [.int x]) (rest := []) ⟨hx, hb, hml, hown, hts⟩ (c_X8_needState_bad l D cY s.heap.size b n k x hlT (by omega) (by omega) (by omega) (by omega) hbad) (cwV 1 hts gX8_reach_X8_needState rfl rfl rfl (by decide +kernel) ⟨Nat.le_of_ble_eq_true rfl, Nat.le_of_ble_eq_true rfl⟩) (b_preXV hVK hP hD hS hA hX [0, 1] rfl rfl 0 rfl rfl) rfl rfl hl.1 rfl (lv_room (Nat.le_of_ble_eq_true rfl)) dX8_reach_2 ⟨by decide, by decide⟩) hP hD hS hA [0, 1] rfl rfl rfl hnx hlocks () rfl (by decide) (by decide)

set_option maxHeartbeats 4000000 in
set_option maxRecDepth 100000 in
theorem c_X8_period_bad (l : Launch) (D : va_G) (cY : Nat → ClassId) (sz : Nat) (b : Nat → Nat) (n : Nat) (k : Nat) (x : Int32) (hlT : l.stackTraces = false) (hn1 : 1 ≤ n) (hn6 : n ≤ 6) (hk1 : 1 ≤ k) (hk12 : k ≤ 12) (hbad : inR x (nI 0) (nI (n - 1)) = false) : vx_Met l yX8_period wsX8_period ({ frames := 12, cells := 1, slots := 6, locals := 320 }) (cPX D cY [.ref (b 0), .int x] [hO b, cO b (nI n) (nI k)] sz) (qI (S := Unit) D cY (fun r uu => False) (fun uu => [hO b, cO b (nI n) (nI k)]) (va_A ([hO b, cO b (nI n) (nI k)] : List va_W).flatten sz)) (qX (S := Unit) D cY "java/lang/IndexOutOfBoundsException" (fun uu => [hO b, cO b (nI n) (nI k)]) (va_A ([hO b, cO b (nI n) (nI k)] : List va_W).flatten sz)) 1 6 (va_A ([hO b, cO b (nI n) (nI k)] : List va_W).flatten sz) := by
  refine mtX (Qc := fun A => qI (S := Unit) D cY (fun r uu => False) (fun uu => [hO b, cO b (nI n) (nI k)]) A) (XC := fun A => qX (S := Unit) D cY "java/lang/IndexOutOfBoundsException" (fun uu => [hO b, cO b (nI n) (nI k)]) A) (cc := cX8_period) (maxL := 2) (ret := (some .int)) (by decide) rfl (Nat.le_of_ble_eq_true rfl) ?_
  intro p e s m below meth c A ls hx hb hr hml hts hown hlocks hnm hsz hP hK hVK hD hS hA hX hnx hl
  have hown : s.vm.findClass RX8 = some m.cls := hown
  have hl : lv_has ls 2 [(0, .ref (b 0)), (1, .int x)] := hl
  have hP : va_P D vwCl ([hO b, cO b (nI n) (nI k)] : List va_W).flatten s.heap := hP
  have hD : va_D A ([hO b, cO b (nI n) (nI k)] : List va_W).flatten := hD
  refine lv_aload_n hx hb dX8_period_0 rfl (lv_at hl 0 rfl) ?_
  refine lv_iload_n hx hb dX8_period_1 rfl (lv_at hl 1 rfl) ?_
  exact xc_v (CL := [hO b, cO b (nI n) (nI k)]) (vx_runV (As := [.int x]) (rest := []) ⟨hx, hb, hml, hown, hts⟩ (c_X8_needState_bad l D cY s.heap.size b n k x hlT (by omega) (by omega) (by omega) (by omega) hbad) (cwV 1 hts gX8_period_X8_needState rfl rfl rfl (by decide +kernel) ⟨Nat.le_of_ble_eq_true rfl, Nat.le_of_ble_eq_true rfl⟩) (b_preXV hVK hP hD hS hA hX [0, 1] rfl rfl 0 rfl rfl) rfl rfl hl.1 rfl (lv_room (Nat.le_of_ble_eq_true rfl)) dX8_period_2 ⟨by decide, by decide⟩) hP hD hS hA [0, 1] rfl rfl rfl hnx hlocks () rfl (by decide) (by decide)

set_option maxHeartbeats 4000000 in
set_option maxRecDepth 100000 in
theorem c_X8_drift_bad (l : Launch) (D : va_G) (cY : Nat → ClassId) (sz : Nat) (b : Nat → Nat) (n : Nat) (k : Nat) (x : Int32) (hlT : l.stackTraces = false) (hn1 : 1 ≤ n) (hn6 : n ≤ 6) (hk1 : 1 ≤ k) (hk12 : k ≤ 12) (hbad : inR x (nI 0) (nI (n - 1)) = false) : vx_Met l yX8_drift wsX8_drift ({ frames := 12, cells := 1, slots := 6, locals := 320 }) (cPX D cY [.ref (b 0), .int x] [hO b, cO b (nI n) (nI k)] sz) (qL (S := Unit) D cY (fun r uu => False) (fun uu => [hO b, cO b (nI n) (nI k)]) (va_A ([hO b, cO b (nI n) (nI k)] : List va_W).flatten sz)) (qX (S := Unit) D cY "java/lang/IndexOutOfBoundsException" (fun uu => [hO b, cO b (nI n) (nI k)]) (va_A ([hO b, cO b (nI n) (nI k)] : List va_W).flatten sz)) 1 6 (va_A ([hO b, cO b (nI n) (nI k)] : List va_W).flatten sz) := by
  refine mtX (Qc := fun A => qL (S := Unit) D cY (fun r uu => False) (fun uu => [hO b, cO b (nI n) (nI k)]) A) (XC := fun A => qX (S := Unit) D cY "java/lang/IndexOutOfBoundsException" (fun uu => [hO b, cO b (nI n) (nI k)]) A) (cc := cX8_drift) (maxL := 2) (ret := (some .long)) (by decide) rfl (Nat.le_of_ble_eq_true rfl) ?_
  intro p e s m below meth c A ls hx hb hr hml hts hown hlocks hnm hsz hP hK hVK hD hS hA hX hnx hl
  have hown : s.vm.findClass RX8 = some m.cls := hown
  have hl : lv_has ls 2 [(0, .ref (b 0)), (1, .int x)] := hl
  have hP : va_P D vwCl ([hO b, cO b (nI n) (nI k)] : List va_W).flatten s.heap := hP
  have hD : va_D A ([hO b, cO b (nI n) (nI k)] : List va_W).flatten := hD
  refine lv_aload_n hx hb dX8_drift_0 rfl (lv_at hl 0 rfl) ?_
  refine lv_iload_n hx hb dX8_drift_1 rfl (lv_at hl 1 rfl) ?_
  exact xc_v (CL := [hO b, cO b (nI n) (nI k)]) (vx_runV (As := [.int x]) (rest := []) ⟨hx, hb, hml, hown, hts⟩ (c_X8_needState_bad l D cY s.heap.size b n k x hlT (by omega) (by omega) (by omega) (by omega) hbad) (cwV 1 hts gX8_drift_X8_needState rfl rfl rfl (by decide +kernel) ⟨Nat.le_of_ble_eq_true rfl, Nat.le_of_ble_eq_true rfl⟩) (b_preXV hVK hP hD hS hA hX [0, 1] rfl rfl 0 rfl rfl) rfl rfl hl.1 rfl (lv_room (Nat.le_of_ble_eq_true rfl)) dX8_drift_2 ⟨by decide, by decide⟩) hP hD hS hA [0, 1] rfl rfl rfl hnx hlocks () rfl (by decide) (by decide)

set_option maxHeartbeats 4000000 in
set_option maxRecDepth 100000 in
theorem c_X8_rest_bad (l : Launch) (D : va_G) (cY : Nat → ClassId) (sz : Nat) (b : Nat → Nat) (n : Nat) (k : Nat) (x : Int32) (hlT : l.stackTraces = false) (hn1 : 1 ≤ n) (hn6 : n ≤ 6) (hk1 : 1 ≤ k) (hk12 : k ≤ 12) (hm1 : ¬ x = (-1)) (hbad : inR x (nI 0) (nI (n - 1)) = false) : vx_Met l yX8_rest wsX8_rest ({ frames := 12, cells := 1, slots := 6, locals := 320 }) (cPX D cY [.ref (b 0), .int x] [hO b, cO b (nI n) (nI k)] sz) (qL (S := Unit) D cY (fun r uu => False) (fun uu => [hO b, cO b (nI n) (nI k)]) (va_A ([hO b, cO b (nI n) (nI k)] : List va_W).flatten sz)) (qX (S := Unit) D cY "java/lang/IndexOutOfBoundsException" (fun uu => [hO b, cO b (nI n) (nI k)]) (va_A ([hO b, cO b (nI n) (nI k)] : List va_W).flatten sz)) 1 6 (va_A ([hO b, cO b (nI n) (nI k)] : List va_W).flatten sz) := by
  refine mtX (Qc := fun A => qL (S := Unit) D cY (fun r uu => False) (fun uu => [hO b, cO b (nI n) (nI k)]) A) (XC := fun A => qX (S := Unit) D cY "java/lang/IndexOutOfBoundsException" (fun uu => [hO b, cO b (nI n) (nI k)]) A) (cc := cX8_rest) (maxL := 2) (ret := (some .long)) (by decide) rfl (Nat.le_of_ble_eq_true rfl) ?_
  intro p e s m below meth c A ls hx hb hr hml hts hown hlocks hnm hsz hP hK hVK hD hS hA hX hnx hl
  have hown : s.vm.findClass RX8 = some m.cls := hown
  have hl : lv_has ls 2 [(0, .ref (b 0)), (1, .int x)] := hl
  have hP : va_P D vwCl ([hO b, cO b (nI n) (nI k)] : List va_W).flatten s.heap := hP
  have hD : va_D A ([hO b, cO b (nI n) (nI k)] : List va_W).flatten := hD
  refine lv_iload_n hx hb dX8_rest_0 rfl (lv_at hl 1 rfl) ?_
  refine lv_iconst (v := (-1)) hx hb dX8_rest_1 (by decide) ?_
  refine lv_icmp_ne (tgt := 13) hx hb dX8_rest_2 (by decide) (fun h2 => ?_) (fun h2 => ?_)
  · -- t
    refine lv_aload_n hx hb dX8_rest_13 rfl (lv_at hl 0 rfl) ?_
    refine lv_iload_n hx hb dX8_rest_14 rfl (lv_at hl 1 rfl) ?_
    exact xc_v (CL := [hO b, cO b (nI n) (nI k)]) (vx_runV (As := [.int x]) (rest := []) ⟨hx, hb, hml, hown, hts⟩ (c_X8_needState_bad l D cY s.heap.size b n k x hlT (by omega) (by omega) (by omega) (by omega) hbad) (cwV 1 hts gX8_rest_X8_needState rfl rfl rfl (by decide +kernel) ⟨Nat.le_of_ble_eq_true rfl, Nat.le_of_ble_eq_true rfl⟩) (b_preXV hVK hP hD hS hA hX [0, 1] rfl rfl 0 rfl rfl) rfl rfl hl.1 rfl (lv_room (Nat.le_of_ble_eq_true rfl)) dX8_rest_15 ⟨by decide, by decide⟩) hP hD hS hA [0, 1] rfl rfl rfl hnx hlocks () rfl (by decide) (by decide)
  · -- f
    exact absurd h2 hm1

set_option maxHeartbeats 4000000 in
set_option maxRecDepth 100000 in
theorem c_X8_mixing_bad (l : Launch) (D : va_G) (cY : Nat → ClassId) (sz : Nat) (b : Nat → Nat) (n : Nat) (k : Nat) (x : Int32) (hlT : l.stackTraces = false) (hn1 : 1 ≤ n) (hn6 : n ≤ 6) (hk1 : 1 ≤ k) (hk12 : k ≤ 12) (hbad : inR x (nI 0) (nI 1000) = false) : vx_Met l yX8_mixing wsX8_mixing ({ frames := 12, cells := 1, slots := 6, locals := 320 }) (cPX D cY [.ref (b 0), .int x] [hO b, cO b (nI n) (nI k)] sz) (qI (S := Unit) D cY (fun r uu => False) (fun uu => [hO b, cO b (nI n) (nI k)]) (va_A ([hO b, cO b (nI n) (nI k)] : List va_W).flatten sz)) (qX (S := Unit) D cY "java/lang/IllegalArgumentException" (fun uu => [hO b, cO b (nI n) (nI k)]) (va_A ([hO b, cO b (nI n) (nI k)] : List va_W).flatten sz)) 1 6 (va_A ([hO b, cO b (nI n) (nI k)] : List va_W).flatten sz) := by
  refine mtX (Qc := fun A => qI (S := Unit) D cY (fun r uu => False) (fun uu => [hO b, cO b (nI n) (nI k)]) A) (XC := fun A => qX (S := Unit) D cY "java/lang/IllegalArgumentException" (fun uu => [hO b, cO b (nI n) (nI k)]) A) (cc := cX8_mixing) (maxL := 3) (ret := (some .int)) (by decide) rfl (Nat.le_of_ble_eq_true rfl) ?_
  intro p e s m below meth c A ls hx hb hr hml hts hown hlocks hnm hsz hP hK hVK hD hS hA hX hnx hl
  have hown : s.vm.findClass RX8 = some m.cls := hown
  have hl : lv_has ls 3 [(0, .ref (b 0)), (1, .int x)] := hl
  have hP : va_P D vwCl ([hO b, cO b (nI n) (nI k)] : List va_W).flatten s.heap := hP
  have hD : va_D A ([hO b, cO b (nI n) (nI k)] : List va_W).flatten := hD
  refine lv_iload_n hx hb dX8_mixing_0 rfl (lv_at hl 1 rfl) ?_
  refine lv_iconst (v := nI 0) hx hb dX8_mixing_1 (by decide) ?_
  refine lv_sipush (v := nI 1000) hx hb dX8_mixing_2 (by decide) ?_
  exact xc_v (CL := []) (vx_runS (As := [.int x, .int (nI 0), .int (nI 1000)]) (rest := []) ⟨hx, hb, hml, hown, hts⟩ (c_X8_needRange_bad l D cY s.heap.size x (nI 0) (nI 1000) hlT hbad) (va_cwS 3 hts gX8_mixing_X8_needRange rfl rfl rfl (by decide +kernel) ⟨Nat.le_of_ble_eq_true rfl, Nat.le_of_ble_eq_true rfl⟩) (b_preXS hVK hP hD hS hA hX [] rfl rfl) rfl rfl hl.1 rfl (lv_room (Nat.le_of_ble_eq_true rfl)) dX8_mixing_5 ⟨by decide, by decide⟩) hP hD hS hA [] rfl rfl rfl hnx hlocks () rfl (by decide) (by decide)

set_option maxHeartbeats 4000000 in
set_option maxRecDepth 100000 in
theorem c_X8_draw_bad (l : Launch) (D : va_G) (cY : Nat → ClassId) (sz : Nat) (b : Nat → Nat) (n : Nat) (k : Nat) (x : Int32) (hlT : l.stackTraces = false) (hn1 : 1 ≤ n) (hn6 : n ≤ 6) (hk1 : 1 ≤ k) (hk12 : k ≤ 12) (hbad : inR x (nI 0) (nI 65520) = false) : vx_Met l yX8_draw wsX8_draw ({ frames := 12, cells := 1, slots := 6, locals := 320 }) (cPX D cY [.ref (b 0), .int x] [hO b, cO b (nI n) (nI k)] sz) (qI (S := Unit) D cY (fun r uu => False) (fun uu => [hO b, cO b (nI n) (nI k)]) (va_A ([hO b, cO b (nI n) (nI k)] : List va_W).flatten sz)) (qX (S := Unit) D cY "java/lang/IllegalArgumentException" (fun uu => [hO b, cO b (nI n) (nI k)]) (va_A ([hO b, cO b (nI n) (nI k)] : List va_W).flatten sz)) 1 6 (va_A ([hO b, cO b (nI n) (nI k)] : List va_W).flatten sz) := by
  refine mtX (Qc := fun A => qI (S := Unit) D cY (fun r uu => False) (fun uu => [hO b, cO b (nI n) (nI k)]) A) (XC := fun A => qX (S := Unit) D cY "java/lang/IllegalArgumentException" (fun uu => [hO b, cO b (nI n) (nI k)]) A) (cc := cX8_draw) (maxL := 2) (ret := (some .int)) (by decide) rfl (Nat.le_of_ble_eq_true rfl) ?_
  intro p e s m below meth c A ls hx hb hr hml hts hown hlocks hnm hsz hP hK hVK hD hS hA hX hnx hl
  have hown : s.vm.findClass RX8 = some m.cls := hown
  have hl : lv_has ls 2 [(0, .ref (b 0)), (1, .int x)] := hl
  have hP : va_P D vwCl ([hO b, cO b (nI n) (nI k)] : List va_W).flatten s.heap := hP
  have hD : va_D A ([hO b, cO b (nI n) (nI k)] : List va_W).flatten := hD
  refine lv_iload_n hx hb dX8_draw_0 rfl (lv_at hl 1 rfl) ?_
  refine lv_iconst (v := nI 0) hx hb dX8_draw_1 (by decide) ?_
  refine lv_ldc (v := 65520) hx hb hown (hts (.constant RX8 178 65520) (by decide +kernel)) dX8_draw_2 ?_
  refine eqi (x' := nI 65520) (by decide) ?_
  exact xc_v (CL := []) (vx_runS (As := [.int x, .int (nI 0), .int (nI 65520)]) (rest := []) ⟨hx, hb, hml, hown, hts⟩ (c_X8_needRange_bad l D cY s.heap.size x (nI 0) (nI 65520) hlT hbad) (va_cwS 3 hts gX8_draw_X8_needRange rfl rfl rfl (by decide +kernel) ⟨Nat.le_of_ble_eq_true rfl, Nat.le_of_ble_eq_true rfl⟩) (b_preXS hVK hP hD hS hA hX [] rfl rfl) rfl rfl hl.1 rfl (lv_room (Nat.le_of_ble_eq_true rfl)) dX8_draw_4 ⟨by decide, by decide⟩) hP hD hS hA [] rfl rfl rfl hnx hlocks () rfl (by decide) (by decide)

set_option maxHeartbeats 4000000 in
set_option maxRecDepth 100000 in
theorem c_X8_walk_b1 (l : Launch) (D : va_G) (cY : Nat → ClassId) (sz : Nat) (b : Nat → Nat) (n : Nat) (k : Nat) (x : Int32) (y : Int32) (z : Int32) (hlT : l.stackTraces = false) (hn1 : 1 ≤ n) (hn6 : n ≤ 6) (hk1 : 1 ≤ k) (hk12 : k ≤ 12) (hbad : inR x (nI 0) (nI (n - 1)) = false) : vx_Met l yX8_walk wsX8_walk ({ frames := 12, cells := 1, slots := 6, locals := 320 }) (cPX D cY [.ref (b 0), .int x, .int y, .int z] [hO b, cO b (nI n) (nI k)] sz) (qI (S := Unit) D cY (fun r uu => False) (fun uu => [hO b, cO b (nI n) (nI k)]) (va_A ([hO b, cO b (nI n) (nI k)] : List va_W).flatten sz)) (qX (S := Unit) D cY "java/lang/IndexOutOfBoundsException" (fun uu => [hO b, cO b (nI n) (nI k)]) (va_A ([hO b, cO b (nI n) (nI k)] : List va_W).flatten sz)) 1 6 (va_A ([hO b, cO b (nI n) (nI k)] : List va_W).flatten sz) := by
  refine mtX (Qc := fun A => qI (S := Unit) D cY (fun r uu => False) (fun uu => [hO b, cO b (nI n) (nI k)]) A) (XC := fun A => qX (S := Unit) D cY "java/lang/IndexOutOfBoundsException" (fun uu => [hO b, cO b (nI n) (nI k)]) A) (cc := cX8_walk) (maxL := 4) (ret := (some .int)) (by decide) rfl (Nat.le_of_ble_eq_true rfl) ?_
  intro p e s m below meth c A ls hx hb hr hml hts hown hlocks hnm hsz hP hK hVK hD hS hA hX hnx hl
  have hown : s.vm.findClass RX8 = some m.cls := hown
  have hl : lv_has ls 4 [(0, .ref (b 0)), (1, .int x), (2, .int y), (3, .int z)] := hl
  have hP : va_P D vwCl ([hO b, cO b (nI n) (nI k)] : List va_W).flatten s.heap := hP
  have hD : va_D A ([hO b, cO b (nI n) (nI k)] : List va_W).flatten := hD
  refine lv_aload_n hx hb dX8_walk_0 rfl (lv_at hl 0 rfl) ?_
  refine lv_iload_n hx hb dX8_walk_1 rfl (lv_at hl 1 rfl) ?_
  exact xc_v (CL := [hO b, cO b (nI n) (nI k)]) (vx_runV (As := [.int x]) (rest := []) ⟨hx, hb, hml, hown, hts⟩ (c_X8_needState_bad l D cY s.heap.size b n k x hlT (by omega) (by omega) (by omega) (by omega) hbad) (cwV 1 hts gX8_walk_X8_needState rfl rfl rfl (by decide +kernel) ⟨Nat.le_of_ble_eq_true rfl, Nat.le_of_ble_eq_true rfl⟩) (b_preXV hVK hP hD hS hA hX [0, 1] rfl rfl 0 rfl rfl) rfl rfl hl.1 rfl (lv_room (Nat.le_of_ble_eq_true rfl)) dX8_walk_2 ⟨by decide, by decide⟩) hP hD hS hA [0, 1] rfl rfl rfl hnx hlocks () rfl (by decide) (by decide)

set_option maxHeartbeats 4000000 in
set_option maxRecDepth 100000 in
theorem c_X8_walk_b2 (l : Launch) (D : va_G) (cY : Nat → ClassId) (sz : Nat) (b : Nat → Nat) (n : Nat) (k : Nat) (x : Int32) (y : Int32) (z : Int32) (hlT : l.stackTraces = false) (hn1 : 1 ≤ n) (hn6 : n ≤ 6) (hk1 : 1 ≤ k) (hk12 : k ≤ 12) (hAa : inR x (nI 0) (nI (n - 1)) = true) (hbad : (inR y (nI 0) (nI 65520) && inR z (nI 0) (nI 1000)) = false) : vx_Met l yX8_walk wsX8_walk ({ frames := 12, cells := 1, slots := 6, locals := 320 }) (cPX D cY [.ref (b 0), .int x, .int y, .int z] [hO b, cO b (nI n) (nI k)] sz) (qI (S := Unit) D cY (fun r uu => False) (fun uu => [hO b, cO b (nI n) (nI k)]) (va_A ([hO b, cO b (nI n) (nI k)] : List va_W).flatten sz)) (qX (S := Unit) D cY "java/lang/IllegalArgumentException" (fun uu => [hO b, cO b (nI n) (nI k)]) (va_A ([hO b, cO b (nI n) (nI k)] : List va_W).flatten sz)) 1 6 (va_A ([hO b, cO b (nI n) (nI k)] : List va_W).flatten sz) := by
  refine mtX (Qc := fun A => qI (S := Unit) D cY (fun r uu => False) (fun uu => [hO b, cO b (nI n) (nI k)]) A) (XC := fun A => qX (S := Unit) D cY "java/lang/IllegalArgumentException" (fun uu => [hO b, cO b (nI n) (nI k)]) A) (cc := cX8_walk) (maxL := 4) (ret := (some .int)) (by decide) rfl (Nat.le_of_ble_eq_true rfl) ?_
  intro p e s m below meth c A ls hx hb hr hml hts hown hlocks hnm hsz hP hK hVK hD hS hA hX hnx hl
  have hown : s.vm.findClass RX8 = some m.cls := hown
  have hl : lv_has ls 4 [(0, .ref (b 0)), (1, .int x), (2, .int y), (3, .int z)] := hl
  have hP : va_P D vwCl ([hO b, cO b (nI n) (nI k)] : List va_W).flatten s.heap := hP
  have hD : va_D A ([hO b, cO b (nI n) (nI k)] : List va_W).flatten := hD
  refine lv_aload_n hx hb dX8_walk_0 rfl (lv_at hl 0 rfl) ?_
  refine lv_iload_n hx hb dX8_walk_1 rfl (lv_at hl 1 rfl) ?_
  refine ca_v (CL := [hO b, cO b (nI n) (nI k)]) (va_runV (As := [.int x]) (rest := []) ⟨hx, hb, hml, hown, hts⟩ (c_X8_needState_okr l D cY s.heap.size b n k x (by omega) (by omega) (by omega) (by omega) hAa) (cwV 1 hts gX8_walk_X8_needState rfl rfl rfl (by decide +kernel) ⟨Nat.le_of_ble_eq_true rfl, Nat.le_of_ble_eq_true rfl⟩) (b_preV hVK hP hD [0, 1] rfl rfl 0 rfl rfl) rfl rfl hl.1 rfl (lv_room (Nat.le_of_ble_eq_true rfl)) dX8_walk_2 ⟨Nat.zero_le _, Nat.zero_le _⟩) hP hD hS hA [0, 1] rfl rfl (fun _ => rfl) (fun uu H locs hq hP hD hS => ?_)
  have hP : va_P D vwCl ([hO b, cO b (nI n) (nI k)] : List va_W).flatten H := hP
  have hD : va_D A ([hO b, cO b (nI n) (nI k)] : List va_W).flatten := hD
  refine lv_iload_n hx hb dX8_walk_5 rfl (lv_at hl 2 rfl) ?_
  refine lv_iconst (v := nI 0) hx hb dX8_walk_6 (by decide) ?_
  refine lv_ldc (v := 65520) hx hb hown (hts (.constant RX8 178 65520) (by decide +kernel)) dX8_walk_7 ?_
  refine eqi (x' := nI 65520) (by decide) ?_
  rcases Bool.eq_false_or_eq_true (inR y (nI 0) (nI 65520)) with hc9 | hc9
  · -- holds
    refine ca_v (CL := []) (va_runS (As := [.int y, .int (nI 0), .int (nI 65520)]) (rest := []) ⟨hx, hb, hml, hown, hts⟩ (c_X8_needRange_okr l D cY H.size y (nI 0) (nI 65520) hc9) (va_cwS 3 hts gX8_walk_X8_needRange rfl rfl rfl (by decide +kernel) ⟨Nat.le_of_ble_eq_true rfl, Nat.le_of_ble_eq_true rfl⟩) (b_preS hVK hP hD [] rfl rfl) rfl rfl hl.1 rfl (lv_room (Nat.le_of_ble_eq_true rfl)) dX8_walk_9 ⟨Nat.zero_le _, Nat.zero_le _⟩) hP hD hS hA [] rfl rfl (fun _ => rfl) (fun uu H locs hq hP hD hS => ?_)
    have hP : va_P D vwCl ([hO b, cO b (nI n) (nI k)] : List va_W).flatten H := hP
    have hD : va_D A ([hO b, cO b (nI n) (nI k)] : List va_W).flatten := hD
    refine lv_iload_n hx hb dX8_walk_12 rfl (lv_at hl 3 rfl) ?_
    refine lv_iconst (v := nI 0) hx hb dX8_walk_13 (by decide) ?_
    refine lv_sipush (v := nI 1000) hx hb dX8_walk_14 (by decide) ?_
    rcases Bool.eq_false_or_eq_true (inR z (nI 0) (nI 1000)) with hc17 | hc17
    · -- holds
      refine ca_v (CL := []) (va_runS (As := [.int z, .int (nI 0), .int (nI 1000)]) (rest := []) ⟨hx, hb, hml, hown, hts⟩ (c_X8_needRange_okr l D cY H.size z (nI 0) (nI 1000) hc17) (va_cwS 3 hts gX8_walk_X8_needRange rfl rfl rfl (by decide +kernel) ⟨Nat.le_of_ble_eq_true rfl, Nat.le_of_ble_eq_true rfl⟩) (b_preS hVK hP hD [] rfl rfl) rfl rfl hl.1 rfl (lv_room (Nat.le_of_ble_eq_true rfl)) dX8_walk_17 ⟨Nat.zero_le _, Nat.zero_le _⟩) hP hD hS hA [] rfl rfl (fun _ => rfl) (fun uu H locs hq hP hD hS => ?_)
      have hP : va_P D vwCl ([hO b, cO b (nI n) (nI k)] : List va_W).flatten H := hP
      have hD : va_D A ([hO b, cO b (nI n) (nI k)] : List va_W).flatten := hD
      exact (b2 hbad hc9 hc17).elim
    · -- throws
      exact xc_v (CL := []) (vx_runS (As := [.int z, .int (nI 0), .int (nI 1000)]) (rest := []) ⟨hx, hb, hml, hown, hts⟩ (c_X8_needRange_bad l D cY H.size z (nI 0) (nI 1000) hlT hc17) (va_cwS 3 hts gX8_walk_X8_needRange rfl rfl rfl (by decide +kernel) ⟨Nat.le_of_ble_eq_true rfl, Nat.le_of_ble_eq_true rfl⟩) (b_preXS hVK hP hD hS hA hX [] rfl rfl) rfl rfl hl.1 rfl (lv_room (Nat.le_of_ble_eq_true rfl)) dX8_walk_17 ⟨by decide, by decide⟩) hP hD hS hA [] rfl rfl rfl hnx hlocks () rfl (by decide) (by decide)
  · -- throws
    exact xc_v (CL := []) (vx_runS (As := [.int y, .int (nI 0), .int (nI 65520)]) (rest := []) ⟨hx, hb, hml, hown, hts⟩ (c_X8_needRange_bad l D cY H.size y (nI 0) (nI 65520) hlT hc9) (va_cwS 3 hts gX8_walk_X8_needRange rfl rfl rfl (by decide +kernel) ⟨Nat.le_of_ble_eq_true rfl, Nat.le_of_ble_eq_true rfl⟩) (b_preXS hVK hP hD hS hA hX [] rfl rfl) rfl rfl hl.1 rfl (lv_room (Nat.le_of_ble_eq_true rfl)) dX8_walk_9 ⟨by decide, by decide⟩) hP hD hS hA [] rfl rfl rfl hnx hlocks () rfl (by decide) (by decide)

set_option maxHeartbeats 4000000 in
set_option maxRecDepth 100000 in
theorem c_X8_ranked_bad (l : Launch) (D : va_G) (cY : Nat → ClassId) (sz : Nat) (b : Nat → Nat) (n : Nat) (k : Nat) (x : Int32) (hlT : l.stackTraces = false) (hn1 : 1 ≤ n) (hn6 : n ≤ 6) (hk1 : 1 ≤ k) (hk12 : k ≤ 12) (hbad : x < 0) : vx_Met l yX8_ranked wsX8_ranked ({ frames := 12, cells := 1, slots := 6, locals := 320 }) (cPX D cY [.ref (b 0), .int x] [hO b, cO b (nI n) (nI k)] sz) (qI (S := Unit) D cY (fun r uu => False) (fun uu => [hO b, cO b (nI n) (nI k)]) (va_A ([hO b, cO b (nI n) (nI k)] : List va_W).flatten sz)) (qX (S := Unit) D cY "java/lang/IndexOutOfBoundsException" (fun uu => [hO b, cO b (nI n) (nI k)]) (va_A ([hO b, cO b (nI n) (nI k)] : List va_W).flatten sz)) 1 6 (va_A ([hO b, cO b (nI n) (nI k)] : List va_W).flatten sz) := by
  refine mtX (Qc := fun A => qI (S := Unit) D cY (fun r uu => False) (fun uu => [hO b, cO b (nI n) (nI k)]) A) (XC := fun A => qX (S := Unit) D cY "java/lang/IndexOutOfBoundsException" (fun uu => [hO b, cO b (nI n) (nI k)]) A) (cc := cX8_ranked) (maxL := 3) (ret := (some .int)) (by decide) rfl (Nat.le_of_ble_eq_true rfl) ?_
  intro p e s m below meth c A ls hx hb hr hml hts hown hlocks hnm hsz hP hK hVK hD hS hA hX hnx hl
  have hown : s.vm.findClass RX8 = some m.cls := hown
  have hl : lv_has ls 3 [(0, .ref (b 0)), (1, .int x)] := hl
  have hP : va_P D vwCl ([hO b, cO b (nI n) (nI k)] : List va_W).flatten s.heap := hP
  have hD : va_D A ([hO b, cO b (nI n) (nI k)] : List va_W).flatten := hD
  refine lv_iload_n hx hb dX8_ranked_0 rfl (lv_at hl 1 rfl) ?_
  refine lv_if_ge (tgt := 14) hx hb dX8_ranked_1 (by decide) (fun h1 => ?_) (fun h1 => ?_)
  · -- t
    exact absurd hbad (Int32.not_lt.mpr h1)
  · -- f
    obtain ⟨hX1, ⟨a0, a1, a2, a3, a4, k0, k1, k2, k3, k4⟩, hXU, hXN⟩ := hX
    exact vx_throwS (own := RX8) (cls := "java/lang/IndexOutOfBoundsException") (text := "a rank is not below 0") (names := xN) (ik := 163) (is := 165) (ic := 167) hx hb hlT hown (by decide +kernel) (by decide +kernel) (hts (.classLink RX8 163 "java/lang/IndexOutOfBoundsException") (by decide +kernel)) (hts (.initialized "java/lang/IndexOutOfBoundsException") (by decide +kernel)) k1 (x_hat xL2_ok (fun w hw => hts w (by first | exact List.mem_cons_of_mem _ (List.mem_append_right _ hw) | exact List.mem_cons_of_mem _ (List.mem_append_left _ (List.mem_append_right _ hw)))) (fun w hw hm => hX1 w hw (Or.inr (Or.inl hm)))) (by decide +kernel) hXU hXN hS (hl.1.trans hml.symm) dX8_ranked_4 dX8_ranked_7 dX8_ranked_8 dX8_ranked_10 dX8_ranked_13 (fun x hx => (hnx x hx).elim) (by decide) (by decide) (by decide) (by decide) hlocks (x_thr hP hD hS () rfl) hS.2.2 (by decide) (by decide)

set_option maxHeartbeats 4000000 in
set_option maxRecDepth 100000 in
theorem c_X8_share_b1 (l : Launch) (D : va_G) (cY : Nat → ClassId) (sz : Nat) (b : Nat → Nat) (n : Nat) (k : Nat) (x : Int32) (hlT : l.stackTraces = false) (hn1 : 1 ≤ n) (hn6 : n ≤ 6) (hk1 : 1 ≤ k) (hk12 : k ≤ 12) (hbad : inR x (nI 0) (nI (n - 1)) = false) : vx_Met l yX8_share wsX8_share ({ frames := 12, cells := 1, slots := 6, locals := 320 }) (cPX D cY [.ref (b 0), .int x] [hO b, cO b (nI n) (nI k)] sz) (qF (S := Unit) D cY (fun r uu => False) (fun uu => [hO b, cO b (nI n) (nI k)]) (va_A ([hO b, cO b (nI n) (nI k)] : List va_W).flatten sz)) (qX (S := Unit) D cY "java/lang/IndexOutOfBoundsException" (fun uu => [hO b, cO b (nI n) (nI k)]) (va_A ([hO b, cO b (nI n) (nI k)] : List va_W).flatten sz)) 1 6 (va_A ([hO b, cO b (nI n) (nI k)] : List va_W).flatten sz) := by
  refine mtX (Qc := fun A => qF (S := Unit) D cY (fun r uu => False) (fun uu => [hO b, cO b (nI n) (nI k)]) A) (XC := fun A => qX (S := Unit) D cY "java/lang/IndexOutOfBoundsException" (fun uu => [hO b, cO b (nI n) (nI k)]) A) (cc := cX8_share) (maxL := 4) (ret := (some .float)) (by decide) rfl (Nat.le_of_ble_eq_true rfl) ?_
  intro p e s m below meth c A ls hx hb hr hml hts hown hlocks hnm hsz hP hK hVK hD hS hA hX hnx hl
  have hown : s.vm.findClass RX8 = some m.cls := hown
  have hl : lv_has ls 4 [(0, .ref (b 0)), (1, .int x)] := hl
  have hP : va_P D vwCl ([hO b, cO b (nI n) (nI k)] : List va_W).flatten s.heap := hP
  have hD : va_D A ([hO b, cO b (nI n) (nI k)] : List va_W).flatten := hD
  refine lv_aload_n hx hb dX8_share_0 rfl (lv_at hl 0 rfl) ?_
  refine lv_iload_n hx hb dX8_share_1 rfl (lv_at hl 1 rfl) ?_
  exact xc_v (CL := [hO b, cO b (nI n) (nI k)]) (vx_runV (As := [.int x]) (rest := []) ⟨hx, hb, hml, hown, hts⟩ (c_X8_needState_bad l D cY s.heap.size b n k x hlT (by omega) (by omega) (by omega) (by omega) hbad) (cwV 1 hts gX8_share_X8_needState rfl rfl rfl (by decide +kernel) ⟨Nat.le_of_ble_eq_true rfl, Nat.le_of_ble_eq_true rfl⟩) (b_preXV hVK hP hD hS hA hX [0, 1] rfl rfl 0 rfl rfl) rfl rfl hl.1 rfl (lv_room (Nat.le_of_ble_eq_true rfl)) dX8_share_2 ⟨by decide, by decide⟩) hP hD hS hA [0, 1] rfl rfl rfl hnx hlocks () rfl (by decide) (by decide)

set_option maxHeartbeats 4000000 in
set_option maxRecDepth 100000 in
theorem c_X8_share_b2 (l : Launch) (D : va_G) (cY : Nat → ClassId) (sz : Nat) (b : Nat → Nat) (rr : Nat → Nat → Nat) (n : Nat) (k : Nat) (fW : Nat → Nat → Int32) (fRs : Nat → Int64) (fOt : Nat → Int32) (fMi : Nat → Int64) (g : Nat → Nat → Nat) (i : Nat) (hlT : l.stackTraces = false) (hn1 : 1 ≤ n) (hn6 : n ≤ 6) (hk1 : 1 ≤ k) (hk12 : k ≤ 12) (hW : ∀ i j, i < n → j < n → fW i j = nI (cnt (g i) j k)) (hi : i < n) (hbad : WR g n k = lN 0) : vx_Met l yX8_share wsX8_share ({ frames := 12, cells := 1, slots := 6, locals := 320 }) (cPX D cY [.ref (b 0), .int (nI i)] [hO b, cO b (nI n) (nI k), tO b, oQ (cY 2) (b 3) (rr 1) 6, gI (cY 0) (rr 1) 6 fW 6, [(b 12, .inl (cY 1, 6, .inr (.inl fRs)))], [(b 13, .inl (cY 0, 6, .inl fOt))], [(b 14, .inl (cY 1, 32, .inr (.inl fMi)))]] sz) (qF (S := Unit) D cY (fun r uu => False) (fun uu => [hO b, cO b (nI n) (nI k), tO b, oQ (cY 2) (b 3) (rr 1) 6, gI (cY 0) (rr 1) 6 fW 6, [(b 12, .inl (cY 1, 6, .inr (.inl fRs)))], [(b 13, .inl (cY 0, 6, .inl fOt))], [(b 14, .inl (cY 1, 32, .inr (.inl fMi)))]]) (va_A ([hO b, cO b (nI n) (nI k), tO b, oQ (cY 2) (b 3) (rr 1) 6, gI (cY 0) (rr 1) 6 fW 6, [(b 12, .inl (cY 1, 6, .inr (.inl fRs)))], [(b 13, .inl (cY 0, 6, .inl fOt))], [(b 14, .inl (cY 1, 32, .inr (.inl fMi)))]] : List va_W).flatten sz)) (qX (S := (Nat → Int64) × (Nat → Int32) × (Nat → Int64)) D cY "java/lang/IllegalStateException" (fun uu => [hO b, cO b (nI n) (nI k), tO b, oQ (cY 2) (b 3) (rr 1) 6, gI (cY 0) (rr 1) 6 fW 6, [(b 12, .inl (cY 1, 6, .inr (.inl uu.1)))], [(b 13, .inl (cY 0, 6, .inl uu.2.1))], [(b 14, .inl (cY 1, 32, .inr (.inl uu.2.2)))]]) (va_A ([hO b, cO b (nI n) (nI k), tO b, oQ (cY 2) (b 3) (rr 1) 6, gI (cY 0) (rr 1) 6 fW 6, [(b 12, .inl (cY 1, 6, .inr (.inl fRs)))], [(b 13, .inl (cY 0, 6, .inl fOt))], [(b 14, .inl (cY 1, 32, .inr (.inl fMi)))]] : List va_W).flatten sz)) 1 6 (va_A ([hO b, cO b (nI n) (nI k), tO b, oQ (cY 2) (b 3) (rr 1) 6, gI (cY 0) (rr 1) 6 fW 6, [(b 12, .inl (cY 1, 6, .inr (.inl fRs)))], [(b 13, .inl (cY 0, 6, .inl fOt))], [(b 14, .inl (cY 1, 32, .inr (.inl fMi)))]] : List va_W).flatten sz) := by
  refine mtX (Qc := fun A => qF (S := Unit) D cY (fun r uu => False) (fun uu => [hO b, cO b (nI n) (nI k), tO b, oQ (cY 2) (b 3) (rr 1) 6, gI (cY 0) (rr 1) 6 fW 6, [(b 12, .inl (cY 1, 6, .inr (.inl fRs)))], [(b 13, .inl (cY 0, 6, .inl fOt))], [(b 14, .inl (cY 1, 32, .inr (.inl fMi)))]]) A) (XC := fun A => qX (S := (Nat → Int64) × (Nat → Int32) × (Nat → Int64)) D cY "java/lang/IllegalStateException" (fun uu => [hO b, cO b (nI n) (nI k), tO b, oQ (cY 2) (b 3) (rr 1) 6, gI (cY 0) (rr 1) 6 fW 6, [(b 12, .inl (cY 1, 6, .inr (.inl uu.1)))], [(b 13, .inl (cY 0, 6, .inl uu.2.1))], [(b 14, .inl (cY 1, 32, .inr (.inl uu.2.2)))]]) A) (cc := cX8_share) (maxL := 4) (ret := (some .float)) (by decide) rfl (Nat.le_of_ble_eq_true rfl) ?_
  intro p e s m below meth c A ls hx hb hr hml hts hown hlocks hnm hsz hP hK hVK hD hS hA hX hnx hl
  have hown : s.vm.findClass RX8 = some m.cls := hown
  have hl : lv_has ls 4 [(0, .ref (b 0)), (1, .int (nI i))] := hl
  have hP : va_P D vwCl ([hO b, cO b (nI n) (nI k), tO b, oQ (cY 2) (b 3) (rr 1) 6, gI (cY 0) (rr 1) 6 fW 6, [(b 12, .inl (cY 1, 6, .inr (.inl fRs)))], [(b 13, .inl (cY 0, 6, .inl fOt))], [(b 14, .inl (cY 1, 32, .inr (.inl fMi)))]] : List va_W).flatten s.heap := hP
  have hD : va_D A ([hO b, cO b (nI n) (nI k), tO b, oQ (cY 2) (b 3) (rr 1) 6, gI (cY 0) (rr 1) 6 fW 6, [(b 12, .inl (cY 1, 6, .inr (.inl fRs)))], [(b 13, .inl (cY 0, 6, .inl fOt))], [(b 14, .inl (cY 1, 32, .inr (.inl fMi)))]] : List va_W).flatten := hD
  refine lv_aload_n hx hb dX8_share_0 rfl (lv_at hl 0 rfl) ?_
  refine lv_iload_n hx hb dX8_share_1 rfl (lv_at hl 1 rfl) ?_
  refine ca_v (CL := [hO b, cO b (nI n) (nI k)]) (va_runV (As := [.int (nI i)]) (rest := []) ⟨hx, hb, hml, hown, hts⟩ (c_X8_needState_okr l D cY s.heap.size b n k (nI i) (by omega) (by omega) (by omega) (by omega) (inR_t (by omega) (by omega) (by omega))) (cwV 1 hts gX8_share_X8_needState rfl rfl rfl (by decide +kernel) ⟨Nat.le_of_ble_eq_true rfl, Nat.le_of_ble_eq_true rfl⟩) (b_preV hVK hP hD [0, 1] rfl rfl 0 rfl rfl) rfl rfl hl.1 rfl (lv_room (Nat.le_of_ble_eq_true rfl)) dX8_share_2 ⟨Nat.zero_le _, Nat.zero_le _⟩) hP hD hS hA [0, 1] rfl rfl (fun _ => rfl) (fun uu H locs hq hP hD hS => ?_)
  have hP : va_P D vwCl ([hO b, cO b (nI n) (nI k), tO b, oQ (cY 2) (b 3) (rr 1) 6, gI (cY 0) (rr 1) 6 fW 6, [(b 12, .inl (cY 1, 6, .inr (.inl fRs)))], [(b 13, .inl (cY 0, 6, .inl fOt))], [(b 14, .inl (cY 1, 32, .inr (.inl fMi)))]] : List va_W).flatten H := hP
  have hD : va_D A ([hO b, cO b (nI n) (nI k), tO b, oQ (cY 2) (b 3) (rr 1) 6, gI (cY 0) (rr 1) 6 fW 6, [(b 12, .inl (cY 1, 6, .inr (.inl fRs)))], [(b 13, .inl (cY 0, 6, .inl fOt))], [(b 14, .inl (cY 1, 32, .inr (.inl fMi)))]] : List va_W).flatten := hD
  refine lv_aload_n hx hb dX8_share_5 rfl (lv_at hl 0 rfl) ?_
  refine b_get (ci := 8) (v := .ref (b 11)) (C := RX8) (T := TX8) (N := 8) hx hb hts (by decide +kernel) hown hK hP 0 rfl rfl 4 (by decide) (hts (.fieldLink RX8 42 "ChanceHall" "trees" "LChanceHall$Trees;") (by decide +kernel)) (fun _ h9 => h9) rfl dX8_share_6 ?_
  refine ca_l (CL := [tO b, cO b (nI n) (nI k), oQ (cY 2) (b 3) (rr 1) 6, gI (cY 0) (rr 1) 6 fW 6, [(b 12, .inl (cY 1, 6, .inr (.inl fRs)))], [(b 13, .inl (cY 0, 6, .inl fOt))], [(b 14, .inl (cY 1, 32, .inr (.inl fMi)))]]) (va_runV (As := []) (rest := []) ⟨hx, hb, hml, hown, hts⟩ (c_X7_wholeRest l D cY H.size b rr n k fW fRs fOt fMi g (by omega) (by omega) (by omega) (by omega) hW) (cwV 0 hts gX8_share_X7_wholeRest rfl rfl rfl (by decide +kernel) ⟨Nat.le_of_ble_eq_true rfl, Nat.le_of_ble_eq_true rfl⟩) (b_preV hVK hP hD [2, 1, 3, 4, 5, 6, 7] rfl rfl 2 rfl rfl) rfl rfl hl.1 rfl (lv_room (Nat.le_of_ble_eq_true rfl)) dX8_share_9 ⟨Nat.zero_le _, Nat.zero_le _⟩) hP hD hS hA [2, 1, 3, 4, 5, 6, 7] rfl rfl (fun _ => rfl) (fun r9 uu H locs hq hP hD hS => ?_)
  obtain ⟨fRs1_1, fOt1_2, fMi1_3⟩ := uu
  try dsimp only at hq
  obtain ⟨rfl, q9⟩ := hq
  have hP : va_P D vwCl ([hO b, cO b (nI n) (nI k), tO b, oQ (cY 2) (b 3) (rr 1) 6, gI (cY 0) (rr 1) 6 fW 6, [(b 12, .inl (cY 1, 6, .inr (.inl fRs1_1)))], [(b 13, .inl (cY 0, 6, .inl fOt1_2))], [(b 14, .inl (cY 1, 32, .inr (.inl fMi1_3)))]] : List va_W).flatten H := hP
  have hD : va_D A ([hO b, cO b (nI n) (nI k), tO b, oQ (cY 2) (b 3) (rr 1) 6, gI (cY 0) (rr 1) 6 fW 6, [(b 12, .inl (cY 1, 6, .inr (.inl fRs1_1)))], [(b 13, .inl (cY 0, 6, .inl fOt1_2))], [(b 14, .inl (cY 1, 32, .inr (.inl fMi1_3)))]] : List va_W).flatten := hD
  refine lv_lstore_n (lv' := [(2, .long (WR g n k)), (0, .ref (b 0)), (1, .int (nI i))]) hx hb dX8_share_12 rfl hl (by decide) rfl (fun ls hl => ?_)
  refine lv_lload_n hx hb dX8_share_13 rfl (lv_at hl 0 rfl) ?_
  refine lv_lconst (v := lN 0) hx hb dX8_share_14 (by decide) ?_
  refine W.lcmp hx hb dX8_share_15 ?_
  refine l_if_ne (tgt := 29) hx hb dX8_share_16 (by decide) (fun h16 => ?_) (fun h16 => ?_)
  · -- t
    exact absurd hbad h16
  · -- f
    obtain ⟨hX1, ⟨a0, a1, a2, a3, a4, k0, k1, k2, k3, k4⟩, hXU, hXN⟩ := hX
    exact vx_throwS (own := RX8) (cls := "java/lang/IllegalStateException") (text := "the whole rest is 0") (names := xN) (ik := 156) (is := 158) (ic := 160) hx hb hlT hown (by decide +kernel) (by decide +kernel) (hts (.classLink RX8 156 "java/lang/IllegalStateException") (by decide +kernel)) (hts (.initialized "java/lang/IllegalStateException") (by decide +kernel)) k0 (x_hat xL3_ok (fun w hw => hts w (by first | exact List.mem_cons_of_mem _ (List.mem_append_right _ hw) | exact List.mem_cons_of_mem _ (List.mem_append_left _ (List.mem_append_right _ hw)))) (fun w hw hm => hX1 w hw (Or.inr (Or.inr hm)))) (by decide +kernel) hXU hXN hS (hl.1.trans hml.symm) dX8_share_19 dX8_share_22 dX8_share_23 dX8_share_25 dX8_share_28 (fun x hx => (hnx x hx).elim) (by decide) (by decide) (by decide) (by decide) hlocks (x_thr hP hD hS (fRs1_1, fOt1_2, fMi1_3) rfl) hS.2.2 (by decide) (by decide)

