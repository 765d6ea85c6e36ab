set_option maxHeartbeats 4000000 in
set_option maxRecDepth 100000 in
theorem c_X9_thrown (l : Launch) (D : va_G) (cY : Nat → ClassId) (sz : Nat) (a : Nat → Nat) (n : Nat) (k : Nat) (th : Int32)  : Met l yX9_thrown wsX9_thrown ({ frames := 0, cells := 0, slots := 0, locals := 0 }) (cP D cY [.ref (a 0)] [mO a (nI n) (nI k) th] sz) (qI (S := Unit) D cY (fun r u => r = th) (fun u => [mO a (nI n) (nI k) th]) (va_A ([mO a (nI n) (nI k) th] : List va_W).flatten sz)) 0 0 (va_A ([mO a (nI n) (nI k) th] : List va_W).flatten sz) := by
  refine mtB (Qc := fun A => qI (S := Unit) D cY (fun r u => r = th) (fun u => [mO a (nI n) (nI k) th]) A) (cc := cX9_thrown) (maxL := 1) (ret := (some .int)) (by decide) rfl (Nat.le_of_ble_eq_true rfl) ?_
  intro p e s m below meth c A ls hx hb hr hml hts hown hlocks hnm hsz hP hK hVK hD hS hA hl
  have hown : s.vm.findClass RX9 = some m.cls := hown
  have hl : lv_has ls 1 [(0, .ref (a 0))] := hl
  have hP : va_P D vwCl ([mO a (nI n) (nI k) th] : List va_W).flatten s.heap := hP
  have hD : va_D A ([mO a (nI n) (nI k) th] : List va_W).flatten := hD
  refine lv_aload_n hx hb dX9_thrown_0 rfl (lv_at hl 0 rfl) ?_
  refine b_get (ci := 9) (v := .int th) (C := RX9) (T := TX9) (N := 13) hx hb hts (by decide +kernel) hown hK hP 0 rfl rfl 12 (by decide) (hts (.fieldLink RX9 48 "ChanceHallModel" "thrown" "I") (by decide +kernel)) (fun _ h9 => h9) rfl dX9_thrown_1 ?_
  exact r_i hx hb hr hlocks hP hD hS () rfl (rfl) dX9_thrown_4

set_option maxHeartbeats 4000000 in
set_option maxRecDepth 100000 in
theorem c_X9_can (l : Launch) (D : va_G) (cY : Nat → ClassId) (sz : Nat) (a : Nat → Nat) (n : Nat) (k : Nat) (th : Int32) (f : Nat) (hf : f < 3) : Met l yX9_can wsX9_can ({ frames := 0, cells := 0, slots := 0, locals := 0 }) (cP D cY [.ref (a 0), .int (nI f)] [mO a (nI n) (nI k) th] sz) (qI (S := Unit) D cY (fun r u => r = bI (decide (f = 0))) (fun u => [mO a (nI n) (nI k) (nI f)]) (va_A ([mO a (nI n) (nI k) th] : List va_W).flatten sz)) 0 0 (va_A ([mO a (nI n) (nI k) th] : List va_W).flatten sz) := by
  refine mtB (Qc := fun A => qI (S := Unit) D cY (fun r u => r = bI (decide (f = 0))) (fun u => [mO a (nI n) (nI k) (nI f)]) A) (cc := cX9_can) (maxL := 2) (ret := (some .boolean)) (by decide) rfl (Nat.le_of_ble_eq_true rfl) ?_
  intro p e s m below meth c A ls hx hb hr hml hts hown hlocks hnm hsz hP hK hVK hD hS hA hl
  have hown : s.vm.findClass RX9 = some m.cls := hown
  have hl : lv_has ls 2 [(0, .ref (a 0)), (1, .int (nI f))] := hl
  have hP : va_P D vwCl ([mO a (nI n) (nI k) th] : List va_W).flatten s.heap := hP
  have hD : va_D A ([mO a (nI n) (nI k) th] : List va_W).flatten := hD
  refine lv_aload_n hx hb dX9_can_0 rfl (lv_at hl 0 rfl) ?_
  refine lv_iload_n hx hb dX9_can_1 rfl (lv_at hl 1 rfl) ?_
  refine b_put (ci := 9) (v := .int (nI f)) (ty := .int) (C := RX9) (T := TX9) (N := 13) hx hb hts (by decide +kernel) tyX9 tyX9_ok nmX9 hown hK hP hD hS 0 rfl rfl 12 (by decide) (hts (.fieldLink RX9 48 "ChanceHallModel" "thrown" "I") (by decide +kernel)) (fun _ h9 => h9) rfl (by decide +kernel) rfl rfl (Nat.le_of_ble_eq_true rfl) dX9_can_2 (fun H locs hP hD hS => ?_)
  have hP : va_P D vwCl ([mO a (nI n) (nI k) (nI f)] : List va_W).flatten H := hP
  have hD : va_D A ([mO a (nI n) (nI k) (nI f)] : List va_W).flatten := hD
  refine lv_iload_n hx hb dX9_can_5 rfl (lv_at hl 1 rfl) ?_
  refine n_if_ne (tgt := 13) hx hb dX9_can_6 (by decide) (by omega) (fun h6 => ?_) (fun h6 => ?_)
  · -- t
    refine lv_iconst (v := nI 0) hx hb dX9_can_13 (by decide) ?_
    refine eqi (x' := bI false) rfl ?_
    exact r_z hx hb hr hlocks hP hD hS () rfl (by simp [*]) dX9_can_14
  · -- f
    refine lv_iconst (v := nI 1) hx hb dX9_can_9 (by decide) ?_
    refine lv_goto (tgt := 14) hx hb dX9_can_10 (by decide) ?_
    refine eqi (x' := bI true) rfl ?_
    exact r_z hx hb hr hlocks hP hD hS () rfl (by simp [*]) dX9_can_14

set_option maxHeartbeats 4000000 in
set_option maxRecDepth 100000 in
theorem c_X9_isIn (l : Launch) (D : va_G) (cY : Nat → ClassId) (sz : Nat) (x : Int32) (lo : Int32) (hi : Int32)  : Met l yX9_isIn wsX9_isIn ({ frames := 0, cells := 0, slots := 0, locals := 0 }) (cP D cY [.int x, .int lo, .int hi] [] sz) (qI (S := Unit) D cY (fun r u => r = bI (inR x lo hi)) (fun u => []) (va_A ([] : List va_W).flatten sz)) 0 0 (va_A ([] : List va_W).flatten sz) := by
  refine mtB (Qc := fun A => qI (S := Unit) D cY (fun r u => r = bI (inR x lo hi)) (fun u => []) A) (cc := cX9_isIn) (maxL := 3) (ret := (some .boolean)) (by decide) rfl (Nat.le_of_ble_eq_true rfl) ?_
  intro p e s m below meth c A ls hx hb hr hml hts hown hlocks hnm hsz hP hK hVK hD hS hA hl
  have hown : s.vm.findClass RX9 = some m.cls := hown
  have hl : lv_has ls 3 [(0, .int x), (1, .int lo), (2, .int hi)] := hl
  have hP : va_P D vwCl ([] : List va_W).flatten s.heap := hP
  have hD : va_D A ([] : List va_W).flatten := hD
  refine lv_iload_n hx hb dX9_isIn_0 rfl (lv_at hl 0 rfl) ?_
  refine lv_iload_n hx hb dX9_isIn_1 rfl (lv_at hl 1 rfl) ?_
  refine lv_icmp_lt (tgt := 14) hx hb dX9_isIn_2 (by decide) (fun h2 => ?_) (fun h2 => ?_)
  · -- t
    refine lv_iconst (v := nI 0) hx hb dX9_isIn_14 (by decide) ?_
    refine eqi (x' := bI false) rfl ?_
    exact r_z hx hb hr hlocks hP hD hS () rfl (by simp [inR, *]) dX9_isIn_15
  · -- f
    refine lv_iload_n hx hb dX9_isIn_5 rfl (lv_at hl 0 rfl) ?_
    refine lv_iload_n hx hb dX9_isIn_6 rfl (lv_at hl 2 rfl) ?_
    refine lv_icmp_gt (tgt := 14) hx hb dX9_isIn_7 (by decide) (fun h7 => ?_) (fun h7 => ?_)
    · -- t
      refine lv_iconst (v := nI 0) hx hb dX9_isIn_14 (by decide) ?_
      refine eqi (x' := bI false) rfl ?_
      exact r_z hx hb hr hlocks hP hD hS () rfl (by simp [inR, *]) dX9_isIn_15
    · -- f
      refine lv_iconst (v := nI 1) hx hb dX9_isIn_10 (by decide) ?_
      refine lv_goto (tgt := 15) hx hb dX9_isIn_11 (by decide) ?_
      refine eqi (x' := bI true) rfl ?_
      exact r_z hx hb hr hlocks hP hD hS () rfl (by simp [inR, *]) dX9_isIn_15

set_option maxHeartbeats 4000000 in
set_option maxRecDepth 100000 in
theorem c_X9_isState (l : Launch) (D : va_G) (cY : Nat → ClassId) (sz : Nat) (a : Nat → Nat) (n : Nat) (k : Nat) (th : Int32) (x : Int32) (hn1 : 1 ≤ n) : Met l yX9_isState wsX9_isState ({ frames := 1, cells := 0, slots := 0, locals := 40 }) (cP D cY [.ref (a 0), .int x] [mO a (nI n) (nI k) th] sz) (qI (S := Unit) D cY (fun r u => r = bI (inR x (nI 0) (nI (n - 1)))) (fun u => [mO a (nI n) (nI k) th]) (va_A ([mO a (nI n) (nI k) th] : List va_W).flatten sz)) 0 0 (va_A ([mO a (nI n) (nI k) th] : List va_W).flatten sz) := by
  refine mtB (Qc := fun A => qI (S := Unit) D cY (fun r u => r = bI (inR x (nI 0) (nI (n - 1)))) (fun u => [mO a (nI n) (nI k) th]) A) (cc := cX9_isState) (maxL := 2) (ret := (some .boolean)) (by decide) rfl (Nat.le_of_ble_eq_true rfl) ?_
  intro p e s m below meth c A ls hx hb hr hml hts hown hlocks hnm hsz hP hK hVK hD hS hA hl
  have hown : s.vm.findClass RX9 = some m.cls := hown
  have hl : lv_has ls 2 [(0, .ref (a 0)), (1, .int x)] := hl
  have hP : va_P D vwCl ([mO a (nI n) (nI k) th] : List va_W).flatten s.heap := hP
  have hD : va_D A ([mO a (nI n) (nI k) th] : List va_W).flatten := hD
  refine lv_iload_n hx hb dX9_isState_0 rfl (lv_at hl 1 rfl) ?_
  refine lv_iconst (v := nI 0) hx hb dX9_isState_1 (by decide) ?_
  refine lv_aload_n hx hb dX9_isState_2 rfl (lv_at hl 0 rfl) ?_
  refine b_get (ci := 9) (v := .int (nI n)) (C := RX9) (T := TX9) (N := 13) hx hb hts (by decide +kernel) hown hK hP 0 rfl rfl 0 (by decide) (hts (.fieldLink RX9 7 "ChanceHallModel" "states" "I") (by decide +kernel)) (fun _ h9 => h9) rfl dX9_isState_3 ?_
  refine lv_iconst (v := nI 1) hx hb dX9_isState_6 (by decide) ?_
  refine lv_isub hx hb dX9_isState_7 ?_
  refine eqi (x' := nI (n - 1)) (pk_sub (by omega)) ?_
  refine ca_i (CL := []) (va_runS (As := [.int x, .int (nI 0), .int (nI (n - 1))]) (rest := []) ⟨hx, hb, hml, hown, hts⟩ (c_X9_isIn l D cY s.heap.size x (nI 0) (nI (n - 1))) (va_cwS 3 hts gX9_isState_X9_isIn rfl rfl rfl (by decide +kernel) ⟨Nat.le_of_ble_eq_true rfl, Nat.le_of_ble_eq_true rfl⟩) (b_preS hVK hP hD [] rfl rfl) rfl rfl hl.1 rfl (lv_room (Nat.le_of_ble_eq_true rfl)) dX9_isState_8 ⟨Nat.le_refl _, Nat.le_refl _⟩) hP hD hS hA [] rfl rfl (fun _ => rfl) (fun r8 uu H locs hq hP hD hS => ?_)
  subst hq
  have hP : va_P D vwCl ([mO a (nI n) (nI k) th] : List va_W).flatten H := hP
  have hD : va_D A ([mO a (nI n) (nI k) th] : List va_W).flatten := hD
  exact r_z hx hb hr hlocks hP hD hS () rfl (rfl) dX9_isState_11

set_option maxHeartbeats 4000000 in
set_option maxRecDepth 100000 in
theorem c_X9_isSlot (l : Launch) (D : va_G) (cY : Nat → ClassId) (sz : Nat) (a : Nat → Nat) (n : Nat) (k : Nat) (th : Int32) (x : Int32) (hk1 : 1 ≤ k) : Met l yX9_isSlot wsX9_isSlot ({ frames := 1, cells := 0, slots := 0, locals := 40 }) (cP D cY [.ref (a 0), .int x] [mO a (nI n) (nI k) th] sz) (qI (S := Unit) D cY (fun r u => r = bI (inR x (nI 0) (nI (k - 1)))) (fun u => [mO a (nI n) (nI k) th]) (va_A ([mO a (nI n) (nI k) th] : List va_W).flatten sz)) 0 0 (va_A ([mO a (nI n) (nI k) th] : List va_W).flatten sz) := by
  refine mtB (Qc := fun A => qI (S := Unit) D cY (fun r u => r = bI (inR x (nI 0) (nI (k - 1)))) (fun u => [mO a (nI n) (nI k) th]) A) (cc := cX9_isSlot) (maxL := 2) (ret := (some .boolean)) (by decide) rfl (Nat.le_of_ble_eq_true rfl) ?_
  intro p e s m below meth c A ls hx hb hr hml hts hown hlocks hnm hsz hP hK hVK hD hS hA hl
  have hown : s.vm.findClass RX9 = some m.cls := hown
  have hl : lv_has ls 2 [(0, .ref (a 0)), (1, .int x)] := hl
  have hP : va_P D vwCl ([mO a (nI n) (nI k) th] : List va_W).flatten s.heap := hP
  have hD : va_D A ([mO a (nI n) (nI k) th] : List va_W).flatten := hD
  refine lv_iload_n hx hb dX9_isSlot_0 rfl (lv_at hl 1 rfl) ?_
  refine lv_iconst (v := nI 0) hx hb dX9_isSlot_1 (by decide) ?_
  refine lv_aload_n hx hb dX9_isSlot_2 rfl (lv_at hl 0 rfl) ?_
  refine b_get (ci := 9) (v := .int (nI k)) (C := RX9) (T := TX9) (N := 13) hx hb hts (by decide +kernel) hown hK hP 0 rfl rfl 1 (by decide) (hts (.fieldLink RX9 13 "ChanceHallModel" "slots" "I") (by decide +kernel)) (fun _ h9 => h9) rfl dX9_isSlot_3 ?_
  refine lv_iconst (v := nI 1) hx hb dX9_isSlot_6 (by decide) ?_
  refine lv_isub hx hb dX9_isSlot_7 ?_
  refine eqi (x' := nI (k - 1)) (pk_sub (by omega)) ?_
  refine ca_i (CL := []) (va_runS (As := [.int x, .int (nI 0), .int (nI (k - 1))]) (rest := []) ⟨hx, hb, hml, hown, hts⟩ (c_X9_isIn l D cY s.heap.size x (nI 0) (nI (k - 1))) (va_cwS 3 hts gX9_isSlot_X9_isIn rfl rfl rfl (by decide +kernel) ⟨Nat.le_of_ble_eq_true rfl, Nat.le_of_ble_eq_true rfl⟩) (b_preS hVK hP hD [] rfl rfl) rfl rfl hl.1 rfl (lv_room (Nat.le_of_ble_eq_true rfl)) dX9_isSlot_8 ⟨Nat.le_refl _, Nat.le_refl _⟩) hP hD hS hA [] rfl rfl (fun _ => rfl) (fun r8 uu H locs hq hP hD hS => ?_)
  subst hq
  have hP : va_P D vwCl ([mO a (nI n) (nI k) th] : List va_W).flatten H := hP
  have hD : va_D A ([mO a (nI n) (nI k) th] : List va_W).flatten := hD
  exact r_z hx hb hr hlocks hP hD hS () rfl (rfl) dX9_isSlot_11

set_option maxHeartbeats 4000000 in
set_option maxRecDepth 100000 in
theorem c_X9_areSteps (l : Launch) (D : va_G) (cY : Nat → ClassId) (sz : Nat) (x : Int32)  : Met l yX9_areSteps wsX9_areSteps ({ frames := 1, cells := 0, slots := 0, locals := 40 }) (cP D cY [.int x] [] sz) (qI (S := Unit) D cY (fun r u => r = bI (inR x (nI 0) (nI 12))) (fun u => []) (va_A ([] : List va_W).flatten sz)) 0 0 (va_A ([] : List va_W).flatten sz) := by
  refine mtB (Qc := fun A => qI (S := Unit) D cY (fun r u => r = bI (inR x (nI 0) (nI 12))) (fun u => []) A) (cc := cX9_areSteps) (maxL := 1) (ret := (some .boolean)) (by decide) rfl (Nat.le_of_ble_eq_true rfl) ?_
  intro p e s m below meth c A ls hx hb hr hml hts hown hlocks hnm hsz hP hK hVK hD hS hA hl
  have hown : s.vm.findClass RX9 = some m.cls := hown
  have hl : lv_has ls 1 [(0, .int x)] := hl
  have hP : va_P D vwCl ([] : List va_W).flatten s.heap := hP
  have hD : va_D A ([] : List va_W).flatten := hD
  refine lv_iload_n hx hb dX9_areSteps_0 rfl (lv_at hl 0 rfl) ?_
  refine lv_iconst (v := nI 0) hx hb dX9_areSteps_1 (by decide) ?_
  refine lv_bipush (v := nI 12) hx hb dX9_areSteps_2 (by decide) ?_
  refine ca_i (CL := []) (va_runS (As := [.int x, .int (nI 0), .int (nI 12)]) (rest := []) ⟨hx, hb, hml, hown, hts⟩ (c_X9_isIn l D cY s.heap.size x (nI 0) (nI 12)) (va_cwS 3 hts gX9_areSteps_X9_isIn rfl rfl rfl (by decide +kernel) ⟨Nat.le_of_ble_eq_true rfl, Nat.le_of_ble_eq_true rfl⟩) (b_preS hVK hP hD [] rfl rfl) rfl rfl hl.1 rfl (lv_room (Nat.le_of_ble_eq_true rfl)) dX9_areSteps_4 ⟨Nat.le_refl _, Nat.le_refl _⟩) hP hD hS hA [] rfl rfl (fun _ => rfl) (fun r4 uu H locs hq hP hD hS => ?_)
  subst hq
  have hP : va_P D vwCl ([] : List va_W).flatten H := hP
  have hD : va_D A ([] : List va_W).flatten := hD
  exact r_z hx hb hr hlocks hP hD hS () rfl (rfl) dX9_areSteps_7

set_option maxHeartbeats 4000000 in
set_option maxRecDepth 100000 in
theorem c_X9_goes (l : Launch) (D : va_G) (cY : Nat → ClassId) (sz : Nat) (a : Nat → Nat) (n : Nat) (k : Nat) (th : Int32) (fto : Nat → Int32) (g : Nat → Nat → Nat) (i : Nat) (j : Nat) (hn1 : 1 ≤ n) (hn6 : n ≤ 6) (hk1 : 1 ≤ k) (hk12 : k ≤ 12) (hG : ∀ i j, i < n → j < k → fto (12 * i + j) = nI (g i j)) (hi : i < n) (hj : j < k) : Met l yX9_goes wsX9_goes ({ frames := 0, cells := 0, slots := 0, locals := 0 }) (cP D cY [.ref (a 0), .int (nI i), .int (nI j)] [mO a (nI n) (nI k) th, [(a 1, .inl (cY 0, 72, .inl fto))]] sz) (qI (S := Unit) D cY (fun r u => r = nI (g i j)) (fun u => [mO a (nI n) (nI k) th, [(a 1, .inl (cY 0, 72, .inl fto))]]) (va_A ([mO a (nI n) (nI k) th, [(a 1, .inl (cY 0, 72, .inl fto))]] : List va_W).flatten sz)) 0 0 (va_A ([mO a (nI n) (nI k) th, [(a 1, .inl (cY 0, 72, .inl fto))]] : List va_W).flatten sz) := by
  refine mtB (Qc := fun A => qI (S := Unit) D cY (fun r u => r = nI (g i j)) (fun u => [mO a (nI n) (nI k) th, [(a 1, .inl (cY 0, 72, .inl fto))]]) A) (cc := cX9_goes) (maxL := 3) (ret := (some .int)) (by decide) rfl (Nat.le_of_ble_eq_true rfl) ?_
  intro p e s m below meth c A ls hx hb hr hml hts hown hlocks hnm hsz hP hK hVK hD hS hA hl
  have hown : s.vm.findClass RX9 = some m.cls := hown
  have hl : lv_has ls 3 [(0, .ref (a 0)), (1, .int (nI i)), (2, .int (nI j))] := hl
  have hP : va_P D vwCl ([mO a (nI n) (nI k) th, [(a 1, .inl (cY 0, 72, .inl fto))]] : List va_W).flatten s.heap := hP
  have hD : va_D A ([mO a (nI n) (nI k) th, [(a 1, .inl (cY 0, 72, .inl fto))]] : List va_W).flatten := hD
  refine lv_aload_n hx hb dX9_goes_0 rfl (lv_at hl 0 rfl) ?_
  refine b_get (ci := 9) (v := .ref (a 1)) (C := RX9) (T := TX9) (N := 13) hx hb hts (by decide +kernel) hown hK hP 0 rfl rfl 2 (by decide) (hts (.fieldLink RX9 16 "ChanceHallModel" "to" "[I") (by decide +kernel)) (fun _ h9 => h9) rfl dX9_goes_1 ?_
  refine lv_bipush (v := nI 12) hx hb dX9_goes_4 (by decide) ?_
  refine lv_iload_n hx hb dX9_goes_6 rfl (lv_at hl 1 rfl) ?_
  refine lv_imul hx hb dX9_goes_7 ?_
  refine eqi (x' := nI (12 * i)) (pk_mul _ _) ?_
  refine lv_iload_n hx hb dX9_goes_8 rfl (lv_at hl 2 rfl) ?_
  refine lv_iadd hx hb dX9_goes_9 ?_
  refine eqi (x' := nI (12 * i + j)) (nI_add _ _) ?_
  refine b_iald hx hb hK hP 1 0 rfl rfl (by omega) (by decide) dX9_goes_10 ?_
  exact r_i hx hb hr hlocks hP hD hS () rfl (hG i j hi hj) dX9_goes_11

set_option maxHeartbeats 4000000 in
set_option maxRecDepth 100000 in
theorem c_X9_weigh (l : Launch) (D : va_G) (cY : Nat → ClassId) (sz : Nat) (a : Nat → Nat) (n : Nat) (k : Nat) (th : Int32) (fto : Nat → Int32) (g : Nat → Nat → Nat) (i : Nat) (b : Nat) (hn1 : 1 ≤ n) (hn6 : n ≤ 6) (hk1 : 1 ≤ k) (hk12 : k ≤ 12) (hG : ∀ i j, i < n → j < k → fto (12 * i + j) = nI (g i j)) (hgn : ∀ i j, i < n → j < k → g i j < n) (hi : i < n) (hb6 : b < 12) : Met l yX9_weigh wsX9_weigh ({ frames := 1, cells := 0, slots := 0, locals := 40 }) (cP D cY [.ref (a 0), .int (nI i), .int (nI b)] [mO a (nI n) (nI k) th, [(a 1, .inl (cY 0, 72, .inl fto))]] sz) (qI (S := Unit) D cY (fun r u => r = nI (cnt (g i) b k)) (fun u => [mO a (nI n) (nI k) th, [(a 1, .inl (cY 0, 72, .inl fto))]]) (va_A ([mO a (nI n) (nI k) th, [(a 1, .inl (cY 0, 72, .inl fto))]] : List va_W).flatten sz)) 0 0 (va_A ([mO a (nI n) (nI k) th, [(a 1, .inl (cY 0, 72, .inl fto))]] : List va_W).flatten sz) := by
  refine mtB (Qc := fun A => qI (S := Unit) D cY (fun r u => r = nI (cnt (g i) b k)) (fun u => [mO a (nI n) (nI k) th, [(a 1, .inl (cY 0, 72, .inl fto))]]) A) (cc := cX9_weigh) (maxL := 5) (ret := (some .int)) (by decide) rfl (Nat.le_of_ble_eq_true rfl) ?_
  intro p e s m below meth c A ls hx hb hr hml hts hown hlocks hnm hsz hP hK hVK hD hS hA hl
  have hown : s.vm.findClass RX9 = some m.cls := hown
  have hl : lv_has ls 5 [(0, .ref (a 0)), (1, .int (nI i)), (2, .int (nI b))] := hl
  have hP : va_P D vwCl ([mO a (nI n) (nI k) th, [(a 1, .inl (cY 0, 72, .inl fto))]] : List va_W).flatten s.heap := hP
  have hD : va_D A ([mO a (nI n) (nI k) th, [(a 1, .inl (cY 0, 72, .inl fto))]] : List va_W).flatten := hD
  refine lv_iconst (v := nI 0) hx hb dX9_weigh_0 (by decide) ?_
  refine lv_istore_n (lv' := [(3, .int (nI 0)), (0, .ref (a 0)), (1, .int (nI i)), (2, .int (nI b))]) hx hb dX9_weigh_1 rfl hl (by decide) rfl (fun ls hl => ?_)
  refine lv_iconst (v := nI 0) hx hb dX9_weigh_2 (by decide) ?_
  refine lv_istore (lv' := [(4, .int (nI 0)), (3, .int (nI 0)), (0, .ref (a 0)), (1, .int (nI i)), (2, .int (nI b))]) hx hb dX9_weigh_3 hl (by decide) rfl (fun ls hl => ?_)
  have L5 : ∀ t : Nat, t ≤ k →  ∀ (H : Heap) (locs : List Loc), va_P D vwCl ([mO a (nI n) (nI k) th, [(a 1, .inl (cY 0, 72, .inl fto))]] : List va_W).flatten H → va_D A ([mO a (nI n) (nI k) th, [(a 1, .inl (cY 0, 72, .inl fto))]] : List va_W).flatten → va_S A s.heap H locs → ∀ (ls : Array Slot), lv_has ls 5 [(0, .ref (a 0)), (1, .int (nI i)), (2, .int (nI b)), (3, .int (nI (cnt (g i) b t))), (4, .int (nI t))] → W p l e ({ frames := 1, cells := 0, slots := 0, locals := 40 }) s m ([.ref (a 0), .int (nI i), .int (nI b)] : List Value).toArray below meth c H locs 0 0 (MQ below (qI (S := Unit) D cY (fun r u => r = nI (cnt (g i) b k)) (fun u => [mO a (nI n) (nI k) th, [(a 1, .inl (cY 0, 72, .inl fto))]]) A) ([.ref (a 0), .int (nI i), .int (nI b)] : List Value).toArray s 0 0 A) (F0 m 5 ls []) := by
    refine lpW k ?_
    intro t bt ih5   H locs hP hD hS ls hl
    refine lv_iload hx hb dX9_weigh_5 (lv_at hl 4 rfl) ?_
    refine lv_aload_n hx hb dX9_weigh_7 rfl (lv_at hl 0 rfl) ?_
    refine b_get (ci := 9) (v := .int (nI k)) (C := RX9) (T := TX9) (N := 13) hx hb hts (by decide +kernel) hown hK hP 0 rfl rfl 1 (by decide) (hts (.fieldLink RX9 13 "ChanceHallModel" "slots" "I") (by decide +kernel)) (fun _ h9 => h9) rfl dX9_weigh_8 ?_
    refine n_icmp_ge (tgt := 39) hx hb dX9_weigh_11 (by decide) (by omega) (by omega) (fun h11 => ?_) (fun h11 => ?_)
    · -- t
      refine lv_iload_n hx hb dX9_weigh_39 rfl (lv_at hl 3 rfl) ?_
      exact r_i hx hb hr hlocks hP hD hS () rfl (by (have e : t = k := by omega); subst e; rfl) dX9_weigh_40
    · -- f
      refine lv_iload_n hx hb dX9_weigh_14 rfl (lv_at hl 3 rfl) ?_
      refine lv_aload_n hx hb dX9_weigh_15 rfl (lv_at hl 0 rfl) ?_
      refine lv_iload_n hx hb dX9_weigh_16 rfl (lv_at hl 1 rfl) ?_
      refine lv_iload hx hb dX9_weigh_17 (lv_at hl 4 rfl) ?_
      refine ca_i (CL := [mO a (nI n) (nI k) th, [(a 1, .inl (cY 0, 72, .inl fto))]]) (va_runV (As := [.int (nI i), .int (nI t)]) (rest := [.int (nI (cnt (g i) b t))]) ⟨hx, hb, hml, hown, hts⟩ (c_X9_goes l D cY H.size a n k th fto g i t (by omega) (by omega) (by omega) (by omega) hG (by omega) (by omega)) (cwV 2 hts gX9_weigh_X9_goes rfl rfl rfl (by decide +kernel) ⟨Nat.le_of_ble_eq_true rfl, Nat.le_of_ble_eq_true rfl⟩) (b_preV hVK hP hD [0, 1] rfl rfl 0 rfl rfl) rfl rfl hl.1 rfl (lv_room (Nat.le_of_ble_eq_true rfl)) dX9_weigh_19 ⟨Nat.le_refl _, Nat.le_refl _⟩) hP hD hS hA [0, 1] rfl rfl (fun _ => rfl) (fun r19 uu H locs hq hP hD hS => ?_)
      subst hq
      have hP : va_P D vwCl ([mO a (nI n) (nI k) th, [(a 1, .inl (cY 0, 72, .inl fto))]] : List va_W).flatten H := hP
      have hD : va_D A ([mO a (nI n) (nI k) th, [(a 1, .inl (cY 0, 72, .inl fto))]] : List va_W).flatten := hD
      have hgi := hgn i t hi (by omega)
      refine lv_iload_n hx hb dX9_weigh_22 rfl (lv_at hl 2 rfl) ?_
      refine n_icmp_ne (tgt := 30) hx hb dX9_weigh_23 (by decide) (by omega) (by omega) (fun h23 => ?_) (fun h23 => ?_)
      · -- t
        refine lv_iconst (v := nI 0) hx hb dX9_weigh_30 (by decide) ?_
        refine lv_iadd hx hb dX9_weigh_31 ?_
        refine eqi (x' := nI (cnt (g i) b t)) (nI_add _ _) ?_
        refine eqi (x' := nI (cnt (g i) b (t + 1))) (congrArg nI (by simp [cnt, h23])) ?_
        refine lv_istore_n (lv' := [(3, .int (nI (cnt (g i) b (t + 1)))), (0, .ref (a 0)), (1, .int (nI i)), (2, .int (nI b)), (4, .int (nI t))]) hx hb dX9_weigh_32 rfl hl (by decide) rfl (fun ls hl => ?_)
        refine lv_iinc (v := nI (t + 1)) (lv' := [(4, .int (nI (t + 1))), (3, .int (nI (cnt (g i) b (t + 1)))), (0, .ref (a 0)), (1, .int (nI i)), (2, .int (nI b))]) hx hb dX9_weigh_33 hl (k := 4) rfl (nI_1 t) (by decide) rfl (fun ls hl => ?_)
        refine lv_goto (tgt := 5) hx hb dX9_weigh_36 (by decide) ?_
        exact ih5 (by omega)   _ _ hP hD hS _ (lv_sub hl [2, 3, 4, 1, 0] rfl)
      · -- f
        refine lv_iconst (v := nI 1) hx hb dX9_weigh_26 (by decide) ?_
        refine lv_goto (tgt := 31) hx hb dX9_weigh_27 (by decide) ?_
        refine lv_iadd hx hb dX9_weigh_31 ?_
        refine eqi (x' := nI (cnt (g i) b t + 1)) (nI_add _ _) ?_
        refine eqi (x' := nI (cnt (g i) b (t + 1))) (congrArg nI (by simp [cnt, h23])) ?_
        refine lv_istore_n (lv' := [(3, .int (nI (cnt (g i) b (t + 1)))), (0, .ref (a 0)), (1, .int (nI i)), (2, .int (nI b)), (4, .int (nI t))]) hx hb dX9_weigh_32 rfl hl (by decide) rfl (fun ls hl => ?_)
        refine lv_iinc (v := nI (t + 1)) (lv' := [(4, .int (nI (t + 1))), (3, .int (nI (cnt (g i) b (t + 1)))), (0, .ref (a 0)), (1, .int (nI i)), (2, .int (nI b))]) hx hb dX9_weigh_33 hl (k := 4) rfl (nI_1 t) (by decide) rfl (fun ls hl => ?_)
        refine lv_goto (tgt := 5) hx hb dX9_weigh_36 (by decide) ?_
        exact ih5 (by omega)   _ _ hP hD hS _ (lv_sub hl [2, 3, 4, 1, 0] rfl)
  exact L5 0 (by omega)   _ _ hP hD hS _ (lv_sub hl [2, 3, 4, 1, 0] rfl)

set_option maxHeartbeats 4000000 in
set_option maxRecDepth 100000 in
theorem c_X9_power (l : Launch) (D : va_G) (cY : Nat → ClassId) (sz : Nat) (a : Nat → Nat) (n : Nat) (k : Nat) (th : Int32) (t : Nat) (hn1 : 1 ≤ n) (hn6 : n ≤ 6) (hk1 : 1 ≤ k) (hk12 : k ≤ 12) (ht : t < 13) : Met l yX9_power wsX9_power ({ frames := 0, cells := 0, slots := 0, locals := 0 }) (cP D cY [.ref (a 0), .int (nI t)] [mO a (nI n) (nI k) th] sz) (qL (S := Unit) D cY (fun r u => r = lN (k ^ t)) (fun u => [mO a (nI n) (nI k) th]) (va_A ([mO a (nI n) (nI k) th] : List va_W).flatten sz)) 0 0 (va_A ([mO a (nI n) (nI k) th] : List va_W).flatten sz) := by
  refine mtB (Qc := fun A => qL (S := Unit) D cY (fun r u => r = lN (k ^ t)) (fun u => [mO a (nI n) (nI k) th]) A) (cc := cX9_power) (maxL := 5) (ret := (some .long)) (by decide) rfl (Nat.le_of_ble_eq_true rfl) ?_
  intro p e s m below meth c A ls hx hb hr hml hts hown hlocks hnm hsz hP hK hVK hD hS hA hl
  have hown : s.vm.findClass RX9 = some m.cls := hown
  have hl : lv_has ls 5 [(0, .ref (a 0)), (1, .int (nI t))] := hl
  have hP : va_P D vwCl ([mO a (nI n) (nI k) th] : List va_W).flatten s.heap := hP
  have hD : va_D A ([mO a (nI n) (nI k) th] : List va_W).flatten := hD
  refine lv_lconst (v := lN 1) hx hb dX9_power_0 (by decide) ?_
  refine lv_lstore_n (lv' := [(2, .long (lN 1)), (0, .ref (a 0)), (1, .int (nI t))]) hx hb dX9_power_1 rfl hl (by decide) rfl (fun ls hl => ?_)
  refine lv_iconst (v := nI 0) hx hb dX9_power_2 (by decide) ?_
  refine lv_istore (lv' := [(4, .int (nI 0)), (2, .long (lN 1)), (0, .ref (a 0)), (1, .int (nI t))]) hx hb dX9_power_3 hl (by decide) rfl (fun ls hl => ?_)
  have L5 : ∀ q : Nat, q ≤ t →  ∀ (H : Heap) (locs : List Loc), va_P D vwCl ([mO a (nI n) (nI k) th] : List va_W).flatten H → va_D A ([mO a (nI n) (nI k) th] : List va_W).flatten → va_S A s.heap H locs → ∀ (ls : Array Slot), lv_has ls 5 [(0, .ref (a 0)), (1, .int (nI t)), (2, .long (lN (k ^ q))), (4, .int (nI q))] → W p l e ({ frames := 0, cells := 0, slots := 0, locals := 0 }) s m ([.ref (a 0), .int (nI t)] : List Value).toArray below meth c H locs 0 0 (MQ below (qL (S := Unit) D cY (fun r u => r = lN (k ^ t)) (fun u => [mO a (nI n) (nI k) th]) A) ([.ref (a 0), .int (nI t)] : List Value).toArray s 0 0 A) (F0 m 5 ls []) := by
    refine lpW t ?_
    intro q bq ih5   H locs hP hD hS ls hl
    refine lv_iload hx hb dX9_power_5 (lv_at hl 3 rfl) ?_
    refine lv_iload_n hx hb dX9_power_7 rfl (lv_at hl 1 rfl) ?_
    refine n_icmp_ge (tgt := 25) hx hb dX9_power_8 (by decide) (by omega) (by omega) (fun h8 => ?_) (fun h8 => ?_)
    · -- t
      refine lv_lload_n hx hb dX9_power_25 rfl (lv_at hl 2 rfl) ?_
      exact r_l hx hb hr hlocks hP hD hS () rfl (by (have e : q = t := by omega); subst e; rfl) dX9_power_26
    · -- f
      refine lv_lload_n hx hb dX9_power_11 rfl (lv_at hl 2 rfl) ?_
      refine lv_aload_n hx hb dX9_power_12 rfl (lv_at hl 0 rfl) ?_
      refine b_get (ci := 9) (v := .int (nI k)) (C := RX9) (T := TX9) (N := 13) hx hb hts (by decide +kernel) hown hK hP 0 rfl rfl 1 (by decide) (hts (.fieldLink RX9 13 "ChanceHallModel" "slots" "I") (by decide +kernel)) (fun _ h9 => h9) rfl dX9_power_13 ?_
      refine lv_i2l (v := lN k) hx hb dX9_power_16 (nI_l (by omega)) ?_
      refine lv_lmul hx hb dX9_power_17 ?_
      refine eql (x' := lN ((k ^ q) * k)) (lN_mul _ _) ?_
      refine lv_lstore_n (lv' := [(2, .long (lN ((k ^ q) * k))), (0, .ref (a 0)), (1, .int (nI t)), (4, .int (nI q))]) hx hb dX9_power_18 rfl hl (by decide) rfl (fun ls hl => ?_)
      refine lv_iinc (v := nI (q + 1)) (lv' := [(4, .int (nI (q + 1))), (2, .long (lN ((k ^ q) * k))), (0, .ref (a 0)), (1, .int (nI t))]) hx hb dX9_power_19 hl (k := 3) rfl (nI_1 q) (by decide) rfl (fun ls hl => ?_)
      refine lv_goto (tgt := 5) hx hb dX9_power_22 (by decide) ?_
      exact ih5 (by omega)   _ _ hP hD hS _ (lv_sub hl [2, 3, 1, 0] rfl)
  exact L5 0 (by omega)   _ _ hP hD hS _ (lv_sub hl [2, 3, 1, 0] rfl)

set_option maxHeartbeats 4000000 in
set_option maxRecDepth 100000 in
theorem c_X9_keeps (l : Launch) (D : va_G) (cY : Nat → ClassId) (sz : Nat) (a : Nat → Nat) (n : Nat) (k : Nat) (th : Int32) (fnow : Nat → Int64) (fthn : Nat → Int64)  : Met l yX9_keeps wsX9_keeps ({ frames := 0, cells := 0, slots := 0, locals := 0 }) (cP D cY [.ref (a 0)] [mO a (nI n) (nI k) th, [(a 4, .inl (cY 1, 64, .inr (.inl fnow)))], [(a 5, .inl (cY 1, 64, .inr (.inl fthn)))]] sz) (qV (S := (Nat → Int64) × (Nat → Int64)) D cY (fun u => ∀ j, j < 64 → u.1 j = lN 0 ∧ u.2 j = fnow j) (fun u => [mO a (nI n) (nI k) th, [(a 4, .inl (cY 1, 64, .inr (.inl u.1)))], [(a 5, .inl (cY 1, 64, .inr (.inl u.2)))]]) (va_A ([mO a (nI n) (nI k) th, [(a 4, .inl (cY 1, 64, .inr (.inl fnow)))], [(a 5, .inl (cY 1, 64, .inr (.inl fthn)))]] : List va_W).flatten sz)) 0 0 (va_A ([mO a (nI n) (nI k) th, [(a 4, .inl (cY 1, 64, .inr (.inl fnow)))], [(a 5, .inl (cY 1, 64, .inr (.inl fthn)))]] : List va_W).flatten sz) := by
  refine mtB (Qc := fun A => qV (S := (Nat → Int64) × (Nat → Int64)) D cY (fun u => ∀ j, j < 64 → u.1 j = lN 0 ∧ u.2 j = fnow j) (fun u => [mO a (nI n) (nI k) th, [(a 4, .inl (cY 1, 64, .inr (.inl u.1)))], [(a 5, .inl (cY 1, 64, .inr (.inl u.2)))]]) A) (cc := cX9_keeps) (maxL := 2) (ret := none) (by decide) rfl (Nat.le_of_ble_eq_true rfl) ?_
  intro p e s m below meth c A ls hx hb hr hml hts hown hlocks hnm hsz hP hK hVK hD hS hA hl
  have hown : s.vm.findClass RX9 = some m.cls := hown
  have hl : lv_has ls 2 [(0, .ref (a 0))] := hl
  have hP : va_P D vwCl ([mO a (nI n) (nI k) th, [(a 4, .inl (cY 1, 64, .inr (.inl fnow)))], [(a 5, .inl (cY 1, 64, .inr (.inl fthn)))]] : List va_W).flatten s.heap := hP
  have hD : va_D A ([mO a (nI n) (nI k) th, [(a 4, .inl (cY 1, 64, .inr (.inl fnow)))], [(a 5, .inl (cY 1, 64, .inr (.inl fthn)))]] : List va_W).flatten := hD
  refine lv_iconst (v := nI 0) hx hb dX9_keeps_0 (by decide) ?_
  refine lv_istore_n (lv' := [(1, .int (nI 0)), (0, .ref (a 0))]) hx hb dX9_keeps_1 rfl hl (by decide) rfl (fun ls hl => ?_)
  have L2 : ∀ q : Nat, q ≤ 64 → ∀ (fN : Nat → Int64) (fT : Nat → Int64), (KI fnow q fN fT) → ∀ (H : Heap) (locs : List Loc), va_P D vwCl ([mO a (nI n) (nI k) th, [(a 4, .inl (cY 1, 64, .inr (.inl fN)))], [(a 5, .inl (cY 1, 64, .inr (.inl fT)))]] : List va_W).flatten H → va_D A ([mO a (nI n) (nI k) th, [(a 4, .inl (cY 1, 64, .inr (.inl fN)))], [(a 5, .inl (cY 1, 64, .inr (.inl fT)))]] : List va_W).flatten → va_S A s.heap H locs → ∀ (ls : Array Slot), lv_has ls 2 [(0, .ref (a 0)), (1, .int (nI q))] → W p l e ({ frames := 0, cells := 0, slots := 0, locals := 0 }) s m ([.ref (a 0)] : List Value).toArray below meth c H locs 0 0 (MQ below (qV (S := (Nat → Int64) × (Nat → Int64)) D cY (fun u => ∀ j, j < 64 → u.1 j = lN 0 ∧ u.2 j = fnow j) (fun u => [mO a (nI n) (nI k) th, [(a 4, .inl (cY 1, 64, .inr (.inl u.1)))], [(a 5, .inl (cY 1, 64, .inr (.inl u.2)))]]) A) ([.ref (a 0)] : List Value).toArray s 0 0 A) (F0 m 2 ls []) := by
    refine lpW 64 ?_
    intro q bq ih2 fN fT hI H locs hP hD hS ls hl
    refine lv_iload_n hx hb dX9_keeps_2 rfl (lv_at hl 1 rfl) ?_
    refine lv_bipush (v := nI 64) hx hb dX9_keeps_3 (by decide) ?_
    refine n_icmp_ge (tgt := 33) hx hb dX9_keeps_5 (by decide) (by omega) (by omega) (fun h5 => ?_) (fun h5 => ?_)
    · -- t
      exact r_v hx hb hr hlocks hP hD hS (fN, fT) rfl (KI_e hI h5) dX9_keeps_33
    · -- f
      refine lv_aload_n hx hb dX9_keeps_8 rfl (lv_at hl 0 rfl) ?_
      refine b_get (ci := 9) (v := .ref (a 5)) (C := RX9) (T := TX9) (N := 13) hx hb hts (by decide +kernel) hown hK hP 0 rfl rfl 6 (by decide) (hts (.fieldLink RX9 30 "ChanceHallModel" "then" "[J") (by decide +kernel)) (fun _ h9 => h9) rfl dX9_keeps_9 ?_
      refine lv_iload_n hx hb dX9_keeps_12 rfl (lv_at hl 1 rfl) ?_
      refine lv_aload_n hx hb dX9_keeps_13 rfl (lv_at hl 0 rfl) ?_
      refine b_get (ci := 9) (v := .ref (a 4)) (C := RX9) (T := TX9) (N := 13) hx hb hts (by decide +kernel) hown hK hP 0 rfl rfl 5 (by decide) (hts (.fieldLink RX9 26 "ChanceHallModel" "now" "[J") (by decide +kernel)) (fun _ h9 => h9) rfl dX9_keeps_14 ?_
      refine lv_iload_n hx hb dX9_keeps_17 rfl (lv_at hl 1 rfl) ?_
      refine b_lald hx hb hK hP 1 1 rfl rfl (by omega) (by decide) dX9_keeps_18 ?_
      refine b_last hx hb hK hP hD hS 2 1 rfl rfl (by omega) (by decide) dX9_keeps_19 (fun H locs hP hD hS => ?_)
      have hP : va_P D vwCl ([mO a (nI n) (nI k) th, [(a 4, .inl (cY 1, 64, .inr (.inl fN)))], [(a 5, .inl (cY 1, 64, .inr (.inl (vp_updL fT q (fN q)))))]] : List va_W).flatten H := hP
      have hD : va_D A ([mO a (nI n) (nI k) th, [(a 4, .inl (cY 1, 64, .inr (.inl fN)))], [(a 5, .inl (cY 1, 64, .inr (.inl (vp_updL fT q (fN q)))))]] : List va_W).flatten := hD
      refine lv_aload_n hx hb dX9_keeps_20 rfl (lv_at hl 0 rfl) ?_
      refine b_get (ci := 9) (v := .ref (a 4)) (C := RX9) (T := TX9) (N := 13) hx hb hts (by decide +kernel) hown hK hP 0 rfl rfl 5 (by decide) (hts (.fieldLink RX9 26 "ChanceHallModel" "now" "[J") (by decide +kernel)) (fun _ h9 => h9) rfl dX9_keeps_21 ?_
      refine lv_iload_n hx hb dX9_keeps_24 rfl (lv_at hl 1 rfl) ?_
      refine lv_lconst (v := lN 0) hx hb dX9_keeps_25 (by decide) ?_
      refine b_last hx hb hK hP hD hS 1 1 rfl rfl (by omega) (by decide) dX9_keeps_26 (fun H locs hP hD hS => ?_)
      have hP : va_P D vwCl ([mO a (nI n) (nI k) th, [(a 4, .inl (cY 1, 64, .inr (.inl (vp_updL fN q (lN 0)))))], [(a 5, .inl (cY 1, 64, .inr (.inl (vp_updL fT q (fN q)))))]] : List va_W).flatten H := hP
      have hD : va_D A ([mO a (nI n) (nI k) th, [(a 4, .inl (cY 1, 64, .inr (.inl (vp_updL fN q (lN 0)))))], [(a 5, .inl (cY 1, 64, .inr (.inl (vp_updL fT q (fN q)))))]] : List va_W).flatten := hD
      refine lv_iinc (v := nI (q + 1)) (lv' := [(1, .int (nI (q + 1))), (0, .ref (a 0))]) hx hb dX9_keeps_27 hl (k := 1) rfl (nI_1 q) (by decide) rfl (fun ls hl => ?_)
      refine lv_goto (tgt := 2) hx hb dX9_keeps_30 (by decide) ?_
      exact ih2 (by omega) (vp_updL fN q (lN 0)) (vp_updL fT q (fN q)) (KI_s hI h5) _ _ hP hD hS _ (lv_sub hl [1, 0] rfl)
  exact L2 0 (by omega) fnow fthn KI_0 _ _ hP hD hS _ (lv_sub hl [1, 0] rfl)

set_option maxHeartbeats 4000000 in
set_option maxRecDepth 100000 in
theorem c_X9_begins (l : Launch) (D : va_G) (cY : Nat → ClassId) (sz : Nat) (a : Nat → Nat) (n : Nat) (k : Nat) (th : Int32) (fnow : Nat → Int64) (x : Int32)  : Met l yX9_begins wsX9_begins ({ frames := 0, cells := 0, slots := 0, locals := 0 }) (cP D cY [.ref (a 0), .int x] [mO a (nI n) (nI k) th, [(a 4, .inl (cY 1, 64, .inr (.inl fnow)))]] sz) (qV (S := (Nat → Int64)) D cY (fun u => ∀ j, j < 64 → u j = lN (if nI j = x then 1 else 0)) (fun u => [mO a (nI n) (nI k) th, [(a 4, .inl (cY 1, 64, .inr (.inl u)))]]) (va_A ([mO a (nI n) (nI k) th, [(a 4, .inl (cY 1, 64, .inr (.inl fnow)))]] : List va_W).flatten sz)) 0 0 (va_A ([mO a (nI n) (nI k) th, [(a 4, .inl (cY 1, 64, .inr (.inl fnow)))]] : List va_W).flatten sz) := by
  refine mtB (Qc := fun A => qV (S := (Nat → Int64)) D cY (fun u => ∀ j, j < 64 → u j = lN (if nI j = x then 1 else 0)) (fun u => [mO a (nI n) (nI k) th, [(a 4, .inl (cY 1, 64, .inr (.inl u)))]]) A) (cc := cX9_begins) (maxL := 3) (ret := none) (by decide) rfl (Nat.le_of_ble_eq_true rfl) ?_
  intro p e s m below meth c A ls hx hb hr hml hts hown hlocks hnm hsz hP hK hVK hD hS hA hl
  have hown : s.vm.findClass RX9 = some m.cls := hown
  have hl : lv_has ls 3 [(0, .ref (a 0)), (1, .int x)] := hl
  have hP : va_P D vwCl ([mO a (nI n) (nI k) th, [(a 4, .inl (cY 1, 64, .inr (.inl fnow)))]] : List va_W).flatten s.heap := hP
  have hD : va_D A ([mO a (nI n) (nI k) th, [(a 4, .inl (cY 1, 64, .inr (.inl fnow)))]] : List va_W).flatten := hD
  refine lv_iconst (v := nI 0) hx hb dX9_begins_0 (by decide) ?_
  refine lv_istore_n (lv' := [(2, .int (nI 0)), (0, .ref (a 0)), (1, .int x)]) hx hb dX9_begins_1 rfl hl (by decide) rfl (fun ls hl => ?_)
  have L2 : ∀ q : Nat, q ≤ 64 → ∀ (fN : Nat → Int64), (BI x q fN) → ∀ (H : Heap) (locs : List Loc), va_P D vwCl ([mO a (nI n) (nI k) th, [(a 4, .inl (cY 1, 64, .inr (.inl fN)))]] : List va_W).flatten H → va_D A ([mO a (nI n) (nI k) th, [(a 4, .inl (cY 1, 64, .inr (.inl fN)))]] : List va_W).flatten → va_S A s.heap H locs → ∀ (ls : Array Slot), lv_has ls 3 [(0, .ref (a 0)), (1, .int x), (2, .int (nI q))] → W p l e ({ frames := 0, cells := 0, slots := 0, locals := 0 }) s m ([.ref (a 0), .int x] : List Value).toArray below meth c H locs 0 0 (MQ below (qV (S := (Nat → Int64)) D cY (fun u => ∀ j, j < 64 → u j = lN (if nI j = x then 1 else 0)) (fun u => [mO a (nI n) (nI k) th, [(a 4, .inl (cY 1, 64, .inr (.inl u)))]]) A) ([.ref (a 0), .int x] : List Value).toArray s 0 0 A) (F0 m 2 ls []) := by
    refine lpW 64 ?_
    intro q bq ih2 fN hI H locs hP hD hS ls hl
    refine lv_iload_n hx hb dX9_begins_2 rfl (lv_at hl 2 rfl) ?_
    refine lv_bipush (v := nI 64) hx hb dX9_begins_3 (by decide) ?_
    refine n_icmp_ge (tgt := 30) hx hb dX9_begins_5 (by decide) (by omega) (by omega) (fun h5 => ?_) (fun h5 => ?_)
    · -- t
      exact r_v hx hb hr hlocks hP hD hS fN rfl (fun j hj => hI j (by omega)) dX9_begins_30
    · -- f
      refine lv_aload_n hx hb dX9_begins_8 rfl (lv_at hl 0 rfl) ?_
      refine b_get (ci := 9) (v := .ref (a 4)) (C := RX9) (T := TX9) (N := 13) hx hb hts (by decide +kernel) hown hK hP 0 rfl rfl 5 (by decide) (hts (.fieldLink RX9 26 "ChanceHallModel" "now" "[J") (by decide +kernel)) (fun _ h9 => h9) rfl dX9_begins_9 ?_
      refine lv_iload_n hx hb dX9_begins_12 rfl (lv_at hl 2 rfl) ?_
      refine lv_iload_n hx hb dX9_begins_13 rfl (lv_at hl 2 rfl) ?_
      refine lv_iload_n hx hb dX9_begins_14 rfl (lv_at hl 1 rfl) ?_
      refine lv_icmp_ne (tgt := 22) hx hb dX9_begins_15 (by decide) (fun h15 => ?_) (fun h15 => ?_)
      · -- t
        refine lv_lconst (v := lN 0) hx hb dX9_begins_22 (by decide) ?_
        refine b_last hx hb hK hP hD hS 1 1 rfl rfl (by omega) (by decide) dX9_begins_23 (fun H locs hP hD hS => ?_)
        have hP : va_P D vwCl ([mO a (nI n) (nI k) th, [(a 4, .inl (cY 1, 64, .inr (.inl (vp_updL fN q (lN 0)))))]] : List va_W).flatten H := hP
        have hD : va_D A ([mO a (nI n) (nI k) th, [(a 4, .inl (cY 1, 64, .inr (.inl (vp_updL fN q (lN 0)))))]] : List va_W).flatten := hD
        refine lv_iinc (v := nI (q + 1)) (lv' := [(2, .int (nI (q + 1))), (0, .ref (a 0)), (1, .int x)]) hx hb dX9_begins_24 hl (k := 2) rfl (nI_1 q) (by decide) rfl (fun ls hl => ?_)
        refine lv_goto (tgt := 2) hx hb dX9_begins_27 (by decide) ?_
        exact ih2 (by omega) (vp_updL fN q (lN 0)) (BI_s hI (by simp [h15])) _ _ hP hD hS _ (lv_sub hl [1, 2, 0] rfl)
      · -- f
        refine lv_lconst (v := lN 1) hx hb dX9_begins_18 (by decide) ?_
        refine lv_goto (tgt := 23) hx hb dX9_begins_19 (by decide) ?_
        refine b_last hx hb hK hP hD hS 1 1 rfl rfl (by omega) (by decide) dX9_begins_23 (fun H locs hP hD hS => ?_)
        have hP : va_P D vwCl ([mO a (nI n) (nI k) th, [(a 4, .inl (cY 1, 64, .inr (.inl (vp_updL fN q (lN 1)))))]] : List va_W).flatten H := hP
        have hD : va_D A ([mO a (nI n) (nI k) th, [(a 4, .inl (cY 1, 64, .inr (.inl (vp_updL fN q (lN 1)))))]] : List va_W).flatten := hD
        refine lv_iinc (v := nI (q + 1)) (lv' := [(2, .int (nI (q + 1))), (0, .ref (a 0)), (1, .int x)]) hx hb dX9_begins_24 hl (k := 2) rfl (nI_1 q) (by decide) rfl (fun ls hl => ?_)
        refine lv_goto (tgt := 2) hx hb dX9_begins_27 (by decide) ?_
        exact ih2 (by omega) (vp_updL fN q (lN 1)) (BI_s hI (by simp [h15])) _ _ hP hD hS _ (lv_sub hl [1, 2, 0] rfl)
  exact L2 0 (by omega) fnow BI_0 _ _ hP hD hS _ (lv_sub hl [1, 2, 0] rfl)

set_option maxHeartbeats 4000000 in
set_option maxRecDepth 100000 in
theorem c_X9_spreads (l : Launch) (D : va_G) (cY : Nat → ClassId) (sz : Nat) (a : Nat → Nat) (n : Nat) (k : Nat) (th : Int32) (fto : Nat → Int32) (fnow : Nat → Int64) (fthn : Nat → Int64) (g : Nat → Nat → Nat) (f : Nat) (t : Nat) (hn1 : 1 ≤ n) (hn6 : n ≤ 6) (hk1 : 1 ≤ k) (hk12 : k ≤ 12) (hG : ∀ i j, i < n → j < k → fto (12 * i + j) = nI (g i j)) (hgn : ∀ i j, i < n → j < k → g i j < n) (hf : f < n) (ht : t ≤ 12) : Met l yX9_spreads wsX9_spreads ({ frames := 1, cells := 0, slots := 0, locals := 40 }) (cP D cY [.ref (a 0), .int (nI f), .int (nI t)] [mO a (nI n) (nI k) th, [(a 1, .inl (cY 0, 72, .inl fto))], [(a 4, .inl (cY 1, 64, .inr (.inl fnow)))], [(a 5, .inl (cY 1, 64, .inr (.inl fthn)))]] sz) (qV (S := (Nat → Int64) × (Nat → Int64)) D cY (fun u => ∀ b, b < n → u.1 b = lN (PL g n k f t b)) (fun u => [mO a (nI n) (nI k) th, [(a 1, .inl (cY 0, 72, .inl fto))], [(a 4, .inl (cY 1, 64, .inr (.inl u.1)))], [(a 5, .inl (cY 1, 64, .inr (.inl u.2)))]]) (va_A ([mO a (nI n) (nI k) th, [(a 1, .inl (cY 0, 72, .inl fto))], [(a 4, .inl (cY 1, 64, .inr (.inl fnow)))], [(a 5, .inl (cY 1, 64, .inr (.inl fthn)))]] : List va_W).flatten sz)) 0 0 (va_A ([mO a (nI n) (nI k) th, [(a 1, .inl (cY 0, 72, .inl fto))], [(a 4, .inl (cY 1, 64, .inr (.inl fnow)))], [(a 5, .inl (cY 1, 64, .inr (.inl fthn)))]] : List va_W).flatten sz) := by
  refine mtB (Qc := fun A => qV (S := (Nat → Int64) × (Nat → Int64)) D cY (fun u => ∀ b, b < n → u.1 b = lN (PL g n k f t b)) (fun u => [mO a (nI n) (nI k) th, [(a 1, .inl (cY 0, 72, .inl fto))], [(a 4, .inl (cY 1, 64, .inr (.inl u.1)))], [(a 5, .inl (cY 1, 64, .inr (.inl u.2)))]]) A) (cc := cX9_spreads) (maxL := 5) (ret := none) (by decide) rfl (Nat.le_of_ble_eq_true rfl) ?_
  intro p e s m below meth c A ls hx hb hr hml hts hown hlocks hnm hsz hP hK hVK hD hS hA hl
  have hown : s.vm.findClass RX9 = some m.cls := hown
  have hl : lv_has ls 5 [(0, .ref (a 0)), (1, .int (nI f)), (2, .int (nI t))] := hl
  have hP : va_P D vwCl ([mO a (nI n) (nI k) th, [(a 1, .inl (cY 0, 72, .inl fto))], [(a 4, .inl (cY 1, 64, .inr (.inl fnow)))], [(a 5, .inl (cY 1, 64, .inr (.inl fthn)))]] : List va_W).flatten s.heap := hP
  have hD : va_D A ([mO a (nI n) (nI k) th, [(a 1, .inl (cY 0, 72, .inl fto))], [(a 4, .inl (cY 1, 64, .inr (.inl fnow)))], [(a 5, .inl (cY 1, 64, .inr (.inl fthn)))]] : List va_W).flatten := hD
  have hnk : n * k ≤ 72 := Nat.mul_le_mul hn6 hk12
  refine lv_aload_n hx hb dX9_spreads_0 rfl (lv_at hl 0 rfl) ?_
  refine lv_iload_n hx hb dX9_spreads_1 rfl (lv_at hl 1 rfl) ?_
  refine ca_v (CL := [mO a (nI n) (nI k) th, [(a 4, .inl (cY 1, 64, .inr (.inl fnow)))]]) (va_runV (As := [.int (nI f)]) (rest := []) ⟨hx, hb, hml, hown, hts⟩ (c_X9_begins l D cY s.heap.size a n k th fnow (nI f)) (cwV 1 hts gX9_spreads_X9_begins rfl rfl rfl (by decide +kernel) ⟨Nat.le_of_ble_eq_true rfl, Nat.le_of_ble_eq_true rfl⟩) (b_preV hVK hP hD [0, 2] rfl rfl 0 rfl rfl) rfl rfl hl.1 rfl (lv_room (Nat.le_of_ble_eq_true rfl)) dX9_spreads_2 ⟨Nat.le_refl _, Nat.le_refl _⟩) hP hD hS hA [0, 2] rfl rfl (fun _ => rfl) (fun uu H locs hq hP hD hS => ?_)
  obtain ⟨fnow1_1, rfl⟩ : ∃ z, z = uu := ⟨_, rfl⟩
  try dsimp only at hq
  have hq2 := hq
  have hP : va_P D vwCl ([mO a (nI n) (nI k) th, [(a 1, .inl (cY 0, 72, .inl fto))], [(a 4, .inl (cY 1, 64, .inr (.inl fnow1_1)))], [(a 5, .inl (cY 1, 64, .inr (.inl fthn)))]] : List va_W).flatten H := hP
  have hD : va_D A ([mO a (nI n) (nI k) th, [(a 1, .inl (cY 0, 72, .inl fto))], [(a 4, .inl (cY 1, 64, .inr (.inl fnow1_1)))], [(a 5, .inl (cY 1, 64, .inr (.inl fthn)))]] : List va_W).flatten := hD
  refine lv_iconst (v := nI 0) hx hb dX9_spreads_5 (by decide) ?_
  refine lv_istore_n (lv' := [(3, .int (nI 0)), (0, .ref (a 0)), (1, .int (nI f)), (2, .int (nI t))]) hx hb dX9_spreads_6 rfl hl (by decide) rfl (fun ls hl => ?_)
  have L7 : ∀ u : Nat, u ≤ t → ∀ (fN : Nat → Int64) (fT : Nat → Int64), (∀ b, b < n → fN b = lN (PL g n k f u b)) → ∀ (H : Heap) (locs : List Loc), va_P D vwCl ([mO a (nI n) (nI k) th, [(a 1, .inl (cY 0, 72, .inl fto))], [(a 4, .inl (cY 1, 64, .inr (.inl fN)))], [(a 5, .inl (cY 1, 64, .inr (.inl fT)))]] : List va_W).flatten H → va_D A ([mO a (nI n) (nI k) th, [(a 1, .inl (cY 0, 72, .inl fto))], [(a 4, .inl (cY 1, 64, .inr (.inl fN)))], [(a 5, .inl (cY 1, 64, .inr (.inl fT)))]] : List va_W).flatten → va_S A s.heap H locs → ∀ (ls : Array Slot), lv_has ls 5 [(0, .ref (a 0)), (1, .int (nI f)), (2, .int (nI t)), (3, .int (nI u))] → W p l e ({ frames := 1, cells := 0, slots := 0, locals := 40 }) s m ([.ref (a 0), .int (nI f), .int (nI t)] : List Value).toArray below meth c H locs 0 0 (MQ below (qV (S := (Nat → Int64) × (Nat → Int64)) D cY (fun u => ∀ b, b < n → u.1 b = lN (PL g n k f t b)) (fun u => [mO a (nI n) (nI k) th, [(a 1, .inl (cY 0, 72, .inl fto))], [(a 4, .inl (cY 1, 64, .inr (.inl u.1)))], [(a 5, .inl (cY 1, 64, .inr (.inl u.2)))]]) A) ([.ref (a 0), .int (nI f), .int (nI t)] : List Value).toArray s 0 0 A) (F0 m 7 ls []) := by
    refine lpW t ?_
    intro u bu ih7 fN fT hI H locs hP hD hS ls hl
    refine lv_iload_n hx hb dX9_spreads_7 rfl (lv_at hl 3 rfl) ?_
    refine lv_iload_n hx hb dX9_spreads_8 rfl (lv_at hl 2 rfl) ?_
    refine n_icmp_ge (tgt := 83) hx hb dX9_spreads_9 (by decide) (by omega) (by omega) (fun h9 => ?_) (fun h9 => ?_)
    · -- t
      exact r_v hx hb hr hlocks hP hD hS (fN, fT) rfl (by (have e : u = t := by omega); subst e; exact hI) dX9_spreads_83
    · -- f
      refine lv_aload_n hx hb dX9_spreads_12 rfl (lv_at hl 0 rfl) ?_
      refine ca_v (CL := [mO a (nI n) (nI k) th, [(a 4, .inl (cY 1, 64, .inr (.inl fN)))], [(a 5, .inl (cY 1, 64, .inr (.inl fT)))]]) (va_runV (As := []) (rest := []) ⟨hx, hb, hml, hown, hts⟩ (c_X9_keeps l D cY H.size a n k th fN fT) (cwV 0 hts gX9_spreads_X9_keeps rfl rfl rfl (by decide +kernel) ⟨Nat.le_of_ble_eq_true rfl, Nat.le_of_ble_eq_true rfl⟩) (b_preV hVK hP hD [0, 2, 3] rfl rfl 0 rfl rfl) rfl rfl hl.1 rfl (lv_room (Nat.le_of_ble_eq_true rfl)) dX9_spreads_13 ⟨Nat.le_refl _, Nat.le_refl _⟩) hP hD hS hA [0, 2, 3] rfl rfl (fun _ => rfl) (fun uu H locs hq hP hD hS => ?_)
      obtain ⟨fnow1_2, fthn1_3⟩ := uu
      try dsimp only at hq
      have q13 := hq
      have hP : va_P D vwCl ([mO a (nI n) (nI k) th, [(a 1, .inl (cY 0, 72, .inl fto))], [(a 4, .inl (cY 1, 64, .inr (.inl fnow1_2)))], [(a 5, .inl (cY 1, 64, .inr (.inl fthn1_3)))]] : List va_W).flatten H := hP
      have hD : va_D A ([mO a (nI n) (nI k) th, [(a 1, .inl (cY 0, 72, .inl fto))], [(a 4, .inl (cY 1, 64, .inr (.inl fnow1_2)))], [(a 5, .inl (cY 1, 64, .inr (.inl fthn1_3)))]] : List va_W).flatten := hD
      refine lv_iconst (v := nI 0) hx hb dX9_spreads_16 (by decide) ?_
      refine lv_istore (lv' := [(4, .int (nI 0)), (0, .ref (a 0)), (1, .int (nI f)), (2, .int (nI t)), (3, .int (nI u))]) hx hb dX9_spreads_17 hl (by decide) rfl (fun ls hl => ?_)
      have L19 : ∀ q : Nat, q ≤ n * k → ∀ (fM : Nat → Int64), (AI (PL g n k f u) g k n q fM) → ∀ (H : Heap) (locs : List Loc), va_P D vwCl ([mO a (nI n) (nI k) th, [(a 1, .inl (cY 0, 72, .inl fto))], [(a 4, .inl (cY 1, 64, .inr (.inl fM)))], [(a 5, .inl (cY 1, 64, .inr (.inl fthn1_3)))]] : List va_W).flatten H → va_D A ([mO a (nI n) (nI k) th, [(a 1, .inl (cY 0, 72, .inl fto))], [(a 4, .inl (cY 1, 64, .inr (.inl fM)))], [(a 5, .inl (cY 1, 64, .inr (.inl fthn1_3)))]] : List va_W).flatten → va_S A s.heap H locs → ∀ (ls : Array Slot), lv_has ls 5 [(0, .ref (a 0)), (1, .int (nI f)), (2, .int (nI t)), (3, .int (nI u)), (4, .int (nI q))] → W p l e ({ frames := 1, cells := 0, slots := 0, locals := 40 }) s m ([.ref (a 0), .int (nI f), .int (nI t)] : List Value).toArray below meth c H locs 0 0 (MQ below (qV (S := (Nat → Int64) × (Nat → Int64)) D cY (fun u => ∀ b, b < n → u.1 b = lN (PL g n k f t b)) (fun u => [mO a (nI n) (nI k) th, [(a 1, .inl (cY 0, 72, .inl fto))], [(a 4, .inl (cY 1, 64, .inr (.inl u.1)))], [(a 5, .inl (cY 1, 64, .inr (.inl u.2)))]]) A) ([.ref (a 0), .int (nI f), .int (nI t)] : List Value).toArray s 0 0 A) (F0 m 19 ls []) := by
        refine lpW (n * k) ?_
        intro q bq ih19 fM hJ H locs hP hD hS ls hl
        refine lv_iload hx hb dX9_spreads_19 (lv_at hl 4 rfl) ?_
        refine lv_aload_n hx hb dX9_spreads_21 rfl (lv_at hl 0 rfl) ?_
        refine b_get (ci := 9) (v := .int (nI n)) (C := RX9) (T := TX9) (N := 13) hx hb hts (by decide +kernel) hown hK hP 0 rfl rfl 0 (by decide) (hts (.fieldLink RX9 7 "ChanceHallModel" "states" "I") (by decide +kernel)) (fun _ h9 => h9) rfl dX9_spreads_22 ?_
        refine lv_aload_n hx hb dX9_spreads_25 rfl (lv_at hl 0 rfl) ?_
        refine b_get (ci := 9) (v := .int (nI k)) (C := RX9) (T := TX9) (N := 13) hx hb hts (by decide +kernel) hown hK hP 0 rfl rfl 1 (by decide) (hts (.fieldLink RX9 13 "ChanceHallModel" "slots" "I") (by decide +kernel)) (fun _ h9 => h9) rfl dX9_spreads_26 ?_
        refine lv_imul hx hb dX9_spreads_29 ?_
        refine eqi (x' := nI (n * k)) (pk_mul _ _) ?_
        refine n_icmp_ge (tgt := 77) hx hb dX9_spreads_30 (by decide) (by omega) (by omega) (fun h30 => ?_) (fun h30 => ?_)
        · -- t
          refine lv_iinc (v := nI (u + 1)) (lv' := [(3, .int (nI (u + 1))), (0, .ref (a 0)), (1, .int (nI f)), (2, .int (nI t)), (4, .int (nI q))]) hx hb dX9_spreads_77 hl (k := 3) rfl (nI_1 u) (by decide) rfl (fun ls hl => ?_)
          refine lv_goto (tgt := 7) hx hb dX9_spreads_80 (by decide) ?_
          exact ih7 (by omega) fM fthn1_3 (AI_e (by omega) (by (have e : q = n * k := by omega); subst e; exact hJ)) _ _ hP hD hS _ (lv_sub hl [1, 2, 3, 0] rfl)
        · -- f
          have hq1 : q / k < n := Nat.div_lt_of_lt_mul (by rw [Nat.mul_comm]; exact h30)
          have hq2 : q % k < k := Nat.mod_lt _ (by omega)
          have hq3 : g (q / k) (q % k) < n := hgn _ _ hq1 hq2
          refine lv_aload_n hx hb dX9_spreads_33 rfl (lv_at hl 0 rfl) ?_
          refine b_get (ci := 9) (v := .ref (a 4)) (C := RX9) (T := TX9) (N := 13) hx hb hts (by decide +kernel) hown hK hP 0 rfl rfl 5 (by decide) (hts (.fieldLink RX9 26 "ChanceHallModel" "now" "[J") (by decide +kernel)) (fun _ h9 => h9) rfl dX9_spreads_34 ?_
          refine lv_aload_n hx hb dX9_spreads_37 rfl (lv_at hl 0 rfl) ?_
          refine lv_iload hx hb dX9_spreads_38 (lv_at hl 4 rfl) ?_
          refine lv_aload_n hx hb dX9_spreads_40 rfl (lv_at hl 0 rfl) ?_
          refine b_get (ci := 9) (v := .int (nI k)) (C := RX9) (T := TX9) (N := 13) hx hb hts (by decide +kernel) hown hK hP 0 rfl rfl 1 (by decide) (hts (.fieldLink RX9 13 "ChanceHallModel" "slots" "I") (by decide +kernel)) (fun _ h9 => h9) rfl dX9_spreads_41 ?_
          refine lv_idiv hx hb dX9_spreads_44 (nI_ne0 (by omega) (by omega)) ?_
          refine eqi (x' := nI (q / k)) (pk_div (by omega) (by omega) (by omega)) ?_
          refine lv_iload hx hb dX9_spreads_45 (lv_at hl 4 rfl) ?_
          refine lv_aload_n hx hb dX9_spreads_47 rfl (lv_at hl 0 rfl) ?_
          refine b_get (ci := 9) (v := .int (nI k)) (C := RX9) (T := TX9) (N := 13) hx hb hts (by decide +kernel) hown hK hP 0 rfl rfl 1 (by decide) (hts (.fieldLink RX9 13 "ChanceHallModel" "slots" "I") (by decide +kernel)) (fun _ h9 => h9) rfl dX9_spreads_48 ?_
          refine lv_irem hx hb dX9_spreads_51 (nI_ne0 (by omega) (by omega)) ?_
          refine eqi (x' := nI (q % k)) (pk_rem (by omega) (by omega) (by omega)) ?_
          refine ca_i (CL := [mO a (nI n) (nI k) th, [(a 1, .inl (cY 0, 72, .inl fto))]]) (va_runV (As := [.int (nI (q / k)), .int (nI (q % k))]) (rest := [.ref (a 4)]) ⟨hx, hb, hml, hown, hts⟩ (c_X9_goes l D cY H.size a n k th fto g (q / k) (q % k) (by omega) (by omega) (by omega) (by omega) hG (by omega) (by omega)) (cwV 2 hts gX9_spreads_X9_goes rfl rfl rfl (by decide +kernel) ⟨Nat.le_of_ble_eq_true rfl, Nat.le_of_ble_eq_true rfl⟩) (b_preV hVK hP hD [0, 1] rfl rfl 0 rfl rfl) rfl rfl hl.1 rfl (lv_room (Nat.le_of_ble_eq_true rfl)) dX9_spreads_52 ⟨Nat.le_refl _, Nat.le_refl _⟩) hP hD hS hA [0, 1] rfl rfl (fun _ => rfl) (fun r52 uu H locs hq hP hD hS => ?_)
          subst hq
          have hP : va_P D vwCl ([mO a (nI n) (nI k) th, [(a 1, .inl (cY 0, 72, .inl fto))], [(a 4, .inl (cY 1, 64, .inr (.inl fM)))], [(a 5, .inl (cY 1, 64, .inr (.inl fthn1_3)))]] : List va_W).flatten H := hP
          have hD : va_D A ([mO a (nI n) (nI k) th, [(a 1, .inl (cY 0, 72, .inl fto))], [(a 4, .inl (cY 1, 64, .inr (.inl fM)))], [(a 5, .inl (cY 1, 64, .inr (.inl fthn1_3)))]] : List va_W).flatten := hD
          refine lv_dup2_11 hx hb dX9_spreads_55 rfl rfl ?_
          refine b_lald hx hb hK hP 2 1 rfl rfl (by omega) (by decide) dX9_spreads_56 ?_
          refine lv_aload_n hx hb dX9_spreads_57 rfl (lv_at hl 0 rfl) ?_
          refine b_get (ci := 9) (v := .ref (a 5)) (C := RX9) (T := TX9) (N := 13) hx hb hts (by decide +kernel) hown hK hP 0 rfl rfl 6 (by decide) (hts (.fieldLink RX9 30 "ChanceHallModel" "then" "[J") (by decide +kernel)) (fun _ h9 => h9) rfl dX9_spreads_58 ?_
          refine lv_iload hx hb dX9_spreads_61 (lv_at hl 4 rfl) ?_
          refine lv_aload_n hx hb dX9_spreads_63 rfl (lv_at hl 0 rfl) ?_
          refine b_get (ci := 9) (v := .int (nI k)) (C := RX9) (T := TX9) (N := 13) hx hb hts (by decide +kernel) hown hK hP 0 rfl rfl 1 (by decide) (hts (.fieldLink RX9 13 "ChanceHallModel" "slots" "I") (by decide +kernel)) (fun _ h9 => h9) rfl dX9_spreads_64 ?_
          refine lv_idiv hx hb dX9_spreads_67 (nI_ne0 (by omega) (by omega)) ?_
          refine eqi (x' := nI (q / k)) (pk_div (by omega) (by omega) (by omega)) ?_
          refine b_lald hx hb hK hP 3 1 rfl rfl (by omega) (by decide) dX9_spreads_68 ?_
          refine lv_ladd hx hb dX9_spreads_69 ?_
          refine b_last hx hb hK hP hD hS 2 1 rfl rfl (by omega) (by decide) dX9_spreads_70 (fun H locs hP hD hS => ?_)
          have hP : va_P D vwCl ([mO a (nI n) (nI k) th, [(a 1, .inl (cY 0, 72, .inl fto))], [(a 4, .inl (cY 1, 64, .inr (.inl (vp_updL fM (g (q / k) (q % k)) ((fM (g (q / k) (q % k))) + (fthn1_3 (q / k)))))))], [(a 5, .inl (cY 1, 64, .inr (.inl fthn1_3)))]] : List va_W).flatten H := hP
          have hD : va_D A ([mO a (nI n) (nI k) th, [(a 1, .inl (cY 0, 72, .inl fto))], [(a 4, .inl (cY 1, 64, .inr (.inl (vp_updL fM (g (q / k) (q % k)) ((fM (g (q / k) (q % k))) + (fthn1_3 (q / k)))))))], [(a 5, .inl (cY 1, 64, .inr (.inl fthn1_3)))]] : List va_W).flatten := hD
          refine lv_iinc (v := nI (q + 1)) (lv' := [(4, .int (nI (q + 1))), (0, .ref (a 0)), (1, .int (nI f)), (2, .int (nI t)), (3, .int (nI u))]) hx hb dX9_spreads_71 hl (k := 4) rfl (nI_1 q) (by decide) rfl (fun ls hl => ?_)
          refine lv_goto (tgt := 19) hx hb dX9_spreads_74 (by decide) ?_
          exact ih19 (by omega) (vp_updL fM (g (q / k) (q % k)) ((fM (g (q / k) (q % k))) + (fthn1_3 (q / k)))) (AI_s hJ (by rw [(q13 _ (by omega)).2]; exact hI _ hq1) hq3) _ _ hP hD hS _ (lv_sub hl [1, 2, 3, 4, 0] rfl)
      exact L19 0 (by omega) fnow1_2 (AI_0 (fun b hb => (q13 b (by omega)).1)) _ _ hP hD hS _ (lv_sub hl [1, 2, 3, 4, 0] rfl)
  exact L7 0 (by omega) fnow1_1 fthn (fun b hb => by rw [hq2 b (by omega)]; simp only [PL, nI_eq (show b < 2 ^ 31 by omega) (show f < 2 ^ 31 by omega)]) _ _ hP hD hS _ (lv_sub hl [1, 2, 3, 0] rfl)

set_option maxHeartbeats 4000000 in
set_option maxRecDepth 100000 in
theorem c_X9_lawOf (l : Launch) (D : va_G) (cY : Nat → ClassId) (sz : Nat) (a : Nat → Nat) (n : Nat) (k : Nat) (th : Int32) (fto : Nat → Int32) (fnow : Nat → Int64) (fthn : Nat → Int64) (g : Nat → Nat → Nat) (f : Nat) (t : Nat) (b : Nat) (hn1 : 1 ≤ n) (hn6 : n ≤ 6) (hk1 : 1 ≤ k) (hk12 : k ≤ 12) (hG : ∀ i j, i < n → j < k → fto (12 * i + j) = nI (g i j)) (hgn : ∀ i j, i < n → j < k → g i j < n) (hf : f < n) (ht : t ≤ 12) (hb6 : b < n) : Met l yX9_lawOf wsX9_lawOf ({ frames := 2, cells := 0, slots := 0, locals := 80 }) (cP D cY [.ref (a 0), .int (nI f), .int (nI t), .int (nI b)] [mO a (nI n) (nI k) th, [(a 1, .inl (cY 0, 72, .inl fto))], [(a 4, .inl (cY 1, 64, .inr (.inl fnow)))], [(a 5, .inl (cY 1, 64, .inr (.inl fthn)))]] sz) (qL (S := (Nat → Int64) × (Nat → Int64)) D cY (fun r u => r = lN (PL g n k f t b)) (fun u => [mO a (nI n) (nI k) th, [(a 1, .inl (cY 0, 72, .inl fto))], [(a 4, .inl (cY 1, 64, .inr (.inl u.1)))], [(a 5, .inl (cY 1, 64, .inr (.inl u.2)))]]) (va_A ([mO a (nI n) (nI k) th, [(a 1, .inl (cY 0, 72, .inl fto))], [(a 4, .inl (cY 1, 64, .inr (.inl fnow)))], [(a 5, .inl (cY 1, 64, .inr (.inl fthn)))]] : List va_W).flatten sz)) 0 0 (va_A ([mO a (nI n) (nI k) th, [(a 1, .inl (cY 0, 72, .inl fto))], [(a 4, .inl (cY 1, 64, .inr (.inl fnow)))], [(a 5, .inl (cY 1, 64, .inr (.inl fthn)))]] : List va_W).flatten sz) := by
  refine mtB (Qc := fun A => qL (S := (Nat → Int64) × (Nat → Int64)) D cY (fun r u => r = lN (PL g n k f t b)) (fun u => [mO a (nI n) (nI k) th, [(a 1, .inl (cY 0, 72, .inl fto))], [(a 4, .inl (cY 1, 64, .inr (.inl u.1)))], [(a 5, .inl (cY 1, 64, .inr (.inl u.2)))]]) A) (cc := cX9_lawOf) (maxL := 4) (ret := (some .long)) (by decide) rfl (Nat.le_of_ble_eq_true rfl) ?_
  intro p e s m below meth c A ls hx hb hr hml hts hown hlocks hnm hsz hP hK hVK hD hS hA hl
  have hown : s.vm.findClass RX9 = some m.cls := hown
  have hl : lv_has ls 4 [(0, .ref (a 0)), (1, .int (nI f)), (2, .int (nI t)), (3, .int (nI b))] := hl
  have hP : va_P D vwCl ([mO a (nI n) (nI k) th, [(a 1, .inl (cY 0, 72, .inl fto))], [(a 4, .inl (cY 1, 64, .inr (.inl fnow)))], [(a 5, .inl (cY 1, 64, .inr (.inl fthn)))]] : List va_W).flatten s.heap := hP
  have hD : va_D A ([mO a (nI n) (nI k) th, [(a 1, .inl (cY 0, 72, .inl fto))], [(a 4, .inl (cY 1, 64, .inr (.inl fnow)))], [(a 5, .inl (cY 1, 64, .inr (.inl fthn)))]] : List va_W).flatten := hD
  refine lv_aload_n hx hb dX9_lawOf_0 rfl (lv_at hl 0 rfl) ?_
  refine lv_iload_n hx hb dX9_lawOf_1 rfl (lv_at hl 1 rfl) ?_
  refine lv_iload_n hx hb dX9_lawOf_2 rfl (lv_at hl 2 rfl) ?_
  refine ca_v (CL := [mO a (nI n) (nI k) th, [(a 1, .inl (cY 0, 72, .inl fto))], [(a 4, .inl (cY 1, 64, .inr (.inl fnow)))], [(a 5, .inl (cY 1, 64, .inr (.inl fthn)))]]) (va_runV (As := [.int (nI f), .int (nI t)]) (rest := []) ⟨hx, hb, hml, hown, hts⟩ (c_X9_spreads l D cY s.heap.size a n k th fto fnow fthn g f t (by omega) (by omega) (by omega) (by omega) hG hgn (by omega) (by omega)) (cwV 2 hts gX9_lawOf_X9_spreads rfl rfl rfl (by decide +kernel) ⟨Nat.le_of_ble_eq_true rfl, Nat.le_of_ble_eq_true rfl⟩) (b_preV hVK hP hD [0, 1, 2, 3] rfl rfl 0 rfl rfl) rfl rfl hl.1 rfl (lv_room (Nat.le_of_ble_eq_true rfl)) dX9_lawOf_3 ⟨Nat.le_refl _, Nat.le_refl _⟩) hP hD hS hA [0, 1, 2, 3] rfl rfl (fun _ => rfl) (fun uu H locs hq hP hD hS => ?_)
  obtain ⟨fnow1_1, fthn1_2⟩ := uu
  try dsimp only at hq
  have q3 := hq
  have hP : va_P D vwCl ([mO a (nI n) (nI k) th, [(a 1, .inl (cY 0, 72, .inl fto))], [(a 4, .inl (cY 1, 64, .inr (.inl fnow1_1)))], [(a 5, .inl (cY 1, 64, .inr (.inl fthn1_2)))]] : List va_W).flatten H := hP
  have hD : va_D A ([mO a (nI n) (nI k) th, [(a 1, .inl (cY 0, 72, .inl fto))], [(a 4, .inl (cY 1, 64, .inr (.inl fnow1_1)))], [(a 5, .inl (cY 1, 64, .inr (.inl fthn1_2)))]] : List va_W).flatten := hD
  refine lv_aload_n hx hb dX9_lawOf_6 rfl (lv_at hl 0 rfl) ?_
  refine b_get (ci := 9) (v := .ref (a 4)) (C := RX9) (T := TX9) (N := 13) hx hb hts (by decide +kernel) hown hK hP 0 rfl rfl 5 (by decide) (hts (.fieldLink RX9 26 "ChanceHallModel" "now" "[J") (by decide +kernel)) (fun _ h9 => h9) rfl dX9_lawOf_7 ?_
  refine lv_iload_n hx hb dX9_lawOf_10 rfl (lv_at hl 3 rfl) ?_
  refine b_lald hx hb hK hP 2 1 rfl rfl (by omega) (by decide) dX9_lawOf_11 ?_
  exact r_l hx hb hr hlocks hP hD hS (fnow1_1, fthn1_2) rfl (q3 b hb6) dX9_lawOf_12

