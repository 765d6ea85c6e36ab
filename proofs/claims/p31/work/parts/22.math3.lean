/-! ===== choices of slots as functional graphs; the rests count those that lead all to a state ===== -/
theorem itr_congr {h h' : Nat → Nat} {M : Nat} (hh : ∀ i, i < M → h i = h' i) (i : Nat) : ∀ t, itr h M t i = itr h' M t i := by
  intro t
  induction t with
  | zero => rfl
  | succ t ih =>
    show nxt h M (itr h M t i) = nxt h' M (itr h' M t i)
    rw [ih]
    unfold nxt
    by_cases z : itr h' M t i < M
    · rw [if_pos z, if_pos z, hh _ z]
    · rw [if_neg z, if_neg z]
theorem trb_congr {h h' : Nat → Nat} {M : Nat} (hh : ∀ i, i < M → h i = h' i) : trb h M = trb h' M :=
  allB_congr (fun i _ => by rw [itr_congr hh])
theorem okh_of {h : Nat → Nat} {M : Nat} {l : List Nat} (hl : ∀ i, i < M → h i = l.getD i 0) (ok : okh M l = true) : dh h M M (2 ^ M - 1) = if trb h M = true then 1 else 0 := by
  rw [dh_congr M _ hl, trb_congr hl]
  exact of_decide_eq_true ok
theorem dh_tr {h : Nat → Nat} {M : Nat} (hM : M ≤ 5) (hh : ∀ i, i < M → h i ≤ M) : dh h M M (2 ^ M - 1) = if trb h M = true then 1 else 0 := by
  match M, hM, hh with
  | 0, _, _ => exact okh_of (l := []) (fun i hi => absurd hi (Nat.not_lt_zero i)) bf0
  | 1, _, hh =>
    refine okh_of (l := [h 0]) (fun i hi => ?_) (bf1 _ (Nat.lt_succ_of_le (hh 0 (by omega))))
    have : i = 0 := by omega
    subst this; rfl
  | 2, _, hh =>
    refine okh_of (l := [h 0, h 1]) (fun i hi => ?_) (bf2 _ (Nat.lt_succ_of_le (hh 0 (by omega))) _ (Nat.lt_succ_of_le (hh 1 (by omega))))
    match i, hi with
    | 0, _ => rfl
    | 1, _ => rfl
  | 3, _, hh =>
    refine okh_of (l := [h 0, h 1, h 2]) (fun i hi => ?_) (bf3 _ (Nat.lt_succ_of_le (hh 0 (by omega))) _ (Nat.lt_succ_of_le (hh 1 (by omega))) _ (Nat.lt_succ_of_le (hh 2 (by omega))))
    match i, hi with
    | 0, _ => rfl
    | 1, _ => rfl
    | 2, _ => rfl
  | 4, _, hh =>
    refine okh_of (l := [h 0, h 1, h 2, h 3]) (fun i hi => ?_) (bf4 _ (Nat.lt_succ_of_le (hh 0 (by omega))) _ (Nat.lt_succ_of_le (hh 1 (by omega))) _ (Nat.lt_succ_of_le (hh 2 (by omega))) _ (Nat.lt_succ_of_le (hh 3 (by omega))))
    match i, hi with
    | 0, _ => rfl
    | 1, _ => rfl
    | 2, _ => rfl
    | 3, _ => rfl
  | 5, _, hh =>
    refine okh_of (l := [h 0, h 1, h 2, h 3, h 4]) (fun i hi => ?_) ?_
    · match i, hi with
      | 0, _ => rfl
      | 1, _ => rfl
      | 2, _ => rfl
      | 3, _ => rfl
      | 4, _ => rfl
    · have h1 := Nat.lt_succ_of_le (hh 1 (by omega))
      have h2 := Nat.lt_succ_of_le (hh 2 (by omega))
      have h3 := Nat.lt_succ_of_le (hh 3 (by omega))
      have h4 := Nat.lt_succ_of_le (hh 4 (by omega))
      have h0 := hh 0 (by omega)
      generalize h 0 = a at h0 ⊢
      match a, h0 with
      | 0, _ => exact bf50 _ h1 _ h2 _ h3 _ h4
      | 1, _ => exact bf51 _ h1 _ h2 _ h3 _ h4
      | 2, _ => exact bf52 _ h1 _ h2 _ h3 _ h4
      | 3, _ => exact bf53 _ h1 _ h2 _ h3 _ h4
      | 4, _ => exact bf54 _ h1 _ h2 _ h3 _ h4
      | 5, _ => exact bf55 _ h1 _ h2 _ h3 _ h4
/-- a state's number among the others, the root is M -/
def cdR (root M v : Nat) : Nat := if v = root then M else if v < root then v else v - 1
theorem ot_inj {root i j : Nat} (h : ot root i = ot root j) : i = j := by
  unfold ot at h
  split at h <;> split at h <;> omega
theorem ot_ne {root i : Nat} : ot root i ≠ root := by
  unfold ot
  split <;> omega
theorem cd_eq {root M v c : Nat} (hr : root ≤ M) (hc : c < M) : (cdR root M v = c) ↔ v = ot root c := by
  unfold cdR ot
  split
  · split <;> omega
  · split <;> split <;> omega
theorem cd_le {root M v : Nat} (hr : root ≤ M) (hv : v < M + 1) : cdR root M v ≤ M := by
  unfold cdR
  split
  · omega
  · split <;> omega
theorem cd_ot {root M v : Nat} (hr : root ≤ M) (hv : v < M + 1) (h : v ≠ root) : cdR root M v < M ∧ ot root (cdR root M v) = v := by
  unfold cdR ot
  rw [if_neg h]
  by_cases z : v < root
  · rw [if_pos z]
    exact ⟨by omega, if_pos z⟩
  · rw [if_neg z]
    exact ⟨by omega, by rw [if_neg (by omega)]; omega⟩
/-- the entry's slots -/
def Dis (g : Nat → Nat → Nat) (root M i s c : Nat) : Int := (if i = c then 1 else 0) - (if cdR root M (g (ot root i) s) = c then 1 else 0)
theorem EN_Dis {g : Nat → Nat → Nat} {k root M r c : Nat} (hr : root ≤ M) (hc : c < M) : EN g k root r c = Int64.ofInt (sI (fun s => Dis g root M r s c) k) := by
  unfold EN Dis
  rw [sI_sub, sI_const]
  have e : sI (fun s => if cdR root M (g (ot root r) s) = c then 1 else 0) k = (cnt (g (ot root r)) (ot root c) k : Int) := by
    rw [← sI_cnt k]
    refine sI_congr (fun s _ => ?_)
    by_cases z : g (ot root r) s = ot root c
    · rw [if_pos z, if_pos ((cd_eq hr hc).mpr z)]
    · rw [if_neg z, if_neg (fun q => z ((cd_eq hr hc).mp q))]
  rw [e]
  have hle := cnt_le (g (ot root r)) (ot root c) k
  by_cases z : r = c
  · subst z
    rw [if_pos rfl, if_pos rfl, ofIn, Int.mul_one, Int.natCast_sub hle]
  · rw [if_neg (fun q => z (ot_inj q)), if_neg z, ofIn, Int.mul_zero, Int.zero_sub, Int64.ofInt_neg]
/-- the rest of a state, as a whole number -/
def RTI (g : Nat → Nat → Nat) (n k root : Nat) : Int := dt (fun i c => sI (fun s => Dis g root (n - 1) i s c) k) (n - 1) (n - 1) (2 ^ (n - 1) - 1)
theorem bitsA : ∀ M, M < 6 → bitsN (2 ^ M - 1) 6 = M := by decide +kernel
theorem RV_RTI {g : Nat → Nat → Nat} {n k root : Nat} (hn : n ≤ 6) (hr : root < n) : RV g n k root = Int64.ofInt (RTI g n k root) :=
  mv_dt (by omega) (fun i c _ hc => EN_Dis (by omega) hc) (n - 1) _ (by have := Nat.two_pow_pos (n - 1); omega) (bitsA (n - 1) (by omega))
def bZ (b : Bool) : Int := if b = true then 1 else 0
theorem bZ_nn {b : Bool} : 0 ≤ bZ b := by cases b <;> decide
theorem bZ_le {b : Bool} : bZ b ≤ 1 := by cases b <;> decide
theorem RTI_sL0 {g : Nat → Nat → Nat} {n k root : Nat} (hg : ∀ i j, i < n → j < k → g i j < n) (hn : n ≤ 6) (hr : root < n) (σ0 : Nat → Nat) : RTI g n k root = sL k (Lr (ot root) (n - 1)) (fun σ => bZ (trb (fun i => cdR root (n - 1) (g (ot root i) (σ (ot root i)))) (n - 1))) σ0 := by
  unfold RTI
  rw [dt_lin (D := fun i s c => Dis g root (n - 1) i s c) (r := ot root) (fun i j h => ot_inj h) (n - 1) _ σ0]
  refine sL_congr (fun σ h1 _ => ?_)
  show dt (fun i c => (if i = c then 1 else 0) - (if (fun i => cdR root (n - 1) (g (ot root i) (σ (ot root i)))) i = c then 1 else 0)) (n - 1) (n - 1) _ = _
  rw [dt_dh (n - 1) _ (Nat.le_refl _)]
  rw [dh_tr (by omega) (fun i hi => cd_le (by omega) (by
    have h3 := ot_lt (root := root) hi hr
    have := hg _ _ h3 (h1 _ (Lr_mem.mpr ⟨i, hi, rfl⟩))
    omega))]
  rfl
/-! functional graphs -/
abbrev fG1 (f : Nat → Nat) : Nat → Nat → Nat := fun a _ => f a
theorem W1_det {f : Nat → Nat} {i : Nat} : ∀ t b b', Wk (fG1 f) 1 i t b → Wk (fG1 f) 1 i t b' → b = b' := by
  intro t
  induction t with
  | zero => intro b b' h h'; exact (show b = i from h).trans (show b' = i from h').symm
  | succ t ih =>
    rintro b b' ⟨c, h1, _, _, e⟩ ⟨c', h1', _, _, e'⟩
    have : c = c' := ih c c' h1 h1'
    subst this
    exact e.symm.trans e'
theorem W1_tail {f : Nat → Nat} {i a e : Nat} (h : Wk (fG1 f) 1 i a e) : ∀ d b, Wk (fG1 f) 1 i (a + d) b → Wk (fG1 f) 1 e d b := by
  intro d
  induction d with
  | zero => intro b hb; exact W1_det a b e hb h
  | succ d ih =>
    rintro b ⟨c, h1, h2⟩
    exact ⟨c, ih c h1, h2⟩
theorem W1_ex {f : Nat → Nat} {i : Nat} : ∀ t, ∃ b, Wk (fG1 f) 1 i t b := by
  intro t
  induction t with
  | zero => exact ⟨i, rfl⟩
  | succ t ih =>
    obtain ⟨b, h⟩ := ih
    exact ⟨f b, b, h, 0, by omega, rfl⟩
/-- all states lead to r -/
def TRb (f : Nat → Nat) (n r : Nat) : Bool := allB (fun i => (rcA (fG1 f) n 1 i (n - 1)).testBit r) n
theorem TR_iff {f : Nat → Nat} {n r : Nat} (hf : ∀ a, a < n → f a < n) (hn : n ≤ 6) : TRb f n r = true ↔ ∀ i, i < n → Rc (fG1 f) 1 i r := by
  unfold TRb
  rw [allB_iff]
  constructor
  · intro h i hi; exact (rc_iff (fun a _ ha _ => hf a ha) hn hi).mp (h i hi)
  · intro h i hi; exact (rc_iff (fun a _ ha _ => hf a ha) hn hi).mpr (h i hi)
def abs (f : Nat → Nat) (root a : Nat) : Nat := if a = root then root else f a
theorem Rc_abs1 {f : Nat → Nat} {root i : Nat} : ∀ t b, Wk (fG1 (abs f root)) 1 i t b → Rc (fG1 f) 1 i b := by
  intro t
  induction t with
  | zero => intro b h; exact (show b = i from h) ▸ Rc_refl
  | succ t ih =>
    rintro b ⟨c, h1, s, hs, e⟩
    have e : abs f root c = b := e
    unfold abs at e
    by_cases z : c = root
    · rw [if_pos z] at e
      rw [← e, ← z]; exact ih c h1
    · rw [if_neg z] at e
      rw [← e]
      exact Rc_trans (ih c h1) (Rc_one (g := fG1 f) hs)
theorem Rc_abs2 {f : Nat → Nat} {root i : Nat} : ∀ t b, Wk (fG1 f) 1 i t b → Wk (fG1 (abs f root)) 1 i t b ∨ Rc (fG1 (abs f root)) 1 i root := by
  intro t
  induction t with
  | zero => intro b h; exact Or.inl h
  | succ t ih =>
    rintro b ⟨c, h1, s, hs, e⟩
    rcases ih c h1 with h | h
    · by_cases z : c = root
      · exact Or.inr ⟨t, z ▸ h⟩
      · exact Or.inl ⟨c, h, s, hs, by show (if c = root then root else f c) = b; rw [if_neg z]; exact e⟩
    · exact Or.inr h
theorem abs_stay {f : Nat → Nat} {root i u : Nat} (h : Wk (fG1 (abs f root)) 1 i u root) : ∀ d, Wk (fG1 (abs f root)) 1 i (u + d) root := by
  intro d
  induction d with
  | zero => exact h
  | succ d ih => exact ⟨root, ih, 0, by omega, if_pos rfl⟩
def odR (root M j : Nat) : Nat := if j < M then ot root j else root
theorem od_step {f : Nat → Nat} {root M j : Nat} (hf : ∀ a, a < M + 1 → f a < M + 1) (hr : root ≤ M) (hj : j ≤ M) : nxt (fun i => cdR root M (f (ot root i))) M j ≤ M ∧ abs f root (odR root M j) = odR root M (nxt (fun i => cdR root M (f (ot root i))) M j) := by
  by_cases z : j < M
  · have e1 : nxt (fun i => cdR root M (f (ot root i))) M j = cdR root M (f (ot root j)) := if_pos z
    have e2 : odR root M j = ot root j := if_pos z
    have e3 : abs f root (ot root j) = f (ot root j) := if_neg ot_ne
    have hv : f (ot root j) < M + 1 := hf _ (by unfold ot; split <;> omega)
    rw [e1, e2, e3]
    by_cases y : f (ot root j) = root
    · have e4 : cdR root M (f (ot root j)) = M := if_pos y
      rw [e4]
      exact ⟨Nat.le_refl _, by rw [y]; exact (if_neg (Nat.lt_irrefl M)).symm⟩
    · obtain ⟨h1, h2⟩ := cd_ot hr hv y
      exact ⟨Nat.le_of_lt h1, by
        have e5 : odR root M (cdR root M (f (ot root j))) = ot root (cdR root M (f (ot root j))) := if_pos h1
        rw [e5, h2]⟩
  · have e0 : j = M := by omega
    subst e0
    have e1 : nxt (fun i => cdR root j (f (ot root i))) j j = j := if_neg (Nat.lt_irrefl j)
    have e2 : odR root j j = root := if_neg (Nat.lt_irrefl j)
    rw [e1, e2]
    exact ⟨Nat.le_refl _, if_pos rfl⟩
theorem itr_od {f : Nat → Nat} {root M i : Nat} (hf : ∀ a, a < M + 1 → f a < M + 1) (hr : root ≤ M) (hi : i < M) : ∀ t, itr (fun i => cdR root M (f (ot root i))) M t i ≤ M ∧ Wk (fG1 (abs f root)) 1 (ot root i) t (odR root M (itr (fun i => cdR root M (f (ot root i))) M t i)) := by
  intro t
  induction t with
  | zero => exact ⟨Nat.le_of_lt hi, if_pos hi⟩
  | succ t ih =>
    obtain ⟨h1, h2⟩ := ih
    obtain ⟨h3, h4⟩ := od_step (root := root) hf hr h1
    exact ⟨h3, _, h2, 0, Nat.lt_succ_self 0, h4⟩
theorem od_root {root M j : Nat} (hj : j ≤ M) (h : odR root M j = root) : j = M := by
  by_cases z : j < M
  · have e : odR root M j = ot root j := if_pos z
    exact absurd (e.symm.trans h) ot_ne
  · omega
theorem trb_TRb {f : Nat → Nat} {n root : Nat} (hf : ∀ a, a < n → f a < n) (hn : n ≤ 6) (hr : root < n) : trb (fun i => cdR root (n - 1) (f (ot root i))) (n - 1) = TRb f n root := by
  obtain ⟨M, rfl⟩ : ∃ M, n = M + 1 := ⟨n - 1, by omega⟩
  show trb (fun i => cdR root M (f (ot root i))) M = TRb f (M + 1) root
  rw [Bool.eq_iff_iff, TR_iff hf hn]
  unfold trb
  rw [allB_iff]
  have hA : ∀ a, a < M + 1 → abs f root a < M + 1 := fun a ha => by
    unfold abs
    split
    · exact hr
    · exact hf a ha
  constructor
  · intro h v hv
    by_cases z : v = root
    · subst z; exact Rc_refl
    · obtain ⟨h1, h2⟩ := cd_ot (root := root) (M := M) (by omega) hv z
      have h3 := of_decide_eq_true (h _ h1)
      have h4 := (itr_od (root := root) hf (by omega) h1 M).2
      rw [h3, show odR root M M = root from if_neg (Nat.lt_irrefl M), h2] at h4
      exact Rc_abs1 M root h4
  · intro h i hi
    refine decide_eq_true ?_
    have hoi : ot root i < M + 1 := by unfold ot; split <;> omega
    obtain ⟨t, ht⟩ := h _ hoi
    have hw : Rc (fG1 (abs f root)) 1 (ot root i) root := (Rc_abs2 t root ht).elim (fun q => ⟨t, q⟩) id
    obtain ⟨t2, ht2⟩ := hw
    obtain ⟨u, hu, hwu⟩ := Wk_b (n := M + 1) (fun a _ ha _ => hA a ha) hn hoi ht2
    have h5 := abs_stay hwu (M - u)
    rw [show u + (M - u) = M by omega] at h5
    obtain ⟨h6, h7⟩ := itr_od (root := root) hf (by omega) hi M
    exact od_root h6 (W1_det M _ _ h7 h5)
/-- the slots of a choice -/
abbrev fS (g : Nat → Nat → Nat) (σ : Nat → Nat) : Nat → Nat := fun a => g a (σ a)
theorem RTI_sL {g : Nat → Nat → Nat} {n k root : Nat} (hg : ∀ i j, i < n → j < k → g i j < n) (hn : n ≤ 6) (hr : root < n) (σ0 : Nat → Nat) (h0 : σ0 root < k) : RTI g n k root = sL k (Lr (ot root) (n - 1)) (fun σ => bZ (TRb (fS g σ) n root)) σ0 := by
  rw [RTI_sL0 hg hn hr σ0]
  refine sL_congr (fun σ h1 h2 => ?_)
  refine congrArg bZ (trb_TRb (f := fS g σ) (fun a ha => hg a _ ha ?_) hn hr)
  by_cases z : a = root
  · rw [z, h2 root (fun h => by obtain ⟨i, _, e⟩ := Lr_mem.mp h; exact ot_ne e)]; exact h0
  · obtain ⟨q1, q2⟩ := cd_ot (root := root) (M := n - 1) (by omega) (by omega) z
    exact h1 a (Lr_mem.mpr ⟨_, q1, q2⟩)
theorem Lr_pm : ∀ n, n < 7 → ∀ root, root < n → (root :: Lr (ot root) (n - 1)).Perm (List.range n) := by decide +kernel
/-- over all slots, those of the root too -/
theorem RTI_all {g : Nat → Nat → Nat} {n k root : Nat} (hg : ∀ i j, i < n → j < k → g i j < n) (hn : n ≤ 6) (hr : root < n) (σ0 : Nat → Nat) (v : Nat → Int) : sI v k * RTI g n k root = sL k (List.range n) (fun σ => v (σ root) * bZ (TRb (fS g σ) n root)) σ0 := by
  rw [← sL_perm (Lr_pm n (by omega) root hr)]
  show _ = sI (fun s => sL k (Lr (ot root) (n - 1)) (fun σ => v (σ root) * bZ (TRb (fS g σ) n root)) (upN σ0 root s)) k
  rw [← sI_mulr]
  refine sI_congr (fun s hs => ?_)
  rw [RTI_sL hg hn hr (upN σ0 root s) (by rw [upN_s]; exact hs), ← sL_mul]
  refine sL_congr (fun σ _ h2 => ?_)
  rw [h2 root (fun h => by obtain ⟨i, _, e⟩ := Lr_mem.mp h; exact ot_ne e), upN_s]
theorem RTI_nn {g : Nat → Nat → Nat} {n k root : Nat} (hg : ∀ i j, i < n → j < k → g i j < n) (hn : n ≤ 6) (hr : root < n) : 0 ≤ RTI g n k root := by
  rw [RTI_sL0 hg hn hr (fun _ => 0)]
  exact sL_nn (fun σ => bZ_nn)
theorem RTI_le {g : Nat → Nat → Nat} {n k root : Nat} (hg : ∀ i j, i < n → j < k → g i j < n) (hn : n ≤ 6) (hk : k ≤ 12) (hk1 : 1 ≤ k) (hr : root < n) : RTI g n k root ≤ 248832 := by
  rw [RTI_sL0 hg hn hr (fun _ => 0)]
  refine Int.le_trans (sL_le (fun σ => bZ_le)) ?_
  rw [Lr_len]
  have h1 : k ^ (n - 1) ≤ 12 ^ (n - 1) := Nat.pow_le_pow_left hk _
  have h2 : 12 ^ (n - 1) ≤ 12 ^ 5 := Nat.pow_le_pow_right (by decide) (by omega)
  have h3 : (12 : Nat) ^ 5 = 248832 := by decide
  omega
/-! one of those before it on the way round -/
theorem Rc_to {f : Nat → Nat} {n i j c : Nat} (h : Rc (fG1 f) 1 i j) (e : f j = c) : Rc (fG1 f) 1 i c := Rc_trans h (e ▸ Rc_one (g := fG1 f) (s := 0) (by omega))
theorem W1_min {f : Nat → Nat} {i b : Nat} (h : Rc (fG1 f) 1 i b) : ∃ t, Wk (fG1 f) 1 i t b ∧ ∀ u, u < t → ¬ Wk (fG1 f) 1 i u b := pk_least _ h
theorem bef_le {f : Nat → Nat} {c j1 j2 a1 a2 : Nat} (e1 : f j1 = c) (h1 : Wk (fG1 f) 1 c a1 j1) (h2 : Wk (fG1 f) 1 c a2 j2) (m2 : ∀ u, u < a2 → ¬ Wk (fG1 f) 1 c u j2) : a2 ≤ a1 := by
  refine Nat.le_of_not_lt (fun hlt => ?_)
  have hp : Wk (fG1 f) 1 c (a1 + 1) c := ⟨j1, h1, 0, by omega, e1⟩
  have h3 := W1_tail hp (a2 - (a1 + 1)) j2 (by rw [show a1 + 1 + (a2 - (a1 + 1)) = a2 by omega]; exact h2)
  exact m2 (a2 - (a1 + 1)) (by omega) h3
theorem bef_one {f : Nat → Nat} {c j1 j2 : Nat} (e1 : f j1 = c) (e2 : f j2 = c) (h1 : Rc (fG1 f) 1 c j1) (h2 : Rc (fG1 f) 1 c j2) : j1 = j2 := by
  obtain ⟨a1, w1, m1⟩ := W1_min h1
  obtain ⟨a2, w2, m2⟩ := W1_min h2
  have q1 := bef_le e1 w1 w2 m2
  have q2 := bef_le e2 w2 w1 m1
  have : a1 = a2 := by omega
  subst this
  exact W1_det a1 j1 j2 w1 w2
theorem TR_sum {f : Nat → Nat} {n c : Nat} (hf : ∀ a, a < n → f a < n) (hn : n ≤ 6) (hc : c < n) : sI (fun j => (if f j = c then 1 else 0) * bZ (TRb f n j)) n = bZ (TRb f n c) := by
  by_cases hT : TRb f n c = true
  · have hT' := (TR_iff hf hn).mp hT
    obtain ⟨j, hj, ej, hjc⟩ : ∃ j, j < n ∧ f j = c ∧ Rc (fG1 f) 1 c j := by
      obtain ⟨t, ht⟩ := hT' (f c) (hf c hc)
      cases t with
      | zero => exact ⟨c, hc, (show c = f c from ht).symm, Rc_refl⟩
      | succ t =>
        obtain ⟨d, h1, s, _, e⟩ := ht
        have hd : Rc (fG1 f) 1 (f c) d := ⟨t, h1⟩
        exact ⟨d, Rc_lt (fun a _ ha _ => hf a ha) (hf c hc) hd, e, Rc_trans (Rc_one (g := fG1 f) (s := 0) (by omega)) hd⟩
    rw [hT, sI_congr (f' := fun i => if i = j then 1 else 0) (fun i hi => ?_), sI_one hj]
    · rfl
    · by_cases z : i = j
      · subst z
        rw [if_pos rfl, if_pos ej, (TR_iff hf hn).mpr (fun v hv => Rc_trans (hT' v hv) hjc)]
        rfl
      · rw [if_neg z]
        by_cases y : f i = c
        · rw [if_pos y]
          cases hb : TRb f n i with
          | false => rfl
          | true => exact absurd (bef_one y ej ((TR_iff hf hn).mp hb c hc) hjc) z
        · rw [if_neg y, Int.zero_mul]
  · have e0 : TRb f n c = false := by
      cases h : TRb f n c with
      | false => rfl
      | true => exact absurd h hT
    rw [e0, sI_congr (f' := fun _ => 0) (fun j hj => ?_), sI_zero]
    · rfl
    · by_cases y : f j = c
      · cases hb : TRb f n j with
        | false => exact Int.mul_zero _
        | true => exact absurd ((TR_iff hf hn).mpr (fun v hv => Rc_to (n := n) ((TR_iff hf hn).mp hb v hv) y)) hT
      · rw [if_neg y, Int.zero_mul]
/-- what comes to a state by a step is its rest times the slots -/
theorem RTI_bal {g : Nat → Nat → Nat} {n k c : Nat} (hg : ∀ i j, i < n → j < k → g i j < n) (hn : n ≤ 6) (hc : c < n) : sI (fun j => RTI g n k j * (cnt (g j) c k : Int)) n = (k : Int) * RTI g n k c := by
  have e1 : ∀ j, j < n → RTI g n k j * (cnt (g j) c k : Int) = sL k (List.range n) (fun σ => (if g j (σ j) = c then 1 else 0) * bZ (TRb (fS g σ) n j)) (fun _ => 0) := by
    intro j hj
    rw [Int.mul_comm, ← sI_cnt k, RTI_all hg hn hj (fun _ => 0) (fun s => if g j s = c then 1 else 0)]
  rw [sI_congr e1, ← sL_sI]
  have e2 : (k : Int) * RTI g n k c = sI (fun _ => 1) k * RTI g n k c := by rw [sI_const, Int.mul_one]
  rw [e2, RTI_all hg hn hc (fun _ => 0) (fun _ => 1)]
  refine sL_congr (fun σ h1 _ => ?_)
  rw [Int.one_mul]
  exact TR_sum (f := fS g σ) (fun a ha => hg a _ ha (h1 a (List.mem_range.mpr ha))) hn hc
/-! ===== which rests are 0 ===== -/
theorem Wk_head {g : Nat → Nat → Nat} {k i : Nat} : ∀ t b, Wk g k i (t + 1) b → ∃ s, s < k ∧ Wk g k (g i s) t b := by
  intro t
  induction t with
  | zero =>
    rintro b ⟨c, h1, s, hs, e⟩
    have h1 : c = i := h1
    subst h1
    exact ⟨s, hs, e.symm⟩
  | succ t ih =>
    rintro b ⟨c, h1, h2⟩
    obtain ⟨s, hs, h3⟩ := ih c h1
    exact ⟨s, hs, c, h3, h2⟩
theorem tree_ex {g : Nat → Nat → Nat} {k r : Nat} (hk : 1 ≤ k) : ∃ σ : Nat → Nat, (∀ a, σ a < k) ∧ ∀ t a, Wk g k a t r → Rc (fG1 (fS g σ)) 1 a r := by
  have H : ∀ a, ∃ s, s < k ∧ ∀ t, Wk g k a t r → (∀ u, u < t → ¬ Wk g k a u r) → a ≠ r → Wk g k (g a s) (t - 1) r := by
    intro a
    by_cases z : ∃ t, Wk g k a t r
    · obtain ⟨t0, w0, m0⟩ := pk_least _ z
      by_cases y : a = r
      · exact ⟨0, by omega, fun _ _ _ h => absurd y h⟩
      · cases t0 with
        | zero => exact absurd (show r = a from w0).symm y
        | succ t0 =>
          obtain ⟨s, hs, hw⟩ := Wk_head t0 r w0
          refine ⟨s, hs, fun t wt mt _ => ?_⟩
          have e : t = t0 + 1 := by
            rcases Nat.lt_trichotomy t (t0 + 1) with q | q | q
            · exact absurd wt (m0 t q)
            · exact q
            · exact absurd w0 (mt _ q)
          rw [e]; exact hw
    · exact ⟨0, by omega, fun t wt _ _ => absurd ⟨t, wt⟩ z⟩
  obtain ⟨σ, hσ⟩ := Classical.skolem.mp H
  refine ⟨σ, fun a => (hσ a).1, ?_⟩
  intro t
  induction t using Nat.strongRecOn with
  | ind t ih =>
    intro a wt
    by_cases y : a = r
    · subst y; exact Rc_refl
    · obtain ⟨t0, w0, m0⟩ := pk_least _ (⟨t, wt⟩ : ∃ t, Wk g k a t r)
      have hle : t0 ≤ t := Nat.le_of_not_lt (fun q => m0 t q wt)
      have hpos : t0 ≠ 0 := fun e => by subst e; exact y (show r = a from w0).symm
      exact Rc_trans (Rc_one (g := fG1 (fS g σ)) (s := 0) (by omega)) (ih (t0 - 1) (by omega) _ ((hσ a).2 t0 w0 m0 y))
theorem RTI_pos {g : Nat → Nat → Nat} {n k r : Nat} (hg : ∀ i j, i < n → j < k → g i j < n) (hn : n ≤ 6) (hk : 1 ≤ k) (hr : r < n) (h : ∀ a, a < n → Rc g k a r) : 0 < RTI g n k r := by
  obtain ⟨σ, h1, h2⟩ := tree_ex (g := g) (r := r) hk
  have hT : TRb (fS g σ) n r = true := (TR_iff (fun a ha => hg a _ ha (h1 a)) hn).mpr (fun a ha => by
    obtain ⟨t, ht⟩ := h a ha
    exact h2 t a ht)
  rw [RTI_sL hg hn hr σ (h1 r)]
  have := sL_ge (k := k) (F := fun σ => bZ (TRb (fS g σ) n r)) (fun σ => bZ_nn) (τ := σ) (L := Lr (ot r) (n - 1)) (σ0 := σ) (fun b _ => h1 b) (fun b _ => rfl)
  rw [hT] at this
  have e1 : bZ true = 1 := rfl
  omega
theorem Rc_fS {g : Nat → Nat → Nat} {n k i b : Nat} {σ : Nat → Nat} (hg : ∀ i j, i < n → j < k → g i j < n) (hs : ∀ a, a < n → σ a < k) (hi : i < n) (h : Rc (fG1 (fS g σ)) 1 i b) : Rc g k i b := by
  obtain ⟨t, h⟩ := h
  revert b
  induction t with
  | zero => intro b h; exact (show b = i from h) ▸ Rc_refl
  | succ t ih =>
    rintro b ⟨c, h1, s, _, e⟩
    have h2 := ih h1
    have hc := Rc_lt hg hi h2
    exact Rc_trans h2 (e ▸ Rc_one (hs c hc))
theorem RTI_zero {g : Nat → Nat → Nat} {n k r : Nat} (hg : ∀ i j, i < n → j < k → g i j < n) (hn : n ≤ 6) (hk : 1 ≤ k) (hr : r < n) (h : ¬ ∀ a, a < n → Rc g k a r) : RTI g n k r = 0 := by
  rw [RTI_sL hg hn hr (fun _ => 0) hk, sL_congr (F' := fun _ => 0) (fun σ h1 h2 => ?_), sL_z]
  have hs : ∀ a, a < n → σ a < k := fun a ha => by
    by_cases z : a = r
    · rw [z, h2 r (fun h => by obtain ⟨i, _, e⟩ := Lr_mem.mp h; exact ot_ne e)]; exact hk
    · obtain ⟨q1, q2⟩ := cd_ot (root := r) (M := n - 1) (by omega) (by omega) z
      exact h1 a (Lr_mem.mpr ⟨_, q1, q2⟩)
  cases hb : TRb (fS g σ) n r with
  | false => rfl
  | true => exact absurd (fun a ha => Rc_fS hg hs ha ((TR_iff (fun a ha => hg a _ ha (hs a ha)) hn).mp hb a ha)) h
/-! closed classes -/
theorem low_iff {g : Nat → Nat → Nat} {n k i : Nat} (hg : ∀ i j, i < n → j < k → g i j < n) (hn : n ≤ 6) (hi : i < n) : lowB g n k i = true ↔ ∀ q, q < n → Rc g k i q → i ≤ q ∧ Rc g k q i := by
  unfold lowB
  rw [allB_iff]
  have e : ∀ q, q < n → (lwF g n k i q = true ↔ (Rc g k i q → i ≤ q ∧ Rc g k q i)) := by
    intro q hq
    unfold lwF
    rw [Bool.or_eq_true, Bool.and_eq_true, Bool.not_eq_true', Bool.not_eq_true', decide_eq_true_iff, decide_eq_false_iff_not, decide_eq_false_iff_not, and_tb, and_tb, rc_iff hg hn hi, rc_iff hg hn hq]
    constructor
    · rintro (h | ⟨h1, h2⟩) h3
      · exact absurd h3 h
      · exact ⟨Nat.le_of_not_lt h1, Classical.not_not.mp h2⟩
    · intro h
      by_cases z : Rc g k i q
      · obtain ⟨h1, h2⟩ := h z
        exact Or.inr ⟨Nat.not_lt.mpr h1, fun q => q h2⟩
      · exact Or.inl z
  constructor
  · intro h q hq; exact (e q hq).mp (h q hq)
  · intro h q hq; exact (e q hq).mpr (h q hq)
/-- from each state a lowest one of a closed class is reached -/
theorem low_ex {g : Nat → Nat → Nat} {n k : Nat} (hg : ∀ i j, i < n → j < k → g i j < n) (hn : n ≤ 6) : ∀ m a, a < n → nB (fun b => (rcA g n k a (n - 1)).testBit b) n = m → ∃ i, i < n ∧ Rc g k a i ∧ lowB g n k i = true := by
  intro m
  induction m using Nat.strongRecOn with
  | ind m ih =>
    intro a ha hm
    by_cases z : ∃ b, b < n ∧ Rc g k a b ∧ ¬ Rc g k b a
    · obtain ⟨b, hb, h1, h2⟩ := z
      have hlt : nB (fun q => (rcA g n k b (n - 1)).testBit q) n < nB (fun q => (rcA g n k a (n - 1)).testBit q) n := by
        refine nB_lt ha (fun q hq h => (rc_iff hg hn ha).mpr (Rc_trans h1 ((rc_iff hg hn hb).mp h))) ?_ ((rc_iff hg hn ha).mpr Rc_refl)
        cases e : (rcA g n k b (n - 1)).testBit a with
        | false => rfl
        | true => exact absurd ((rc_iff hg hn hb).mp e) h2
      obtain ⟨i, hi, h3, h4⟩ := ih _ (by omega) b hb rfl
      exact ⟨i, hi, Rc_trans h1 h3, h4⟩
    · have hback : ∀ b, Rc g k a b → Rc g k b a := fun b hb => Classical.byContradiction (fun h => z ⟨b, Rc_lt hg ha hb, hb, h⟩)
      obtain ⟨i, hi, mi⟩ := pk_least (fun i => Rc g k a i) ⟨a, Rc_refl⟩
      have hin := Rc_lt hg ha hi
      refine ⟨i, hin, hi, (low_iff hg hn hin).mpr (fun q hq h => ?_)⟩
      have h1 := Rc_trans hi h
      exact ⟨Nat.le_of_not_lt (fun hlt => mi q hlt h1), Rc_trans (hback q h1) hi⟩
theorem nB_ge1 {f : Nat → Bool} {n i : Nat} (hi : i < n) (h : f i = true) : 1 ≤ nB f n := by
  induction n with
  | zero => omega
  | succ n ih =>
    show 1 ≤ nB f n + (if f n = true then 1 else 0)
    by_cases z : i = n
    · rw [← z, if_pos h]; omega
    · have := ih (by omega); omega
theorem nB_zero {f : Nat → Bool} : ∀ {n : Nat}, (∀ i, i < n → f i = false) → nB f n = 0 := by
  intro n
  induction n with
  | zero => intro _; rfl
  | succ n ih =>
    intro h
    show nB f n + (if f n = true then 1 else 0) = 0
    rw [ih (fun i hi => h i (by omega)), h n (by omega)]
    rfl
theorem nB_le1 {f : Nat → Bool} : ∀ {n : Nat}, (∀ i j, i < n → j < n → f i = true → f j = true → i = j) → nB f n ≤ 1 := by
  intro n
  induction n with
  | zero => intro _; exact Nat.zero_le _
  | succ n ih =>
    intro h
    show nB f n + (if f n = true then 1 else 0) ≤ 1
    by_cases z : f n = true
    · rw [if_pos z, nB_zero (fun i hi => ?_)]
      · omega
      · cases e : f i with
        | false => rfl
        | true => have := h i n (by omega) (by omega) e z; omega
    · rw [if_neg z]
      have := ih (fun i j hi hj => h i j (by omega) (by omega))
      omega
theorem nB_two {f : Nat → Bool} {n i j : Nat} (hi : i < n) (hj : j < n) (h1 : f i = true) (h2 : f j = true) (hn : nB f n ≤ 1) : i = j := by
  induction n with
  | zero => omega
  | succ n ih =>
    have hn : nB f n + (if f n = true then 1 else 0) ≤ 1 := hn
    by_cases z : f n = true
    · rw [if_pos z] at hn
      have e : ∀ q, q < n → f q = true → False := fun q hq hf => by have := nB_ge1 hq hf; omega
      by_cases y1 : i = n
      · by_cases y2 : j = n
        · omega
        · exact (e j (by omega) h2).elim
      · exact (e i (by omega) h1).elim
    · rw [if_neg z] at hn
      have y1 : i ≠ n := fun e => z (e ▸ h1)
      have y2 : j ≠ n := fun e => z (e ▸ h2)
      exact ih (by omega) (by omega) (by omega)
theorem cl_pos {g : Nat → Nat → Nat} {n k : Nat} (hg : ∀ i j, i < n → j < k → g i j < n) (hn1 : 1 ≤ n) (hn : n ≤ 6) : 1 ≤ nB (lowB g n k) n := by
  obtain ⟨i, hi, _, h⟩ := low_ex (g := g) (k := k) hg hn _ 0 (by omega) rfl
  exact nB_ge1 hi h
theorem low_all {g : Nat → Nat → Nat} {n k r i j : Nat} (hg : ∀ i j, i < n → j < k → g i j < n) (hn : n ≤ 6) (hr : r < n) (h : ∀ a, a < n → Rc g k a r) (hi : i < n) (hj : j < n) (h1 : lowB g n k i = true) (h2 : lowB g n k j = true) : i = j := by
  have q1 := (low_iff hg hn hi).mp h1
  have q2 := (low_iff hg hn hj).mp h2
  have r1 := (q1 r hr (h i hi)).2
  have r2 := (q2 r hr (h j hj)).2
  have a1 := (q1 j hj (Rc_trans (h i hi) r2)).1
  have a2 := (q2 i hi (Rc_trans (h j hj) r1)).1
  omega
/-- the whole rest is 0 just with several closed classes -/
theorem RTI_cl {g : Nat → Nat → Nat} {n k : Nat} (hg : ∀ i j, i < n → j < k → g i j < n) (hn1 : 1 ≤ n) (hn : n ≤ 6) (hk : 1 ≤ k) : sI (RTI g n k) n = 0 ↔ 1 < nB (lowB g n k) n := by
  constructor
  · intro h
    refine Nat.lt_of_not_le (fun hle => ?_)
    obtain ⟨i, hi, _, hl⟩ := low_ex (g := g) (k := k) hg hn _ 0 (by omega) rfl
    have hall : ∀ a, a < n → Rc g k a i := fun a ha => by
      obtain ⟨j, hj, hr, hl2⟩ := low_ex (g := g) (k := k) hg hn _ a ha rfl
      rw [nB_two hi hj hl hl2 hle]; exact hr
    have h1 := RTI_pos hg hn hk hi hall
    have h2 := sI_one_le (f := RTI g n k) (fun j hj => RTI_nn hg hn hj) hi
    omega
  · intro h
    rw [sI_congr (f' := fun _ => 0) (fun r hr => RTI_zero hg hn hk hr (fun hall => ?_)), sI_zero]
    have := nB_le1 (f := lowB g n k) (n := n) (fun i j hi hj h1 h2 => low_all hg hn hr hall hi hj h1 h2)
    omega
