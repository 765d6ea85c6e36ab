def RW (g : Nat → Nat → Nat) (k w : Nat) : Nat → Nat → Nat
  | 0, i => if i = w then 1 else 0
  | t + 1, i => sm (fun s => RW g k w t (g i s)) k
/-- the first one that P takes, from u on -/
def mxs (P : Nat → Bool) : Nat → Nat → Int32
  | 0, _ => -1
  | fu + 1, u => if P u = true then nI u else mxs P fu (u + 1)
theorem mxs_t {P : Nat → Bool} {N u : Nat} (h : u < N) (h2 : P u = true) : mxs P (N - u) u = nI u := by
  obtain ⟨fu, e⟩ : ∃ fu, N - u = fu + 1 := ⟨N - u - 1, by omega⟩
  rw [e]
  show (if P u = true then _ else _) = _
  rw [if_pos h2]
theorem mxs_f {P : Nat → Bool} {N u : Nat} (h : u < N) (h2 : P u = false) : mxs P (N - u) u = mxs P (N - (u + 1)) (u + 1) := by
  obtain ⟨fu, e⟩ : ∃ fu, N - u = fu + 1 := ⟨N - u - 1, by omega⟩
  rw [e, show N - (u + 1) = fu by omega]
  show (if P u = true then _ else _) = _
  rw [h2]; rfl
theorem mxs_e {P : Nat → Bool} {N u : Nat} (h : N ≤ u) : mxs P (N - u) u = -1 := by
  rw [show N - u = 0 by omega]; rfl
def fairC (fp : Nat → Int32) (g : Nat → Nat → Nat) (n k : Nat) : Bool := allB (fun q => decide (DC fp g n k q = lN 0)) n
theorem inR_1 {x lo hi : Int32} (h : inR x lo hi = true) : ¬ x < lo := by
  simp only [inR, Bool.and_eq_true, Bool.not_eq_true', decide_eq_false_iff_not] at h
  exact h.1
theorem inR_2 {x lo hi : Int32} (h : inR x lo hi = true) : ¬ hi < x := by
  simp only [inR, Bool.and_eq_true, Bool.not_eq_true', decide_eq_false_iff_not] at h
  exact h.2
theorem inR_ff {x lo hi : Int32} (h : inR x lo hi = false) (h1 : ¬ x < lo) (h2 : ¬ hi < x) : False := by
  rw [show inR x lo hi = true by simp [inR, h1, h2]] at h
  cases h
