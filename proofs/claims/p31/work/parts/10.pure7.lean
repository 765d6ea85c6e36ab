def SO (gG gW : Nat → Nat → Int32) (k2 u : Nat) : Prop := (∀ i j, i < u → j < 12 → gG i j = nI i) ∧ ∀ i j, i < u → j < 6 → gW i j = (if i = j then nI k2 else nI 0)
theorem SO_0 {gG gW : Nat → Nat → Int32} {k2 : Nat} : SO gG gW k2 0 := ⟨fun i j h => by omega, fun i j h => by omega⟩
theorem SO_s {gG gW : Nat → Nat → Int32} {k2 u : Nat} {f1 f2 : Nat → Int32} (h : SO gG gW k2 u) (h1 : ∀ j, j < 12 → f1 j = nI u) (h2 : ∀ j, j < 6 → f2 j = nI 0) : SO (va_up gG u f1) (va_up (va_up gW u f2) u (upd (va_up gW u f2 u) u (nI k2))) k2 (u + 1) := by
  refine ⟨fun i j hi hj => ?_, fun i j hi hj => ?_⟩
  · by_cases e : i = u
    · subst e; rw [va_up_self]; exact h1 j hj
    · rw [va_up_ne _ _ e]; exact h.1 i j (by omega) hj
  · by_cases e : i = u
    · subst e
      rw [va_up_self, va_up_self]
      by_cases z : j = i
      · subst z; rw [pk_us, if_pos rfl]
      · rw [pk_un z, if_neg (Ne.symm z)]; exact h2 j hj
    · rw [va_up_ne _ _ e, va_up_ne _ _ e]; exact h.2 i j (by omega) hj
