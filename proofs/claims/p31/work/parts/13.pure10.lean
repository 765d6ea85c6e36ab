-- games
def stV (fp : Nat → Int32) (k t i : Nat) : Int64 := (fp i).toInt64 * lN (k ^ t)
def BC (fp : Nat → Int32) (g : Nat → Nat → Nat) (n k : Nat) : Nat → Nat → Int64
  | 0, i => stV fp k 0 i
  | t + 1, i => if sumL (fun j => lN (cnt (g i) j k) * BC fp g n k t j) n < stV fp k (t + 1) i then stV fp k (t + 1) i else sumL (fun j => lN (cnt (g i) j k) * BC fp g n k t j) n
def GC (fp : Nat → Int32) (g : Nat → Nat → Nat) (n k : Nat) : Nat → Nat → Int64
  | 0, i => stV fp k 0 i
  | t + 1, i => sumL (fun j => lN (cnt (g i) j k) * BC fp g n k t j) n
theorem BC_max {fp : Nat → Int32} {g : Nat → Nat → Nat} {n k t i : Nat} : (if GC fp g n k t i < stV fp k t i then stV fp k t i else GC fp g n k t i) = BC fp g n k t i := by
  cases t with
  | zero => show (if stV fp k 0 i < stV fp k 0 i then _ else _) = _; split <;> rfl
  | succ t => rfl
def stC (fp : Nat → Int32) (g : Nat → Nat → Nat) (n k i t : Nat) : Bool := decide (GC fp g n k t i ≤ stV fp k t i)
def BT_ (fp : Nat → Int32) (g : Nat → Nat → Nat) (n k u i : Nat) (fB : Nat → Nat → Int64) : Prop := (∀ w, w < u → ∀ d, d < n → fB w d = BC fp g n k w d) ∧ ∀ d, d < i → fB u d = BC fp g n k u d
theorem BT_0 {fp : Nat → Int32} {g : Nat → Nat → Nat} {n k : Nat} {fB : Nat → Nat → Int64} : BT_ fp g n k 0 0 fB := ⟨fun w h => by omega, fun d h => by omega⟩
theorem BT_s {fp : Nat → Int32} {g : Nat → Nat → Nat} {n k u i : Nat} {fB : Nat → Nat → Int64} {x : Int64} (h : BT_ fp g n k u i fB) (hx : x = BC fp g n k u i) : BT_ fp g n k u (i + 1) (va_up fB u (vp_updL (fB u) i x)) := by
  refine ⟨fun w hw d hd => ?_, fun d hd => ?_⟩
  · rw [va_up_ne _ _ (by omega)]; exact h.1 w hw d hd
  · rw [va_up_self]
    by_cases e : d = i
    · subst e; rw [pk_uLs, hx]
    · rw [pk_uLn e]; exact h.2 d (by omega)
theorem BT_n {fp : Nat → Int32} {g : Nat → Nat → Nat} {n k u : Nat} {fB : Nat → Nat → Int64} (h : BT_ fp g n k u n fB) : BT_ fp g n k (u + 1) 0 fB := by
  refine ⟨fun w hw d hd => ?_, fun d h => by omega⟩
  by_cases e : w = u
  · subst e; exact h.2 d hd
  · exact h.1 w (by omega) d hd
def DC (fp : Nat → Int32) (g : Nat → Nat → Nat) (n k i : Nat) : Int64 := sumL (fun j => lN (cnt (g i) j k) * (fp j).toInt64) n - lN k * (fp i).toInt64
-- lumps
def lkF (g : Nat → Nat → Nat) (n k : Nat) (col : Nat → Nat) (u w x : Nat) : Bool := decide (WC g k col n u x = WC g k col n w x)
def lkB (g : Nat → Nat → Nat) (n k : Nat) (col : Nat → Nat) (u w : Nat) : Bool := allB (lkF g n k col u w) 6
def lmF (g : Nat → Nat → Nat) (n k : Nat) (col : Nat → Nat) (u w : Nat) : Bool := !decide (col u = col w) || lkB g n k col u w
def lmA (g : Nat → Nat → Nat) (n k : Nat) (col : Nat → Nat) : Bool := allB (fun u => allB (fun w => !decide (u < w) || lmF g n k col u w) n) n
theorem lmA_t {g : Nat → Nat → Nat} {n k : Nat} {col : Nat → Nat} (h : ∀ u w, u < w → w < n → lmF g n k col u w = true) : lmA g n k col = true := by
  refine allB_iff.mpr (fun u hu => allB_iff.mpr (fun w hw => ?_))
  by_cases z : u < w
  · rw [h u w z hw, Bool.or_true]
  · rw [decide_eq_false z]; rfl
theorem lmA_f {g : Nat → Nat → Nat} {n k u w : Nat} {col : Nat → Nat} (h1 : u < w) (h2 : w < n) (h : lmF g n k col u w = false) : lmA g n k col = false := by
  refine allB_f (q := u) (by omega) (allB_f (q := w) h2 ?_)
  rw [decide_eq_true h1, h]; rfl
