/-! numbers of pixels -/
theorem rr_rem32 {n : Nat} (h : n < 2 ^ 31) : nI n - nI n / 32 * 32 = nI (n % 32) := pk_rem (d := 32) h (by decide) (by decide)
theorem rr_div32 {n : Nat} (h : n < 2 ^ 31) : nI n / 32 = nI (n / 32) := pk_div (d := 32) h (by decide) (by decide)
theorem rr_rem24 {n : Nat} (h : n < 2 ^ 31) : nI n - nI n / 24 * 24 = nI (n % 24) := pk_rem (d := 24) h (by decide) (by decide)
theorem rr_div24 {n : Nat} (h : n < 2 ^ 31) : nI n / 24 = nI (n / 24) := pk_div (d := 24) h (by decide) (by decide)
theorem rr_col {n : Nat} (h : n < 2 ^ 32) : nI n &&& 31 = nI (n % 32) := pk_andN h 5 (by decide)
theorem rr_row {n : Nat} (h : n < 2 ^ 31) : nI n >>> ((5 : Int32) &&& 31) = nI (n / 32) := pk_shrN h _ 5 (by decide)
/-- v is the number of the pixel (x, y) -/
def rr_P (v : Int32) (x y : Nat) : Prop := x < 24 ∧ y < 24 ∧ v = nI (32 * y + x)
theorem rr_P_col {v : Int32} {x y : Nat} (h : rr_P v x y) : v &&& 31 = nI x := by
  obtain ⟨h1, h2, rfl⟩ := h
  rw [rr_col (by omega), show (32 * y + x) % 32 = x by omega]
theorem rr_P_row {v : Int32} {x y : Nat} (h : rr_P v x y) : v >>> ((5 : Int32) &&& 31) = nI y := by
  obtain ⟨h1, h2, rfl⟩ := h
  rw [rr_row (by omega), show (32 * y + x) / 32 = y by omega]
theorem rr_P_rem {v : Int32} {x y : Nat} (h : rr_P v x y) : v - v / 32 * 32 = nI x := by
  obtain ⟨h1, h2, rfl⟩ := h
  rw [rr_rem32 (by omega), show (32 * y + x) % 32 = x by omega]
theorem rr_P_div {v : Int32} {x y : Nat} (h : rr_P v x y) : v / 32 = nI y := by
  obtain ⟨h1, h2, rfl⟩ := h
  rw [rr_div32 (by omega), show (32 * y + x) / 32 = y by omega]
theorem rr_P_or (v : Int32) : (∃ x y, rr_P v x y) ∨ ((v < 0 ∨ ∃ n : Nat, n < 2 ^ 31 ∧ v = nI n ∧ ¬ (n % 32 < 24 ∧ n / 32 < 24)) ∧ ¬ ∃ x y, rr_P v x y) := by
  by_cases h : v < 0
  · right
    refine ⟨Or.inl h, ?_⟩
    rintro ⟨x, y, h1, h2, rfl⟩
    exact nI_pos (by omega) h
  · obtain ⟨n, hn, rfl⟩ := nI_of h
    by_cases z : n % 32 < 24 ∧ n / 32 < 24
    · left
      exact ⟨n % 32, n / 32, z.1, z.2, congrArg nI (by omega)⟩
    · right
      refine ⟨Or.inr ⟨n, hn, rfl, z⟩, ?_⟩
      rintro ⟨x, y, h1, h2, e⟩
      rw [nI_eq hn (by omega)] at e
      omega
theorem rr_row_neg {v : Int32} (h : v < 0) : v >>> ((5 : Int32) &&& 31) < 0 := by
  rw [Int32.lt_iff_toInt_lt] at h ⊢
  rw [pk_shr v _ 5 (by decide), Int.shiftRight_eq_div_pow]
  have h0 : (0 : Int32).toInt = 0 := by decide
  rw [h0] at h ⊢
  generalize v.toInt = z at *
  show z / 32 < 0
  omega
/-- on a side of the raster -/
theorem rr_side (x : Int32) : (∃ n : Nat, n < 24 ∧ x = nI n ∧ 0 ≤ x ∧ x < 24) ∨ (¬ (0 ≤ x ∧ x < 24) ∧ ∀ n, n < 24 → x ≠ nI n) := by
  rcases pk_ix x (n := 24) (by decide) with h | h | ⟨j, hj, rfl⟩
  · right
    refine ⟨fun z => absurd h (Int32.not_lt.mpr z.1), ?_⟩
    rintro n hn rfl
    exact nI_pos (by omega) h
  · right
    refine ⟨fun z => absurd z.2 (Int32.not_lt.mpr h), ?_⟩
    rintro n hn rfl
    exact nI_ge hn (by decide) h
  · left
    exact ⟨j, hj, rfl, nI_pos' (by omega), nI_lt (b := 24) hj (by decide)⟩
theorem rr_vb (b : Bool) : vp_nar .boolean (rr_bi b) = rr_bi b := by cases b <;> rfl
theorem rr_nb (b : Bool) : narrow .boolean (.int (rr_bi b)) = .int (rr_bi b) := by cases b <;> rfl
