/-! the line of the reference and the line of the component -/
def rr_nr (x y a b c d : Nat) : Bool := decide (a ≤ x ∧ x ≤ c ∧ -((c : Int) - a) ≤ 2 * (((c : Int) - a) * ((y : Int) - b) - ((d : Int) - b) * ((x : Int) - a)) ∧ 2 * (((c : Int) - a) * ((y : Int) - b) - ((d : Int) - b) * ((x : Int) - a)) < (c : Int) - a)
def rr_ol (x y a b c d : Nat) : Bool :=
  if a = c ∧ b = d then decide (x = a ∧ y = b) else
  if rr_dist b d ≤ rr_dist a c then (if a < c then rr_nr x y a b c d else rr_nr x y c d a b)
  else (if b < d then rr_nr y x b a d c else rr_nr y x d c b a)
def rr_lo (a b : Nat) : Nat := if a < b then a else b
def rr_hi (a b : Nat) : Nat := if a < b then b else a
/-- with the case of no length -/
def rr_nolX (u fu fv tu tv : Nat) : Nat := if rr_dist fu tu = 0 then fv else rr_nol u fu fv tu tv
def rr_lx (x y a b c d : Nat) : Prop :=
  if rr_dist b d ≤ rr_dist a c then (rr_lo a c ≤ x ∧ x ≤ rr_hi a c ∧ y = rr_nolX x a b c d)
  else (rr_lo b d ≤ y ∧ y ≤ rr_hi b d ∧ x = rr_nolX y b a d c)
theorem rr_dist_0 {a b : Nat} : rr_dist a b = 0 ↔ a = b := by
  unfold rr_dist
  by_cases w : a < b
  · rw [if_pos w]; omega
  · rw [if_neg w]; omega
theorem rr_nr_lt {x y a b c d : Nat} (h : a < c) : rr_nr x y a b c d = true ↔ (rr_lo a c ≤ x ∧ x ≤ rr_hi a c ∧ y = rr_nolX x a b c d) := by
  unfold rr_nr rr_lo rr_hi rr_nolX
  rw [decide_eq_true_iff, if_pos h, if_pos h, if_neg (fun z => by rw [rr_dist_0] at z; omega)]
  constructor
  · rintro ⟨h1, h2, h3⟩
    exact ⟨h1, h2, (rr_nol1 h h1 h2).mp h3⟩
  · rintro ⟨h1, h2, h3⟩
    exact ⟨h1, h2, (rr_nol1 h h1 h2).mpr h3⟩
theorem rr_nr_gt {x y a b c d : Nat} (h : c < a) : rr_nr x y c d a b = true ↔ (rr_lo a c ≤ x ∧ x ≤ rr_hi a c ∧ y = rr_nolX x a b c d) := by
  unfold rr_nr rr_lo rr_hi rr_nolX
  rw [decide_eq_true_iff, if_neg (show ¬ a < c by omega), if_neg (show ¬ a < c by omega), if_neg (fun z => by rw [rr_dist_0] at z; omega)]
  constructor
  · rintro ⟨h1, h2, h3⟩
    exact ⟨h1, h2, (rr_nol2 h h1 h2).mp h3⟩
  · rintro ⟨h1, h2, h3⟩
    exact ⟨h1, h2, (rr_nol2 h h1 h2).mpr h3⟩
theorem rr_ol_lx (x y a b c d : Nat) : rr_ol x y a b c d = true ↔ rr_lx x y a b c d := by
  unfold rr_ol rr_lx
  by_cases e : a = c ∧ b = d
  · obtain ⟨rfl, rfl⟩ := e
    have z : rr_dist a a = 0 := rr_dist_0.mpr rfl
    have z2 : rr_dist b b = 0 := rr_dist_0.mpr rfl
    rw [if_pos ⟨rfl, rfl⟩, decide_eq_true_iff, if_pos (by omega)]
    unfold rr_lo rr_hi rr_nolX
    rw [if_neg (Nat.lt_irrefl a), if_pos z]
    omega
  · rw [if_neg e]
    by_cases f : rr_dist b d ≤ rr_dist a c
    · rw [if_pos f, if_pos f]
      have ne : a ≠ c := fun q => by
        have z : rr_dist a c = 0 := rr_dist_0.mpr q
        have z2 : rr_dist b d = 0 := by omega
        exact e ⟨q, rr_dist_0.mp z2⟩
      by_cases g : a < c
      · rw [if_pos g]; exact rr_nr_lt g
      · rw [if_neg g]; exact rr_nr_gt (by omega)
    · rw [if_neg f, if_neg f]
      have ne : b ≠ d := fun q => by
        have z : rr_dist b d = 0 := rr_dist_0.mpr q
        omega
      by_cases g : b < d
      · rw [if_pos g]; exact rr_nr_lt g
      · rw [if_neg g]; exact rr_nr_gt (by omega)
theorem rr_nol_lt {u fu fv tu tv : Nat} (h1 : u < 24) (h2 : fu < 24) (h3 : fv < 24) (h4 : tu < 24) (h5 : tv < 24) (h0 : rr_dist fu tu ≠ 0) : 2 * (rr_dist u (if fv ≤ tv then fu else tu) * rr_dist fv tv) + rr_dist fu tu - 1 < 2000 := by
  have a1 := rr_dist_le h2 h4
  have a2 := rr_dist_le h3 h5
  have a3 : rr_dist u (if fv ≤ tv then fu else tu) ≤ 23 := by
    by_cases z : fv ≤ tv
    · rw [if_pos z]; exact rr_dist_le h1 h2
    · rw [if_neg z]; exact rr_dist_le h1 h4
  have a4 : rr_dist u (if fv ≤ tv then fu else tu) * rr_dist fv tv ≤ 23 * 23 := Nat.mul_le_mul a3 a2
  omega
