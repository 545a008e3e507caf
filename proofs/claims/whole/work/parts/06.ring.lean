theorem rr_arc_i (U V : Int) (r : Nat) : rr_arc U V r ↔ (0 ≤ (r : Int) * r - U * U ∧ U.natAbs ≤ V.natAbs ∧ (r : Int) * r - U * U ≤ (V.natAbs : Int) * (V.natAbs : Int) + (V.natAbs : Int) ∧ (V.natAbs = 0 ∨ (V.natAbs : Int) * (V.natAbs : Int) - (V.natAbs : Int) < (r : Int) * r - U * U)) := by
  have e : U * U = ((U.natAbs * U.natAbs : Nat) : Int) := Int.natAbs_mul_self.symm
  have er : (r : Int) * (r : Int) = ((r * r : Nat) : Int) := (Int.natCast_mul r r).symm
  have eh : (V.natAbs : Int) * (V.natAbs : Int) = ((V.natAbs * V.natAbs : Nat) : Int) := (Int.natCast_mul _ _).symm
  unfold rr_arc
  rw [rr_rt_i, e, er, eh]
  have m : U.natAbs ≤ r ↔ U.natAbs * U.natAbs ≤ r * r := by
    constructor
    · intro h; exact Nat.mul_le_mul h h
    · intro h
      by_cases z : U.natAbs ≤ r
      · exact z
      · have h2 : r * r < U.natAbs * U.natAbs := Nat.mul_lt_mul_of_lt_of_le (by omega) (by omega) (by omega)
        omega
  rw [m]
  generalize U.natAbs * U.natAbs = s
  generalize r * r = R
  generalize V.natAbs * V.natAbs = H
  omega
/-- the points that the component marks at step U with the root v, seen from the middle -/
def rr_rp (U : Int) (v : Nat) (x y : Int) : Prop := U.natAbs ≤ v ∧ ((x = U ∧ (y = v ∨ y = -(v : Int))) ∨ (y = U ∧ (x = v ∨ x = -(v : Int))))
def rr_rs (r m : Nat) (x y : Int) : Prop := ∃ j v : Nat, j < m ∧ rr_rt (r * r - ((j : Int) - r).natAbs * ((j : Int) - r).natAbs) v ∧ rr_rp ((j : Int) - r) v x y
theorem rr_rs_eq (r : Nat) (x y : Int) : rr_rs r (2 * r + 1) x y ↔ rr_arc x y r ∨ rr_arc y x r := by
  unfold rr_rs rr_rp rr_arc
  constructor
  · rintro ⟨j, v, hj, hr, ht, (⟨h1, h2⟩ | ⟨h1, h2⟩)⟩
    · left
      have e : y.natAbs = v := by omega
      rw [e, h1]
      exact ⟨by omega, ht, hr⟩
    · right
      have e : x.natAbs = v := by omega
      rw [e, h1]
      exact ⟨by omega, ht, hr⟩
  · rintro (⟨h1, h2, h3⟩ | ⟨h1, h2, h3⟩)
    · have e : (((x + r).toNat : Nat) : Int) - r = x := by omega
      refine ⟨(x + r).toNat, y.natAbs, by omega, ?_, ?_⟩
      · rw [e]; exact h3
      · rw [e]; exact ⟨h2, Or.inl ⟨rfl, by omega⟩⟩
    · have e : (((y + r).toNat : Nat) : Int) - r = y := by omega
      refine ⟨(y + r).toNat, x.natAbs, by omega, ?_, ?_⟩
      · rw [e]; exact h3
      · rw [e]; exact ⟨h2, Or.inr ⟨rfl, by omega⟩⟩
theorem rr_rs_s {r m : Nat} {x y : Int} {v : Nat} (hv : rr_rt (r * r - ((m : Int) - r).natAbs * ((m : Int) - r).natAbs) v) : rr_rs r (m + 1) x y ↔ rr_rs r m x y ∨ rr_rp ((m : Int) - r) v x y := by
  constructor
  · rintro ⟨j, w, hj, hr, hp⟩
    by_cases e : j = m
    · subst e
      rw [rr_rt_u hr hv] at hp
      exact Or.inr hp
    · exact Or.inl ⟨j, w, by omega, hr, hp⟩
  · rintro (⟨j, w, hj, hr, hp⟩ | hp)
    · exact ⟨j, w, by omega, hr, hp⟩
    · exact ⟨m, v, by omega, hv, hp⟩
theorem rr_rs_0 {r : Nat} {x y : Int} : ¬ rr_rs r 0 x y := by
  rintro ⟨j, w, hj, _⟩
  omega
