/-! the line: the nearest one, by a quotient and by a test -/
theorem rr_q {R L y : Nat} (hL : 0 < L) : y = (2 * R + L - 1) / (2 * L) ↔ 2 * (L * y) ≤ 2 * R + L - 1 ∧ 2 * R + L - 1 < 2 * (L * y) + 2 * L := by
  have e1 : y * (2 * L) = 2 * (L * y) := by rw [Nat.mul_comm, Nat.mul_assoc]
  constructor
  · intro h
    have h1 := Nat.div_add_mod (2 * R + L - 1) (2 * L)
    have h2 := Nat.mod_lt (2 * R + L - 1) (show 2 * L > 0 by omega)
    rw [← h, Nat.mul_assoc] at h1
    generalize L * y = X at *
    omega
  · intro h
    refine (Nat.div_eq_of_lt_le ?_ ?_).symm
    · rw [e1]; exact h.1
    · have e2 : (y + 1) * (2 * L) = 2 * (L * y) + 2 * L := by rw [Nat.add_mul, Nat.one_mul, e1]
      rw [e2]; exact h.2
theorem rr_nearI {L t e : Nat} {w : Int} (hL : 0 < L) : (-(L : Int) ≤ 2 * ((L : Int) * w - (e : Int) * t) ∧ 2 * ((L : Int) * w - (e : Int) * t) < L) ↔ w = (((2 * (t * e) + L - 1) / (2 * L) : Nat) : Int) := by
  have c2 : (e : Int) * (t : Int) = ((t * e : Nat) : Int) := by rw [Nat.mul_comm, Int.natCast_mul]
  rw [c2]
  by_cases h : 0 ≤ w
  · obtain ⟨s, rfl⟩ := Int.eq_ofNat_of_zero_le h
    have h1 := rr_q (R := t * e) (y := s) hL
    have c1 : (L : Int) * (s : Int) = ((L * s : Nat) : Int) := (Int.natCast_mul L s).symm
    have h3 : ((s : Int) = (((2 * (t * e) + L - 1) / (2 * L) : Nat) : Int)) ↔ s = (2 * (t * e) + L - 1) / (2 * L) := Int.ofNat_inj
    rw [c1, h3, h1]
    generalize L * s = X at *
    generalize t * e = Y at *
    omega
  · have h2 : (L : Int) * w ≤ (L : Int) * (-1) := Int.mul_le_mul_of_nonneg_left (by omega) (by omega)
    generalize (L : Int) * w = X at *
    generalize (2 * (t * e) + L - 1) / (2 * L) = q at *
    generalize t * e = Y at *
    omega
theorem rr_near {A B C D x y : Nat} (hAC : A < C) (hx1 : A ≤ x) (hx2 : x ≤ C) : (-((C : Int) - A) ≤ 2 * (((C : Int) - A) * ((y : Int) - B) - ((D : Int) - B) * ((x : Int) - A)) ∧ 2 * (((C : Int) - A) * ((y : Int) - B) - ((D : Int) - B) * ((x : Int) - A)) < (C : Int) - A) ↔ y = (if B ≤ D then B else D) + (2 * (if B ≤ D then (x - A) * (D - B) else (C - x) * (B - D)) + (C - A) - 1) / (2 * (C - A)) := by
  obtain ⟨L, hL⟩ : ∃ L, L = C - A := ⟨_, rfl⟩
  have hL0 : 0 < L := by omega
  have e1 : (C : Int) - A = L := by omega
  rw [e1, ← hL]
  by_cases h : B ≤ D
  · rw [if_pos h, if_pos h]
    obtain ⟨e, he⟩ : ∃ e, e = D - B := ⟨_, rfl⟩
    obtain ⟨t, ht⟩ : ∃ t, t = x - A := ⟨_, rfl⟩
    have e2 : (D : Int) - B = e := by omega
    have e3 : (x : Int) - A = t := by omega
    rw [e2, e3, ← he, ← ht, rr_nearI hL0]
    generalize (2 * (t * e) + L - 1) / (2 * L) = q
    omega
  · rw [if_neg h, if_neg h]
    obtain ⟨e, he⟩ : ∃ e, e = B - D := ⟨_, rfl⟩
    obtain ⟨t, ht⟩ : ∃ t, t = C - x := ⟨_, rfl⟩
    have e2 : (D : Int) - B = -e := by omega
    have e3 : (x : Int) - A = (L : Int) - t := by omega
    have e4 : (y : Int) - B = ((y : Int) - D) - e := by omega
    have key : (L : Int) * (((y : Int) - D) - e) - (-(e : Int)) * ((L : Int) - t) = (L : Int) * ((y : Int) - D) - (e : Int) * t := by grind
    rw [e2, e3, e4, key, ← he, ← ht, rr_nearI hL0]
    generalize (2 * (t * e) + L - 1) / (2 * L) = q
    omega
def rr_dist (a b : Nat) : Nat := if a < b then b - a else a - b
/-- the component's value of the line from (fu, fv) to (tu, tv) at u -/
def rr_nol (u fu fv tu tv : Nat) : Nat :=
  (if fv < tv then fv else tv) + (2 * (rr_dist u (if fv ≤ tv then fu else tu) * rr_dist fv tv) + rr_dist fu tu - 1) / (2 * rr_dist fu tu)
theorem rr_nol1 {u fu fv tu tv y : Nat} (h : fu < tu) (h1 : fu ≤ u) (h2 : u ≤ tu) : (-((tu : Int) - fu) ≤ 2 * (((tu : Int) - fu) * ((y : Int) - fv) - ((tv : Int) - fv) * ((u : Int) - fu)) ∧ 2 * (((tu : Int) - fu) * ((y : Int) - fv) - ((tv : Int) - fv) * ((u : Int) - fu)) < (tu : Int) - fu) ↔ y = rr_nol u fu fv tu tv := by
  rw [rr_near h h1 h2]
  unfold rr_nol
  have e1 : rr_dist fu tu = tu - fu := if_pos h
  have e3 : (if fv < tv then fv else tv) = (if fv ≤ tv then fv else tv) := by
    by_cases z : fv < tv
    · rw [if_pos z, if_pos (by omega)]
    · rw [if_neg z]
      by_cases w : fv ≤ tv
      · rw [if_pos w]; omega
      · rw [if_neg w]
  have e2 : rr_dist u (if fv ≤ tv then fu else tu) * rr_dist fv tv = (if fv ≤ tv then (u - fu) * (tv - fv) else (tu - u) * (fv - tv)) := by
    by_cases z : fv ≤ tv
    · rw [if_pos z, if_pos z]
      have a1 : rr_dist u fu = u - fu := if_neg (by omega)
      have a2 : rr_dist fv tv = tv - fv := by unfold rr_dist; by_cases w : fv < tv
                                              · rw [if_pos w]
                                              · rw [if_neg w]; omega
      rw [a1, a2]
    · rw [if_neg z, if_neg z]
      have a1 : rr_dist u tu = tu - u := by unfold rr_dist; by_cases w : u < tu
                                            · rw [if_pos w]
                                            · rw [if_neg w]; omega
      have a2 : rr_dist fv tv = fv - tv := if_neg (by omega)
      rw [a1, a2]
  rw [e1, e2, e3]
theorem rr_nol2 {u fu fv tu tv y : Nat} (h : tu < fu) (h1 : tu ≤ u) (h2 : u ≤ fu) : (-((fu : Int) - tu) ≤ 2 * (((fu : Int) - tu) * ((y : Int) - tv) - ((fv : Int) - tv) * ((u : Int) - tu)) ∧ 2 * (((fu : Int) - tu) * ((y : Int) - tv) - ((fv : Int) - tv) * ((u : Int) - tu)) < (fu : Int) - tu) ↔ y = rr_nol u fu fv tu tv := by
  rw [rr_near h h1 h2]
  unfold rr_nol
  have e1 : rr_dist fu tu = fu - tu := if_neg (by omega)
  have e3 : (if fv < tv then fv else tv) = (if tv ≤ fv then tv else fv) := by
    by_cases z : fv < tv
    · rw [if_pos z, if_neg (by omega)]
    · rw [if_neg z, if_pos (by omega)]
  have e2 : rr_dist u (if fv ≤ tv then fu else tu) * rr_dist fv tv = (if tv ≤ fv then (u - tu) * (fv - tv) else (fu - u) * (tv - fv)) := by
    by_cases z : tv ≤ fv
    · have a2 : rr_dist fv tv = fv - tv := if_neg (by omega)
      rw [if_pos z, a2]
      by_cases w : fv ≤ tv
      · rw [show fv - tv = 0 by omega, Nat.mul_zero, Nat.mul_zero]
      · have a1 : rr_dist u tu = u - tu := if_neg (by omega)
        rw [if_neg w, a1]
    · have a2 : rr_dist fv tv = tv - fv := if_pos (by omega)
      have a1 : rr_dist u fu = fu - u := by unfold rr_dist; by_cases w : u < fu
                                            · rw [if_pos w]
                                            · rw [if_neg w]; omega
      rw [if_neg z, if_pos (by omega), a1, a2]
  rw [e1, e2, e3]
theorem rr_dist_le {a b : Nat} (ha : a < 24) (hb : b < 24) : rr_dist a b ≤ 23 := by
  unfold rr_dist
  by_cases w : a < b
  · rw [if_pos w]; omega
  · rw [if_neg w]; omega
/-! the root: the least v with n ≤ v (v + 1) -/
def rr_rt (n v : Nat) : Prop := n ≤ v * (v + 1) ∧ ∀ w, w < v → w * (w + 1) < n
theorem rr_rt_i (n h : Nat) : rr_rt n h ↔ n ≤ h * h + h ∧ (h = 0 ∨ h * h < n + h) := by
  have e : h * (h + 1) = h * h + h := Nat.mul_succ h h
  unfold rr_rt
  rw [e]
  constructor
  · intro ⟨h1, h2⟩
    refine ⟨h1, ?_⟩
    by_cases z : h = 0
    · exact Or.inl z
    · right
      obtain ⟨w, rfl⟩ : ∃ w, h = w + 1 := ⟨h - 1, by omega⟩
      have h3 := h2 w (by omega)
      have e2 : (w + 1) * (w + 1) = w * (w + 1) + (w + 1) := Nat.succ_mul w (w + 1)
      rw [e2]
      omega
  · intro ⟨h1, h2⟩
    refine ⟨h1, ?_⟩
    intro w hw
    rcases h2 with z | z
    · omega
    · obtain ⟨g, rfl⟩ : ∃ g, h = g + 1 := ⟨h - 1, by omega⟩
      have e2 : (g + 1) * (g + 1) = g * (g + 1) + (g + 1) := Nat.succ_mul g (g + 1)
      rw [e2] at z
      have h4 : w * (w + 1) ≤ g * (g + 1) := Nat.mul_le_mul (by omega) (by omega)
      omega
theorem rr_rt_u {n a b : Nat} (ha : rr_rt n a) (hb : rr_rt n b) : a = b := by
  rcases Nat.lt_trichotomy a b with h | h | h
  · have h1 := hb.2 a h
    have h2 := ha.1
    omega
  · exact h
  · have h1 := ha.2 b h
    have h2 := hb.1
    omega
theorem rr_rt_30 {n : Nat} (hn : n ≤ 900) : n ≤ 30 * (30 + 1) := by omega
/-- the reference's arc: a point (u, v) with |u| = s, |v| = h -/
def rr_arc (u v : Int) (r : Nat) : Prop := u.natAbs ≤ r ∧ u.natAbs ≤ v.natAbs ∧ rr_rt (r * r - u.natAbs * u.natAbs) v.natAbs
/-! the flood: the least set -/
def rr_adj (j k : Nat) : Prop := (0 < k % 24 ∧ j = k - 1) ∨ (k % 24 < 23 ∧ j = k + 1) ∨ (24 ≤ k ∧ j = k - 24) ∨ (k < 552 ∧ j = k + 24)
def rr_conn (P : Nat → Bool) (s k : Nat) : Prop := ∀ T : Nat → Prop, T s → (∀ i j, T i → i < 576 → j < 576 → rr_adj i j → P j = P s → T j) → T k
theorem rr_conn_0 (P : Nat → Bool) (s : Nat) : rr_conn P s s := fun _ h _ => h
theorem rr_conn_s {P : Nat → Bool} {s i j : Nat} (h : rr_conn P s i) (hi : i < 576) (hj : j < 576) (ha : rr_adj i j) (hp : P j = P s) : rr_conn P s j :=
  fun T h0 hs => hs i j (h T h0 hs) hi hj ha hp
/-- a set that is sound, holds the start and is closed -/
def rr_isF (P : Nat → Bool) (s : Nat) (Q : Nat → Bool) : Prop :=
  (∀ k, k < 576 → Q k = true → rr_conn P s k) ∧ Q s = true ∧ (∀ i j, i < 576 → j < 576 → Q i = true → rr_adj i j → P j = P s → Q j = true)
theorem rr_isF_sub {P : Nat → Bool} {s : Nat} {Q R : Nat → Bool} (hQ : rr_isF P s Q) (hR : rr_isF P s R) : ∀ k, k < 576 → Q k = true → R k = true := by
  intro k hk h
  exact hQ.1 k hk h (fun j => R j = true) hR.2.1 (fun i j hi h1 h2 ha hp => hR.2.2 i j h1 h2 hi ha hp)
theorem rr_isF_u {P : Nat → Bool} {s : Nat} {Q R : Nat → Bool} (hQ : rr_isF P s Q) (hR : rr_isF P s R) : ∀ k, k < 576 → Q k = R k := by
  intro k hk
  rw [Bool.eq_iff_iff]
  exact ⟨rr_isF_sub hQ hR k hk, rr_isF_sub hR hQ k hk⟩
def rr_code (k : Nat) : Nat := 32 * (k / 24) + k % 24
theorem rr_code_i {j k : Nat} (h : rr_code j = rr_code k) : j = k := by unfold rr_code at h; omega
/-- a move -/
def rr_mv (P : Nat → Bool) (dx dy : Int) : Nat → Bool := fun k =>
  decide (0 ≤ ((k % 24 : Nat) : Int) - dx ∧ ((k % 24 : Nat) : Int) - dx ≤ 23 ∧ 0 ≤ ((k / 24 : Nat) : Int) - dy ∧ ((k / 24 : Nat) : Int) - dy ≤ 23) && P (24 * (((k / 24 : Nat) : Int) - dy).toNat + (((k % 24 : Nat) : Int) - dx).toNat)
