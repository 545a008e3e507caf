/-- an Int as an Int32 -/
def rr_i (z : Int) : Int32 := Int32.ofInt z
theorem rr_n (n : Nat) : nI n = rr_i (n : Int) := Int32.ofInt_eq_ofNat.symm
theorem rr_add (a b : Int) : rr_i a + rr_i b = rr_i (a + b) := (Int32.ofInt_add a b).symm
theorem rr_sub (a b : Int) : rr_i a - rr_i b = rr_i (a - b) := (Int32.ofInt_sub a b).symm
theorem rr_mul (a b : Int) : rr_i a * rr_i b = rr_i (a * b) := (Int32.ofInt_mul a b).symm
theorem rr_neg (a : Int) : - rr_i a = rr_i (-a) := (Int32.ofInt_neg a).symm
theorem rr_toInt {z : Int} (h1 : -2147483648 ≤ z) (h2 : z < 2147483648) : (rr_i z).toInt = z := Int32.toInt_ofInt_of_le (by omega) (by omega)
theorem rr_of (x : Int32) : x = rr_i x.toInt := (Int32.ofInt_toInt x).symm
theorem rr_le {a b : Int} (ha : -2147483648 ≤ a ∧ a < 2147483648) (hb : -2147483648 ≤ b ∧ b < 2147483648) : rr_i a ≤ rr_i b ↔ a ≤ b := by
  rw [Int32.le_iff_toInt_le, rr_toInt ha.1 ha.2, rr_toInt hb.1 hb.2]
theorem rr_lt {a b : Int} (ha : -2147483648 ≤ a ∧ a < 2147483648) (hb : -2147483648 ≤ b ∧ b < 2147483648) : rr_i a < rr_i b ↔ a < b := by
  rw [Int32.lt_iff_toInt_lt, rr_toInt ha.1 ha.2, rr_toInt hb.1 hb.2]
theorem rr_eq {a b : Int} (ha : -2147483648 ≤ a ∧ a < 2147483648) (hb : -2147483648 ≤ b ∧ b < 2147483648) : rr_i a = rr_i b ↔ a = b := by
  rw [← Int32.toInt_inj, rr_toInt ha.1 ha.2, rr_toInt hb.1 hb.2]
theorem rr_nsub (a b : Nat) : nI a - nI b = rr_i ((a : Int) - b) := by rw [rr_n, rr_n, rr_sub]
theorem rr_mulb {a b m : Int} (ha : -m ≤ a ∧ a ≤ m) (hb : -m ≤ b ∧ b ≤ m) : -(m * m) ≤ a * b ∧ a * b ≤ m * m := by
  have h : (a * b).natAbs ≤ m.natAbs * m.natAbs := by
    rw [Int.natAbs_mul]
    exact Nat.mul_le_mul (by omega) (by omega)
  have h2 : ((m.natAbs * m.natAbs : Nat) : Int) = m * m := Int.natAbs_mul_self
  generalize a * b = p at *
  generalize m * m = q at *
  generalize m.natAbs * m.natAbs = w at *
  omega
/-- how many of the first n -/
def rr_cnt (P : Nat → Bool) : Nat → Nat
  | 0 => 0
  | n + 1 => rr_cnt P n + (P n).toNat
theorem rr_cnt_s (P : Nat → Bool) (n : Nat) : rr_cnt P (n + 1) = rr_cnt P n + (P n).toNat := rfl
theorem rr_tn (b : Bool) : b.toNat ≤ 1 := by cases b <;> decide
theorem rr_cnt_le (P : Nat → Bool) (n : Nat) : rr_cnt P n ≤ n := by
  induction n with
  | zero => exact Nat.le_refl 0
  | succ n ih =>
    have h := rr_tn (P n)
    rw [rr_cnt_s]
    omega
theorem rr_cnt_congr {P Q : Nat → Bool} (n : Nat) (h : ∀ k, k < n → P k = Q k) : rr_cnt P n = rr_cnt Q n := by
  induction n with
  | zero => rfl
  | succ n ih => rw [rr_cnt_s, rr_cnt_s, ih (fun k hk => h k (by omega)), h n (by omega)]
theorem rr_cnt_add (P : Nat → Bool) (a b : Nat) : rr_cnt P (a + b) = rr_cnt P a + rr_cnt (fun x => P (a + x)) b := by
  induction b with
  | zero => rfl
  | succ b ih =>
    show rr_cnt P (a + b) + (P (a + b)).toNat = rr_cnt P a + (rr_cnt (fun x => P (a + x)) b + (P (a + b)).toNat)
    rw [ih]
    omega
theorem rr_cnt_mono {P Q : Nat → Bool} (n : Nat) (h : ∀ k, k < n → P k = true → Q k = true) : rr_cnt P n ≤ rr_cnt Q n := by
  induction n with
  | zero => exact Nat.le_refl 0
  | succ n ih =>
    have h1 := ih (fun k hk => h k (by omega))
    have h2 := h n (by omega)
    have h3 : (P n).toNat ≤ (Q n).toNat := by
      cases hp : P n with
      | false => exact Nat.zero_le _
      | true => exact Nat.le_of_eq (by rw [h2 hp])
    rw [rr_cnt_s, rr_cnt_s]
    omega
theorem rr_cnt_full {P : Nat → Bool} : ∀ n, rr_cnt P n = n → ∀ k, k < n → P k = true := by
  intro n
  induction n with
  | zero => intro _ k hk; omega
  | succ n ih =>
    intro h k hk
    rw [rr_cnt_s] at h
    have h1 := rr_cnt_le P n
    have h2 := rr_tn (P n)
    have h3 : (P n).toNat = 1 := by omega
    by_cases e : k = n
    · rw [e]
      cases hp : P n with
      | true => rfl
      | false => rw [hp] at h3; exact absurd h3 (by decide)
    · exact ih (by omega) k (by omega)
def rr_put (P : Nat → Bool) (j : Nat) : Nat → Bool := fun k => if k = j then true else P k
theorem rr_put_s (P : Nat → Bool) (j : Nat) : rr_put P j j = true := if_pos rfl
theorem rr_put_n {P : Nat → Bool} {j k : Nat} (h : k ≠ j) : rr_put P j k = P k := if_neg h
theorem rr_put_m {P : Nat → Bool} {j k : Nat} (h : P k = true) : rr_put P j k = true := by
  by_cases e : k = j
  · rw [e]; exact rr_put_s P j
  · rw [rr_put_n e]; exact h
theorem rr_cnt_put {P : Nat → Bool} {j : Nat} (hp : P j = false) : ∀ n, rr_cnt (rr_put P j) n = rr_cnt P n + (if j < n then 1 else 0) := by
  intro n
  induction n with
  | zero =>
    show 0 = 0 + (if j < 0 then 1 else 0)
    rw [if_neg (Nat.not_lt_zero j)]
  | succ n ih =>
    rw [rr_cnt_s, rr_cnt_s, ih]
    by_cases e : n = j
    · rw [e, rr_put_s, hp, if_neg (Nat.lt_irrefl j), if_pos (Nat.lt_succ_self j)] <;> rfl
    · rw [rr_put_n e]
      by_cases h : j < n
      · rw [if_pos h, if_pos (by omega)]
        omega
      · rw [if_neg h, if_neg (by omega)]
        omega
/-- a Bool as the JVM has it -/
def rr_bi (b : Bool) : Int32 := nI b.toNat
theorem rr_bi_t : rr_bi true = 1 := rfl
theorem rr_bi_f : rr_bi false = 0 := rfl
theorem rr_bi_0 (b : Bool) : rr_bi b = 0 ↔ b = false := by cases b <;> decide
theorem rr_bi_1 (b : Bool) : rr_bi b = 1 ↔ b = true := by cases b <;> decide
theorem rr_bi_e (a b : Bool) : rr_bi a = rr_bi b ↔ a = b := by cases a <;> cases b <;> decide
theorem rr_cbi (P : Nat → Bool) (n : Nat) : nI (rr_cnt P n) + rr_bi (P n) = nI (rr_cnt P (n + 1)) := by
  rw [rr_cnt_s, rr_bi, nI_add]
/-- X's rows, X's figure as a set of Prop, Y's cells -/
def rr_RX (a : Nat → Int32) (P : Nat → Bool) : Prop := ∀ y, y < 24 → ∀ x, x < 32 → bt (a y) x = (decide (x < 24) && P (24 * y + x))
def rr_RF (a : Nat → Int32) (F : Nat → Prop) : Prop := ∀ y, y < 24 → ∀ x, x < 32 → (bt (a y) x = true ↔ x < 24 ∧ F (24 * y + x))
def rr_RY (s : Nat → Int32) (P : Nat → Bool) : Prop := ∀ k, k < 576 → s k = rr_bi (P k)
theorem rr_RF_X {a : Nat → Int32} {F : Nat → Prop} {P : Nat → Bool} (h : rr_RF a F) (e : ∀ k, k < 576 → (F k ↔ P k = true)) : rr_RX a P := by
  intro y hy x hx
  have h1 := h y hy x hx
  rw [Bool.eq_iff_iff, Bool.and_eq_true, decide_eq_true_iff]
  constructor
  · intro hb
    have h2 := h1.mp hb
    exact ⟨h2.1, (e _ (by omega)).mp h2.2⟩
  · intro hb
    have h3 := hb.1
    exact h1.mpr ⟨hb.1, (e _ (by omega)).mpr hb.2⟩
theorem rr_RF_c {a : Nat → Int32} {F G : Nat → Prop} (h : rr_RF a F) (e : ∀ k, k < 576 → (F k ↔ G k)) : rr_RF a G := by
  intro y hy x hx
  have h1 := h y hy x hx
  constructor
  · intro hb
    have h2 := h1.mp hb
    exact ⟨h2.1, (e _ (by omega)).mp h2.2⟩
  · intro hb
    have h3 := hb.1
    exact h1.mpr ⟨hb.1, (e _ (by omega)).mpr hb.2⟩
theorem rr_RX_c {a : Nat → Int32} {P Q : Nat → Bool} (h : rr_RX a P) (e : ∀ k, k < 576 → P k = Q k) : rr_RX a Q := by
  intro y hy x hx
  rw [h y hy x hx]
  by_cases z : x < 24
  · rw [e _ (by omega)]
  · rw [decide_eq_false z, Bool.false_and, Bool.false_and]
theorem rr_RX_at {a : Nat → Int32} {P : Nat → Bool} (h : rr_RX a P) {x y : Nat} (hx : x < 24) (hy : y < 24) : bt (a y) x = P (24 * y + x) := by
  rw [h y hy x (by omega), decide_eq_true hx, Bool.true_and]
theorem rr_RX_hi {a : Nat → Int32} {P : Nat → Bool} (h : rr_RX a P) {x y : Nat} (hx : 24 ≤ x) (hy : y < 24) : bt (a y) x = false := by
  by_cases z : x < 32
  · rw [h y hy x z, decide_eq_false (by omega), Bool.false_and]
  · exact b_big (by omega)
/-- bits -/
theorem rr_b1 : ∀ i, i < 32 → bt 1 i = decide (i = 0) := by decide +kernel
theorem rr_bfull : ∀ i, i < 32 → bt 16777215 i = decide (i < 24) := by decide +kernel
theorem rr_one {x i : Nat} (hx : x < 32) (hi : i < 32) : bt ((1 : Int32) <<< (nI x &&& 31)) i = decide (i = x) := by
  rw [b_shl x hx 1 hi]
  by_cases h : x ≤ i
  · rw [decide_eq_true h, Bool.true_and, rr_b1 (i - x) (by omega)]
    by_cases e : i = x
    · rw [decide_eq_true e, decide_eq_true (by omega)]
    · rw [decide_eq_false e, decide_eq_false (by omega)]
  · rw [decide_eq_false h, Bool.false_and, decide_eq_false (by omega)]
theorem rr_bit (b : Int32) {x : Nat} (hx : x < 32) : (b >>> (nI x &&& 31)) &&& 1 = rr_bi (bt b x) := by
  apply b_ext
  intro i hi
  rw [b_and, rr_b1 i hi, b_sshr x hx b hi]
  by_cases e : i = 0
  · subst e
    rw [decide_eq_true rfl, Bool.and_true, Nat.add_zero, if_pos hx]
    cases bt b x <;> decide +kernel
  · rw [decide_eq_false e, Bool.and_false]
    cases bt b x
    · exact (b_0 i).symm
    · have h := rr_b1 i hi
      rw [decide_eq_false e] at h
      exact h.symm
/-- what a pen makes of a figure -/
def rr_dr (p : Nat) (P F : Nat → Bool) : Nat → Bool := fun k => if F k = true then (decide (p = 0) || (decide (p = 2) && !P k)) else P k
def rr_df (p : Nat) (P F : Nat → Bool) : Nat → Bool := fun k => P k ^^ rr_dr p P F k
theorem rr_dr_x (p : Nat) (hp : p ≤ 2) (P F : Nat → Bool) (k : Nat) : rr_dr p P F k = (if p = 0 then (P k || F k) else if p = 1 then (P k && !F k) else (P k ^^ F k)) := by
  unfold rr_dr
  have h : p = 0 ∨ p = 1 ∨ p = 2 := by omega
  rcases h with rfl | rfl | rfl <;> cases F k <;> cases P k <;> rfl
