/-! the component's flood: the queue against the set Q of the pixels turned over so far -/
def rr_FI (P : Nat → Bool) (s : Nat) (a q : Nat → Int32) (n : Nat) (Q : Nat → Bool) : Prop :=
  rr_RX a (fun k => P k ^^ Q k) ∧ n = rr_cnt Q 576 ∧ (∀ i, i < n → ∃ k, k < 576 ∧ Q k = true ∧ q i = nI (rr_code k)) ∧ (∀ k, k < 576 → Q k = true → ∃ i, i < n ∧ q i = nI (rr_code k)) ∧ (∀ k, k < 576 → Q k = true → P k = P s) ∧ (∀ k, k < 576 → Q k = true → rr_conn P s k)
theorem rr_FI_le {P : Nat → Bool} {s : Nat} {a q : Nat → Int32} {n : Nat} {Q : Nat → Bool} (h : rr_FI P s a q n Q) : n ≤ 576 := by
  rw [h.2.1]
  exact rr_cnt_le Q 576
theorem rr_FI_all {P : Nat → Bool} {s : Nat} {a q : Nat → Int32} {n : Nat} {Q : Nat → Bool} (h : rr_FI P s a q n Q) (hn : 576 ≤ n) : ∀ k, k < 576 → Q k = true := by
  have h1 := rr_FI_le h
  exact rr_cnt_full 576 (by rw [← h.2.1]; omega)
theorem rr_FI_0 {P : Nat → Bool} {s : Nat} {a q : Nat → Int32} (h : rr_RX a P) : rr_FI P s a q 0 (fun _ => false) := by
  refine ⟨rr_RX_c h (fun k _ => (Bool.xor_false _).symm), ?_, ?_, ?_, ?_, ?_⟩
  · have z : ∀ n, rr_cnt (fun _ => false) n = 0 := by
      intro n
      induction n with
      | zero => rfl
      | succ n ih => rw [rr_cnt_s, ih] <;> rfl
    exact (z 576).symm
  · intro i hi; omega
  · intro k _ z; exact absurd (show false = true from z) (by decide)
  · intro k _ z; exact absurd (show false = true from z) (by decide)
  · intro k _ z; exact absurd (show false = true from z) (by decide)
theorem rr_FI_new {P : Nat → Bool} {s : Nat} {a q : Nat → Int32} {n : Nat} {Q : Nat → Bool} (h : rr_FI P s a q n Q) {k : Nat} (hk : k < 576) (he : (P k ^^ Q k) = P s) : Q k = false ∧ P k = P s := by
  have h5 := h.2.2.2.2.1 k hk
  cases hq : Q k with
  | false =>
    rw [hq, Bool.xor_false] at he
    exact ⟨rfl, he⟩
  | true =>
    have h6 := h5 hq
    rw [hq, h6] at he
    exact absurd he (by cases P s <;> decide)
theorem rr_FI_add {P : Nat → Bool} {s : Nat} {a q : Nat → Int32} {n : Nat} {Q : Nat → Bool} (h : rr_FI P s a q n Q) {x y : Nat} (hx : x < 24) (hy : y < 24) (he : (P (24 * y + x) ^^ Q (24 * y + x)) = P s) (hc : P (24 * y + x) = P s → rr_conn P s (24 * y + x)) : rr_FI P s (upd a y (a y ^^^ ((1 : Int32) <<< (nI x &&& 31)))) (upd q n (nI (rr_code (24 * y + x)))) (n + 1) (rr_put Q (24 * y + x)) := by
  have hk : 24 * y + x < 576 := by omega
  obtain ⟨hq, hp⟩ := rr_FI_new h hk he
  obtain ⟨h1, h2, h3, h4, h5, h6⟩ := h
  refine ⟨?_, ?_, ?_, ?_, ?_, ?_⟩
  · intro y' hy' x' hx'
    by_cases e : y' = y
    · subst e
      rw [pk_us, b_xor, rr_one (by omega) hx', h1 y' hy x' hx']
      dsimp only
      by_cases z : x' < 24
      · rw [decide_eq_true z, Bool.true_and, Bool.true_and]
        by_cases w : x' = x
        · rw [w, rr_put_s, hq, decide_eq_true rfl, Bool.xor_false]
        · rw [rr_put_n (by omega), decide_eq_false w, Bool.xor_false]
      · rw [decide_eq_false z, Bool.false_and, Bool.false_and, decide_eq_false (by omega)]
        rfl
    · rw [pk_un e, h1 y' hy' x' hx']
      dsimp only
      by_cases z : x' < 24
      · rw [rr_put_n (by omega)]
      · rw [decide_eq_false z, Bool.false_and, Bool.false_and]
  · rw [rr_cnt_put hq, if_pos hk, h2]
  · intro i hi
    by_cases e : i = n
    · rw [e]
      exact ⟨24 * y + x, hk, rr_put_s _ _, pk_us⟩
    · obtain ⟨k, a1, a2, a3⟩ := h3 i (by omega)
      exact ⟨k, a1, rr_put_m a2, by rw [pk_un e]; exact a3⟩
  · intro k hk' z
    by_cases e : k = 24 * y + x
    · rw [e]
      exact ⟨n, by omega, pk_us⟩
    · rw [rr_put_n e] at z
      obtain ⟨i, a1, a2⟩ := h4 k hk' z
      exact ⟨i, by omega, by rw [pk_un (by omega)]; exact a2⟩
  · intro k hk' z
    by_cases e : k = 24 * y + x
    · rw [e]; exact hp
    · rw [rr_put_n e] at z
      exact h5 k hk' z
  · intro k hk' z
    by_cases e : k = 24 * y + x
    · rw [e]; exact hc hp
    · rw [rr_put_n e] at z
      exact h6 k hk' z
/-- the first m entries of the queue have all their neighbours in Q -/
def rr_Cl (P : Nat → Bool) (s : Nat) (q : Nat → Int32) (Q : Nat → Bool) (m : Nat) : Prop :=
  ∀ i, i < m → ∃ k, k < 576 ∧ q i = nI (rr_code k) ∧ ∀ j, j < 576 → rr_adj k j → P j = P s → Q j = true
theorem rr_Cl_m {P : Nat → Bool} {s : Nat} {q q' : Nat → Int32} {Q Q' : Nat → Bool} {m n : Nat} (h : rr_Cl P s q Q m) (hm : m ≤ n) (hq : ∀ i, i < n → q' i = q i) (hQ : ∀ k, k < 576 → Q k = true → Q' k = true) : rr_Cl P s q' Q' m := by
  intro i hi
  obtain ⟨k, a1, a2, a3⟩ := h i hi
  exact ⟨k, a1, by rw [hq i (by omega)]; exact a2, fun j hj ha hp => hQ j hj (a3 j hj ha hp)⟩
theorem rr_code_lt {k : Nat} (h : k < 576) : rr_code k < 768 := by unfold rr_code; omega
theorem rr_FI_end {P : Nat → Bool} {s : Nat} {a q : Nat → Int32} {n : Nat} {Q : Nat → Bool} (h : rr_FI P s a q n Q) (hs : Q s = true) (hC : rr_Cl P s q Q n) : rr_isF P s Q := by
  refine ⟨h.2.2.2.2.2, hs, ?_⟩
  intro i j hi hj hQ ha hp
  obtain ⟨t, a1, a2⟩ := h.2.2.2.1 i hi hQ
  obtain ⟨k, b1, b2, b3⟩ := hC t a1
  have e : rr_code i = rr_code k := by
    have l1 := rr_code_lt hi
    have l2 := rr_code_lt b1
    exact (nI_eq (by omega) (by omega)).mp (a2.symm.trans b2)
  rw [rr_code_i e] at ha
  exact b3 j hj ha hp
/-! the reference's flood -/
def rr_bes (F : Nat → Bool) (k : Nat) : Prop := (0 < k % 24 ∧ F (k - 1) = true) ∨ (k % 24 < 23 ∧ F (k + 1) = true) ∨ (24 ≤ k ∧ F (k - 24) = true) ∨ (k < 552 ∧ F (k + 24) = true)
theorem rr_bes_i {F : Nat → Bool} {k : Nat} (hk : k < 576) : rr_bes F k ↔ ∃ i, i < 576 ∧ rr_adj i k ∧ F i = true := by
  unfold rr_bes rr_adj
  constructor
  · rintro (h | h | h | h)
    · exact ⟨k - 1, by omega, Or.inl ⟨h.1, rfl⟩, h.2⟩
    · exact ⟨k + 1, by omega, Or.inr (Or.inl ⟨h.1, rfl⟩), h.2⟩
    · exact ⟨k - 24, by omega, Or.inr (Or.inr (Or.inl ⟨h.1, rfl⟩)), h.2⟩
    · exact ⟨k + 24, by omega, Or.inr (Or.inr (Or.inr ⟨h.1, rfl⟩)), h.2⟩
  · rintro ⟨i, hi, (⟨h, rfl⟩ | ⟨h, rfl⟩ | ⟨h, rfl⟩ | ⟨h, rfl⟩), hF⟩
    · exact Or.inl ⟨h, hF⟩
    · exact Or.inr (Or.inl ⟨h, hF⟩)
    · exact Or.inr (Or.inr (Or.inl ⟨h, hF⟩))
    · exact Or.inr (Or.inr (Or.inr ⟨h, hF⟩))
/-- sound and holds the start -/
def rr_YI (P : Nat → Bool) (s : Nat) (F : Nat → Bool) : Prop := F s = true ∧ ∀ k, k < 576 → F k = true → rr_conn P s k
theorem rr_YI_add {P : Nat → Bool} {s : Nat} {F : Nat → Bool} (h : rr_YI P s F) {k : Nat} (hk : k < 576) (hp : P k = P s) (hb : rr_bes F k) : rr_YI P s (rr_put F k) := by
  refine ⟨rr_put_m h.1, ?_⟩
  intro j hj z
  by_cases e : j = k
  · rw [e]
    obtain ⟨i, hi, ha, hF⟩ := (rr_bes_i hk).mp hb
    exact rr_conn_s (h.2 i hi hF) hi hk ha hp
  · rw [rr_put_n e] at z
    exact h.2 j hj z
def rr_Yc (P : Nat → Bool) (s : Nat) (F : Nat → Bool) (m : Nat) : Prop := ∀ j, j < m → F j = false → P j = P s → ¬ rr_bes F j
theorem rr_YI_end {P : Nat → Bool} {s : Nat} {F : Nat → Bool} (h : rr_YI P s F) (hc : rr_Yc P s F 576) : rr_isF P s F := by
  refine ⟨h.2, h.1, ?_⟩
  intro i j hi hj hF ha hp
  cases e : F j with
  | true => rfl
  | false => exact absurd ((rr_bes_i hj).mpr ⟨i, hi, ha, hF⟩) (hc j hj e hp)
