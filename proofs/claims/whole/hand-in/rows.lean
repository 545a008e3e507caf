section
theorem pk_us {f : Nat → Int32} {k : Nat} {x : Int32} : upd f k x k = x := if_pos rfl
theorem pk_un {f : Nat → Int32} {k j : Nat} {x : Int32} (h : j ≠ k) : upd f k x j = f j := if_neg h
theorem pk_sub {a b : Nat} (h : b ≤ a) : nI a - nI b = nI (a - b) := by
  obtain ⟨c, rfl⟩ : ∃ c, a = c + b := ⟨a - b, by omega⟩
  rw [← nI_add, Int32.add_sub_cancel, Nat.add_sub_cancel]
theorem pk_m1 (n : Nat) : nI (n + 1) + (-1) = nI n := by
  rw [← nI_1, Int32.add_assoc, show (1 : Int32) + (-1) = 0 from rfl, Int32.add_zero]
theorem pk_mul (a b : Nat) : nI a * nI b = nI (a * b) := (Int32.ofNat_mul a b).symm
theorem pk_div {a d : Nat} (ha : a < 2 ^ 31) (h0 : 0 < d) (hd : d < 2 ^ 31) : nI a / nI d = nI (a / d) := by
  apply Int32.toInt_inj.mp
  rw [lg_idiv_nonneg (by rw [nI_toInt ha]; omega) (by rw [nI_toInt hd]; omega), nI_toInt ha, nI_toInt hd, nI_toInt (Nat.lt_of_le_of_lt (Nat.div_le_self a d) ha)]
  first | rfl | exact (Int.natCast_ediv _ _).symm
theorem pk_rem {a d : Nat} (ha : a < 2 ^ 31) (h0 : 0 < d) (hd : d < 2 ^ 31) : nI a - nI a / nI d * nI d = nI (a % d) := by
  rw [pk_div ha h0 hd, pk_mul, pk_sub (Nat.div_mul_le_self a d)]
  exact congrArg nI (by have := Nat.div_add_mod' a d; omega)
theorem pk_sub_toInt {a b : Nat} (ha : a < 2 ^ 30) (hb : b < 2 ^ 30) : (nI a - nI b).toInt = (a : Int) - b := by
  rw [Int32.toInt_sub, nI_toInt (by omega), nI_toInt (by omega)]
  exact Int.bmod_eq_of_le (by omega) (by omega)
theorem pk_sneg {a b : Nat} (hb : b < 2 ^ 30) (h : a < b) : nI a - nI b < 0 := by
  rw [Int32.lt_iff_toInt_lt, pk_sub_toInt (by omega) hb, show (0 : Int32).toInt = 0 from by decide]
  omega
theorem pk_ix (x : Int32) {n : Nat} (hn : n < 2 ^ 31) : x < 0 ∨ nI n ≤ x ∨ ∃ j : Nat, j < n ∧ x = nI j := by
  by_cases h : x < 0
  · exact Or.inl h
  · obtain ⟨j, hj, rfl⟩ := nI_of h
    by_cases h2 : j < n
    · exact Or.inr (Or.inr ⟨j, h2, rfl⟩)
    · exact Or.inr (Or.inl (nI_le (by omega) hj))
theorem pk_le {x y : Int32} {A B : Prop} (a b : Nat) (f : a ≤ b → A) (g : b < a → B) (hx : x = nI a := by rfl) (hy : y = nI b := by rfl) (ha : a < 2 ^ 31 := by omega) (hb : b < 2 ^ 31 := by omega) : (x ≤ y → A) ∧ (¬ x ≤ y → B) := by
  subst hx hy
  rw [nI_leI ha hb]
  exact ⟨f, fun z => g (by omega)⟩
theorem pk_lt {x y : Int32} {A B : Prop} (a b : Nat) (f : a < b → A) (g : b ≤ a → B) (hx : x = nI a := by rfl) (hy : y = nI b := by rfl) (ha : a < 2 ^ 31 := by omega) (hb : b < 2 ^ 31 := by omega) : (x < y → A) ∧ (¬ x < y → B) := by
  subst hx hy
  rw [nI_ltI ha hb]
  exact ⟨f, fun z => g (by omega)⟩
theorem pk_eq {x y : Int32} {A B : Prop} (a b : Nat) (f : a = b → A) (g : a ≠ b → B) (hx : x = nI a := by rfl) (hy : y = nI b := by rfl) (ha : a < 2 ^ 31 := by omega) (hb : b < 2 ^ 31 := by omega) : (x = y → A) ∧ (¬ x = y → B) := by
  subst hx hy
  rw [nI_eq ha hb]
  exact ⟨f, g⟩
theorem pk_in {x : Int32} (n N : Nat) (h : n < N) (hx : x = nI n := by rfl) (hN : N < 2 ^ 31 := by omega) : vp_in x N := by
  subst hx
  exact vp_in_nI h hN
theorem pk_cl {x : Int32} (n : Nat) (hx : x = nI n := by rfl) (h : n < 2 ^ 31 := by omega) : x.toNatClampNeg = n := by
  subst hx
  exact nI_clamp h
theorem pk_tn {n : Nat} (h : n < 2 ^ 32) : (nI n).toBitVec.toNat = n := Nat.mod_eq_of_lt h
theorem pk_and (x : Int32) {m : Int32} (k : Nat) (hm : m.toBitVec.toNat = 2 ^ k - 1) : x &&& m = nI (x.toBitVec.toNat % 2 ^ k) := by
  apply Int32.toBitVec_inj.mp
  apply BitVec.eq_of_toNat_eq
  rw [Int32.toBitVec_and, BitVec.toNat_and, hm, Nat.and_two_pow_sub_one_eq_mod]
  show _ = (BitVec.ofNat 32 _).toNat
  rw [BitVec.toNat_ofNat]
  exact (Nat.mod_eq_of_lt (Nat.lt_of_le_of_lt (Nat.mod_le _ _) x.toBitVec.isLt)).symm
theorem pk_andN {n : Nat} (h : n < 2 ^ 32) {m : Int32} (k : Nat) (hm : m.toBitVec.toNat = 2 ^ k - 1) : nI n &&& m = nI (n % 2 ^ k) := by
  rw [pk_and _ k hm, pk_tn h]
theorem pk_andE (x : Int32) {m : Int32} (k : Nat) (hm : m.toBitVec.toNat = 2 ^ k - 1) : ∃ j : Nat, j < 2 ^ k ∧ x &&& m = nI j := ⟨_, Nat.mod_lt _ (Nat.two_pow_pos k), pk_and x k hm⟩
theorem pk_shl (a s : Int32) (k : Nat) (hs : (s.toBitVec.smod 32).toNat = k) : (a <<< s).toBitVec.toNat = a.toBitVec.toNat * 2 ^ k % 2 ^ 32 := by
  show (a.toBitVec <<< (s.toBitVec.smod 32).toNat).toNat = _
  rw [hs, BitVec.toNat_shiftLeft, Nat.shiftLeft_eq]
theorem pk_shlN {n : Nat} (s : Int32) (k : Nat) (hs : (s.toBitVec.smod 32).toNat = k) (h : n * 2 ^ k < 2 ^ 32) : nI n <<< s = nI (n * 2 ^ k) := by
  apply Int32.toBitVec_inj.mp
  apply BitVec.eq_of_toNat_eq
  have hn : n < 2 ^ 32 := Nat.lt_of_le_of_lt (Nat.le_mul_of_pos_right n (Nat.two_pow_pos k)) h
  rw [pk_shl _ _ k hs, pk_tn hn, pk_tn h, Nat.mod_eq_of_lt h]
theorem pk_shr (a s : Int32) (k : Nat) (hs : (s.toBitVec.smod 32).toNat = k) : (a >>> s).toInt = a.toInt >>> k := by
  show (a.toBitVec.sshiftRight (s.toBitVec.smod 32).toNat).toInt = _
  rw [hs, BitVec.toInt_sshiftRight]
  rfl
theorem pk_shrN {n : Nat} (h : n < 2 ^ 31) (s : Int32) (k : Nat) (hs : (s.toBitVec.smod 32).toNat = k) : nI n >>> s = nI (n / 2 ^ k) := by
  apply Int32.toInt_inj.mp
  have h2 : n / 2 ^ k ≤ n := Nat.div_le_self _ _
  rw [pk_shr _ _ k hs, nI_toInt h, nI_toInt (by omega), Int.shiftRight_eq_div_pow]
  rfl
theorem pk_loop {σ : Type} (W : Nat → Nat → σ → Prop) (I : Nat → σ → Prop) (e i0 : Nat) (s : σ) (hi : i0 ≤ e) (h0 : I i0 s) (hx : ∀ n s, I e s → W (n + 1) e s)
    (hs : ∀ n i s, i < e → I i s → (∀ s', I (i + 1) s' → W n (i + 1) s') → W (n + 1) i s) : ∃ n, W n i0 s :=
  ⟨e + 1, loop_i W I e hx hs (e + 1) i0 s hi (by omega) h0⟩
theorem lp1 {A1 : Type} (W : Nat → A1 → Prop) (I : A1 → Prop) (μ : A1 → Nat) (hs : ∀ (n : Nat) (a1 : A1), I a1 → (∀ (b1 : A1), I b1 → μ b1 < μ a1 → W n b1) → W (n + 1) a1) (a1 : A1) (h : I a1) : ∃ n, W n a1 :=
  loop_m (σ := A1) (fun n s => W n s) (fun s => I s) (fun s => μ s) (fun n s hI hk => hs n s hI (fun b1 h9 hm => hk b1 h9 hm)) a1 h
theorem lp2 {A1 A2 : Type} (W : Nat → A1 → A2 → Prop) (I : A1 → A2 → Prop) (μ : A1 → A2 → Nat) (hs : ∀ (n : Nat) (a1 : A1) (a2 : A2), I a1 a2 → (∀ (b1 : A1) (b2 : A2), I b1 b2 → μ b1 b2 < μ a1 a2 → W n b1 b2) → W (n + 1) a1 a2) (a1 : A1) (a2 : A2) (h : I a1 a2) : ∃ n, W n a1 a2 :=
  loop_m (σ := A1 × A2) (fun n s => W n s.1 s.2) (fun s => I s.1 s.2) (fun s => μ s.1 s.2) (fun n s hI hk => hs n s.1 s.2 hI (fun b1 b2 h9 hm => hk (b1, b2) h9 hm)) (a1, a2) h
theorem lp3 {A1 A2 A3 : Type} (W : Nat → A1 → A2 → A3 → Prop) (I : A1 → A2 → A3 → Prop) (μ : A1 → A2 → A3 → Nat) (hs : ∀ (n : Nat) (a1 : A1) (a2 : A2) (a3 : A3), I a1 a2 a3 → (∀ (b1 : A1) (b2 : A2) (b3 : A3), I b1 b2 b3 → μ b1 b2 b3 < μ a1 a2 a3 → W n b1 b2 b3) → W (n + 1) a1 a2 a3) (a1 : A1) (a2 : A2) (a3 : A3) (h : I a1 a2 a3) : ∃ n, W n a1 a2 a3 :=
  loop_m (σ := A1 × A2 × A3) (fun n s => W n s.1 s.2.1 s.2.2) (fun s => I s.1 s.2.1 s.2.2) (fun s => μ s.1 s.2.1 s.2.2) (fun n s hI hk => hs n s.1 s.2.1 s.2.2 hI (fun b1 b2 b3 h9 hm => hk (b1, b2, b3) h9 hm)) (a1, a2, a3) h
theorem lp4 {A1 A2 A3 A4 : Type} (W : Nat → A1 → A2 → A3 → A4 → Prop) (I : A1 → A2 → A3 → A4 → Prop) (μ : A1 → A2 → A3 → A4 → Nat) (hs : ∀ (n : Nat) (a1 : A1) (a2 : A2) (a3 : A3) (a4 : A4), I a1 a2 a3 a4 → (∀ (b1 : A1) (b2 : A2) (b3 : A3) (b4 : A4), I b1 b2 b3 b4 → μ b1 b2 b3 b4 < μ a1 a2 a3 a4 → W n b1 b2 b3 b4) → W (n + 1) a1 a2 a3 a4) (a1 : A1) (a2 : A2) (a3 : A3) (a4 : A4) (h : I a1 a2 a3 a4) : ∃ n, W n a1 a2 a3 a4 :=
  loop_m (σ := A1 × A2 × A3 × A4) (fun n s => W n s.1 s.2.1 s.2.2.1 s.2.2.2) (fun s => I s.1 s.2.1 s.2.2.1 s.2.2.2) (fun s => μ s.1 s.2.1 s.2.2.1 s.2.2.2) (fun n s hI hk => hs n s.1 s.2.1 s.2.2.1 s.2.2.2 hI (fun b1 b2 b3 b4 h9 hm => hk (b1, b2, b3, b4) h9 hm)) (a1, a2, a3, a4) h
theorem lp5 {A1 A2 A3 A4 A5 : Type} (W : Nat → A1 → A2 → A3 → A4 → A5 → Prop) (I : A1 → A2 → A3 → A4 → A5 → Prop) (μ : A1 → A2 → A3 → A4 → A5 → Nat) (hs : ∀ (n : Nat) (a1 : A1) (a2 : A2) (a3 : A3) (a4 : A4) (a5 : A5), I a1 a2 a3 a4 a5 → (∀ (b1 : A1) (b2 : A2) (b3 : A3) (b4 : A4) (b5 : A5), I b1 b2 b3 b4 b5 → μ b1 b2 b3 b4 b5 < μ a1 a2 a3 a4 a5 → W n b1 b2 b3 b4 b5) → W (n + 1) a1 a2 a3 a4 a5) (a1 : A1) (a2 : A2) (a3 : A3) (a4 : A4) (a5 : A5) (h : I a1 a2 a3 a4 a5) : ∃ n, W n a1 a2 a3 a4 a5 :=
  loop_m (σ := A1 × A2 × A3 × A4 × A5) (fun n s => W n s.1 s.2.1 s.2.2.1 s.2.2.2.1 s.2.2.2.2) (fun s => I s.1 s.2.1 s.2.2.1 s.2.2.2.1 s.2.2.2.2) (fun s => μ s.1 s.2.1 s.2.2.1 s.2.2.2.1 s.2.2.2.2) (fun n s hI hk => hs n s.1 s.2.1 s.2.2.1 s.2.2.2.1 s.2.2.2.2 hI (fun b1 b2 b3 b4 b5 h9 hm => hk (b1, b2, b3, b4, b5) h9 hm)) (a1, a2, a3, a4, a5) h
theorem lp6 {A1 A2 A3 A4 A5 A6 : Type} (W : Nat → A1 → A2 → A3 → A4 → A5 → A6 → Prop) (I : A1 → A2 → A3 → A4 → A5 → A6 → Prop) (μ : A1 → A2 → A3 → A4 → A5 → A6 → Nat) (hs : ∀ (n : Nat) (a1 : A1) (a2 : A2) (a3 : A3) (a4 : A4) (a5 : A5) (a6 : A6), I a1 a2 a3 a4 a5 a6 → (∀ (b1 : A1) (b2 : A2) (b3 : A3) (b4 : A4) (b5 : A5) (b6 : A6), I b1 b2 b3 b4 b5 b6 → μ b1 b2 b3 b4 b5 b6 < μ a1 a2 a3 a4 a5 a6 → W n b1 b2 b3 b4 b5 b6) → W (n + 1) a1 a2 a3 a4 a5 a6) (a1 : A1) (a2 : A2) (a3 : A3) (a4 : A4) (a5 : A5) (a6 : A6) (h : I a1 a2 a3 a4 a5 a6) : ∃ n, W n a1 a2 a3 a4 a5 a6 :=
  loop_m (σ := A1 × A2 × A3 × A4 × A5 × A6) (fun n s => W n s.1 s.2.1 s.2.2.1 s.2.2.2.1 s.2.2.2.2.1 s.2.2.2.2.2) (fun s => I s.1 s.2.1 s.2.2.1 s.2.2.2.1 s.2.2.2.2.1 s.2.2.2.2.2) (fun s => μ s.1 s.2.1 s.2.2.1 s.2.2.2.1 s.2.2.2.2.1 s.2.2.2.2.2) (fun n s hI hk => hs n s.1 s.2.1 s.2.2.1 s.2.2.2.1 s.2.2.2.2.1 s.2.2.2.2.2 hI (fun b1 b2 b3 b4 b5 b6 h9 hm => hk (b1, b2, b3, b4, b5, b6) h9 hm)) (a1, a2, a3, a4, a5, a6) h
theorem ek_if {c d A B : Prop} (e : c ↔ d) (f : d → A) (g : ¬ d → B) : (c → A) ∧ (¬ c → B) :=
  ⟨fun z => f (e.mp z), fun z => g (fun y => z (e.mpr y))⟩
theorem ek_v {α : Sort _} {P : α → Prop} {a b : α} (e : a = b) (h : P b) : P a := e ▸ h
theorem sb_cl0 : (0 : Int32).toNatClampNeg = 0 := by decide
theorem sb_m1 {p : Nat} (h : 0 < p) : nI p + (-1) = nI (p - 1) := by
  obtain ⟨q, rfl⟩ : ∃ q, p = q + 1 := ⟨p - 1, by omega⟩
  exact pk_m1 q
theorem sb_negT {w : Nat} (h : w < 2 ^ 31) : (-nI w).toInt = -(w : Int) := by
  rw [Int32.toInt_neg, nI_toInt h]
  exact Int.bmod_eq_of_le (by omega) (by omega)
def bt (x : Int32) (i : Nat) : Bool := x.toBitVec.getLsbD i
theorem b_ext {x y : Int32} (h : ∀ i, i < 32 → bt x i = bt y i) : x = y := Int32.toBitVec_inj.mp (BitVec.eq_of_getLsbD_eq (fun i hi => h i hi))
theorem b_or (x y : Int32) (i : Nat) : bt (x ||| y) i = (bt x i || bt y i) := by unfold bt; rw [Int32.toBitVec_or, BitVec.getLsbD_or]
theorem b_and (x y : Int32) (i : Nat) : bt (x &&& y) i = (bt x i && bt y i) := by unfold bt; rw [Int32.toBitVec_and, BitVec.getLsbD_and]
theorem b_xor (x y : Int32) (i : Nat) : bt (x ^^^ y) i = (bt x i ^^ bt y i) := by unfold bt; rw [Int32.toBitVec_xor, BitVec.getLsbD_xor]
theorem b_big {x : Int32} {i : Nat} (h : 32 ≤ i) : bt x i = false := BitVec.getLsbD_of_ge _ _ h
theorem b_255 (i : Nat) : bt 255 i = decide (i < 8) := by
  rcases Nat.lt_or_ge i 32 with h | h
  · exact (by decide +kernel : ∀ i, i < 32 → bt 255 i = decide (i < 8)) i h
  · rw [b_big h, decide_eq_false (by omega)]
theorem b_65535 (i : Nat) : bt 65535 i = decide (i < 16) := by
  rcases Nat.lt_or_ge i 32 with h | h
  · exact (by decide +kernel : ∀ i, i < 32 → bt 65535 i = decide (i < 16)) i h
  · rw [b_big h, decide_eq_false (by omega)]
theorem b_m1 : ∀ i, i < 32 → bt (-1) i = true := by decide +kernel
theorem b_0 (i : Nat) : bt 0 i = false := BitVec.getLsbD_zero
theorem s_l : ∀ n, n < 32 → ((nI n &&& 31).toBitVec.smod 32).toNat = n := by decide +kernel
theorem s_u : ∀ n, n < 32 → (((nI n).toUInt32 &&& Int32.toUInt32 31).toBitVec % 32).toNat = n := by decide +kernel
theorem b_shl (n : Nat) (hn : n < 32) (x : Int32) {i : Nat} (hi : i < 32) : bt (x <<< (nI n &&& 31)) i = (decide (n ≤ i) && bt x (i - n)) := by
  unfold bt
  rw [Int32.toBitVec_shiftLeft]
  show (x.toBitVec <<< ((nI n &&& 31).toBitVec.smod 32).toNat).getLsbD i = _
  rw [s_l n hn, BitVec.getLsbD_shiftLeft]
  rcases Nat.lt_or_ge i n with h | h
  · simp [h, Nat.not_le.mpr h]
  · simp [hi, h, Nat.not_lt.mpr h]
theorem b_ushr (n : Nat) (hn : n < 32) (x : Int32) (i : Nat) : bt ((x.toUInt32 >>> ((nI n).toUInt32 &&& Int32.toUInt32 31)).toInt32) i = bt x (n + i) := by
  show (x.toUInt32 >>> ((nI n).toUInt32 &&& Int32.toUInt32 31)).toBitVec.getLsbD i = x.toUInt32.toBitVec.getLsbD (n + i)
  rw [UInt32.toBitVec_shiftRight]
  show (x.toUInt32.toBitVec >>> (((nI n).toUInt32 &&& Int32.toUInt32 31).toBitVec % 32).toNat).getLsbD i = _
  rw [s_u n hn, BitVec.getLsbD_ushiftRight]
theorem b_sshr (n : Nat) (hn : n < 32) (x : Int32) {i : Nat} (hi : i < 32) : bt (x >>> (nI n &&& 31)) i = if n + i < 32 then bt x (n + i) else bt x 31 := by
  unfold bt
  rw [Int32.toBitVec_shiftRight]
  show (x.toBitVec.sshiftRight ((nI n &&& 31).toBitVec.smod 32).toNat).getLsbD i = _
  rw [s_l n hn, BitVec.getLsbD_sshiftRight, BitVec.msb_eq_getLsbD_last]
  simp [hi]
end
section
/-- an Int as an Int32 -/
def rr_i (z : Int) : Int32 := Int32.ofInt z
theorem rr_n (n : Nat) : nI n = rr_i (n : Int) := Int32.ofInt_eq_ofNat.symm
theorem rr_add (a b : Int) : rr_i a + rr_i b = rr_i (a + b) := (Int32.ofInt_add a b).symm
theorem rr_sub (a b : Int) : rr_i a - rr_i b = rr_i (a - b) := (Int32.ofInt_sub a b).symm
theorem rr_mul (a b : Int) : rr_i a * rr_i b = rr_i (a * b) := (Int32.ofInt_mul a b).symm
theorem rr_neg (a : Int) : - rr_i a = rr_i (-a) := (Int32.ofInt_neg a).symm
theorem rr_toInt {z : Int} (h1 : -2147483648 ≤ z) (h2 : z < 2147483648) : (rr_i z).toInt = z := Int32.toInt_ofInt_of_le (by omega) (by omega)
theorem rr_of (x : Int32) : x = rr_i x.toInt := (Int32.ofInt_toInt x).symm
theorem rr_le {a b : Int} (ha : -2147483648 ≤ a ∧ a < 2147483648) (hb : -2147483648 ≤ b ∧ b < 2147483648) : rr_i a ≤ rr_i b ↔ a ≤ b := by
  rw [Int32.le_iff_toInt_le, rr_toInt ha.1 ha.2, rr_toInt hb.1 hb.2]
theorem rr_lt {a b : Int} (ha : -2147483648 ≤ a ∧ a < 2147483648) (hb : -2147483648 ≤ b ∧ b < 2147483648) : rr_i a < rr_i b ↔ a < b := by
  rw [Int32.lt_iff_toInt_lt, rr_toInt ha.1 ha.2, rr_toInt hb.1 hb.2]
theorem rr_eq {a b : Int} (ha : -2147483648 ≤ a ∧ a < 2147483648) (hb : -2147483648 ≤ b ∧ b < 2147483648) : rr_i a = rr_i b ↔ a = b := by
  rw [← Int32.toInt_inj, rr_toInt ha.1 ha.2, rr_toInt hb.1 hb.2]
theorem rr_nsub (a b : Nat) : nI a - nI b = rr_i ((a : Int) - b) := by rw [rr_n, rr_n, rr_sub]
theorem rr_mulb {a b m : Int} (ha : -m ≤ a ∧ a ≤ m) (hb : -m ≤ b ∧ b ≤ m) : -(m * m) ≤ a * b ∧ a * b ≤ m * m := by
  have h : (a * b).natAbs ≤ m.natAbs * m.natAbs := by
    rw [Int.natAbs_mul]
    exact Nat.mul_le_mul (by omega) (by omega)
  have h2 : ((m.natAbs * m.natAbs : Nat) : Int) = m * m := Int.natAbs_mul_self
  generalize a * b = p at *
  generalize m * m = q at *
  generalize m.natAbs * m.natAbs = w at *
  omega
/-- how many of the first n -/
def rr_cnt (P : Nat → Bool) : Nat → Nat
  | 0 => 0
  | n + 1 => rr_cnt P n + (P n).toNat
theorem rr_cnt_s (P : Nat → Bool) (n : Nat) : rr_cnt P (n + 1) = rr_cnt P n + (P n).toNat := rfl
theorem rr_tn (b : Bool) : b.toNat ≤ 1 := by cases b <;> decide
theorem rr_cnt_le (P : Nat → Bool) (n : Nat) : rr_cnt P n ≤ n := by
  induction n with
  | zero => exact Nat.le_refl 0
  | succ n ih =>
    have h := rr_tn (P n)
    rw [rr_cnt_s]
    omega
theorem rr_cnt_congr {P Q : Nat → Bool} (n : Nat) (h : ∀ k, k < n → P k = Q k) : rr_cnt P n = rr_cnt Q n := by
  induction n with
  | zero => rfl
  | succ n ih => rw [rr_cnt_s, rr_cnt_s, ih (fun k hk => h k (by omega)), h n (by omega)]
theorem rr_cnt_add (P : Nat → Bool) (a b : Nat) : rr_cnt P (a + b) = rr_cnt P a + rr_cnt (fun x => P (a + x)) b := by
  induction b with
  | zero => rfl
  | succ b ih =>
    show rr_cnt P (a + b) + (P (a + b)).toNat = rr_cnt P a + (rr_cnt (fun x => P (a + x)) b + (P (a + b)).toNat)
    rw [ih]
    omega
theorem rr_cnt_mono {P Q : Nat → Bool} (n : Nat) (h : ∀ k, k < n → P k = true → Q k = true) : rr_cnt P n ≤ rr_cnt Q n := by
  induction n with
  | zero => exact Nat.le_refl 0
  | succ n ih =>
    have h1 := ih (fun k hk => h k (by omega))
    have h2 := h n (by omega)
    have h3 : (P n).toNat ≤ (Q n).toNat := by
      cases hp : P n with
      | false => exact Nat.zero_le _
      | true => exact Nat.le_of_eq (by rw [h2 hp])
    rw [rr_cnt_s, rr_cnt_s]
    omega
theorem rr_cnt_full {P : Nat → Bool} : ∀ n, rr_cnt P n = n → ∀ k, k < n → P k = true := by
  intro n
  induction n with
  | zero => intro _ k hk; omega
  | succ n ih =>
    intro h k hk
    rw [rr_cnt_s] at h
    have h1 := rr_cnt_le P n
    have h2 := rr_tn (P n)
    have h3 : (P n).toNat = 1 := by omega
    by_cases e : k = n
    · rw [e]
      cases hp : P n with
      | true => rfl
      | false => rw [hp] at h3; exact absurd h3 (by decide)
    · exact ih (by omega) k (by omega)
def rr_put (P : Nat → Bool) (j : Nat) : Nat → Bool := fun k => if k = j then true else P k
theorem rr_put_s (P : Nat → Bool) (j : Nat) : rr_put P j j = true := if_pos rfl
theorem rr_put_n {P : Nat → Bool} {j k : Nat} (h : k ≠ j) : rr_put P j k = P k := if_neg h
theorem rr_put_m {P : Nat → Bool} {j k : Nat} (h : P k = true) : rr_put P j k = true := by
  by_cases e : k = j
  · rw [e]; exact rr_put_s P j
  · rw [rr_put_n e]; exact h
theorem rr_cnt_put {P : Nat → Bool} {j : Nat} (hp : P j = false) : ∀ n, rr_cnt (rr_put P j) n = rr_cnt P n + (if j < n then 1 else 0) := by
  intro n
  induction n with
  | zero =>
    show 0 = 0 + (if j < 0 then 1 else 0)
    rw [if_neg (Nat.not_lt_zero j)]
  | succ n ih =>
    rw [rr_cnt_s, rr_cnt_s, ih]
    by_cases e : n = j
    · rw [e, rr_put_s, hp, if_neg (Nat.lt_irrefl j), if_pos (Nat.lt_succ_self j)] <;> rfl
    · rw [rr_put_n e]
      by_cases h : j < n
      · rw [if_pos h, if_pos (by omega)]
        omega
      · rw [if_neg h, if_neg (by omega)]
        omega
/-- a Bool as the JVM has it -/
def rr_bi (b : Bool) : Int32 := nI b.toNat
theorem rr_bi_t : rr_bi true = 1 := rfl
theorem rr_bi_f : rr_bi false = 0 := rfl
theorem rr_bi_0 (b : Bool) : rr_bi b = 0 ↔ b = false := by cases b <;> decide
theorem rr_bi_1 (b : Bool) : rr_bi b = 1 ↔ b = true := by cases b <;> decide
theorem rr_bi_e (a b : Bool) : rr_bi a = rr_bi b ↔ a = b := by cases a <;> cases b <;> decide
theorem rr_cbi (P : Nat → Bool) (n : Nat) : nI (rr_cnt P n) + rr_bi (P n) = nI (rr_cnt P (n + 1)) := by
  rw [rr_cnt_s, rr_bi, nI_add]
/-- X's rows, X's figure as a set of Prop, Y's cells -/
def rr_RX (a : Nat → Int32) (P : Nat → Bool) : Prop := ∀ y, y < 24 → ∀ x, x < 32 → bt (a y) x = (decide (x < 24) && P (24 * y + x))
def rr_RF (a : Nat → Int32) (F : Nat → Prop) : Prop := ∀ y, y < 24 → ∀ x, x < 32 → (bt (a y) x = true ↔ x < 24 ∧ F (24 * y + x))
def rr_RY (s : Nat → Int32) (P : Nat → Bool) : Prop := ∀ k, k < 576 → s k = rr_bi (P k)
theorem rr_RF_X {a : Nat → Int32} {F : Nat → Prop} {P : Nat → Bool} (h : rr_RF a F) (e : ∀ k, k < 576 → (F k ↔ P k = true)) : rr_RX a P := by
  intro y hy x hx
  have h1 := h y hy x hx
  rw [Bool.eq_iff_iff, Bool.and_eq_true, decide_eq_true_iff]
  constructor
  · intro hb
    have h2 := h1.mp hb
    exact ⟨h2.1, (e _ (by omega)).mp h2.2⟩
  · intro hb
    have h3 := hb.1
    exact h1.mpr ⟨hb.1, (e _ (by omega)).mpr hb.2⟩
theorem rr_RF_c {a : Nat → Int32} {F G : Nat → Prop} (h : rr_RF a F) (e : ∀ k, k < 576 → (F k ↔ G k)) : rr_RF a G := by
  intro y hy x hx
  have h1 := h y hy x hx
  constructor
  · intro hb
    have h2 := h1.mp hb
    exact ⟨h2.1, (e _ (by omega)).mp h2.2⟩
  · intro hb
    have h3 := hb.1
    exact h1.mpr ⟨hb.1, (e _ (by omega)).mpr hb.2⟩
theorem rr_RX_c {a : Nat → Int32} {P Q : Nat → Bool} (h : rr_RX a P) (e : ∀ k, k < 576 → P k = Q k) : rr_RX a Q := by
  intro y hy x hx
  rw [h y hy x hx]
  by_cases z : x < 24
  · rw [e _ (by omega)]
  · rw [decide_eq_false z, Bool.false_and, Bool.false_and]
theorem rr_RX_at {a : Nat → Int32} {P : Nat → Bool} (h : rr_RX a P) {x y : Nat} (hx : x < 24) (hy : y < 24) : bt (a y) x = P (24 * y + x) := by
  rw [h y hy x (by omega), decide_eq_true hx, Bool.true_and]
theorem rr_RX_hi {a : Nat → Int32} {P : Nat → Bool} (h : rr_RX a P) {x y : Nat} (hx : 24 ≤ x) (hy : y < 24) : bt (a y) x = false := by
  by_cases z : x < 32
  · rw [h y hy x z, decide_eq_false (by omega), Bool.false_and]
  · exact b_big (by omega)
/-- bits -/
theorem rr_b1 : ∀ i, i < 32 → bt 1 i = decide (i = 0) := by decide +kernel
theorem rr_bfull : ∀ i, i < 32 → bt 16777215 i = decide (i < 24) := by decide +kernel
theorem rr_one {x i : Nat} (hx : x < 32) (hi : i < 32) : bt ((1 : Int32) <<< (nI x &&& 31)) i = decide (i = x) := by
  rw [b_shl x hx 1 hi]
  by_cases h : x ≤ i
  · rw [decide_eq_true h, Bool.true_and, rr_b1 (i - x) (by omega)]
    by_cases e : i = x
    · rw [decide_eq_true e, decide_eq_true (by omega)]
    · rw [decide_eq_false e, decide_eq_false (by omega)]
  · rw [decide_eq_false h, Bool.false_and, decide_eq_false (by omega)]
theorem rr_bit (b : Int32) {x : Nat} (hx : x < 32) : (b >>> (nI x &&& 31)) &&& 1 = rr_bi (bt b x) := by
  apply b_ext
  intro i hi
  rw [b_and, rr_b1 i hi, b_sshr x hx b hi]
  by_cases e : i = 0
  · subst e
    rw [decide_eq_true rfl, Bool.and_true, Nat.add_zero, if_pos hx]
    cases bt b x <;> decide +kernel
  · rw [decide_eq_false e, Bool.and_false]
    cases bt b x
    · exact (b_0 i).symm
    · have h := rr_b1 i hi
      rw [decide_eq_false e] at h
      exact h.symm
/-- what a pen makes of a figure -/
def rr_dr (p : Nat) (P F : Nat → Bool) : Nat → Bool := fun k => if F k = true then (decide (p = 0) || (decide (p = 2) && !P k)) else P k
def rr_df (p : Nat) (P F : Nat → Bool) : Nat → Bool := fun k => P k ^^ rr_dr p P F k
theorem rr_dr_x (p : Nat) (hp : p ≤ 2) (P F : Nat → Bool) (k : Nat) : rr_dr p P F k = (if p = 0 then (P k || F k) else if p = 1 then (P k && !F k) else (P k ^^ F k)) := by
  unfold rr_dr
  have h : p = 0 ∨ p = 1 ∨ p = 2 := by omega
  rcases h with rfl | rfl | rfl <;> cases F k <;> cases P k <;> rfl
end
section
/-! the line: the nearest one, by a quotient and by a test -/
theorem rr_q {R L y : Nat} (hL : 0 < L) : y = (2 * R + L - 1) / (2 * L) ↔ 2 * (L * y) ≤ 2 * R + L - 1 ∧ 2 * R + L - 1 < 2 * (L * y) + 2 * L := by
  have e1 : y * (2 * L) = 2 * (L * y) := by rw [Nat.mul_comm, Nat.mul_assoc]
  constructor
  · intro h
    have h1 := Nat.div_add_mod (2 * R + L - 1) (2 * L)
    have h2 := Nat.mod_lt (2 * R + L - 1) (show 2 * L > 0 by omega)
    rw [← h, Nat.mul_assoc] at h1
    generalize L * y = X at *
    omega
  · intro h
    refine (Nat.div_eq_of_lt_le ?_ ?_).symm
    · rw [e1]; exact h.1
    · have e2 : (y + 1) * (2 * L) = 2 * (L * y) + 2 * L := by rw [Nat.add_mul, Nat.one_mul, e1]
      rw [e2]; exact h.2
theorem rr_nearI {L t e : Nat} {w : Int} (hL : 0 < L) : (-(L : Int) ≤ 2 * ((L : Int) * w - (e : Int) * t) ∧ 2 * ((L : Int) * w - (e : Int) * t) < L) ↔ w = (((2 * (t * e) + L - 1) / (2 * L) : Nat) : Int) := by
  have c2 : (e : Int) * (t : Int) = ((t * e : Nat) : Int) := by rw [Nat.mul_comm, Int.natCast_mul]
  rw [c2]
  by_cases h : 0 ≤ w
  · obtain ⟨s, rfl⟩ := Int.eq_ofNat_of_zero_le h
    have h1 := rr_q (R := t * e) (y := s) hL
    have c1 : (L : Int) * (s : Int) = ((L * s : Nat) : Int) := (Int.natCast_mul L s).symm
    have h3 : ((s : Int) = (((2 * (t * e) + L - 1) / (2 * L) : Nat) : Int)) ↔ s = (2 * (t * e) + L - 1) / (2 * L) := Int.ofNat_inj
    rw [c1, h3, h1]
    generalize L * s = X at *
    generalize t * e = Y at *
    omega
  · have h2 : (L : Int) * w ≤ (L : Int) * (-1) := Int.mul_le_mul_of_nonneg_left (by omega) (by omega)
    generalize (L : Int) * w = X at *
    generalize (2 * (t * e) + L - 1) / (2 * L) = q at *
    generalize t * e = Y at *
    omega
theorem rr_near {A B C D x y : Nat} (hAC : A < C) (hx1 : A ≤ x) (hx2 : x ≤ C) : (-((C : Int) - A) ≤ 2 * (((C : Int) - A) * ((y : Int) - B) - ((D : Int) - B) * ((x : Int) - A)) ∧ 2 * (((C : Int) - A) * ((y : Int) - B) - ((D : Int) - B) * ((x : Int) - A)) < (C : Int) - A) ↔ y = (if B ≤ D then B else D) + (2 * (if B ≤ D then (x - A) * (D - B) else (C - x) * (B - D)) + (C - A) - 1) / (2 * (C - A)) := by
  obtain ⟨L, hL⟩ : ∃ L, L = C - A := ⟨_, rfl⟩
  have hL0 : 0 < L := by omega
  have e1 : (C : Int) - A = L := by omega
  rw [e1, ← hL]
  by_cases h : B ≤ D
  · rw [if_pos h, if_pos h]
    obtain ⟨e, he⟩ : ∃ e, e = D - B := ⟨_, rfl⟩
    obtain ⟨t, ht⟩ : ∃ t, t = x - A := ⟨_, rfl⟩
    have e2 : (D : Int) - B = e := by omega
    have e3 : (x : Int) - A = t := by omega
    rw [e2, e3, ← he, ← ht, rr_nearI hL0]
    generalize (2 * (t * e) + L - 1) / (2 * L) = q
    omega
  · rw [if_neg h, if_neg h]
    obtain ⟨e, he⟩ : ∃ e, e = B - D := ⟨_, rfl⟩
    obtain ⟨t, ht⟩ : ∃ t, t = C - x := ⟨_, rfl⟩
    have e2 : (D : Int) - B = -e := by omega
    have e3 : (x : Int) - A = (L : Int) - t := by omega
    have e4 : (y : Int) - B = ((y : Int) - D) - e := by omega
    have key : (L : Int) * (((y : Int) - D) - e) - (-(e : Int)) * ((L : Int) - t) = (L : Int) * ((y : Int) - D) - (e : Int) * t := by grind
    rw [e2, e3, e4, key, ← he, ← ht, rr_nearI hL0]
    generalize (2 * (t * e) + L - 1) / (2 * L) = q
    omega
def rr_dist (a b : Nat) : Nat := if a < b then b - a else a - b
/-- the component's value of the line from (fu, fv) to (tu, tv) at u -/
def rr_nol (u fu fv tu tv : Nat) : Nat :=
  (if fv < tv then fv else tv) + (2 * (rr_dist u (if fv ≤ tv then fu else tu) * rr_dist fv tv) + rr_dist fu tu - 1) / (2 * rr_dist fu tu)
theorem rr_nol1 {u fu fv tu tv y : Nat} (h : fu < tu) (h1 : fu ≤ u) (h2 : u ≤ tu) : (-((tu : Int) - fu) ≤ 2 * (((tu : Int) - fu) * ((y : Int) - fv) - ((tv : Int) - fv) * ((u : Int) - fu)) ∧ 2 * (((tu : Int) - fu) * ((y : Int) - fv) - ((tv : Int) - fv) * ((u : Int) - fu)) < (tu : Int) - fu) ↔ y = rr_nol u fu fv tu tv := by
  rw [rr_near h h1 h2]
  unfold rr_nol
  have e1 : rr_dist fu tu = tu - fu := if_pos h
  have e3 : (if fv < tv then fv else tv) = (if fv ≤ tv then fv else tv) := by
    by_cases z : fv < tv
    · rw [if_pos z, if_pos (by omega)]
    · rw [if_neg z]
      by_cases w : fv ≤ tv
      · rw [if_pos w]; omega
      · rw [if_neg w]
  have e2 : rr_dist u (if fv ≤ tv then fu else tu) * rr_dist fv tv = (if fv ≤ tv then (u - fu) * (tv - fv) else (tu - u) * (fv - tv)) := by
    by_cases z : fv ≤ tv
    · rw [if_pos z, if_pos z]
      have a1 : rr_dist u fu = u - fu := if_neg (by omega)
      have a2 : rr_dist fv tv = tv - fv := by unfold rr_dist; by_cases w : fv < tv
                                              · rw [if_pos w]
                                              · rw [if_neg w]; omega
      rw [a1, a2]
    · rw [if_neg z, if_neg z]
      have a1 : rr_dist u tu = tu - u := by unfold rr_dist; by_cases w : u < tu
                                            · rw [if_pos w]
                                            · rw [if_neg w]; omega
      have a2 : rr_dist fv tv = fv - tv := if_neg (by omega)
      rw [a1, a2]
  rw [e1, e2, e3]
theorem rr_nol2 {u fu fv tu tv y : Nat} (h : tu < fu) (h1 : tu ≤ u) (h2 : u ≤ fu) : (-((fu : Int) - tu) ≤ 2 * (((fu : Int) - tu) * ((y : Int) - tv) - ((fv : Int) - tv) * ((u : Int) - tu)) ∧ 2 * (((fu : Int) - tu) * ((y : Int) - tv) - ((fv : Int) - tv) * ((u : Int) - tu)) < (fu : Int) - tu) ↔ y = rr_nol u fu fv tu tv := by
  rw [rr_near h h1 h2]
  unfold rr_nol
  have e1 : rr_dist fu tu = fu - tu := if_neg (by omega)
  have e3 : (if fv < tv then fv else tv) = (if tv ≤ fv then tv else fv) := by
    by_cases z : fv < tv
    · rw [if_pos z, if_neg (by omega)]
    · rw [if_neg z, if_pos (by omega)]
  have e2 : rr_dist u (if fv ≤ tv then fu else tu) * rr_dist fv tv = (if tv ≤ fv then (u - tu) * (fv - tv) else (fu - u) * (tv - fv)) := by
    by_cases z : tv ≤ fv
    · have a2 : rr_dist fv tv = fv - tv := if_neg (by omega)
      rw [if_pos z, a2]
      by_cases w : fv ≤ tv
      · rw [show fv - tv = 0 by omega, Nat.mul_zero, Nat.mul_zero]
      · have a1 : rr_dist u tu = u - tu := if_neg (by omega)
        rw [if_neg w, a1]
    · have a2 : rr_dist fv tv = tv - fv := if_pos (by omega)
      have a1 : rr_dist u fu = fu - u := by unfold rr_dist; by_cases w : u < fu
                                            · rw [if_pos w]
                                            · rw [if_neg w]; omega
      rw [if_neg z, if_pos (by omega), a1, a2]
  rw [e1, e2, e3]
theorem rr_dist_le {a b : Nat} (ha : a < 24) (hb : b < 24) : rr_dist a b ≤ 23 := by
  unfold rr_dist
  by_cases w : a < b
  · rw [if_pos w]; omega
  · rw [if_neg w]; omega
/-! the root: the least v with n ≤ v (v + 1) -/
def rr_rt (n v : Nat) : Prop := n ≤ v * (v + 1) ∧ ∀ w, w < v → w * (w + 1) < n
theorem rr_rt_i (n h : Nat) : rr_rt n h ↔ n ≤ h * h + h ∧ (h = 0 ∨ h * h < n + h) := by
  have e : h * (h + 1) = h * h + h := Nat.mul_succ h h
  unfold rr_rt
  rw [e]
  constructor
  · intro ⟨h1, h2⟩
    refine ⟨h1, ?_⟩
    by_cases z : h = 0
    · exact Or.inl z
    · right
      obtain ⟨w, rfl⟩ : ∃ w, h = w + 1 := ⟨h - 1, by omega⟩
      have h3 := h2 w (by omega)
      have e2 : (w + 1) * (w + 1) = w * (w + 1) + (w + 1) := Nat.succ_mul w (w + 1)
      rw [e2]
      omega
  · intro ⟨h1, h2⟩
    refine ⟨h1, ?_⟩
    intro w hw
    rcases h2 with z | z
    · omega
    · obtain ⟨g, rfl⟩ : ∃ g, h = g + 1 := ⟨h - 1, by omega⟩
      have e2 : (g + 1) * (g + 1) = g * (g + 1) + (g + 1) := Nat.succ_mul g (g + 1)
      rw [e2] at z
      have h4 : w * (w + 1) ≤ g * (g + 1) := Nat.mul_le_mul (by omega) (by omega)
      omega
theorem rr_rt_u {n a b : Nat} (ha : rr_rt n a) (hb : rr_rt n b) : a = b := by
  rcases Nat.lt_trichotomy a b with h | h | h
  · have h1 := hb.2 a h
    have h2 := ha.1
    omega
  · exact h
  · have h1 := ha.2 b h
    have h2 := hb.1
    omega
theorem rr_rt_30 {n : Nat} (hn : n ≤ 900) : n ≤ 30 * (30 + 1) := by omega
/-- the reference's arc: a point (u, v) with |u| = s, |v| = h -/
def rr_arc (u v : Int) (r : Nat) : Prop := u.natAbs ≤ r ∧ u.natAbs ≤ v.natAbs ∧ rr_rt (r * r - u.natAbs * u.natAbs) v.natAbs
/-! the flood: the least set -/
def rr_adj (j k : Nat) : Prop := (0 < k % 24 ∧ j = k - 1) ∨ (k % 24 < 23 ∧ j = k + 1) ∨ (24 ≤ k ∧ j = k - 24) ∨ (k < 552 ∧ j = k + 24)
def rr_conn (P : Nat → Bool) (s k : Nat) : Prop := ∀ T : Nat → Prop, T s → (∀ i j, T i → i < 576 → j < 576 → rr_adj i j → P j = P s → T j) → T k
theorem rr_conn_0 (P : Nat → Bool) (s : Nat) : rr_conn P s s := fun _ h _ => h
theorem rr_conn_s {P : Nat → Bool} {s i j : Nat} (h : rr_conn P s i) (hi : i < 576) (hj : j < 576) (ha : rr_adj i j) (hp : P j = P s) : rr_conn P s j :=
  fun T h0 hs => hs i j (h T h0 hs) hi hj ha hp
/-- a set that is sound, holds the start and is closed -/
def rr_isF (P : Nat → Bool) (s : Nat) (Q : Nat → Bool) : Prop :=
  (∀ k, k < 576 → Q k = true → rr_conn P s k) ∧ Q s = true ∧ (∀ i j, i < 576 → j < 576 → Q i = true → rr_adj i j → P j = P s → Q j = true)
theorem rr_isF_sub {P : Nat → Bool} {s : Nat} {Q R : Nat → Bool} (hQ : rr_isF P s Q) (hR : rr_isF P s R) : ∀ k, k < 576 → Q k = true → R k = true := by
  intro k hk h
  exact hQ.1 k hk h (fun j => R j = true) hR.2.1 (fun i j hi h1 h2 ha hp => hR.2.2 i j h1 h2 hi ha hp)
theorem rr_isF_u {P : Nat → Bool} {s : Nat} {Q R : Nat → Bool} (hQ : rr_isF P s Q) (hR : rr_isF P s R) : ∀ k, k < 576 → Q k = R k := by
  intro k hk
  rw [Bool.eq_iff_iff]
  exact ⟨rr_isF_sub hQ hR k hk, rr_isF_sub hR hQ k hk⟩
def rr_code (k : Nat) : Nat := 32 * (k / 24) + k % 24
theorem rr_code_i {j k : Nat} (h : rr_code j = rr_code k) : j = k := by unfold rr_code at h; omega
/-- a move -/
def rr_mv (P : Nat → Bool) (dx dy : Int) : Nat → Bool := fun k =>
  decide (0 ≤ ((k % 24 : Nat) : Int) - dx ∧ ((k % 24 : Nat) : Int) - dx ≤ 23 ∧ 0 ≤ ((k / 24 : Nat) : Int) - dy ∧ ((k / 24 : Nat) : Int) - dy ≤ 23) && P (24 * (((k / 24 : Nat) : Int) - dy).toNat + (((k % 24 : Nat) : Int) - dx).toNat)
end
section
/-! a mark, a row under a pen, a row that is shifted -/
theorem rr_markU {f : Nat → Int32} {F : Nat → Prop} (h : rr_RF f F) {x y : Nat} (hx : x < 24) (hy : y < 24) : rr_RF (upd f y (f y ||| ((1 : Int32) <<< (nI x &&& 31)))) (fun k => F k ∨ (nI x = nI (k % 24) ∧ nI y = nI (k / 24))) := by
  intro y' hy' x' hx'
  have e1 : x' < 24 → (nI x = nI ((24 * y' + x') % 24) ↔ x' = x) := fun z => by
    rw [nI_eq (by omega) (by omega)]; omega
  have e2 : x' < 24 → (nI y = nI ((24 * y' + x') / 24) ↔ y' = y) := fun z => by
    rw [nI_eq (by omega) (by omega)]; omega
  by_cases e : y' = y
  · subst e
    rw [pk_us, b_or, rr_one (by omega) hx', Bool.or_eq_true, h y' hy x' hx', decide_eq_true_iff]
    constructor
    · rintro (z | z)
      · exact ⟨z.1, Or.inl z.2⟩
      · have w : x' < 24 := by omega
        exact ⟨w, Or.inr ⟨(e1 w).mpr z, (e2 w).mpr rfl⟩⟩
    · rintro ⟨w, z | z⟩
      · exact Or.inl ⟨w, z⟩
      · exact Or.inr ((e1 w).mp z.1)
  · rw [pk_un e, h y' hy' x' hx']
    constructor
    · intro z
      exact ⟨z.1, Or.inl z.2⟩
    · rintro ⟨w, z | z⟩
      · exact ⟨w, z⟩
      · exact absurd ((e2 w).mp z.2) e
theorem rr_RF0 {f : Nat → Int32} (h : ∀ y, y < 24 → f y = 0) : rr_RF f (fun _ => False) := by
  intro y hy x _
  rw [h y hy, b_0]
  constructor
  · intro z; exact absurd z (by decide)
  · intro z; exact z.2.elim
theorem rr_row0 {b m : Int32} {P F : Nat → Bool} {y x : Nat} (hb : bt b x = (decide (x < 24) && P (24 * y + x))) (hm : bt m x = (decide (x < 24) && F (24 * y + x))) : bt (b ||| m) x = (decide (x < 24) && rr_dr 0 P F (24 * y + x)) := by
  rw [b_or, hb, hm, rr_dr_x 0 (by decide), if_pos rfl]
  cases decide (x < 24) <;> cases P (24 * y + x) <;> cases F (24 * y + x) <;> rfl
theorem rr_row1 {b m : Int32} {P F : Nat → Bool} {y x : Nat} (hx : x < 32) (hb : bt b x = (decide (x < 24) && P (24 * y + x))) (hm : bt m x = (decide (x < 24) && F (24 * y + x))) : bt (b &&& (m ^^^ (-1))) x = (decide (x < 24) && rr_dr 1 P F (24 * y + x)) := by
  rw [b_and, b_xor, b_m1 x hx, hb, hm, rr_dr_x 1 (by decide), if_neg (by decide), if_pos rfl]
  cases decide (x < 24) <;> cases P (24 * y + x) <;> cases F (24 * y + x) <;> rfl
theorem rr_row2 {b m : Int32} {P F : Nat → Bool} {y x : Nat} (hb : bt b x = (decide (x < 24) && P (24 * y + x))) (hm : bt m x = (decide (x < 24) && F (24 * y + x))) : bt (b ^^^ m) x = (decide (x < 24) && rr_dr 2 P F (24 * y + x)) := by
  rw [b_xor, hb, hm, rr_dr_x 2 (by decide), if_neg (by decide), if_neg (by decide)]
  cases decide (x < 24) <;> cases P (24 * y + x) <;> cases F (24 * y + x) <;> rfl
theorem rr_cnt24 (D : Nat → Bool) (y : Nat) : nI (rr_cnt D (24 * y)) + nI (rr_cnt (fun x => D (24 * y + x)) 24) = nI (rr_cnt D (24 * (y + 1))) := by
  rw [nI_add, show 24 * (y + 1) = 24 * y + 24 from rfl, rr_cnt_add]
/-- row y of the raster is replaced by one that shows Q there -/
theorem rr_RX_u {a : Nat → Int32} {P Q : Nat → Bool} {y : Nat} {v : Int32} (h : rr_RX a (fun k => if k < 24 * y then Q k else P k)) (hv : ∀ x, x < 32 → bt v x = (decide (x < 24) && Q (24 * y + x))) : rr_RX (upd a y v) (fun k => if k < 24 * (y + 1) then Q k else P k) := by
  intro y' hy' x hx
  by_cases e : y' = y
  · subst e
    rw [pk_us, hv x hx]
    dsimp only
    by_cases z : x < 24
    · rw [if_pos (by omega)]
    · rw [decide_eq_false z, Bool.false_and, Bool.false_and]
  · rw [pk_un e, h y' hy' x hx]
    dsimp only
    by_cases z : x < 24
    · by_cases w : 24 * y' + x < 24 * y
      · rw [if_pos w, if_pos (by omega)]
      · rw [if_neg w, if_neg (by omega)]
    · rw [decide_eq_false z, Bool.false_and, Bool.false_and]
theorem rr_mv_at (P : Nat → Bool) (dx dy : Int) {x y : Nat} (hx : x < 24) : rr_mv P dx dy (24 * y + x) = (decide (0 ≤ (x : Int) - dx ∧ (x : Int) - dx ≤ 23 ∧ 0 ≤ (y : Int) - dy ∧ (y : Int) - dy ≤ 23) && P (24 * ((y : Int) - dy).toNat + ((x : Int) - dx).toNat)) := by
  unfold rr_mv
  rw [show (24 * y + x) % 24 = x by omega, show (24 * y + x) / 24 = y by omega]
theorem rr_shR {a : Nat → Int32} {P : Nat → Bool} (ha : rr_RX a P) {n s x y : Nat} {dx dy : Int} (hn : n ≤ 24) (hs : s < 24) (hdx : dx = -(n : Int)) (hdy : (y : Int) - dy = s) (hx : x < 32) : bt (a s >>> (nI n &&& 31)) x = (decide (x < 24) && rr_mv P dx dy (24 * y + x)) := by
  rw [b_sshr n (by omega) (a s) hx]
  by_cases z : x < 24
  · rw [decide_eq_true z, Bool.true_and, rr_mv_at P dx dy z, hdy]
    by_cases w : n + x < 24
    · rw [if_pos (by omega), rr_RX_at ha w hs, decide_eq_true (by omega), Bool.true_and]
      congr 1
      omega
    · rw [decide_eq_false (by omega), Bool.false_and]
      by_cases w2 : n + x < 32
      · rw [if_pos w2, rr_RX_hi ha (by omega) hs]
      · rw [if_neg w2, rr_RX_hi ha (by omega) hs]
  · rw [decide_eq_false z, Bool.false_and]
    by_cases w2 : n + x < 32
    · rw [if_pos w2, rr_RX_hi ha (by omega) hs]
    · rw [if_neg w2, rr_RX_hi ha (by omega) hs]
theorem rr_shL {a : Nat → Int32} {P : Nat → Bool} (ha : rr_RX a P) {n s x y : Nat} {dx dy : Int} (hn : n ≤ 24) (hs : s < 24) (hdx : dx = (n : Int)) (hdy : (y : Int) - dy = s) (hx : x < 32) : bt ((a s <<< (nI n &&& 31)) &&& 16777215) x = (decide (x < 24) && rr_mv P dx dy (24 * y + x)) := by
  rw [b_and, b_shl n (by omega) (a s) hx, rr_bfull x hx, Bool.and_comm]
  by_cases z : x < 24
  · rw [decide_eq_true z, Bool.true_and, Bool.true_and, rr_mv_at P dx dy z, hdy]
    by_cases w : n ≤ x
    · rw [decide_eq_true w, Bool.true_and, rr_RX_at ha (by omega) hs, decide_eq_true (by omega), Bool.true_and]
      congr 1
      omega
    · rw [decide_eq_false w, Bool.false_and, decide_eq_false (by omega), Bool.false_and]
  · rw [decide_eq_false z, Bool.false_and, Bool.false_and]
theorem rr_sh0 {P : Nat → Bool} {x y : Nat} {dx dy : Int} (h : ¬ (0 ≤ (y : Int) - dy ∧ (y : Int) - dy ≤ 23)) : bt 0 x = (decide (x < 24) && rr_mv P dx dy (24 * y + x)) := by
  rw [b_0]
  by_cases z : x < 24
  · rw [decide_eq_true z, Bool.true_and, rr_mv_at P dx dy z, decide_eq_false (by omega), Bool.false_and]
  · rw [decide_eq_false z, Bool.false_and]
/-- marks cell by cell -/
def rr_G (g : Int32 → Int32 → Prop) : Nat → Prop := fun k => g (nI (k % 24)) (nI (k / 24))
theorem rr_G_at {g : Int32 → Int32 → Prop} {x y : Nat} (hx : x < 24) : rr_G g (24 * y + x) ↔ g (nI x) (nI y) := by
  unfold rr_G
  rw [show (24 * y + x) % 24 = x by omega, show (24 * y + x) / 24 = y by omega]
theorem rr_st0 {f : Nat → Int32} {g : Int32 → Int32 → Prop} {y i : Nat} (hi : i < 24) (h : rr_RF f (fun k => k < 24 * y + i ∧ rr_G g k)) (hG : ¬ g (nI i) (nI y)) : rr_RF f (fun k => k < 24 * y + (i + 1) ∧ rr_G g k) := by
  refine rr_RF_c h (fun k _ => ⟨fun z => ⟨by omega, z.2⟩, fun z => ⟨?_, z.2⟩⟩)
  by_cases e : k = 24 * y + i
  · subst e
    exact absurd ((rr_G_at hi).mp z.2) hG
  · omega
theorem rr_st1 {f : Nat → Int32} {g : Int32 → Int32 → Prop} {y i : Nat} (hi : i < 24) (hy : y < 24) (h : rr_RF f (fun k => (k < 24 * y + i ∧ rr_G g k) ∨ (nI i = nI (k % 24) ∧ nI y = nI (k / 24)))) (hG : g (nI i) (nI y)) : rr_RF f (fun k => k < 24 * y + (i + 1) ∧ rr_G g k) := by
  refine rr_RF_c h (fun k hk => ⟨?_, ?_⟩)
  · rintro (z | ⟨z1, z2⟩)
    · exact ⟨by omega, z.2⟩
    · rw [nI_eq (by omega) (by omega)] at z1 z2
      have e : k = 24 * y + i := by omega
      subst e
      exact ⟨by omega, (rr_G_at hi).mpr hG⟩
  · rintro ⟨z1, z2⟩
    by_cases e : k = 24 * y + i
    · right
      subst e
      exact ⟨congrArg nI (by omega), congrArg nI (by omega)⟩
    · exact Or.inl ⟨by omega, z2⟩
noncomputable def rr_dec (p : Prop) : Bool := @decide p (Classical.propDecidable p)
theorem rr_dec_i (p : Prop) : rr_dec p = true ↔ p := @decide_eq_true_iff p (Classical.propDecidable p)
theorem rr_dec_t {p : Prop} (h : p) : rr_dec p = true := (rr_dec_i p).mpr h
theorem rr_dec_f {p : Prop} (h : ¬ p) : rr_dec p = false := by
  cases e : rr_dec p with
  | false => rfl
  | true => exact absurd ((rr_dec_i p).mp e) h
end
section
/-! the component's flood: the queue against the set Q of the pixels turned over so far -/
def rr_FI (P : Nat → Bool) (s : Nat) (a q : Nat → Int32) (n : Nat) (Q : Nat → Bool) : Prop :=
  rr_RX a (fun k => P k ^^ Q k) ∧ n = rr_cnt Q 576 ∧ (∀ i, i < n → ∃ k, k < 576 ∧ Q k = true ∧ q i = nI (rr_code k)) ∧ (∀ k, k < 576 → Q k = true → ∃ i, i < n ∧ q i = nI (rr_code k)) ∧ (∀ k, k < 576 → Q k = true → P k = P s) ∧ (∀ k, k < 576 → Q k = true → rr_conn P s k)
theorem rr_FI_le {P : Nat → Bool} {s : Nat} {a q : Nat → Int32} {n : Nat} {Q : Nat → Bool} (h : rr_FI P s a q n Q) : n ≤ 576 := by
  rw [h.2.1]
  exact rr_cnt_le Q 576
theorem rr_FI_all {P : Nat → Bool} {s : Nat} {a q : Nat → Int32} {n : Nat} {Q : Nat → Bool} (h : rr_FI P s a q n Q) (hn : 576 ≤ n) : ∀ k, k < 576 → Q k = true := by
  have h1 := rr_FI_le h
  exact rr_cnt_full 576 (by rw [← h.2.1]; omega)
theorem rr_FI_0 {P : Nat → Bool} {s : Nat} {a q : Nat → Int32} (h : rr_RX a P) : rr_FI P s a q 0 (fun _ => false) := by
  refine ⟨rr_RX_c h (fun k _ => (Bool.xor_false _).symm), ?_, ?_, ?_, ?_, ?_⟩
  · have z : ∀ n, rr_cnt (fun _ => false) n = 0 := by
      intro n
      induction n with
      | zero => rfl
      | succ n ih => rw [rr_cnt_s, ih] <;> rfl
    exact (z 576).symm
  · intro i hi; omega
  · intro k _ z; exact absurd (show false = true from z) (by decide)
  · intro k _ z; exact absurd (show false = true from z) (by decide)
  · intro k _ z; exact absurd (show false = true from z) (by decide)
theorem rr_FI_new {P : Nat → Bool} {s : Nat} {a q : Nat → Int32} {n : Nat} {Q : Nat → Bool} (h : rr_FI P s a q n Q) {k : Nat} (hk : k < 576) (he : (P k ^^ Q k) = P s) : Q k = false ∧ P k = P s := by
  have h5 := h.2.2.2.2.1 k hk
  cases hq : Q k with
  | false =>
    rw [hq, Bool.xor_false] at he
    exact ⟨rfl, he⟩
  | true =>
    have h6 := h5 hq
    rw [hq, h6] at he
    exact absurd he (by cases P s <;> decide)
theorem rr_FI_add {P : Nat → Bool} {s : Nat} {a q : Nat → Int32} {n : Nat} {Q : Nat → Bool} (h : rr_FI P s a q n Q) {x y : Nat} (hx : x < 24) (hy : y < 24) (he : (P (24 * y + x) ^^ Q (24 * y + x)) = P s) (hc : P (24 * y + x) = P s → rr_conn P s (24 * y + x)) : rr_FI P s (upd a y (a y ^^^ ((1 : Int32) <<< (nI x &&& 31)))) (upd q n (nI (rr_code (24 * y + x)))) (n + 1) (rr_put Q (24 * y + x)) := by
  have hk : 24 * y + x < 576 := by omega
  obtain ⟨hq, hp⟩ := rr_FI_new h hk he
  obtain ⟨h1, h2, h3, h4, h5, h6⟩ := h
  refine ⟨?_, ?_, ?_, ?_, ?_, ?_⟩
  · intro y' hy' x' hx'
    by_cases e : y' = y
    · subst e
      rw [pk_us, b_xor, rr_one (by omega) hx', h1 y' hy x' hx']
      dsimp only
      by_cases z : x' < 24
      · rw [decide_eq_true z, Bool.true_and, Bool.true_and]
        by_cases w : x' = x
        · rw [w, rr_put_s, hq, decide_eq_true rfl, Bool.xor_false]
        · rw [rr_put_n (by omega), decide_eq_false w, Bool.xor_false]
      · rw [decide_eq_false z, Bool.false_and, Bool.false_and, decide_eq_false (by omega)]
        rfl
    · rw [pk_un e, h1 y' hy' x' hx']
      dsimp only
      by_cases z : x' < 24
      · rw [rr_put_n (by omega)]
      · rw [decide_eq_false z, Bool.false_and, Bool.false_and]
  · rw [rr_cnt_put hq, if_pos hk, h2]
  · intro i hi
    by_cases e : i = n
    · rw [e]
      exact ⟨24 * y + x, hk, rr_put_s _ _, pk_us⟩
    · obtain ⟨k, a1, a2, a3⟩ := h3 i (by omega)
      exact ⟨k, a1, rr_put_m a2, by rw [pk_un e]; exact a3⟩
  · intro k hk' z
    by_cases e : k = 24 * y + x
    · rw [e]
      exact ⟨n, by omega, pk_us⟩
    · rw [rr_put_n e] at z
      obtain ⟨i, a1, a2⟩ := h4 k hk' z
      exact ⟨i, by omega, by rw [pk_un (by omega)]; exact a2⟩
  · intro k hk' z
    by_cases e : k = 24 * y + x
    · rw [e]; exact hp
    · rw [rr_put_n e] at z
      exact h5 k hk' z
  · intro k hk' z
    by_cases e : k = 24 * y + x
    · rw [e]; exact hc hp
    · rw [rr_put_n e] at z
      exact h6 k hk' z
/-- the first m entries of the queue have all their neighbours in Q -/
def rr_Cl (P : Nat → Bool) (s : Nat) (q : Nat → Int32) (Q : Nat → Bool) (m : Nat) : Prop :=
  ∀ i, i < m → ∃ k, k < 576 ∧ q i = nI (rr_code k) ∧ ∀ j, j < 576 → rr_adj k j → P j = P s → Q j = true
theorem rr_Cl_m {P : Nat → Bool} {s : Nat} {q q' : Nat → Int32} {Q Q' : Nat → Bool} {m n : Nat} (h : rr_Cl P s q Q m) (hm : m ≤ n) (hq : ∀ i, i < n → q' i = q i) (hQ : ∀ k, k < 576 → Q k = true → Q' k = true) : rr_Cl P s q' Q' m := by
  intro i hi
  obtain ⟨k, a1, a2, a3⟩ := h i hi
  exact ⟨k, a1, by rw [hq i (by omega)]; exact a2, fun j hj ha hp => hQ j hj (a3 j hj ha hp)⟩
theorem rr_code_lt {k : Nat} (h : k < 576) : rr_code k < 768 := by unfold rr_code; omega
theorem rr_FI_end {P : Nat → Bool} {s : Nat} {a q : Nat → Int32} {n : Nat} {Q : Nat → Bool} (h : rr_FI P s a q n Q) (hs : Q s = true) (hC : rr_Cl P s q Q n) : rr_isF P s Q := by
  refine ⟨h.2.2.2.2.2, hs, ?_⟩
  intro i j hi hj hQ ha hp
  obtain ⟨t, a1, a2⟩ := h.2.2.2.1 i hi hQ
  obtain ⟨k, b1, b2, b3⟩ := hC t a1
  have e : rr_code i = rr_code k := by
    have l1 := rr_code_lt hi
    have l2 := rr_code_lt b1
    exact (nI_eq (by omega) (by omega)).mp (a2.symm.trans b2)
  rw [rr_code_i e] at ha
  exact b3 j hj ha hp
/-! the reference's flood -/
def rr_bes (F : Nat → Bool) (k : Nat) : Prop := (0 < k % 24 ∧ F (k - 1) = true) ∨ (k % 24 < 23 ∧ F (k + 1) = true) ∨ (24 ≤ k ∧ F (k - 24) = true) ∨ (k < 552 ∧ F (k + 24) = true)
theorem rr_bes_i {F : Nat → Bool} {k : Nat} (hk : k < 576) : rr_bes F k ↔ ∃ i, i < 576 ∧ rr_adj i k ∧ F i = true := by
  unfold rr_bes rr_adj
  constructor
  · rintro (h | h | h | h)
    · exact ⟨k - 1, by omega, Or.inl ⟨h.1, rfl⟩, h.2⟩
    · exact ⟨k + 1, by omega, Or.inr (Or.inl ⟨h.1, rfl⟩), h.2⟩
    · exact ⟨k - 24, by omega, Or.inr (Or.inr (Or.inl ⟨h.1, rfl⟩)), h.2⟩
    · exact ⟨k + 24, by omega, Or.inr (Or.inr (Or.inr ⟨h.1, rfl⟩)), h.2⟩
  · rintro ⟨i, hi, (⟨h, rfl⟩ | ⟨h, rfl⟩ | ⟨h, rfl⟩ | ⟨h, rfl⟩), hF⟩
    · exact Or.inl ⟨h, hF⟩
    · exact Or.inr (Or.inl ⟨h, hF⟩)
    · exact Or.inr (Or.inr (Or.inl ⟨h, hF⟩))
    · exact Or.inr (Or.inr (Or.inr ⟨h, hF⟩))
/-- sound and holds the start -/
def rr_YI (P : Nat → Bool) (s : Nat) (F : Nat → Bool) : Prop := F s = true ∧ ∀ k, k < 576 → F k = true → rr_conn P s k
theorem rr_YI_add {P : Nat → Bool} {s : Nat} {F : Nat → Bool} (h : rr_YI P s F) {k : Nat} (hk : k < 576) (hp : P k = P s) (hb : rr_bes F k) : rr_YI P s (rr_put F k) := by
  refine ⟨rr_put_m h.1, ?_⟩
  intro j hj z
  by_cases e : j = k
  · rw [e]
    obtain ⟨i, hi, ha, hF⟩ := (rr_bes_i hk).mp hb
    exact rr_conn_s (h.2 i hi hF) hi hk ha hp
  · rw [rr_put_n e] at z
    exact h.2 j hj z
def rr_Yc (P : Nat → Bool) (s : Nat) (F : Nat → Bool) (m : Nat) : Prop := ∀ j, j < m → F j = false → P j = P s → ¬ rr_bes F j
theorem rr_YI_end {P : Nat → Bool} {s : Nat} {F : Nat → Bool} (h : rr_YI P s F) (hc : rr_Yc P s F 576) : rr_isF P s F := by
  refine ⟨h.2, h.1, ?_⟩
  intro i j hi hj hF ha hp
  cases e : F j with
  | true => rfl
  | false => exact absurd ((rr_bes_i hj).mpr ⟨i, hi, ha, hF⟩) (hc j hj e hp)
end
section
theorem rr_arc_i (U V : Int) (r : Nat) : rr_arc U V r ↔ (0 ≤ (r : Int) * r - U * U ∧ U.natAbs ≤ V.natAbs ∧ (r : Int) * r - U * U ≤ (V.natAbs : Int) * (V.natAbs : Int) + (V.natAbs : Int) ∧ (V.natAbs = 0 ∨ (V.natAbs : Int) * (V.natAbs : Int) - (V.natAbs : Int) < (r : Int) * r - U * U)) := by
  have e : U * U = ((U.natAbs * U.natAbs : Nat) : Int) := Int.natAbs_mul_self.symm
  have er : (r : Int) * (r : Int) = ((r * r : Nat) : Int) := (Int.natCast_mul r r).symm
  have eh : (V.natAbs : Int) * (V.natAbs : Int) = ((V.natAbs * V.natAbs : Nat) : Int) := (Int.natCast_mul _ _).symm
  unfold rr_arc
  rw [rr_rt_i, e, er, eh]
  have m : U.natAbs ≤ r ↔ U.natAbs * U.natAbs ≤ r * r := by
    constructor
    · intro h; exact Nat.mul_le_mul h h
    · intro h
      by_cases z : U.natAbs ≤ r
      · exact z
      · have h2 : r * r < U.natAbs * U.natAbs := Nat.mul_lt_mul_of_lt_of_le (by omega) (by omega) (by omega)
        omega
  rw [m]
  generalize U.natAbs * U.natAbs = s
  generalize r * r = R
  generalize V.natAbs * V.natAbs = H
  omega
/-- the points that the component marks at step U with the root v, seen from the middle -/
def rr_rp (U : Int) (v : Nat) (x y : Int) : Prop := U.natAbs ≤ v ∧ ((x = U ∧ (y = v ∨ y = -(v : Int))) ∨ (y = U ∧ (x = v ∨ x = -(v : Int))))
def rr_rs (r m : Nat) (x y : Int) : Prop := ∃ j v : Nat, j < m ∧ rr_rt (r * r - ((j : Int) - r).natAbs * ((j : Int) - r).natAbs) v ∧ rr_rp ((j : Int) - r) v x y
theorem rr_rs_eq (r : Nat) (x y : Int) : rr_rs r (2 * r + 1) x y ↔ rr_arc x y r ∨ rr_arc y x r := by
  unfold rr_rs rr_rp rr_arc
  constructor
  · rintro ⟨j, v, hj, hr, ht, (⟨h1, h2⟩ | ⟨h1, h2⟩)⟩
    · left
      have e : y.natAbs = v := by omega
      rw [e, h1]
      exact ⟨by omega, ht, hr⟩
    · right
      have e : x.natAbs = v := by omega
      rw [e, h1]
      exact ⟨by omega, ht, hr⟩
  · rintro (⟨h1, h2, h3⟩ | ⟨h1, h2, h3⟩)
    · have e : (((x + r).toNat : Nat) : Int) - r = x := by omega
      refine ⟨(x + r).toNat, y.natAbs, by omega, ?_, ?_⟩
      · rw [e]; exact h3
      · rw [e]; exact ⟨h2, Or.inl ⟨rfl, by omega⟩⟩
    · have e : (((y + r).toNat : Nat) : Int) - r = y := by omega
      refine ⟨(y + r).toNat, x.natAbs, by omega, ?_, ?_⟩
      · rw [e]; exact h3
      · rw [e]; exact ⟨h2, Or.inr ⟨rfl, by omega⟩⟩
theorem rr_rs_s {r m : Nat} {x y : Int} {v : Nat} (hv : rr_rt (r * r - ((m : Int) - r).natAbs * ((m : Int) - r).natAbs) v) : rr_rs r (m + 1) x y ↔ rr_rs r m x y ∨ rr_rp ((m : Int) - r) v x y := by
  constructor
  · rintro ⟨j, w, hj, hr, hp⟩
    by_cases e : j = m
    · subst e
      rw [rr_rt_u hr hv] at hp
      exact Or.inr hp
    · exact Or.inl ⟨j, w, by omega, hr, hp⟩
  · rintro (⟨j, w, hj, hr, hp⟩ | hp)
    · exact ⟨j, w, by omega, hr, hp⟩
    · exact ⟨m, v, by omega, hv, hp⟩
theorem rr_rs_0 {r : Nat} {x y : Int} : ¬ rr_rs r 0 x y := by
  rintro ⟨j, w, hj, _⟩
  omega
end
section
/-! the line of the reference and the line of the component -/
def rr_nr (x y a b c d : Nat) : Bool := decide (a ≤ x ∧ x ≤ c ∧ -((c : Int) - a) ≤ 2 * (((c : Int) - a) * ((y : Int) - b) - ((d : Int) - b) * ((x : Int) - a)) ∧ 2 * (((c : Int) - a) * ((y : Int) - b) - ((d : Int) - b) * ((x : Int) - a)) < (c : Int) - a)
def rr_ol (x y a b c d : Nat) : Bool :=
  if a = c ∧ b = d then decide (x = a ∧ y = b) else
  if rr_dist b d ≤ rr_dist a c then (if a < c then rr_nr x y a b c d else rr_nr x y c d a b)
  else (if b < d then rr_nr y x b a d c else rr_nr y x d c b a)
def rr_lo (a b : Nat) : Nat := if a < b then a else b
def rr_hi (a b : Nat) : Nat := if a < b then b else a
/-- with the case of no length -/
def rr_nolX (u fu fv tu tv : Nat) : Nat := if rr_dist fu tu = 0 then fv else rr_nol u fu fv tu tv
def rr_lx (x y a b c d : Nat) : Prop :=
  if rr_dist b d ≤ rr_dist a c then (rr_lo a c ≤ x ∧ x ≤ rr_hi a c ∧ y = rr_nolX x a b c d)
  else (rr_lo b d ≤ y ∧ y ≤ rr_hi b d ∧ x = rr_nolX y b a d c)
theorem rr_dist_0 {a b : Nat} : rr_dist a b = 0 ↔ a = b := by
  unfold rr_dist
  by_cases w : a < b
  · rw [if_pos w]; omega
  · rw [if_neg w]; omega
theorem rr_nr_lt {x y a b c d : Nat} (h : a < c) : rr_nr x y a b c d = true ↔ (rr_lo a c ≤ x ∧ x ≤ rr_hi a c ∧ y = rr_nolX x a b c d) := by
  unfold rr_nr rr_lo rr_hi rr_nolX
  rw [decide_eq_true_iff, if_pos h, if_pos h, if_neg (fun z => by rw [rr_dist_0] at z; omega)]
  constructor
  · rintro ⟨h1, h2, h3⟩
    exact ⟨h1, h2, (rr_nol1 h h1 h2).mp h3⟩
  · rintro ⟨h1, h2, h3⟩
    exact ⟨h1, h2, (rr_nol1 h h1 h2).mpr h3⟩
theorem rr_nr_gt {x y a b c d : Nat} (h : c < a) : rr_nr x y c d a b = true ↔ (rr_lo a c ≤ x ∧ x ≤ rr_hi a c ∧ y = rr_nolX x a b c d) := by
  unfold rr_nr rr_lo rr_hi rr_nolX
  rw [decide_eq_true_iff, if_neg (show ¬ a < c by omega), if_neg (show ¬ a < c by omega), if_neg (fun z => by rw [rr_dist_0] at z; omega)]
  constructor
  · rintro ⟨h1, h2, h3⟩
    exact ⟨h1, h2, (rr_nol2 h h1 h2).mp h3⟩
  · rintro ⟨h1, h2, h3⟩
    exact ⟨h1, h2, (rr_nol2 h h1 h2).mpr h3⟩
theorem rr_ol_lx (x y a b c d : Nat) : rr_ol x y a b c d = true ↔ rr_lx x y a b c d := by
  unfold rr_ol rr_lx
  by_cases e : a = c ∧ b = d
  · obtain ⟨rfl, rfl⟩ := e
    have z : rr_dist a a = 0 := rr_dist_0.mpr rfl
    have z2 : rr_dist b b = 0 := rr_dist_0.mpr rfl
    rw [if_pos ⟨rfl, rfl⟩, decide_eq_true_iff, if_pos (by omega)]
    unfold rr_lo rr_hi rr_nolX
    rw [if_neg (Nat.lt_irrefl a), if_pos z]
    omega
  · rw [if_neg e]
    by_cases f : rr_dist b d ≤ rr_dist a c
    · rw [if_pos f, if_pos f]
      have ne : a ≠ c := fun q => by
        have z : rr_dist a c = 0 := rr_dist_0.mpr q
        have z2 : rr_dist b d = 0 := by omega
        exact e ⟨q, rr_dist_0.mp z2⟩
      by_cases g : a < c
      · rw [if_pos g]; exact rr_nr_lt g
      · rw [if_neg g]; exact rr_nr_gt (by omega)
    · rw [if_neg f, if_neg f]
      have ne : b ≠ d := fun q => by
        have z : rr_dist b d = 0 := rr_dist_0.mpr q
        omega
      by_cases g : b < d
      · rw [if_pos g]; exact rr_nr_lt g
      · rw [if_neg g]; exact rr_nr_gt (by omega)
theorem rr_nol_lt {u fu fv tu tv : Nat} (h1 : u < 24) (h2 : fu < 24) (h3 : fv < 24) (h4 : tu < 24) (h5 : tv < 24) (h0 : rr_dist fu tu ≠ 0) : 2 * (rr_dist u (if fv ≤ tv then fu else tu) * rr_dist fv tv) + rr_dist fu tu - 1 < 2000 := by
  have a1 := rr_dist_le h2 h4
  have a2 := rr_dist_le h3 h5
  have a3 : rr_dist u (if fv ≤ tv then fu else tu) ≤ 23 := by
    by_cases z : fv ≤ tv
    · rw [if_pos z]; exact rr_dist_le h1 h2
    · rw [if_neg z]; exact rr_dist_le h1 h4
  have a4 : rr_dist u (if fv ≤ tv then fu else tu) * rr_dist fv tv ≤ 23 * 23 := Nat.mul_le_mul a3 a2
  omega
end
section
/-! numbers of pixels -/
theorem rr_rem32 {n : Nat} (h : n < 2 ^ 31) : nI n - nI n / 32 * 32 = nI (n % 32) := pk_rem (d := 32) h (by decide) (by decide)
theorem rr_div32 {n : Nat} (h : n < 2 ^ 31) : nI n / 32 = nI (n / 32) := pk_div (d := 32) h (by decide) (by decide)
theorem rr_rem24 {n : Nat} (h : n < 2 ^ 31) : nI n - nI n / 24 * 24 = nI (n % 24) := pk_rem (d := 24) h (by decide) (by decide)
theorem rr_div24 {n : Nat} (h : n < 2 ^ 31) : nI n / 24 = nI (n / 24) := pk_div (d := 24) h (by decide) (by decide)
theorem rr_col {n : Nat} (h : n < 2 ^ 32) : nI n &&& 31 = nI (n % 32) := pk_andN h 5 (by decide)
theorem rr_row {n : Nat} (h : n < 2 ^ 31) : nI n >>> ((5 : Int32) &&& 31) = nI (n / 32) := pk_shrN h _ 5 (by decide)
/-- v is the number of the pixel (x, y) -/
def rr_P (v : Int32) (x y : Nat) : Prop := x < 24 ∧ y < 24 ∧ v = nI (32 * y + x)
theorem rr_P_col {v : Int32} {x y : Nat} (h : rr_P v x y) : v &&& 31 = nI x := by
  obtain ⟨h1, h2, rfl⟩ := h
  rw [rr_col (by omega), show (32 * y + x) % 32 = x by omega]
theorem rr_P_row {v : Int32} {x y : Nat} (h : rr_P v x y) : v >>> ((5 : Int32) &&& 31) = nI y := by
  obtain ⟨h1, h2, rfl⟩ := h
  rw [rr_row (by omega), show (32 * y + x) / 32 = y by omega]
theorem rr_P_rem {v : Int32} {x y : Nat} (h : rr_P v x y) : v - v / 32 * 32 = nI x := by
  obtain ⟨h1, h2, rfl⟩ := h
  rw [rr_rem32 (by omega), show (32 * y + x) % 32 = x by omega]
theorem rr_P_div {v : Int32} {x y : Nat} (h : rr_P v x y) : v / 32 = nI y := by
  obtain ⟨h1, h2, rfl⟩ := h
  rw [rr_div32 (by omega), show (32 * y + x) / 32 = y by omega]
theorem rr_P_or (v : Int32) : (∃ x y, rr_P v x y) ∨ ((v < 0 ∨ ∃ n : Nat, n < 2 ^ 31 ∧ v = nI n ∧ ¬ (n % 32 < 24 ∧ n / 32 < 24)) ∧ ¬ ∃ x y, rr_P v x y) := by
  by_cases h : v < 0
  · right
    refine ⟨Or.inl h, ?_⟩
    rintro ⟨x, y, h1, h2, rfl⟩
    exact nI_pos (by omega) h
  · obtain ⟨n, hn, rfl⟩ := nI_of h
    by_cases z : n % 32 < 24 ∧ n / 32 < 24
    · left
      exact ⟨n % 32, n / 32, z.1, z.2, congrArg nI (by omega)⟩
    · right
      refine ⟨Or.inr ⟨n, hn, rfl, z⟩, ?_⟩
      rintro ⟨x, y, h1, h2, e⟩
      rw [nI_eq hn (by omega)] at e
      omega
theorem rr_row_neg {v : Int32} (h : v < 0) : v >>> ((5 : Int32) &&& 31) < 0 := by
  rw [Int32.lt_iff_toInt_lt] at h ⊢
  rw [pk_shr v _ 5 (by decide), Int.shiftRight_eq_div_pow]
  have h0 : (0 : Int32).toInt = 0 := by decide
  rw [h0] at h ⊢
  generalize v.toInt = z at *
  show z / 32 < 0
  omega
/-- on a side of the raster -/
theorem rr_side (x : Int32) : (∃ n : Nat, n < 24 ∧ x = nI n ∧ 0 ≤ x ∧ x < 24) ∨ (¬ (0 ≤ x ∧ x < 24) ∧ ∀ n, n < 24 → x ≠ nI n) := by
  rcases pk_ix x (n := 24) (by decide) with h | h | ⟨j, hj, rfl⟩
  · right
    refine ⟨fun z => absurd h (Int32.not_lt.mpr z.1), ?_⟩
    rintro n hn rfl
    exact nI_pos (by omega) h
  · right
    refine ⟨fun z => absurd z.2 (Int32.not_lt.mpr h), ?_⟩
    rintro n hn rfl
    exact nI_ge hn (by decide) h
  · left
    exact ⟨j, hj, rfl, nI_pos' (by omega), nI_lt (b := 24) hj (by decide)⟩
theorem rr_vb (b : Bool) : vp_nar .boolean (rr_bi b) = rr_bi b := by cases b <;> rfl
theorem rr_nb (b : Bool) : narrow .boolean (.int (rr_bi b)) = .int (rr_bi b) := by cases b <;> rfl
end
section
/-! the component's small methods -/
theorem rr_10 : ¬ (1 : Int32) = 0 := by decide
theorem rr_24 : (24 : Int32) ≤ nI 24 := nI_le (a := 24) (Nat.le_refl 24) (by decide)
theorem rr_l24 {i : Nat} (h : i < 24) : ¬ (24 : Int32) ≤ nI i := nI_ge (b := 24) h (by decide)
theorem rr_576 : (576 : Int32) ≤ nI 576 := nI_le (a := 576) (Nat.le_refl 576) (by decide)
theorem rr_l576 {i : Nat} (h : i < 576) : ¬ (576 : Int32) ≤ nI i := nI_ge (b := 576) h (by decide)
theorem rr_cl {i : Nat} (h : i < 576) : (nI i).toNatClampNeg = i := nI_clamp (by omega)
theorem rx_side {post : Int32 → Prop} (x : Int32) (h1 : ∀ n, n < 24 → x = nI n → post 1) (h0 : (∀ n, n < 24 → x ≠ nI n) → post 0) : wpX_isOnSide post x := by
  by_cases h : x < 0
  · exact br_t h (h0 (by rintro n hn rfl; exact nI_pos (by omega) h))
  · obtain ⟨j, hj, rfl⟩ := nI_of h
    by_cases z : j < 24
    · exact br_f h (br_f (nI_ge (b := 24) z (by decide)) (h1 j z rfl))
    · refine br_f h (br_t (nI_le (a := 24) (by omega) hj) (h0 ?_))
      intro n hn e
      rw [nI_eq hj (by omega)] at e
      omega
theorem rx_pix {post : Int32 → Prop} (v : Int32) (h1 : ∀ x y, rr_P v x y → post 1) (h0 : (¬ ∃ x y, rr_P v x y) → post 0) : wpX_isPixel post v := by
  unfold wpX_isPixel wpX_columnOf wpX_rowOf
  dsimp only
  rcases rr_P_or v with ⟨x, y, h⟩ | ⟨hh, hno⟩
  · refine rx_side _ (fun n hn en => br_f rr_10 ?_) (fun z => absurd (rr_P_col h) (z x h.1))
    exact rx_side _ (fun m hm em => br_f rr_10 (h1 x y h)) (fun z => absurd (rr_P_row h) (z y h.2.1))
  · have key : ∀ n m, n < 24 → m < 24 → v &&& 31 = nI n → v >>> ((5 : Int32) &&& 31) = nI m → False := by
      intro n m hn hm en em
      rcases hh with h | ⟨w, hw, rfl, hz⟩
      · have z := rr_row_neg h
        rw [em] at z
        exact nI_pos (by omega) z
      · rw [rr_col (by omega), nI_eq (by omega) (by omega)] at en
        rw [rr_row hw, nI_eq (by omega) (by omega)] at em
        omega
    refine rx_side _ (fun n hn en => br_f rr_10 ?_) (fun _ => br_t rfl (h0 hno))
    exact rx_side _ (fun m hm em => (key n m hn hm en em).elim) (fun _ => br_t rfl (h0 hno))
theorem rx_clear {post : SX → Prop} {q p : Int32} {ra fa ma qa : Nat → Int32} (h : ∀ fa', rr_RF fa' (fun _ => False) → post (q, p, ra, fa', ma, qa)) : wpX_clearFigure post (q, p, ra, fa, ma, qa) := by
  show ∃ n2 : Nat, wX_clearFigure_2 post q p n2 0 ra fa ma qa
  refine loop_0 (fun n i s => wX_clearFigure_2 post q p n (nI i) ra s ma qa) (fun i s => ∀ y, y < i → s y = 0) 24 fa (fun y hy => absurd hy (Nat.not_lt_zero y)) ?_ ?_
  · intro n s hI
    exact br_t rr_24 (h s (rr_RF0 hI))
  · intro n i s hi hI hk
    refine br_f (rr_l24 hi) ⟨vp_in_nI hi (by decide), nm_r (congrArg (fun t => upd s t 0) (rr_cl (by omega))) (nm_r (nI_1 i) (hk _ ?_))⟩
    intro y hy
    by_cases e : y = i
    · rw [e]; exact pk_us
    · show upd s i 0 y = 0
      rw [pk_un e]
      exact hI y (by omega)
theorem rx_mark {post : SX → Prop} {q p : Int32} {ra fa ma qa : Nat → Int32} {F : Nat → Prop} (x y : Int32) (hF : rr_RF fa F) (h : ∀ fa', rr_RF fa' (fun k => F k ∨ (x = nI (k % 24) ∧ y = nI (k / 24))) → post (q, p, ra, fa', ma, qa)) : wpX_mark post (q, p, ra, fa, ma, qa) x y := by
  have off : ((∀ n, n < 24 → x ≠ nI n) ∨ (∀ n, n < 24 → y ≠ nI n)) → rr_RF fa (fun k => F k ∨ (x = nI (k % 24) ∧ y = nI (k / 24))) := by
    intro z
    refine rr_RF_c hF (fun k hk => ⟨Or.inl, ?_⟩)
    rintro (w | w)
    · exact w
    · rcases z with z | z
      · exact absurd w.1 (z _ (Nat.mod_lt _ (by decide)))
      · exact absurd w.2 (z _ (by omega))
  unfold wpX_mark
  dsimp only
  refine rx_side x (fun n hn en => br_f rr_10 ?_) (fun z => br_t rfl (h fa (off (Or.inl z))))
  refine rx_side y (fun m hm em => br_f rr_10 ?_) (fun z => br_t rfl (h fa (off (Or.inr z))))
  subst en em
  refine ⟨vp_in_nI hm (by decide), vp_in_nI hm (by decide), nm_r ?_ (h _ (rr_markU hF hn hm))⟩
  rw [nI_clamp (by omega)]
theorem rx_drawn {post : Int32 → Prop} {q : Int32} {ra fa ma qa : Nat → Int32} {P F : Nat → Bool} {p y : Nat} (hp : p ≤ 2) {b m : Int32} (hb : ∀ x, x < 32 → bt b x = (decide (x < 24) && P (24 * y + x))) (hm : ∀ x, x < 32 → bt m x = (decide (x < 24) && F (24 * y + x))) (h : ∀ r, (∀ x, x < 32 → bt r x = (decide (x < 24) && rr_dr p P F (24 * y + x))) → post r) : wpX_drawn post (q, nI p, ra, fa, ma, qa) b m := by
  have hc : p = 0 ∨ p = 1 ∨ p = 2 := by omega
  rcases hc with rfl | rfl | rfl
  · exact br_t nI_0 (h _ (fun x hx => rr_row0 (hb x hx) (hm x hx)))
  · exact br_f (by decide) (br_t rfl (h _ (fun x hx => rr_row1 hx (hb x hx) (hm x hx))))
  · exact br_f (by decide) (br_f (by decide) (h _ (fun x hx => rr_row2 (hb x hx) (hm x hx))))
theorem rx_ones {post : Int32 → Prop} (b : Int32) (h : post (nI (rr_cnt (bt b) 24))) : wpX_ones post b := by
  show ∃ n4 : Nat, wX_ones_4 post b n4 0 0
  refine loop_0 (fun n i s => wX_ones_4 post b n s (nI i)) (fun i s => s = nI (rr_cnt (bt b) i)) 24 0 rfl ?_ ?_
  · intro n s hs
    subst hs
    exact br_t rr_24 h
  · intro n i s hi hs hk
    subst hs
    refine br_f (rr_l24 hi) (nm_r ?_ (nm_r (nI_1 i) (hk (nI (rr_cnt (bt b) (i + 1))) rfl)))
    rw [rr_bit b (by omega), rr_cbi]
theorem rx_draw {post : Int32 → SX → Prop} {q : Int32} {p : Nat} {ra fa ma qa : Nat → Int32} {P F : Nat → Bool} (hp : p ≤ 2) (hP : rr_RX ra P) (hF : rr_RX fa F) (h : ∀ ra', rr_RX ra' (rr_dr p P F) → post (nI (rr_cnt (rr_df p P F) 576)) (q, nI p, ra', fa, ma, qa)) : wpX_drawFigure post (q, nI p, ra, fa, ma, qa) := by
  show ∃ n4 : Nat, wX_drawFigure_4 post q (nI p) n4 0 0 ra fa ma qa
  refine loop_0 (fun n i (s : Int32 × (Nat → Int32)) => wX_drawFigure_4 post q (nI p) n s.1 (nI i) s.2 fa ma qa) (fun i s => s.1 = nI (rr_cnt (rr_df p P F) (24 * i)) ∧ rr_RX s.2 (fun k => if k < 24 * i then rr_dr p P F k else P k)) 24 (0, ra) ⟨rfl, rr_RX_c hP (fun k _ => (if_neg (by omega)).symm)⟩ ?_ ?_
  · rintro n ⟨c, a⟩ ⟨h1, h2⟩
    dsimp only at h1 h2 ⊢
    subst h1
    exact br_t rr_24 (h a (rr_RX_c h2 (fun k hk => if_pos hk)))
  · rintro n i ⟨c, a⟩ hi ⟨h1, h2⟩ hk
    dsimp only at h1 h2 ⊢
    subst h1
    have hr : ∀ x, x < 32 → bt (a i) x = (decide (x < 24) && P (24 * i + x)) := by
      intro x hx
      rw [h2 i hi x hx]
      dsimp only
      rw [if_neg (by omega)]
    refine br_f (rr_l24 hi) ⟨vp_in_nI hi (by decide), ?_⟩
    rw [rr_cl (by omega)]
    refine nm_e ⟨vp_in_nI hi (by decide), ?_⟩
    refine rx_drawn hp hr (fun x hx => hF i hi x hx) (fun r hr2 => ?_)
    refine rx_ones _ ?_
    refine nm_r ?_ ⟨vp_in_nI hi (by decide), nm_e (nm_r (nI_1 i) (hk (nI (rr_cnt (rr_df p P F) (24 * (i + 1))), upd a i r) ⟨rfl, rr_RX_u h2 hr2⟩))⟩
    rw [← rr_cnt24]
    refine congrArg (fun t => nI (rr_cnt (rr_df p P F) (24 * i)) + nI t) (rr_cnt_congr 24 (fun x hx => ?_))
    rw [b_xor, hr x (by omega), hr2 x (by omega), decide_eq_true hx, Bool.true_and, Bool.true_and]
    rfl
theorem rx_count {post : Int32 → Prop} {q p : Int32} {ra fa ma qa : Nat → Int32} {P : Nat → Bool} (hP : rr_RX ra P) (h : post (nI (rr_cnt P 576))) : wpX_count post (q, p, ra, fa, ma, qa) := by
  show ∃ n4 : Nat, wX_count_4 post q p ra fa ma qa n4 0 0
  refine loop_0 (fun n i s => wX_count_4 post q p ra fa ma qa n s (nI i)) (fun i s => s = nI (rr_cnt P (24 * i))) 24 0 rfl ?_ ?_
  · intro n s hs
    subst hs
    exact br_t rr_24 h
  · intro n i s hi hs hk
    subst hs
    refine br_f (rr_l24 hi) ⟨vp_in_nI hi (by decide), ?_⟩
    rw [rr_cl (by omega)]
    refine rx_ones _ ?_
    refine nm_r ?_ (nm_r (nI_1 i) (hk (nI (rr_cnt P (24 * (i + 1)))) rfl))
    rw [← rr_cnt24]
    exact congrArg (fun t => nI (rr_cnt P (24 * i)) + nI t) (rr_cnt_congr 24 (fun x hx => rr_RX_at hP hx hi))
end
section
/-! the component's disc, blot and triangle -/
def rr_gd (r a b : Int32) (x y : Int32) : Prop := ¬ r * r < (x - a) * (x - a) + (y - b) * (y - b)
def rr_gb (r s a b : Int32) (x y : Int32) : Prop := ¬ r * r * s * s < s * s * (x - a) * (x - a) + r * r * (y - b) * (y - b)
def rr_sp (a b c v : Int32) : Prop := (a ≤ v ∨ b ≤ v ∨ c ≤ v) ∧ (v ≤ a ∨ v ≤ b ∨ v ≤ c)
def rr_sd (x0 y0 x1 y1 : Nat) (x y : Int32) : Int32 := (nI x1 - nI x0) * (y - nI y0) - (nI y1 - nI y0) * (x - nI x0)
def rr_ins (a b c : Int32) : Prop := (¬ a < 0 ∧ ¬ b < 0 ∧ 0 ≤ c) ∨ (¬ 0 < a ∧ ¬ 0 < b ∧ ¬ 0 < c)
def rr_gt (x1 y1 x2 y2 x3 y3 : Nat) (x y : Int32) : Prop :=
  rr_ins (rr_sd x1 y1 x2 y2 x y) (rr_sd x2 y2 x3 y3 x y) (rr_sd x3 y3 x1 y1 x y) ∧ rr_sp (nI x1) (nI x2) (nI x3) x ∧ rr_sp (nI y1) (nI y2) (nI y3) y
theorem rx_span20 {post : Int32 → Prop} {x0 x1 x2 x3 z : Int32} (hA : (x3 ≤ x0 ∨ x3 ≤ x1 ∨ x3 ≤ x2) → wX_isSpanned_42 post z 0) (hN : ¬ (x3 ≤ x0 ∨ x3 ≤ x1 ∨ x3 ≤ x2) → wX_isSpanned_42 post z 1) : wX_isSpanned_20 post x0 x1 x2 x3 z :=
  br_c (fun a => hA (Or.inl a)) (fun a => br_c (fun b => hA (Or.inr (Or.inl b))) (fun b => br_c (fun c => hA (Or.inr (Or.inr c))) (fun c => hN (fun h => h.elim a (fun h => h.elim b c)))))
theorem rx_span {post : Int32 → Prop} {a b c v : Int32} (h1 : rr_sp a b c v → post 1) (h0 : ¬ rr_sp a b c v → post 0) : wpX_isSpanned post a b c v := by
  have go : (a ≤ v ∨ b ≤ v ∨ c ≤ v) → wX_isSpanned_20 post a b c v 0 := fun B =>
    rx_span20 (fun A => br_t rfl (br_t rfl (h1 ⟨B, A⟩))) (fun N => br_t rfl (br_f rr_10 (h0 (fun z => N z.2))))
  refine br_c (fun x => go (Or.inl x)) (fun x => br_c (fun y => go (Or.inr (Or.inl y))) (fun y => br_c (fun z => go (Or.inr (Or.inr z))) (fun z => ?_)))
  have n : ¬ rr_sp a b c v := fun h => h.1.elim x (fun h => h.elim y z)
  exact rx_span20 (fun _ => br_f rr_10 (h0 n)) (fun _ => br_f rr_10 (h0 n))
theorem rx_box {post : Int32 → Prop} {v1 v2 v3 : Int32} {x1 y1 x2 y2 x3 y3 : Nat} (h1 : rr_P v1 x1 y1) (h2 : rr_P v2 x2 y2) (h3 : rr_P v3 x3 y3) (x y : Int32) (t : rr_sp (nI x1) (nI x2) (nI x3) x ∧ rr_sp (nI y1) (nI y2) (nI y3) y → post 1) (f : ¬ (rr_sp (nI x1) (nI x2) (nI x3) x ∧ rr_sp (nI y1) (nI y2) (nI y3) y) → post 0) : wpX_isInBox post v1 v2 v3 x y := by
  unfold wpX_isInBox wpX_columnOf wpX_rowOf
  dsimp only
  rw [rr_P_col h1, rr_P_col h2, rr_P_col h3, rr_P_row h1, rr_P_row h2, rr_P_row h3]
  refine rx_span (fun a => br_f rr_10 ?_) (fun a => br_t rfl (f (fun z => a z.1)))
  exact rx_span (fun b => br_f rr_10 (t ⟨a, b⟩)) (fun b => br_t rfl (f (fun z => b z.2)))
theorem rx_turn {post : Int32 → Prop} {v1 v2 : Int32} {x1 y1 x2 y2 : Nat} (h1 : rr_P v1 x1 y1) (h2 : rr_P v2 x2 y2) (x y : Int32) (t : post (rr_sd x1 y1 x2 y2 x y)) : wpX_turn post v1 v2 x y := by
  unfold wpX_turn wpX_columnOf wpX_rowOf
  dsimp only
  rw [rr_P_col h1, rr_P_col h2, rr_P_row h1, rr_P_row h2]
  exact t
theorem rx_one {post : Int32 → Prop} {v1 v2 v3 : Int32} {x1 y1 x2 y2 x3 y3 : Nat} (h1 : rr_P v1 x1 y1) (h2 : rr_P v2 x2 y2) (h3 : rr_P v3 x3 y3) (x y : Int32) (t : rr_ins (rr_sd x1 y1 x2 y2 x y) (rr_sd x2 y2 x3 y3 x y) (rr_sd x3 y3 x1 y1 x y) → post 1) (f : ¬ rr_ins (rr_sd x1 y1 x2 y2 x y) (rr_sd x2 y2 x3 y3 x y) (rr_sd x3 y3 x1 y1 x y) → post 0) : wpX_isOnOneSide post v1 v2 v3 x y := by
  unfold wpX_isOnOneSide
  refine rx_turn h1 h2 _ _ ?_
  refine rx_turn h2 h3 _ _ ?_
  refine rx_turn h3 h1 _ _ ?_
  generalize rr_sd x1 y1 x2 y2 x y = a at *
  generalize rr_sd x2 y2 x3 y3 x y = b at *
  generalize rr_sd x3 y3 x1 y1 x y = c at *
  have go : ¬ (¬ a < 0 ∧ ¬ b < 0 ∧ 0 ≤ c) → wX_isOnOneSide_45 post a b c := fun n =>
    br_c (fun u => f (fun z => z.elim n (fun z => z.1 u))) (fun u => br_c (fun w => f (fun z => z.elim n (fun z => z.2.1 w))) (fun w => br_c (fun k => f (fun z => z.elim n (fun z => z.2.2 k))) (fun k => t (Or.inr ⟨u, w, k⟩))))
  exact br_c (fun u => go (fun z => z.1 u)) (fun u => br_c (fun w => go (fun z => z.2.1 w)) (fun w => br_c (fun k => t (Or.inl ⟨u, w, k⟩)) (fun k => go (fun z => k z.2.2))))
theorem rx_disc_in {post : SX → Prop} {J : Int32 → Int32 → Int32 → (Nat → Int32) → (Nat → Int32) → (Nat → Int32) → (Nat → Int32) → Prop} {r a b : Int32} {y : Nat} (hy : y < 24) {q p : Int32} {ra fa ma qa : Nat → Int32}  (h0 : rr_RF fa (fun k => k < 24 * y ∧ rr_G (rr_gd r a b) k)) (hJ : ∀ fa', rr_RF fa' (fun k => k < 24 * (y + 1) ∧ rr_G (rr_gd r a b) k) → J (nI (y + 1)) q p ra fa' ma qa) : ∃ n, wX_markDisc_24 post J r a b (nI y) n 0 q p ra fa ma qa := by
  refine loop_0 (fun n i s => wX_markDisc_24 post J r a b (nI y) n (nI i) q p ra s ma qa) (fun i s => rr_RF s (fun k => k < 24 * y + i ∧ rr_G (rr_gd r a b) k)) 24 fa h0 ?_ ?_
  · intro n s hs
    exact br_t rr_24 (nm_r (nI_1 y) (hJ s (rr_RF_c hs (fun k _ => ⟨fun z => ⟨by omega, z.2⟩, fun z => ⟨by omega, z.2⟩⟩))))
  · intro n i s hi hs hk
    refine br_f (rr_l24 hi) (br_c (fun c => nm_r (nI_1 i) (hk s (rr_st0 hi hs (fun z => z c)))) (fun c => ?_))
    refine rx_mark _ _ hs (fun fa' hf => ?_)
    exact nm_r (nI_1 i) (hk fa' (rr_st1 hi hy hf c))
theorem rx_blot_in {post : SX → Prop} {J : Int32 → Int32 → Int32 → (Nat → Int32) → (Nat → Int32) → (Nat → Int32) → (Nat → Int32) → Prop} {r t a b : Int32} {y : Nat} (hy : y < 24) {q p : Int32} {ra fa ma qa : Nat → Int32}  (h0 : rr_RF fa (fun k => k < 24 * y ∧ rr_G (rr_gb r t a b) k)) (hJ : ∀ fa', rr_RF fa' (fun k => k < 24 * (y + 1) ∧ rr_G (rr_gb r t a b) k) → J (nI (y + 1)) q p ra fa' ma qa) : ∃ n, wX_markBlot_25 post J r t a b (nI y) n 0 q p ra fa ma qa := by
  refine loop_0 (fun n i s => wX_markBlot_25 post J r t a b (nI y) n (nI i) q p ra s ma qa) (fun i s => rr_RF s (fun k => k < 24 * y + i ∧ rr_G (rr_gb r t a b) k)) 24 fa h0 ?_ ?_
  · intro n s hs
    exact br_t rr_24 (nm_r (nI_1 y) (hJ s (rr_RF_c hs (fun k _ => ⟨fun z => ⟨by omega, z.2⟩, fun z => ⟨by omega, z.2⟩⟩))))
  · intro n i s hi hs hk
    refine br_f (rr_l24 hi) (nm_e (nm_e (br_c (fun c => nm_r (nI_1 i) (hk s (rr_st0 hi hs (fun z => z c)))) (fun c => ?_))))
    refine rx_mark _ _ hs (fun fa' hf => ?_)
    exact nm_r (nI_1 i) (hk fa' (rr_st1 hi hy hf c))
theorem rx_tri_in {post : SX → Prop} {J : Int32 → Int32 → Int32 → (Nat → Int32) → (Nat → Int32) → (Nat → Int32) → (Nat → Int32) → Prop} {v1 v2 v3 : Int32} {x1 y1 x2 y2 x3 y3 : Nat} {y : Nat} (hy : y < 24) {q p : Int32} {ra fa ma qa : Nat → Int32} (h1 : rr_P v1 x1 y1) (h2 : rr_P v2 x2 y2) (h3 : rr_P v3 x3 y3) (h0 : rr_RF fa (fun k => k < 24 * y ∧ rr_G (rr_gt x1 y1 x2 y2 x3 y3) k)) (hJ : ∀ fa', rr_RF fa' (fun k => k < 24 * (y + 1) ∧ rr_G (rr_gt x1 y1 x2 y2 x3 y3) k) → J (nI (y + 1)) q p ra fa' ma qa) : ∃ n, wX_markTriangle_13 post J v1 v2 v3 (nI y) n 0 q p ra fa ma qa := by
  refine loop_0 (fun n i s => wX_markTriangle_13 post J v1 v2 v3 (nI y) n (nI i) q p ra s ma qa) (fun i s => rr_RF s (fun k => k < 24 * y + i ∧ rr_G (rr_gt x1 y1 x2 y2 x3 y3) k)) 24 fa h0 ?_ ?_
  · intro n s hs
    exact br_t rr_24 (nm_r (nI_1 y) (hJ s (rr_RF_c hs (fun k _ => ⟨fun z => ⟨by omega, z.2⟩, fun z => ⟨by omega, z.2⟩⟩))))
  · intro n i s hi hs hk
    refine br_f (rr_l24 hi) ?_
    refine rx_box h1 h2 h3 _ _ (fun z => br_f rr_10 ?_) (fun z => br_t rfl (nm_r (nI_1 i) (hk s (rr_st0 hi hs (fun w => z w.2)))))
    refine rx_one h1 h2 h3 _ _ (fun w => br_f rr_10 ?_) (fun w => br_t rfl (nm_r (nI_1 i) (hk s (rr_st0 hi hs (fun t => w t.1)))))
    refine rx_mark _ _ hs (fun fa' hf => ?_)
    exact nm_r (nI_1 i) (hk fa' (rr_st1 hi hy hf ⟨w, z⟩))
theorem rx_disc {post : SX → Prop} {q p : Int32} {ra fa ma qa : Nat → Int32} {m r : Int32} {x y : Nat} (hm : rr_P m x y) (hF : rr_RF fa (fun _ => False)) (h : ∀ fa', rr_RF fa' (rr_G (rr_gd r (nI x) (nI y))) → post (q, p, ra, fa', ma, qa)) : wpX_markDisc post (q, p, ra, fa, ma, qa) m r := by
  unfold wpX_markDisc wpX_columnOf wpX_rowOf
  dsimp only
  rw [rr_P_col hm, rr_P_row hm]
  refine loop_0 (fun n i s => wX_markDisc_14 post r (nI x) (nI y) n (nI i) q p ra s ma qa) (fun i s => rr_RF s (fun k => k < 24 * i ∧ rr_G (rr_gd r (nI x) (nI y)) k)) 24 fa ?_ ?_ ?_
  · exact rr_RF_c hF (fun k _ => ⟨fun z => z.elim, fun z => by omega⟩)
  · intro n s hs
    exact br_t rr_24 (h s (rr_RF_c hs (fun k hk => ⟨fun z => z.2, fun z => ⟨by omega, z⟩⟩)))
  · intro n i s hi hs hk
    exact br_f (rr_l24 hi) (rx_disc_in hi hs hk)
theorem rx_blot {post : SX → Prop} {q p : Int32} {ra fa ma qa : Nat → Int32} {m r s : Int32} {x y : Nat} (hm : rr_P m x y) (hF : rr_RF fa (fun _ => False)) (h : ∀ fa', rr_RF fa' (rr_G (rr_gb r s (nI x) (nI y))) → post (q, p, ra, fa', ma, qa)) : wpX_markBlot post (q, p, ra, fa, ma, qa) m r s := by
  unfold wpX_markBlot wpX_columnOf wpX_rowOf
  dsimp only
  rw [rr_P_col hm, rr_P_row hm]
  refine loop_0 (fun n i w => wX_markBlot_15 post r s (nI x) (nI y) n (nI i) q p ra w ma qa) (fun i w => rr_RF w (fun k => k < 24 * i ∧ rr_G (rr_gb r s (nI x) (nI y)) k)) 24 fa ?_ ?_ ?_
  · exact rr_RF_c hF (fun k _ => ⟨fun z => z.elim, fun z => by omega⟩)
  · intro n s hs
    exact br_t rr_24 (h s (rr_RF_c hs (fun k hk => ⟨fun z => z.2, fun z => ⟨by omega, z⟩⟩)))
  · intro n i s hi hs hk
    exact br_f (rr_l24 hi) (rx_blot_in hi hs hk)
theorem rx_tri {post : SX → Prop} {q p : Int32} {ra fa ma qa : Nat → Int32} {v1 v2 v3 : Int32} {x1 y1 x2 y2 x3 y3 : Nat} (h1 : rr_P v1 x1 y1) (h2 : rr_P v2 x2 y2) (h3 : rr_P v3 x3 y3) (hF : rr_RF fa (fun _ => False)) (h : ∀ fa', rr_RF fa' (rr_G (rr_gt x1 y1 x2 y2 x3 y3)) → post (q, p, ra, fa', ma, qa)) : wpX_markTriangle post (q, p, ra, fa, ma, qa) v1 v2 v3 := by
  show ∃ n3 : Nat, wX_markTriangle_3 post v1 v2 v3 n3 0 q p ra fa ma qa
  refine loop_0 (fun n i s => wX_markTriangle_3 post v1 v2 v3 n (nI i) q p ra s ma qa) (fun i s => rr_RF s (fun k => k < 24 * i ∧ rr_G (rr_gt x1 y1 x2 y2 x3 y3) k)) 24 fa ?_ ?_ ?_
  · exact rr_RF_c hF (fun k _ => ⟨fun z => z.elim, fun z => by omega⟩)
  · intro n s hs
    exact br_t rr_24 (h s (rr_RF_c hs (fun k hk => ⟨fun z => z.2, fun z => ⟨by omega, z⟩⟩)))
  · intro n i s hi hs hk
    exact br_f (rr_l24 hi) (rx_tri_in hi h1 h2 h3 hs hk)
end
section
/-! the component's line and ring -/
theorem rx_dist {post : Int32 → Prop} {a b : Nat} (ha : a < 2 ^ 31) (hb : b < 2 ^ 31) (h : post (nI (rr_dist a b))) : wpX_distance post (nI a) (nI b) := by
  refine pk_le b a (fun z => ?_) (fun z => ?_) rfl rfl hb ha
  · have e : rr_dist a b = a - b := if_neg (by omega)
    rw [e] at h
    rw [pk_sub z]
    exact h
  · have e : rr_dist a b = b - a := if_pos z
    rw [e] at h
    rw [pk_sub (by omega)]
    exact h
theorem rx_hi {post : Int32 → Prop} {a b : Nat} (ha : a < 2 ^ 31) (hb : b < 2 ^ 31) (h : post (nI (rr_hi a b))) : wpX_greater post (nI a) (nI b) := by
  refine pk_le b a (fun z => ?_) (fun z => ?_) rfl rfl hb ha
  · have e : rr_hi a b = a := if_neg (by omega)
    rw [e] at h
    exact h
  · have e : rr_hi a b = b := if_pos z
    rw [e] at h
    exact h
theorem rx_lo {post : Int32 → Prop} {a b : Nat} (ha : a < 2 ^ 31) (hb : b < 2 ^ 31) (h : post (nI (rr_lo a b))) : wpX_smaller post (nI a) (nI b) := by
  refine pk_le b a (fun z => ?_) (fun z => ?_) rfl rfl hb ha
  · have e : rr_lo a b = b := if_neg (by omega)
    rw [e] at h
    exact h
  · have e : rr_lo a b = a := if_pos z
    rw [e] at h
    exact h
theorem rx_nol25 {post : Int32 → Prop} {u fv tv L z : Nat} (hu : u < 24) (hf : fv < 24) (ht : tv < 24) (hz : z < 24) (hL0 : L ≠ 0) (hL : L ≤ 23) (h : post (nI (rr_lo fv tv + (2 * (rr_dist u z * rr_dist fv tv) + L - 1) / (2 * L)))) : wX_nearestOnLine_25 post (nI u) (nI fv) (nI tv) (nI L) (nI z) := by
  unfold wX_nearestOnLine_25
  refine rx_lo (by omega) (by omega) ?_
  refine rx_dist (by omega) (by omega) ?_
  refine rx_dist (by omega) (by omega) ?_
  have b1 := rr_dist_le hu hz
  have b2 := rr_dist_le hf ht
  have b3 : rr_dist u z * rr_dist fv tv ≤ 23 * 23 := Nat.mul_le_mul b1 b2
  refine nm_r (pk_mul _ _) ⟨?_, ?_⟩
  · intro e
    have e2 : nI (2 * L) = nI 0 := (pk_mul 2 L).symm.trans e
    rw [nI_eq (by omega) (by omega)] at e2
    omega
  · have e1 : (2 : Int32) * nI (rr_dist u z * rr_dist fv tv) = nI (2 * (rr_dist u z * rr_dist fv tv)) := pk_mul 2 _
    have e2 : (2 : Int32) * nI L = nI (2 * L) := pk_mul 2 _
    have e3 : nI (2 * (rr_dist u z * rr_dist fv tv) + L) - 1 = nI (2 * (rr_dist u z * rr_dist fv tv) + L - 1) := pk_sub (b := 1) (by omega)
    rw [e1, e2, nI_add, e3, pk_div (by omega) (by omega) (by omega), nI_add]
    exact h
theorem rx_nol {post : Int32 → Prop} {u fu fv tu tv : Nat} (hu : u < 24) (h1 : fu < 24) (h2 : fv < 24) (h3 : tu < 24) (h4 : tv < 24) (h : post (nI (rr_nolX u fu fv tu tv))) : wpX_nearestOnLine post (nI u) (nI fu) (nI fv) (nI tu) (nI tv) := by
  unfold wpX_nearestOnLine
  refine rx_dist (by omega) (by omega) ?_
  have b1 := rr_dist_le h1 h3
  unfold rr_nolX at h
  refine pk_eq (rr_dist fu tu) 0 (fun e => ?_) (fun ne => ?_)
  · rw [if_pos e] at h
    exact h
  · rw [if_neg ne] at h
    unfold rr_nol at h
    refine pk_lt tv fv (fun z => ?_) (fun z => ?_)
    · rw [if_neg (show ¬ fv ≤ tv by omega)] at h
      exact rx_nol25 hu h2 h4 h3 ne b1 h
    · rw [if_pos z] at h
      exact rx_nol25 hu h2 h4 h1 ne b1 h
theorem rr_nolX_lt {u fu fv tu tv : Nat} (hu : u < 24) (h1 : fu < 24) (h2 : fv < 24) (h3 : tu < 24) (h4 : tv < 24) : rr_nolX u fu fv tu tv < 2100 := by
  unfold rr_nolX
  by_cases e : rr_dist fu tu = 0
  · rw [if_pos e]; omega
  · rw [if_neg e]
    have b := rr_nol_lt hu h1 h2 h3 h4 e
    unfold rr_nol
    have c := Nat.div_le_self (2 * (rr_dist u (if fv ≤ tv then fu else tu) * rr_dist fv tv) + rr_dist fu tu - 1) (2 * rr_dist fu tu)
    have d : (if fv < tv then fv else tv) < 24 := by
      by_cases z : fv < tv
      · rw [if_pos z]; exact h2
      · rw [if_neg z]; exact h4
    omega
theorem rr_lo_hi {a b : Nat} (ha : a < 24) (hb : b < 24) : rr_lo a b ≤ rr_hi a b ∧ rr_hi a b < 24 := by
  unfold rr_lo rr_hi
  by_cases z : a < b
  · rw [if_pos z, if_pos z]; omega
  · rw [if_neg z, if_neg z]; omega
theorem rx_flat {post : SX → Prop} {q p : Int32} {ra fa ma qa : Nat → Int32} {a b c d : Nat} (ha : a < 24) (hb : b < 24) (hc : c < 24) (hd : d < 24) (hF : rr_RF fa (fun _ => False)) (h : ∀ fa', rr_RF fa' (fun k => rr_lo a c ≤ k % 24 ∧ k % 24 ≤ rr_hi a c ∧ k / 24 = rr_nolX (k % 24) a b c d) → post (q, p, ra, fa', ma, qa)) : wpX_markFlatLine post (q, p, ra, fa, ma, qa) (nI a) (nI b) (nI c) (nI d) := by
  unfold wpX_markFlatLine
  dsimp only
  refine rx_hi (by omega) (by omega) ?_
  refine rx_lo (by omega) (by omega) ?_
  have bb := rr_lo_hi ha hc
  refine pk_loop (fun n i s => wX_markFlatLine_14 post (nI a) (nI b) (nI c) (nI d) (nI (rr_hi a c)) n (nI i) q p ra s ma qa) (fun i s => rr_lo a c ≤ i ∧ rr_RF s (fun k => rr_lo a c ≤ k % 24 ∧ k % 24 < i ∧ k / 24 = rr_nolX (k % 24) a b c d)) (rr_hi a c + 1) (rr_lo a c) fa (by omega) ?_ ?_ ?_
  · exact ⟨Nat.le_refl _, rr_RF_c hF (fun k _ => ⟨fun z => z.elim, fun z => by omega⟩)⟩
  · intro n s hs
    exact br_t (nI_lt (by omega) (by omega)) (h s (rr_RF_c hs.2 (fun k hk => ⟨fun z => ⟨z.1, by omega, z.2.2⟩, fun z => ⟨z.1, by omega, z.2.2⟩⟩)))
  · intro n i s hi hs hk
    have hlo := hs.1
    refine br_f (nI_nlt (by omega) (by omega)) ?_
    refine rx_nol (by omega) ha hb hc hd ?_
    refine rx_mark _ _ hs.2 (fun fa' hf => ?_)
    refine nm_r (nI_1 i) (hk fa' ⟨by omega, rr_RF_c hf (fun k hk => ?_)⟩)
    have lt := rr_nolX_lt (u := i) (by omega) ha hb hc hd
    rw [nI_eq (by omega) (by omega), nI_eq (by omega) (by omega)]
    by_cases e : i = k % 24
    · subst e
      constructor
      · rintro (z | z)
        · omega
        · exact ⟨hlo, by omega, z.2.symm⟩
      · rintro ⟨z1, z2, z3⟩
        exact Or.inr ⟨rfl, z3.symm⟩
    · constructor
      · rintro (z | z)
        · exact ⟨z.1, by omega, z.2.2⟩
        · exact absurd z.1 e
      · rintro ⟨z1, z2, z3⟩
        exact Or.inl ⟨z1, by omega, z3⟩
theorem rx_steep {post : SX → Prop} {q p : Int32} {ra fa ma qa : Nat → Int32} {a b c d : Nat} (ha : a < 24) (hb : b < 24) (hc : c < 24) (hd : d < 24) (hF : rr_RF fa (fun _ => False)) (h : ∀ fa', rr_RF fa' (fun k => rr_lo b d ≤ k / 24 ∧ k / 24 ≤ rr_hi b d ∧ k % 24 = rr_nolX (k / 24) b a d c) → post (q, p, ra, fa', ma, qa)) : wpX_markSteepLine post (q, p, ra, fa, ma, qa) (nI a) (nI b) (nI c) (nI d) := by
  unfold wpX_markSteepLine
  dsimp only
  refine rx_hi (by omega) (by omega) ?_
  refine rx_lo (by omega) (by omega) ?_
  have bb := rr_lo_hi hb hd
  refine pk_loop (fun n i s => wX_markSteepLine_16 post (nI a) (nI b) (nI c) (nI d) (nI (rr_hi b d)) n (nI i) q p ra s ma qa) (fun i s => rr_lo b d ≤ i ∧ rr_RF s (fun k => rr_lo b d ≤ k / 24 ∧ k / 24 < i ∧ k % 24 = rr_nolX (k / 24) b a d c)) (rr_hi b d + 1) (rr_lo b d) fa (by omega) ?_ ?_ ?_
  · exact ⟨Nat.le_refl _, rr_RF_c hF (fun k _ => ⟨fun z => z.elim, fun z => by omega⟩)⟩
  · intro n s hs
    exact br_t (nI_lt (by omega) (by omega)) (h s (rr_RF_c hs.2 (fun k hk => ⟨fun z => ⟨z.1, by omega, z.2.2⟩, fun z => ⟨z.1, by omega, z.2.2⟩⟩)))
  · intro n i s hi hs hk
    have hlo := hs.1
    refine br_f (nI_nlt (by omega) (by omega)) ?_
    refine rx_nol (by omega) hb ha hd hc ?_
    refine rx_mark _ _ hs.2 (fun fa' hf => ?_)
    refine nm_r (nI_1 i) (hk fa' ⟨by omega, rr_RF_c hf (fun k hk => ?_)⟩)
    have lt := rr_nolX_lt (u := i) (by omega) hb ha hd hc
    rw [nI_eq (by omega) (by omega), nI_eq (by omega) (by omega)]
    by_cases e : i = k / 24
    · subst e
      constructor
      · rintro (z | z)
        · omega
        · exact ⟨hlo, by omega, z.1.symm⟩
      · rintro ⟨z1, z2, z3⟩
        exact Or.inr ⟨z3.symm, rfl⟩
    · constructor
      · rintro (z | z)
        · exact ⟨z.1, by omega, z.2.2⟩
        · exact absurd z.2 e
      · rintro ⟨z1, z2, z3⟩
        exact Or.inl ⟨z1, by omega, z3⟩
theorem rx_line {post : SX → Prop} {q p : Int32} {ra fa ma qa : Nat → Int32} {v w : Int32} {a b c d : Nat} (hv : rr_P v a b) (hw : rr_P w c d) (hF : rr_RF fa (fun _ => False)) (h : ∀ fa', rr_RF fa' (fun k => rr_lx (k % 24) (k / 24) a b c d) → post (q, p, ra, fa', ma, qa)) : wpX_markLine post (q, p, ra, fa, ma, qa) v w := by
  have ha := hv.1
  have hb := hv.2.1
  have hc := hw.1
  have hd := hw.2.1
  unfold wpX_markLine wpX_columnOf wpX_rowOf
  dsimp only
  rw [rr_P_col hv, rr_P_col hw, rr_P_row hv, rr_P_row hw]
  refine rx_dist (by omega) (by omega) ?_
  refine rx_dist (by omega) (by omega) ?_
  have b1 := rr_dist_le ha hc
  have b2 := rr_dist_le hb hd
  unfold rr_lx at h
  refine pk_lt (rr_dist a c) (rr_dist b d) (fun z => ?_) (fun z => ?_)
  · refine rx_steep ha hb hc hd hF (fun fa' hf => h fa' (rr_RF_c hf (fun k _ => ?_)))
    rw [if_neg (by omega)]
  · refine rx_flat ha hb hc hd hF (fun fa' hf => h fa' (rr_RF_c hf (fun k _ => ?_)))
    rw [if_pos z]
/-! the ring -/
theorem rx_root {post : Int32 → Prop} {m : Nat} (hm : m ≤ 900) (h : ∀ v, v ≤ 30 → rr_rt m v → post (nI v)) : wpX_nearestRoot post (nI m) := by
  show ∃ n2 : Nat, wX_nearestRoot_2 post (nI m) n2 0
  refine lp1 (A1 := Nat) (fun n i => wX_nearestRoot_2 post (nI m) n (nI i)) (fun i => i ≤ 30 ∧ ∀ w, w < i → w * (w + 1) < m) (fun i => 30 - i) ?_ 0 ⟨by omega, fun w hw => absurd hw (Nat.not_lt_zero w)⟩
  intro n i hI hk
  have bi : i * (i + 1) ≤ 30 * 31 := Nat.mul_le_mul hI.1 (by omega)
  have e1 : nI i * (nI i + 1) = nI (i * (i + 1)) := by rw [nI_1, pk_mul]
  refine pk_le 30 i (fun z => ?_) (fun z => ?_)
  · have e : i = 30 := by omega
    exact h i hI.1 ⟨by rw [e]; omega, hI.2⟩
  · rw [e1]
    refine pk_le m (i * (i + 1)) (fun y => ?_) (fun y => ?_)
    · exact h i hI.1 ⟨y, hI.2⟩
    · refine nm_r (nI_1 i) (hk (i + 1) ⟨by omega, fun w hw => ?_⟩ (by omega))
      by_cases e : w = i
      · rw [e]; exact y
      · exact hI.2 w (by omega)
theorem rx_dist0 {post : Int32 → Prop} {U : Int} (hU : -30 ≤ U ∧ U ≤ 30) (h : post (nI U.natAbs)) : wpX_distance post (rr_i U) 0 := by
  have e0 : (0 : Int32) = rr_i 0 := rfl
  rw [rr_n] at h
  refine ek_if (d := 0 ≤ U) (by rw [e0, rr_le (by omega) (by omega)]) (fun z => ?_) (fun z => ?_)
  · rw [e0, rr_sub, show U - 0 = (U.natAbs : Int) by omega]
    exact h
  · rw [e0, rr_sub, show 0 - U = (U.natAbs : Int) by omega]
    exact h
theorem rr_e1 {a k : Nat} {U : Int} (ha : a < 24) (hk : k < 24) (hU : -30 ≤ U ∧ U ≤ 30) : nI a + rr_i U = nI k ↔ (k : Int) - a = U := by
  rw [rr_n, rr_n, rr_add, rr_eq (by omega) (by omega)]
  omega
theorem rr_e2 {a k v : Nat} (ha : a < 24) (hk : k < 24) (hv : v ≤ 30) : nI a + nI v = nI k ↔ (k : Int) - a = v := by
  rw [rr_n, rr_n, rr_n, rr_add, rr_eq (by omega) (by omega)]
  omega
theorem rr_e3 {a k v : Nat} (ha : a < 24) (hk : k < 24) (hv : v ≤ 30) : nI a - nI v = nI k ↔ (k : Int) - a = -(v : Int) := by
  rw [rr_n, rr_n, rr_n, rr_sub, rr_eq (by omega) (by omega)]
  omega
theorem rx_ring {post : SX → Prop} {q p : Int32} {ra fa ma qa : Nat → Int32} {m : Int32} {r a b : Nat} (hm : rr_P m a b) (hr : r ≤ 30) (hF : rr_RF fa (fun _ => False)) (h : ∀ fa', rr_RF fa' (fun k => rr_arc (((k % 24 : Nat) : Int) - a) (((k / 24 : Nat) : Int) - b) r ∨ rr_arc (((k / 24 : Nat) : Int) - b) (((k % 24 : Nat) : Int) - a) r) → post (q, p, ra, fa', ma, qa)) : wpX_markRing post (q, p, ra, fa, ma, qa) m (nI r) := by
  have ha := hm.1
  have hb := hm.2.1
  unfold wpX_markRing wpX_columnOf wpX_rowOf
  dsimp only
  rw [rr_P_col hm, rr_P_row hm]
  refine nm_r (e' := rr_i (((0 : Nat) : Int) - r)) (by rw [rr_n, rr_neg]; exact congrArg rr_i (by omega)) ?_
  refine loop_0 (fun n j s => wX_markRing_15 post (nI r) (nI a) (nI b) n (rr_i ((j : Int) - r)) q p ra s ma qa) (fun j s => rr_RF s (fun k => rr_rs r j (((k % 24 : Nat) : Int) - a) (((k / 24 : Nat) : Int) - b))) (2 * r + 1) fa ?_ ?_ ?_
  · exact rr_RF_c hF (fun k _ => ⟨fun z => z.elim, fun z => rr_rs_0 z⟩)
  · intro n s hs
    refine br_t ?_ (h s (rr_RF_c hs (fun k _ => rr_rs_eq r _ _)))
    rw [rr_n, rr_lt (by omega) (by omega)]
    omega
  · intro n j s hj hs hk
    obtain ⟨U, hU⟩ : ∃ U : Int, U = (j : Int) - r := ⟨_, rfl⟩
    have bU : -30 ≤ U ∧ U ≤ 30 := by omega
    have eU : ((j + 1 : Nat) : Int) - r = U + 1 := by omega
    obtain ⟨t, ht⟩ : ∃ t : Nat, t = U.natAbs := ⟨_, rfl⟩
    have tr : t ≤ r := by omega
    have t2 : t * t ≤ r * r := Nat.mul_le_mul tr tr
    have r2 : r * r ≤ 30 * 30 := Nat.mul_le_mul hr hr
    have eq1 : nI r * nI r - rr_i U * rr_i U = nI (r * r - t * t) := by
      have e2 : U * U = ((t * t : Nat) : Int) := by rw [ht]; exact Int.natAbs_mul_self.symm
      rw [rr_mul, e2, ← rr_n, pk_mul, pk_sub t2]
    have step : rr_i U + 1 = rr_i (((j + 1 : Nat) : Int) - r) := by
      rw [eU, ← rr_add]; rfl
    show wX_markRing_15 post (nI r) (nI a) (nI b) (n + 1) (rr_i ((j : Int) - r)) q p ra s ma qa
    rw [← hU]
    refine br_f ?_ ?_
    · rw [rr_n, rr_lt (by omega) (by omega)]
      omega
    · rw [eq1]
      refine rx_root (by omega) (fun v hv rt => ?_)
      refine rx_dist0 bU ?_
      rw [← ht]
      have rt2 : rr_rt (r * r - ((j : Int) - r).natAbs * ((j : Int) - r).natAbs) v := by rw [← hU, ← ht]; exact rt
      refine pk_lt v t (fun z => ?_) (fun z => ?_)
      · refine nm_r step (hk s (rr_RF_c hs (fun k _ => ?_)))
        rw [rr_rs_s rt2]
        refine ⟨Or.inl, ?_⟩
        rintro (w | w)
        · exact w
        · have w1 := w.1
          rw [← hU, ← ht] at w1
          omega
      · refine rx_mark _ _ hs (fun f1 g1 => ?_)
        refine rx_mark _ _ g1 (fun f2 g2 => ?_)
        refine rx_mark _ _ g2 (fun f3 g3 => ?_)
        refine rx_mark _ _ g3 (fun f4 g4 => ?_)
        refine nm_r step (hk f4 (rr_RF_c g4 (fun k hk => ?_)))
        have k1 : k % 24 < 24 := by omega
        have k2 : k / 24 < 24 := by omega
        rw [rr_rs_s rt2, rr_e1 ha k1 bU, rr_e2 hb k2 hv, rr_e3 hb k2 hv, rr_e2 ha k1 hv, rr_e1 hb k2 bU, rr_e3 ha k1 hv]
        unfold rr_rp
        rw [← hU, ← ht]
        constructor
        · rintro ((((w | w) | w) | w) | w)
          · exact Or.inl w
          · exact Or.inr ⟨z, Or.inl ⟨w.1, Or.inl w.2⟩⟩
          · exact Or.inr ⟨z, Or.inl ⟨w.1, Or.inr w.2⟩⟩
          · exact Or.inr ⟨z, Or.inr ⟨w.2, Or.inl w.1⟩⟩
          · exact Or.inr ⟨z, Or.inr ⟨w.2, Or.inr w.1⟩⟩
        · rintro (w | ⟨_, (⟨w1, w2 | w2⟩ | ⟨w1, w2 | w2⟩)⟩)
          · exact Or.inl (Or.inl (Or.inl (Or.inl w)))
          · exact Or.inl (Or.inl (Or.inl (Or.inr ⟨w1, w2⟩)))
          · exact Or.inl (Or.inl (Or.inr ⟨w1, w2⟩))
          · exact Or.inl (Or.inr ⟨w2, w1⟩)
          · exact Or.inr ⟨w2, w1⟩
end
section
/-! the component's flood -/
theorem rx_value {post : Int32 → Prop} {q p : Int32} {ra fa ma qa : Nat → Int32} {P : Nat → Bool} (hP : rr_RX ra P) {x y : Nat} (hx : x < 24) (hy : y < 24) (h : post (rr_bi (P (24 * y + x)))) : wpX_valueAt post (q, p, ra, fa, ma, qa) (nI x) (nI y) := by
  unfold wpX_valueAt
  dsimp only
  refine rx_side _ (fun n hn en => br_f rr_10 ?_) (fun z => absurd rfl (z x hx))
  refine rx_side _ (fun m hm em => br_f rr_10 ⟨vp_in_nI hy (by decide), ?_⟩) (fun z => absurd rfl (z y hy))
  rw [rr_cl (by omega), rr_bit _ (by omega), rr_RX_at hP hx hy]
  exact h
theorem rr_enc {x y : Nat} (hx : x < 24) (hy : y < 24) : (nI y <<< ((5 : Int32) &&& 31)) + nI x = nI (rr_code (24 * y + x)) := by
  rw [pk_shlN _ 5 (by decide) (by omega), nI_add]
  refine congrArg nI ?_
  unfold rr_code
  omega
theorem rx_reach {post : SX → Prop} {P : Nat → Bool} {s : Nat} {p : Int32} {n : Nat} {ra fa ma qa : Nat → Int32} {Q : Nat → Bool} (x y : Int32) (hI : rr_FI P s ra qa n Q) (hc : ∀ X Y, X < 24 → Y < 24 → x = nI X → y = nI Y → P (24 * Y + X) = P s → rr_conn P s (24 * Y + X)) (h : ∀ ra' qa' n' Q', rr_FI P s ra' qa' n' Q' → (∀ k, k < 576 → Q k = true → Q' k = true) → (∀ i, i < n → qa' i = qa i) → n ≤ n' → (∀ X Y, X < 24 → Y < 24 → x = nI X → y = nI Y → P (24 * Y + X) = P s → Q' (24 * Y + X) = true) → post (nI n', p, ra', fa, ma, qa')) : wpX_reach post (nI n, p, ra, fa, ma, qa) x y (rr_bi (P s)) := by
  have stay : (∀ X Y, X < 24 → Y < 24 → x = nI X → y = nI Y → P (24 * Y + X) = P s → Q (24 * Y + X) = true) → post (nI n, p, ra, fa, ma, qa) := fun w => h ra qa n Q hI (fun _ _ z => z) (fun _ _ => rfl) (Nat.le_refl n) w
  have nle := rr_FI_le hI
  unfold wpX_reach
  dsimp only
  refine rx_side x (fun X hX eX => br_f rr_10 ?_) (fun z => br_t rfl (stay (fun X Y hX hY eX eY _ => absurd eX (z X hX))))
  refine rx_side y (fun Y hY eY => br_f rr_10 ?_) (fun z => br_t rfl (stay (fun X Y hX hY eX eY _ => absurd eY (z Y hY))))
  subst eX eY
  refine pk_lt n 576 (fun z => ?_) (fun z => stay (fun X' Y' hX' hY' _ _ _ => rr_FI_all hI z _ (by omega)))
  refine ⟨vp_in_nI hY (by decide), ?_⟩
  have inj : ∀ X' Y', X' < 24 → Y' < 24 → nI X = nI X' → nI Y = nI Y' → 24 * Y' + X' = 24 * Y + X := by
    intro X' Y' a1 a2 a3 a4
    rw [nI_eq (by omega) (by omega)] at a3 a4
    omega
  have hb : bt (ra Y) X = (P (24 * Y + X) ^^ Q (24 * Y + X)) := rr_RX_at hI.1 hX hY
  rw [rr_cl (show Y < 576 by omega), rr_bit _ (by omega), hb]
  refine ek_if (rr_bi_e _ _) (fun e => ?_) (fun e => stay ?_)
  · refine ⟨vp_in_nI hY (by decide), vp_in_nI hY (by decide), nm_e ⟨vp_in_nI z (by decide), ?_⟩⟩
    rw [rr_cl z, rr_enc hX hY]
    refine nm_e (nm_r (nI_1 n) (h _ _ _ _ (rr_FI_add hI hX hY e (hc X Y hX hY rfl rfl)) (fun k _ w => rr_put_m w) (fun i hi => pk_un (by omega)) (by omega) ?_))
    intro X' Y' a1 a2 a3 a4 _
    rw [inj X' Y' a1 a2 a3 a4]
    exact rr_put_s _ _
  · intro X' Y' a1 a2 a3 a4 hp
    rw [inj X' Y' a1 a2 a3 a4] at hp ⊢
    cases hq : Q (24 * Y + X) with
    | true => rfl
    | false =>
      rw [hq, Bool.xor_false] at e
      exact absurd hp e
theorem rr_dec1 {x X : Nat} (hx : x < 24) (hX : X < 24) (e : nI x - 1 = nI X) : x = X + 1 := by
  have e2 : rr_i ((x : Int) - ((1 : Nat) : Int)) = rr_i (X : Int) := by
    rw [← rr_nsub, ← rr_n]
    exact e
  rw [rr_eq (by omega) (by omega)] at e2
  omega
theorem rr_inc1 {x X : Nat} (hx : x < 24) (hX : X < 24) (e : nI x + 1 = nI X) : x + 1 = X := by
  rw [nI_1, nI_eq (by omega) (by omega)] at e
  exact e
theorem rx_nbrs {post : SX → Prop} {P : Nat → Bool} {s : Nat} {p : Int32} {n : Nat} {ra fa ma qa : Nat → Int32} {Q : Nat → Bool} {k : Nat} (hk : k < 576) (hI : rr_FI P s ra qa n Q) (hQ : Q k = true) (h : ∀ ra' qa' n' Q', rr_FI P s ra' qa' n' Q' → (∀ k, k < 576 → Q k = true → Q' k = true) → (∀ i, i < n → qa' i = qa i) → n ≤ n' → (∀ j, j < 576 → rr_adj k j → P j = P s → Q' j = true) → post (nI n', p, ra', fa, ma, qa')) : wpX_reachNeighbours post (nI n, p, ra, fa, ma, qa) (nI (rr_code k)) (rr_bi (P s)) := by
  have x24 : k % 24 < 24 := by omega
  have y24 : k / 24 < 24 := by omega
  have hp : rr_P (nI (rr_code k)) (k % 24) (k / 24) := ⟨x24, y24, rfl⟩
  have ck := hI.2.2.2.2.2 k hk hQ
  unfold wpX_reachNeighbours wpX_columnOf wpX_rowOf
  dsimp only
  rw [rr_P_col hp, rr_P_row hp]
  refine rx_reach _ _ hI ?_ (fun r1 q1 n1 Q1 i1 s1 e1 l1 c1 => ?_)
  · intro X Y hX hY eX eY hP
    have a1 := rr_dec1 x24 hX eX
    rw [nI_eq (by omega) (by omega)] at eY
    refine rr_conn_s ck hk (by omega) ?_ hP
    unfold rr_adj
    omega
  refine rx_reach _ _ i1 ?_ (fun r2 q2 n2 Q2 i2 s2 e2 l2 c2 => ?_)
  · intro X Y hX hY eX eY hP
    have a1 := rr_inc1 x24 hX eX
    rw [nI_eq (by omega) (by omega)] at eY
    refine rr_conn_s ck hk (by omega) ?_ hP
    unfold rr_adj
    omega
  refine rx_reach _ _ i2 ?_ (fun r3 q3 n3 Q3 i3 s3 e3 l3 c3 => ?_)
  · intro X Y hX hY eX eY hP
    have a1 := rr_dec1 y24 hY eY
    rw [nI_eq (by omega) (by omega)] at eX
    refine rr_conn_s ck hk (by omega) ?_ hP
    unfold rr_adj
    omega
  refine rx_reach _ _ i3 ?_ (fun r4 q4 n4 Q4 i4 s4 e4 l4 c4 => ?_)
  · intro X Y hX hY eX eY hP
    have a1 := rr_inc1 y24 hY eY
    rw [nI_eq (by omega) (by omega)] at eX
    refine rr_conn_s ck hk (by omega) ?_ hP
    unfold rr_adj
    omega
  refine h r4 q4 n4 Q4 i4 (fun j hj z => s4 j hj (s3 j hj (s2 j hj (s1 j hj z)))) (fun i hi => ?_) (by omega) ?_
  · exact (e4 i (by omega)).trans ((e3 i (by omega)).trans ((e2 i (by omega)).trans (e1 i hi)))
  · intro j hj ha hP
    have ej : 24 * (j / 24) + j % 24 = j := by omega
    have pj : P (24 * (j / 24) + j % 24) = P s := by rw [ej]; exact hP
    have j1 : j % 24 < 24 := by omega
    have j2 : j / 24 < 24 := by omega
    unfold rr_adj at ha
    rcases ha with ⟨h1, h2⟩ | ⟨h1, h2⟩ | ⟨h1, h2⟩ | ⟨h1, h2⟩
    · have w := c2 (j % 24) (j / 24) j1 j2 (by rw [nI_1]; exact congrArg nI (by omega)) (congrArg nI (by omega)) pj
      rw [ej] at w
      exact s4 j hj (s3 j hj w)
    · have w := c1 (j % 24) (j / 24) j1 j2 ((pk_sub (b := 1) (by omega)).trans (congrArg nI (by omega))) (congrArg nI (by omega)) pj
      rw [ej] at w
      exact s4 j hj (s3 j hj (s2 j hj w))
    · have w := c4 (j % 24) (j / 24) j1 j2 (congrArg nI (by omega)) (by rw [nI_1]; exact congrArg nI (by omega)) pj
      rw [ej] at w
      exact w
    · have w := c3 (j % 24) (j / 24) j1 j2 (congrArg nI (by omega)) ((pk_sub (b := 1) (by omega)).trans (congrArg nI (by omega))) pj
      rw [ej] at w
      exact s4 j hj w
theorem rx_flood_l {post : Int32 → SX → Prop} {P : Nat → Bool} {s : Nat} {p : Int32} {fa ma : Nat → Int32} (h : ∀ ra' qa' Q, rr_isF P s Q → rr_RX ra' (fun k => P k ^^ Q k) → post (nI (rr_cnt Q 576)) (nI (rr_cnt Q 576), p, ra', fa, ma, qa')) {n : Nat} {ra qa : Nat → Int32} {Q : Nat → Bool} (hI : rr_FI P s ra qa n Q) (h5 : s < 576) (hs : Q s = true) : ∃ n43 : Nat, wX_flood_43 post (rr_bi (P s)) n43 0 (nI n) p ra fa ma qa := by
  refine lp4 (A1 := Nat) (A2 := Nat) (A3 := Nat → Int32) (A4 := Nat → Int32) (fun f m n ra qa => wX_flood_43 post (rr_bi (P s)) f (nI m) (nI n) p ra fa ma qa) (fun m n ra qa => ∃ Q, rr_FI P s ra qa n Q ∧ Q s = true ∧ m ≤ n ∧ rr_Cl P s qa Q m) (fun m _ _ _ => 576 - m) ?_ 0 n ra qa ⟨Q, hI, hs, Nat.zero_le n, fun i hi => absurd hi (Nat.not_lt_zero i)⟩
  rintro f m n ra qa ⟨Q, hI, hs, hmn, hC⟩ hk
  have nle := rr_FI_le hI
  refine pk_le n m (fun z => ?_) (fun z => ?_)
  · have e : m = n := by omega
    subst e
    have w := h ra qa Q (rr_FI_end hI hs hC) hI.1
    rw [← hI.2.1] at w
    exact w
  · refine pk_le 576 m (fun w => by omega) (fun w => ⟨vp_in_nI w (by decide), ?_⟩)
    obtain ⟨k, a1, a2, a3⟩ := hI.2.2.1 m z
    rw [rr_cl w, a3]
    refine rx_nbrs a1 hI a2 (fun r' q' n' Q' i' s' e' l' c' => ?_)
    refine nm_r (nI_1 m) (hk (m + 1) n' r' q' ⟨Q', i', ?_, by omega, ?_⟩ (by omega))
    · exact s' s h5 hs
    · intro i hi
      by_cases e : i = m
      · subst e
        exact ⟨k, a1, by rw [e' i z]; exact a3, c'⟩
      · exact rr_Cl_m hC hmn e' s' i (by omega)
theorem rx_flood {post : Int32 → SX → Prop} {P : Nat → Bool} {q p : Int32} {ra fa ma qa : Nat → Int32} (hP : rr_RX ra P) (v : Int32) (h1 : ∀ x y, rr_P v x y → ∀ q' ra' qa' Q, rr_isF P (24 * y + x) Q → rr_RX ra' (fun k => P k ^^ Q k) → post (nI (rr_cnt Q 576)) (q', p, ra', fa, ma, qa')) (h0 : (¬ ∃ x y, rr_P v x y) → post (-1) (q, p, ra, fa, ma, qa)) : wpX_flood post (q, p, ra, fa, ma, qa) v := by
  unfold wpX_flood
  dsimp only
  refine rx_pix v (fun x y hv => br_f rr_10 ?_) (fun z => br_t rfl (h0 z))
  unfold wpX_columnOf wpX_rowOf
  dsimp only
  rw [rr_P_col hv, rr_P_row hv]
  have hx := hv.1
  have hy := hv.2.1
  refine rx_value hP hx hy ?_
  refine rx_reach (n := 0) (s := 24 * y + x) _ _ (rr_FI_0 hP) ?_ (fun r' q' n' Q' i' s' e' l' c' => ?_)
  · intro X Y hX hY eX eY _
    rw [nI_eq (by omega) (by omega)] at eX eY
    subst eX eY
    exact rr_conn_0 P _
  · exact rx_flood_l (fun ra' qa' Q a b => h1 x y hv _ ra' qa' Q a b) i' (by omega) (c' x y hx hy rfl rfl rfl)
/-! the component's move -/
def rr_stp (d : Int32) : Prop := -24 ≤ d.toInt ∧ d.toInt ≤ 24
theorem rr_m24 (d : Int32) : d < (-24) ↔ d.toInt < -24 := by
  rw [Int32.lt_iff_toInt_lt, show (-24 : Int32).toInt = -24 from by decide]
theorem rr_p24 (d : Int32) : 24 < d ↔ 24 < d.toInt := by
  rw [Int32.lt_iff_toInt_lt, show (24 : Int32).toInt = 24 from by decide]
theorem rr_p24l (d : Int32) : d ≤ 24 ↔ d.toInt ≤ 24 := by
  rw [Int32.le_iff_toInt_le, show (24 : Int32).toInt = 24 from by decide]
theorem rx_step {post : Int32 → Prop} (d : Int32) (h1 : rr_stp d → post 1) (h0 : ¬ rr_stp d → post 0) : wpX_isStep post d := by
  refine ek_if (rr_m24 d) (fun z => h0 (fun w => by have := w.1; omega)) (fun z => ?_)
  exact ek_if (rr_p24 d) (fun y => h0 (fun w => by have := w.2; omega)) (fun y => h1 ⟨by omega, by omega⟩)
theorem rx_shift {post : Int32 → Prop} {ra : Nat → Int32} {P : Nat → Bool} (hP : rr_RX ra P) {s y : Nat} {dx : Int32} {dy : Int} (hd : rr_stp dx) (hs : s < 24) (hdy : (y : Int) - dy = s) (h : ∀ r, (∀ x, x < 32 → bt r x = (decide (x < 24) && rr_mv P dx.toInt dy (24 * y + x))) → post r) : wpX_shifted post (ra s) dx := by
  have h1 := hd.1
  have h2 := hd.2
  refine ek_if (d := 0 ≤ dx.toInt) (by rw [Int32.le_iff_toInt_le, show (0 : Int32).toInt = 0 from by decide]) (fun z => ?_) (fun z => ?_)
  · have e : dx = nI dx.toInt.toNat := by
      rw [rr_n, show ((dx.toInt.toNat : Nat) : Int) = dx.toInt by omega]
      exact rr_of dx
    refine h _ (fun x hx => ?_)
    have w := rr_shL hP (n := dx.toInt.toNat) (s := s) (x := x) (y := y) (dx := dx.toInt) (dy := dy) (by omega) hs (by omega) hdy hx
    rw [← e] at w
    exact w
  · have e : -dx = nI (-dx.toInt).toNat := by
      rw [rr_n, show (((-dx.toInt).toNat : Nat) : Int) = -dx.toInt by omega, ← rr_neg]
      exact congrArg (fun t => -t) (rr_of dx)
    refine h _ (fun x hx => ?_)
    have w := rr_shR hP (n := (-dx.toInt).toNat) (s := s) (x := x) (y := y) (dx := dx.toInt) (dy := dy) (by omega) hs (by omega) hdy hx
    rw [← e] at w
    exact w
theorem rx_move2 {post : Int32 → SX → Prop} {q p : Int32} {ra fa ma qa : Nat → Int32} {P : Nat → Bool} {c : Int32} (hM : rr_RX ma P) (h : ∀ ra', rr_RX ra' P → post (c - nI (rr_cnt P 576)) (q, p, ra', fa, ma, qa)) : ∃ n76 : Nat, wX_move_76 post c q p n76 0 ra fa ma qa := by
  refine loop_0 (fun n i s => wX_move_76 post c q p n (nI i) s fa ma qa) (fun i s => ∀ y, y < i → s y = ma y) 24 ra (fun y hy => absurd hy (Nat.not_lt_zero y)) ?_ ?_
  · intro n s hI
    have hR : rr_RX s P := fun y hy x hx => by rw [hI y hy]; exact hM y hy x hx
    refine br_t rr_24 ?_
    exact rx_count hR (h s hR)
  · intro n i s hi hI hk
    refine br_f (rr_l24 hi) ⟨vp_in_nI hi (by decide), vp_in_nI hi (by decide), ?_⟩
    rw [rr_cl (by omega)]
    refine nm_e (nm_r (nI_1 i) (hk _ ?_))
    intro y hy
    by_cases e : y = i
    · rw [e]; exact pk_us
    · show upd s i (ma i) y = ma y
      rw [pk_un e]
      exact hI y (by omega)
theorem rx_move {post : Int32 → SX → Prop} {q p : Int32} {ra fa ma qa : Nat → Int32} {P : Nat → Bool} (hP : rr_RX ra P) (d e : Int32) (h1 : rr_stp d ∧ rr_stp e → ∀ ra' ma', rr_RX ra' (rr_mv P d.toInt e.toInt) → post (nI (rr_cnt P 576) - nI (rr_cnt (rr_mv P d.toInt e.toInt) 576)) (q, p, ra', fa, ma', qa)) (h0 : ¬ (rr_stp d ∧ rr_stp e) → post (-1) (q, p, ra, fa, ma, qa)) : wpX_move post (q, p, ra, fa, ma, qa) d e := by
  unfold wpX_move
  dsimp only
  refine rx_step d (fun hd => br_f rr_10 ?_) (fun z => br_t rfl (h0 (fun w => z w.1)))
  refine rx_step e (fun he => br_f rr_10 ?_) (fun z => br_t rfl (h0 (fun w => z w.2)))
  refine rx_count hP ?_
  refine loop_0 (fun n i s => wX_move_24 post d e (nI (rr_cnt P 576)) q p n (nI i) ra fa s qa) (fun i s => ∀ y, y < i → ∀ x, x < 32 → bt (s y) x = (decide (x < 24) && rr_mv P d.toInt e.toInt (24 * y + x))) 24 ma (fun y hy => absurd hy (Nat.not_lt_zero y)) ?_ ?_
  · intro n s hI
    exact br_t rr_24 (rx_move2 (P := rr_mv P d.toInt e.toInt) hI (fun ra' hR => h1 ⟨hd, he⟩ ra' s hR))
  · intro n i s hi hI hk
    have he1 := he.1
    have he2 := he.2
    have ex : nI i - e = rr_i ((i : Int) - e.toInt) := by
      rw [← rr_sub, ← rr_n]
      exact congrArg (fun t => nI i - t) (rr_of e)
    have up : ∀ v, (∀ x, x < 32 → bt v x = (decide (x < 24) && rr_mv P d.toInt e.toInt (24 * i + x))) → ∀ y, y < i + 1 → ∀ x, x < 32 → bt (upd s i v y) x = (decide (x < 24) && rr_mv P d.toInt e.toInt (24 * y + x)) := by
      intro v hv y hy x hx
      by_cases ey : y = i
      · subst ey
        rw [pk_us]
        exact hv x hx
      · rw [pk_un ey]
        exact hI y (by omega) x hx
    refine br_f (rr_l24 hi) (nm_e ?_)
    refine rx_side _ (fun m hm em => br_f rr_10 ?_) (fun z => br_t rfl ⟨vp_in_nI hi (by decide), ?_⟩)
    · rw [em]
      refine ⟨vp_in_nI hm (by decide), ?_⟩
      rw [rr_cl (show m < 576 by omega), rr_cl (show i < 576 by omega)]
      rw [ex, rr_n, rr_eq (by omega) (by omega)] at em
      refine rx_shift hP hd hm em (fun r hr => ⟨vp_in_nI hi (by decide), ?_⟩)
      exact nm_e (nm_r (nI_1 i) (hk _ (up r hr)))
    · rw [rr_cl (show i < 576 by omega)]
      refine nm_e (nm_r (nI_1 i) (hk _ (up 0 (fun x hx => rr_sh0 ?_))))
      intro w
      refine z ((i : Int) - e.toInt).toNat (by omega) ?_
      rw [ex, rr_n]
      exact congrArg rr_i (by omega)
end
section
/-! the reference's figures -/
theorem rr_320 : ¬ (32 : Int32) = 0 := by decide
theorem rr_240 : ¬ (24 : Int32) = 0 := by decide
theorem ry_pix {post : Int32 → Prop} {fp : Int32} {sa fa : Nat → Int32} (v : Int32) (h1 : ∀ x y, rr_P v x y → post 1) (h0 : (¬ ∃ x y, rr_P v x y) → post 0) : wpY_isPixel post (fp, sa, fa) v := by
  unfold wpY_isPixel
  dsimp only
  by_cases h : v < 0
  · refine br_t h (h0 ?_)
    rintro ⟨x, y, a1, a2, rfl⟩
    exact nI_pos (by omega) h
  · refine br_f h ⟨rr_320, ?_⟩
    obtain ⟨n, hn, rfl⟩ := nI_of h
    have no : ¬ (n % 32 < 24 ∧ n / 32 < 24) → ¬ ∃ x y, rr_P (nI n) x y := by
      rintro z ⟨x, y, a1, a2, e⟩
      rw [nI_eq hn (by omega)] at e
      omega
    rw [rr_rem32 hn, rr_div32 hn]
    refine pk_lt 23 (n % 32) (fun z => h0 (no (by omega))) (fun z => ⟨rr_320, ?_⟩)
    exact pk_lt 23 (n / 32) (fun w => h0 (no (by omega))) (fun w => h1 (n % 32) (n / 32) ⟨by omega, by omega, congrArg nI (by omega)⟩)
theorem ry_size {post : Int32 → Prop} {fp : Int32} {sa fa : Nat → Int32} {U : Int} (hU : -1000 ≤ U ∧ U ≤ 1000) (h : post (nI U.natAbs)) : wpY_size post (fp, sa, fa) (rr_i U) := by
  have e0 : (0 : Int32) = rr_i 0 := rfl
  rw [rr_n] at h
  refine ek_if (d := 0 ≤ U) (by rw [e0, rr_le (by omega) (by omega)]) (fun z => ?_) (fun z => ?_)
  · rw [show (U.natAbs : Int) = U by omega] at h
    exact h
  · rw [show (U.natAbs : Int) = -U by omega] at h
    rw [rr_neg]
    exact h
theorem ry_ink40 {post : Int32 → SY → Prop} {J : Int32 → Int32 → (Nat → Int32) → (Nat → Int32) → Prop} {x1 fp : Int32} {sa fa : Nat → Int32} {i : Nat} (hi : i < 576) {now b f : Bool} (hs : sa i = rr_bi b) (hf : fa i = rr_bi f) (hk0 : f = false ∨ b = now → J x1 (nI (i + 1)) sa fa) (hk1 : f = true → b ≠ now → J (x1 + 1) (nI (i + 1)) (upd sa i (rr_bi now)) fa) : wY_ink_40 post J x1 (nI i) (rr_bi now) fp sa fa := by
  unfold wY_ink_40
  rw [rr_cl hi, hs, hf, rr_vb]
  refine ⟨vp_in_nI hi (by decide), ek_if (rr_bi_0 f) (fun z => nm_r (nI_1 i) (hk0 (Or.inl z))) (fun z => ⟨vp_in_nI hi (by decide), ?_⟩)⟩
  refine ek_if (rr_bi_e b now) (fun w => nm_r (nI_1 i) (hk0 (Or.inr w))) (fun w => ⟨vp_in_nI hi (by decide), nm_e (nm_e (nm_r (nI_1 i) (hk1 ?_ w)))⟩)
  cases f
  · exact absurd rfl z
  · rfl
theorem ry_ink {post : Int32 → SY → Prop} {p : Nat} {sa fa : Nat → Int32} {P F : Nat → Bool} (hp : p ≤ 2) (hP : rr_RY sa P) (hF : rr_RY fa F) (h : ∀ sa', rr_RY sa' (rr_dr p P F) → post (nI (rr_cnt (rr_df p P F) 576)) (nI p, sa', fa)) : wpY_ink post (nI p, sa, fa) := by
  show ∃ n4 : Nat, wY_ink_4 post (nI p) n4 0 0 sa fa
  refine loop_0 (fun n i (s : Int32 × (Nat → Int32)) => wY_ink_4 post (nI p) n s.1 (nI i) s.2 fa) (fun i s => s.1 = nI (rr_cnt (rr_df p P F) i) ∧ ∀ k, k < 576 → s.2 k = rr_bi (if k < i then rr_dr p P F k else P k)) 576 (0, sa) ⟨rfl, fun k hk => by rw [if_neg (Nat.not_lt_zero k)]; exact hP k hk⟩ ?_ ?_
  · rintro n ⟨c, a⟩ ⟨h1, h2⟩
    dsimp only at h1 h2 ⊢
    subst h1
    exact br_t rr_576 (h a (fun k hk => by rw [h2 k hk, if_pos hk]))
  · rintro n i ⟨c, a⟩ hi ⟨h1, h2⟩ hk
    dsimp only at h1 h2 ⊢
    subst h1
    have ai : a i = rr_bi (P i) := by rw [h2 i hi, if_neg (Nat.lt_irrefl i)]
    have fin : ∀ now : Bool, now = (decide (p = 0) || (decide (p = 2) && !P i)) → wY_ink_40 post (wY_ink_4 post (nI p) n) (nI (rr_cnt (rr_df p P F) i)) (nI i) (rr_bi now) (nI p) a fa := by
      intro now hn
      have hdr : rr_dr p P F i = if F i = true then now else P i := by rw [hn]; rfl
      refine ry_ink40 hi ai (hF i hi) (fun z => ?_) (fun z1 z2 => ?_)
      · have e1 : rr_dr p P F i = P i := by
          rw [hdr]
          rcases z with z | z
          · rw [z]; rfl
          · rw [z]; cases F i <;> rfl
        have e2 : rr_df p P F i = false := by
          show (P i ^^ rr_dr p P F i) = false
          rw [e1]
          cases P i <;> rfl
        have w := hk (nI (rr_cnt (rr_df p P F) (i + 1)), a) ⟨rfl, fun k hk => ?_⟩
        · rw [rr_cnt_s, e2] at w
          exact w
        · show a k = _
          rw [h2 k hk]
          by_cases e : k = i
          · rw [e, if_neg (Nat.lt_irrefl i), if_pos (Nat.lt_succ_self i), e1]
          · by_cases l : k < i
            · rw [if_pos l, if_pos (by omega)]
            · rw [if_neg l, if_neg (by omega)]
      · have e1 : rr_dr p P F i = now := by rw [hdr, z1]; rfl
        have e2 : rr_df p P F i = true := by
          show (P i ^^ rr_dr p P F i) = true
          rw [e1]
          revert z2
          cases P i <;> cases now <;> decide
        have w := hk (nI (rr_cnt (rr_df p P F) (i + 1)), upd a i (rr_bi now)) ⟨rfl, fun k hk => ?_⟩
        · rw [rr_cnt_s, e2] at w
          rw [nI_1]
          exact w
        · show upd a i (rr_bi now) k = _
          by_cases e : k = i
          · rw [e, pk_us, if_pos (Nat.lt_succ_self i), e1]
          · rw [pk_un e, h2 k hk]
            by_cases l : k < i
            · rw [if_pos l, if_pos (by omega)]
            · rw [if_neg l, if_neg (by omega)]
    refine br_f (rr_l576 hi) ?_
    have hc : p = 0 ∨ p = 1 ∨ p = 2 := by omega
    rcases hc with rfl | rfl | rfl
    · exact br_t rfl (fin true rfl)
    · exact br_f (by decide) (br_f (by decide) (fin false rfl))
    · refine br_f (by decide) (br_t rfl ⟨vp_in_nI hi (by decide), ?_⟩)
      rw [rr_cl hi, ai]
      refine ek_if (rr_bi_0 (P i)) (fun z => fin true (by rw [z]; rfl)) (fun z => fin false ?_)
      cases hb : P i
      · exact absurd hb z
      · rfl
theorem ry_put {s : Nat → Int32} {F : Nat → Bool} {i : Nat} (hI : ∀ j, j < i → s j = rr_bi (F j)) {b : Bool} (hb : F i = b) : ∀ j, j < i + 1 → upd s i (vp_nar .boolean (rr_bi b)) j = rr_bi (F j) := by
  intro j hj
  by_cases e : j = i
  · rw [e, pk_us, rr_vb, hb]
  · rw [pk_un e]
    exact hI j (by omega)
noncomputable def rr_FG (g : Int32 → Int32 → Prop) : Nat → Bool := fun k => rr_dec (rr_G g k)
theorem ry_disc {post : Int32 → SY → Prop} {p : Nat} {sa fa : Nat → Int32} {P : Nat → Bool} {v r : Int32} {x y : Nat} (hv : rr_P v x y) (hp : p ≤ 2) (hP : rr_RY sa P) (h : ∀ sa' fa', rr_RY sa' (rr_dr p P (rr_FG (rr_gd r (nI x) (nI y)))) → post (nI (rr_cnt (rr_df p P (rr_FG (rr_gd r (nI x) (nI y)))) 576)) (nI p, sa', fa')) : ∃ n, wY_disc_13 post v r (nI p) n 0 sa fa := by
  refine loop_0 (fun n i s => wY_disc_13 post v r (nI p) n (nI i) sa s) (fun i s => ∀ j, j < i → s j = rr_bi (rr_FG (rr_gd r (nI x) (nI y)) j)) 576 fa (fun j hj => absurd hj (Nat.not_lt_zero j)) ?_ ?_
  · intro n s hs
    refine br_t rr_576 ?_
    exact ry_ink hp hP hs (fun sa' hS => h sa' s hS)
  · intro n i s hi hs hk
    refine br_f (rr_l576 hi) ⟨rr_240, rr_320, nm_e ⟨rr_240, rr_320, nm_e ?_⟩⟩
    rw [rr_rem24 (by omega), rr_div24 (by omega), rr_P_rem hv, rr_P_div hv, rr_cl hi]
    refine br_c (fun c => ⟨vp_in_nI hi (by decide), nm_e (nm_r (nI_1 i) (hk _ (ry_put hs (b := false) (rr_dec_f (fun z => z c)))))⟩) (fun c => ⟨vp_in_nI hi (by decide), nm_e (nm_r (nI_1 i) (hk _ (ry_put hs (b := true) (rr_dec_t c))))⟩)
theorem ry_blot {post : Int32 → SY → Prop} {p : Nat} {sa fa : Nat → Int32} {P : Nat → Bool} {v r t : Int32} {x y : Nat} (hv : rr_P v x y) (hp : p ≤ 2) (hP : rr_RY sa P) (h : ∀ sa' fa', rr_RY sa' (rr_dr p P (rr_FG (rr_gb r t (nI x) (nI y)))) → post (nI (rr_cnt (rr_df p P (rr_FG (rr_gb r t (nI x) (nI y)))) 576)) (nI p, sa', fa')) : ∃ n, wY_blot_23 post v r t (nI p) n 0 sa fa := by
  refine loop_0 (fun n i s => wY_blot_23 post v r t (nI p) n (nI i) sa s) (fun i s => ∀ j, j < i → s j = rr_bi (rr_FG (rr_gb r t (nI x) (nI y)) j)) 576 fa (fun j hj => absurd hj (Nat.not_lt_zero j)) ?_ ?_
  · intro n s hs
    refine br_t rr_576 ?_
    exact ry_ink hp hP hs (fun sa' hS => h sa' s hS)
  · intro n i s hi hs hk
    refine br_f (rr_l576 hi) ⟨rr_240, rr_320, nm_e ⟨rr_240, rr_320, nm_e ?_⟩⟩
    rw [rr_rem24 (by omega), rr_div24 (by omega), rr_P_rem hv, rr_P_div hv, rr_cl hi]
    refine br_c (fun c => ⟨vp_in_nI hi (by decide), nm_e (nm_r (nI_1 i) (hk _ (ry_put hs (b := false) (rr_dec_f (fun z => z c)))))⟩) (fun c => ⟨vp_in_nI hi (by decide), nm_e (nm_r (nI_1 i) (hk _ (ry_put hs (b := true) (rr_dec_t c))))⟩)
end
section
/-! the reference's ring, line and triangle -/
theorem ry_arc {post : Int32 → Prop} {fp : Int32} {sa fa : Nat → Int32} {U V : Int} {r : Nat} (hU : -30 ≤ U ∧ U ≤ 30) (hV : -30 ≤ V ∧ V ≤ 30) (hr : r ≤ 30) (h1 : rr_arc U V r → post 1) (h0 : ¬ rr_arc U V r → post 0) : wpY_onArc post (fp, sa, fa) (rr_i U) (rr_i V) (nI r) := by
  have b1 := rr_mulb (m := 30) hU hU
  have b2 := rr_mulb (a := (r : Int)) (b := (r : Int)) (m := 30) (by omega) (by omega)
  have b3 := rr_mulb (a := (V.natAbs : Int)) (b := (V.natAbs : Int)) (m := 30) (by omega) (by omega)
  rw [rr_arc_i] at h1 h0
  unfold wpY_onArc
  dsimp only
  refine ry_size (by omega) ?_
  refine nm_r (e' := rr_i ((r : Int) * r - U * U)) (by rw [rr_n, rr_mul, rr_mul, rr_sub]) ?_
  have e0 : (0 : Int32) = rr_i 0 := rfl
  have eq1 : nI V.natAbs * nI V.natAbs + nI V.natAbs = rr_i ((V.natAbs : Int) * (V.natAbs : Int) + (V.natAbs : Int)) := by rw [rr_n, rr_mul, rr_add]
  have eq2 : nI V.natAbs * nI V.natAbs - nI V.natAbs = rr_i ((V.natAbs : Int) * (V.natAbs : Int) - (V.natAbs : Int)) := by rw [rr_n, rr_mul, rr_sub]
  rw [eq1, eq2]
  have bS : -1800 ≤ (r : Int) * r - U * U ∧ (r : Int) * r - U * U ≤ 1800 := by omega
  generalize (r : Int) * r - U * U = S at *
  refine ek_if (d := S < 0) (by rw [e0, rr_lt (by omega) (by omega)]) (fun z => h0 (fun w => by omega)) (fun z => ?_)
  refine ry_size (by omega) ?_
  refine pk_le U.natAbs V.natAbs (fun y => ?_) (fun y => h0 (fun w => by omega))
  refine ek_if (rr_lt (by omega) (by omega)) (fun w => h0 (fun k => by omega)) (fun w => ?_)
  refine pk_eq V.natAbs 0 (fun k => h1 ⟨by omega, y, by omega, Or.inl k⟩) (fun k => ?_)
  exact ek_if (rr_le (by omega) (by omega)) (fun l => h0 (fun k' => by omega)) (fun l => h1 ⟨by omega, y, by omega, Or.inr (by omega)⟩)
noncomputable def rr_FR (a b r : Nat) : Nat → Bool := fun k => rr_dec (rr_arc (((k % 24 : Nat) : Int) - a) (((k / 24 : Nat) : Int) - b) r ∨ rr_arc (((k / 24 : Nat) : Int) - b) (((k % 24 : Nat) : Int) - a) r)
theorem ry_ring {post : Int32 → SY → Prop} {p : Nat} {sa fa : Nat → Int32} {P : Nat → Bool} {v : Int32} {x y r : Nat} (hv : rr_P v x y) (hr : r ≤ 30) (hp : p ≤ 2) (hP : rr_RY sa P) (h : ∀ sa' fa', rr_RY sa' (rr_dr p P (rr_FR x y r)) → post (nI (rr_cnt (rr_df p P (rr_FR x y r)) 576)) (nI p, sa', fa')) : ∃ n, wY_ring_13 post v (nI r) (nI p) n 0 sa fa := by
  have hx := hv.1
  have hy := hv.2.1
  refine loop_0 (fun n i s => wY_ring_13 post v (nI r) (nI p) n (nI i) sa s) (fun i s => ∀ j, j < i → s j = rr_bi (rr_FR x y r j)) 576 fa (fun j hj => absurd hj (Nat.not_lt_zero j)) ?_ ?_
  · intro n s hs
    refine br_t rr_576 ?_
    exact ry_ink hp hP hs (fun sa' hS => h sa' s hS)
  · intro n i s hi hs hk
    refine br_f (rr_l576 hi) ⟨rr_240, rr_320, nm_e ⟨rr_240, rr_320, nm_e ?_⟩⟩
    rw [rr_rem24 (by omega), rr_div24 (by omega), rr_P_rem hv, rr_P_div hv, rr_cl hi, rr_nsub, rr_nsub]
    refine ry_arc (by omega) (by omega) hr (fun c => br_f rr_10 ⟨vp_in_nI hi (by decide), nm_e (nm_r (nI_1 i) (hk _ (ry_put hs (b := true) (rr_dec_t (Or.inl c)))))⟩) (fun c => br_t rfl ?_)
    refine ry_arc (by omega) (by omega) hr (fun d => br_f rr_10 ⟨vp_in_nI hi (by decide), nm_e (nm_r (nI_1 i) (hk _ (ry_put hs (b := true) (rr_dec_t (Or.inr d)))))⟩) (fun d => br_t rfl ⟨vp_in_nI hi (by decide), nm_e (nm_r (nI_1 i) (hk _ (ry_put hs (b := false) (rr_dec_f (fun z => z.elim c d)))))⟩)
theorem ry_near {post : Int32 → Prop} {fp : Int32} {sa fa : Nat → Int32} {x y a b c d : Nat} (hx : x < 24) (hy : y < 24) (ha : a < 24) (hb : b < 24) (hc : c < 24) (hd : d < 24) (h : post (rr_bi (rr_nr x y a b c d))) : wpY_nearest post (fp, sa, fa) (nI x) (nI y) (nI a) (nI b) (nI c) (nI d) := by
  have b1 := rr_mulb (a := (c : Int) - a) (b := (y : Int) - b) (m := 23) (by omega) (by omega)
  have b2 := rr_mulb (a := (d : Int) - b) (b := (x : Int) - a) (m := 23) (by omega) (by omega)
  unfold rr_nr at h
  unfold wpY_nearest
  dsimp only
  refine nm_r (rr_nsub c a) (nm_r (e' := rr_i (2 * (((c : Int) - a) * ((y : Int) - b) - ((d : Int) - b) * ((x : Int) - a)))) ?_ ?_)
  · rw [rr_nsub, rr_nsub, rr_nsub, rr_mul, rr_mul, rr_sub]
    exact rr_mul 2 _
  · generalize ((c : Int) - a) * ((y : Int) - b) = X at *
    generalize ((d : Int) - b) * ((x : Int) - a) = Y at *
    have no : ¬ (a ≤ x ∧ x ≤ c ∧ -((c : Int) - a) ≤ 2 * (X - Y) ∧ 2 * (X - Y) < (c : Int) - a) → post 0 := fun z => by
      rw [decide_eq_false z] at h
      exact h
    rw [rr_neg]
    refine pk_lt x a (fun z => no (by omega)) (fun z => ?_)
    refine pk_lt c x (fun z => no (by omega)) (fun z' => ?_)
    refine ek_if (rr_lt (by omega) (by omega)) (fun w => no (by omega)) (fun w => ?_)
    refine ek_if (rr_le (by omega) (by omega)) (fun w => no (by omega)) (fun w' => ?_)
    rw [decide_eq_true (by omega)] at h
    exact h
theorem rr_dist_i {a b : Nat} : ((a : Int) - b).natAbs = rr_dist a b := by
  unfold rr_dist
  by_cases z : a < b
  · rw [if_pos z]; omega
  · rw [if_neg z]; omega
theorem ry_ol30 {post : Int32 → Prop} {fp : Int32} {sa fa : Nat → Int32} {x y a b c d : Nat} (hx : x < 24) (hy : y < 24) (ha : a < 24) (hb : b < 24) (hc : c < 24) (hd : d < 24) (hn : ¬ (a = c ∧ b = d)) (h : post (rr_bi (rr_ol x y a b c d))) : wY_onLine_30 post (nI x) (nI y) (nI a) (nI b) (nI c) (nI d) fp sa fa := by
  unfold wY_onLine_30
  unfold rr_ol at h
  rw [if_neg hn] at h
  have d1 := rr_dist_le ha hc
  have d2 := rr_dist_le hb hd
  rw [rr_nsub, rr_nsub]
  refine ry_size (by omega) ?_
  refine ry_size (by omega) ?_
  rw [rr_dist_i, rr_dist_i]
  refine pk_lt (rr_dist a c) (rr_dist b d) (fun z => ?_) (fun z => ?_)
  · rw [if_neg (by omega)] at h
    refine pk_le d b (fun w => ?_) (fun w => ?_)
    · rw [if_neg (by omega)] at h
      exact ry_near hy hx hd hc hb ha ⟨rr_nb _, h⟩
    · rw [if_pos w] at h
      exact ry_near hy hx hb ha hd hc ⟨rr_nb _, h⟩
  · rw [if_pos z] at h
    refine pk_le c a (fun w => ?_) (fun w => ?_)
    · rw [if_neg (by omega)] at h
      exact ry_near hx hy hc hd ha hb ⟨rr_nb _, h⟩
    · rw [if_pos w] at h
      exact ry_near hx hy ha hb hc hd ⟨rr_nb _, h⟩
theorem ry_ol {post : Int32 → Prop} {fp : Int32} {sa fa : Nat → Int32} {x y a b c d : Nat} (hx : x < 24) (hy : y < 24) (ha : a < 24) (hb : b < 24) (hc : c < 24) (hd : d < 24) (h : post (rr_bi (rr_ol x y a b c d))) : wpY_onLine post (fp, sa, fa) (nI x) (nI y) (nI a) (nI b) (nI c) (nI d) := by
  unfold wpY_onLine
  dsimp only
  refine pk_eq a c (fun e1 => ?_) (fun e1 => ry_ol30 hx hy ha hb hc hd (fun z => e1 z.1) h)
  refine pk_eq b d (fun e2 => ?_) (fun e2 => ry_ol30 hx hy ha hb hc hd (fun z => e2 z.2) h)
  unfold rr_ol at h
  rw [if_pos ⟨e1, e2⟩] at h
  refine pk_eq x a (fun e3 => ?_) (fun e3 => ?_)
  · refine pk_eq y b (fun e4 => ?_) (fun e4 => ?_)
    · rw [decide_eq_true ⟨e3, e4⟩] at h
      exact h
    · rw [decide_eq_false (fun z => e4 z.2)] at h
      exact h
  · rw [decide_eq_false (fun z => e3 z.1)] at h
    exact h
def rr_FL (a b c d : Nat) : Nat → Bool := fun k => rr_ol (k % 24) (k / 24) a b c d
theorem ry_line {post : Int32 → SY → Prop} {p : Nat} {sa fa : Nat → Int32} {P : Nat → Bool} {v w : Int32} {a b c d : Nat} (hv : rr_P v a b) (hw : rr_P w c d) (hp : p ≤ 2) (hP : rr_RY sa P) (h : ∀ sa' fa', rr_RY sa' (rr_dr p P (rr_FL a b c d)) → post (nI (rr_cnt (rr_df p P (rr_FL a b c d)) 576)) (nI p, sa', fa')) : ∃ n, wY_line_20 post v w (nI p) n 0 sa fa := by
  refine loop_0 (fun n i s => wY_line_20 post v w (nI p) n (nI i) sa s) (fun i s => ∀ j, j < i → s j = rr_bi (rr_FL a b c d j)) 576 fa (fun j hj => absurd hj (Nat.not_lt_zero j)) ?_ ?_
  · intro n s hs
    refine br_t rr_576 ?_
    exact ry_ink hp hP hs (fun sa' hS => h sa' s hS)
  · intro n i s hi hs hk
    refine br_f (rr_l576 hi) ⟨rr_240, rr_240, rr_320, rr_320, rr_320, rr_320, ?_⟩
    rw [rr_rem24 (by omega), rr_div24 (by omega), rr_P_rem hv, rr_P_div hv, rr_P_rem hw, rr_P_div hw]
    refine ry_ol (by omega) (by omega) hv.1 hv.2.1 hw.1 hw.2.1 ⟨vp_in_nI hi (by decide), ?_⟩
    rw [rr_cl hi]
    exact nm_e (nm_r (nI_1 i) (hk _ (ry_put hs rfl)))
theorem ry_side {post : Int32 → Prop} {fp : Int32} {sa fa : Nat → Int32} {v1 v2 : Int32} {x1 y1 x2 y2 : Nat} (h1 : rr_P v1 x1 y1) (h2 : rr_P v2 x2 y2) (x y : Int32) (t : post (rr_sd x1 y1 x2 y2 x y)) : wpY_side post (fp, sa, fa) x y v1 v2 := by
  unfold wpY_side
  dsimp only
  rw [rr_P_rem h1, rr_P_rem h2, rr_P_div h1, rr_P_div h2]
  exact ⟨rr_320, rr_320, rr_320, rr_320, rr_320, rr_320, t⟩
theorem ry_btw {post : Int32 → Prop} {fp : Int32} {sa fa : Nat → Int32} {a b c v : Int32} (h1 : rr_sp a b c v → post 1) (h0 : ¬ rr_sp a b c v → post 0) : wpY_between post (fp, sa, fa) v a b c := by
  have go : (a ≤ v ∨ b ≤ v ∨ c ≤ v) → wY_between_16 post v a b c fp sa fa := fun B =>
    br_c (fun x => h1 ⟨B, Or.inl x⟩) (fun x => br_c (fun y => h1 ⟨B, Or.inr (Or.inl y)⟩) (fun y => br_c (fun z => h0 (fun w => w.2.elim x (fun w => w.elim y (fun w => absurd z (Int32.not_lt.mpr w))))) (fun z => h1 ⟨B, Or.inr (Or.inr (Int32.not_lt.mp z))⟩)))
  exact br_c (fun x => go (Or.inl x)) (fun x => br_c (fun y => go (Or.inr (Or.inl y))) (fun y => br_c (fun z => h0 (fun w => w.1.elim x (fun w => w.elim y (fun w => absurd z (Int32.not_lt.mpr w))))) (fun z => go (Or.inr (Or.inr (Int32.not_lt.mp z))))))
theorem ry_tri0 {post : Int32 → Prop} {fp : Int32} {sa fa : Nat → Int32} {v1 v2 v3 : Int32} {x1 y1 x2 y2 x3 y3 : Nat} (h1 : rr_P v1 x1 y1) (h2 : rr_P v2 x2 y2) (h3 : rr_P v3 x3 y3) (x y : Int32) (t : rr_gt x1 y1 x2 y2 x3 y3 x y → post 1) (f : ¬ rr_gt x1 y1 x2 y2 x3 y3 x y → post 0) : wpY_inTriangle post (fp, sa, fa) x y v1 v2 v3 := by
  unfold rr_gt at t f
  unfold wpY_inTriangle
  dsimp only
  refine ry_side h1 h2 _ _ ?_
  refine ry_side h2 h3 _ _ ?_
  refine ry_side h3 h1 _ _ ?_
  generalize rr_sd x1 y1 x2 y2 x y = a at *
  generalize rr_sd x2 y2 x3 y3 x y = b at *
  generalize rr_sd x3 y3 x1 y1 x y = c at *
  have yes : rr_ins a b c → wY_inTriangle_64 post x y v1 v2 v3 fp sa fa := by
    intro hi
    unfold wY_inTriangle_64 wY_inTriangle_69
    rw [rr_P_rem h1, rr_P_rem h2, rr_P_rem h3, rr_P_div h1, rr_P_div h2, rr_P_div h3]
    refine br_f rr_10 ⟨rr_320, rr_320, rr_320, ?_⟩
    refine ry_btw (fun u => br_f rr_10 ⟨rr_320, rr_320, rr_320, ?_⟩) (fun u => br_t rfl (f (fun z => u z.2.1)))
    exact ry_btw (fun w => br_f rr_10 (t ⟨hi, u, w⟩)) (fun w => br_t rfl (f (fun z => w z.2.2)))
  have no : ¬ rr_ins a b c → wY_inTriangle_68 post x y v1 v2 v3 fp sa fa := fun hi => br_t rfl (f (fun z => hi z.1))
  have go : ¬ (¬ a < 0 ∧ ¬ b < 0 ∧ 0 ≤ c) → wY_inTriangle_49 post x y v1 v2 v3 a b c fp sa fa := fun n =>
    br_c (fun u => no (fun z => z.elim n (fun z => z.1 u))) (fun u => br_c (fun w => no (fun z => z.elim n (fun z => z.2.1 w))) (fun w => br_c (fun k => no (fun z => z.elim n (fun z => z.2.2 k))) (fun k => yes (Or.inr ⟨u, w, k⟩))))
  exact br_c (fun u => go (fun z => z.1 u)) (fun u => br_c (fun w => go (fun z => z.2.1 w)) (fun w => br_c (fun k => yes (Or.inl ⟨u, w, k⟩)) (fun k => go (fun z => k z.2.2))))
theorem ry_tri {post : Int32 → SY → Prop} {p : Nat} {sa fa : Nat → Int32} {P : Nat → Bool} {v1 v2 v3 : Int32} {x1 y1 x2 y2 x3 y3 : Nat} (h1 : rr_P v1 x1 y1) (h2 : rr_P v2 x2 y2) (h3 : rr_P v3 x3 y3) (hp : p ≤ 2) (hP : rr_RY sa P) (h : ∀ sa' fa', rr_RY sa' (rr_dr p P (rr_FG (rr_gt x1 y1 x2 y2 x3 y3))) → post (nI (rr_cnt (rr_df p P (rr_FG (rr_gt x1 y1 x2 y2 x3 y3))) 576)) (nI p, sa', fa')) : ∃ n, wY_triangle_29 post v1 v2 v3 (nI p) n 0 sa fa := by
  refine loop_0 (fun n i s => wY_triangle_29 post v1 v2 v3 (nI p) n (nI i) sa s) (fun i s => ∀ j, j < i → s j = rr_bi (rr_FG (rr_gt x1 y1 x2 y2 x3 y3) j)) 576 fa (fun j hj => absurd hj (Nat.not_lt_zero j)) ?_ ?_
  · intro n s hs
    refine br_t rr_576 ?_
    exact ry_ink hp hP hs (fun sa' hS => h sa' s hS)
  · intro n i s hi hs hk
    refine br_f (rr_l576 hi) ⟨rr_240, rr_240, ?_⟩
    rw [rr_rem24 (by omega), rr_div24 (by omega)]
    refine ry_tri0 h1 h2 h3 _ _ (fun c => ⟨vp_in_nI hi (by decide), ?_⟩) (fun c => ⟨vp_in_nI hi (by decide), ?_⟩)
    · rw [rr_cl hi]
      exact nm_e (nm_r (nI_1 i) (hk _ (ry_put hs (b := true) (rr_dec_t c))))
    · rw [rr_cl hi]
      exact nm_e (nm_r (nI_1 i) (hk _ (ry_put hs (b := false) (rr_dec_f c))))
end
section
/-! the reference's flood, get, count, row and move -/
theorem rr_nf {b : Bool} (h : ¬ b = false) : b = true := by
  cases b
  · exact absurd rfl h
  · rfl
theorem ry_bes {post : Int32 → Prop} {fp : Int32} {sa fa : Nat → Int32} {F : Nat → Bool} (hF : rr_RY fa F) {k : Nat} (hk : k < 576) (h1 : rr_bes F k → post 1) (h0 : ¬ rr_bes F k → post 0) : wpY_besideFigure post (fp, sa, fa) (nI k) := by
  have e1 : (1 : Int32) = nI 1 := rfl
  have e24 : (24 : Int32) = nI 24 := rfl
  have p58 : ¬ (0 < k % 24 ∧ F (k - 1) = true) → ¬ (k % 24 < 23 ∧ F (k + 1) = true) → ¬ (24 ≤ k ∧ F (k - 24) = true) → wY_besideFigure_58 post (nI k) fp sa fa := by
    intro n1 n2 n3
    unfold wY_besideFigure_58
    refine pk_le 552 k (fun z => h0 ?_) (fun z => ?_)
    · rintro (w | w | w | w)
      · exact n1 w
      · exact n2 w
      · exact n3 w
      · omega
    · have ea : nI k + 24 = nI (k + 24) := nI_add k 24
      rw [ea, rr_cl (by omega), hF (k + 24) (by omega)]
      refine ⟨vp_in_nI (by omega) (by decide), ek_if (rr_bi_0 _) (fun w => h0 ?_) (fun w => h1 (Or.inr (Or.inr (Or.inr ⟨z, rr_nf w⟩))))⟩
      rintro (u | u | u | u)
      · exact n1 u
      · exact n2 u
      · exact n3 u
      · rw [w] at u
        exact absurd u.2 (by decide)
  have p40 : ¬ (0 < k % 24 ∧ F (k - 1) = true) → ¬ (k % 24 < 23 ∧ F (k + 1) = true) → wY_besideFigure_40 post (nI k) fp sa fa := by
    intro n1 n2
    unfold wY_besideFigure_40
    refine pk_lt k 24 (fun z => p58 n1 n2 (fun w => by omega)) (fun z => ?_)
    have ea : nI k - 24 = nI (k - 24) := pk_sub (b := 24) z
    rw [ea, rr_cl (by omega), hF (k - 24) (by omega)]
    refine ⟨vp_in_nI (by omega) (by decide), ek_if (rr_bi_0 _) (fun w => p58 n1 n2 (fun u => ?_)) (fun w => h1 (Or.inr (Or.inr (Or.inl ⟨z, rr_nf w⟩))))⟩
    rw [w] at u
    exact absurd u.2 (by decide)
  have p18 : ¬ (0 < k % 24 ∧ F (k - 1) = true) → wY_besideFigure_18 post (nI k) fp sa fa := by
    intro n1
    unfold wY_besideFigure_18
    rw [rr_rem24 (by omega)]
    refine ⟨rr_240, pk_le 23 (k % 24) (fun z => p40 n1 (fun w => by omega)) (fun z => ?_)⟩
    have ea : nI k + 1 = nI (k + 1) := nI_1 k
    rw [ea, rr_cl (by omega), hF (k + 1) (by omega)]
    refine ⟨vp_in_nI (by omega) (by decide), ek_if (rr_bi_0 _) (fun w => p40 n1 (fun u => ?_)) (fun w => h1 (Or.inr (Or.inl ⟨z, rr_nf w⟩)))⟩
    rw [w] at u
    exact absurd u.2 (by decide)
  unfold wpY_besideFigure
  dsimp only
  rw [rr_rem24 (by omega)]
  refine ⟨rr_240, pk_le (k % 24) 0 (fun z => p18 (fun w => by omega)) (fun z => ?_)⟩
  have ea : nI k - 1 = nI (k - 1) := pk_sub (b := 1) (by omega)
  rw [ea, rr_cl (by omega), hF (k - 1) (by omega)]
  refine ⟨vp_in_nI (by omega) (by decide), ek_if (rr_bi_0 _) (fun w => p18 (fun u => ?_)) (fun w => h1 (Or.inl ⟨z, rr_nf w⟩))⟩
  rw [w] at u
  exact absurd u.2 (by decide)
theorem ry_RYput {fa : Nat → Int32} {F : Nat → Bool} (h : rr_RY fa F) (k : Nat) : rr_RY (upd fa k (vp_nar .boolean 1)) (rr_put F k) := by
  intro j hj
  by_cases e : j = k
  · rw [e, pk_us, rr_put_s]
    exact rr_vb true
  · rw [pk_un e, rr_put_n e]
    exact h j hj
/-- the last loop: what is in the figure is turned over -/
theorem ry_turn {post : Int32 → SY → Prop} {fp : Int32} {sa fa : Nat → Int32} {P F : Nat → Bool} (hP : rr_RY sa P) (hF : rr_RY fa F) (h : ∀ sa', rr_RY sa' (fun k => P k ^^ F k) → post (nI (rr_cnt F 576)) (fp, sa', fa)) : ∃ n, wY_flood_147 post fp n 0 0 sa fa := by
  refine loop_0 (fun n i (s : Int32 × (Nat → Int32)) => wY_flood_147 post fp n s.1 (nI i) s.2 fa) (fun i s => s.1 = nI (rr_cnt F i) ∧ ∀ k, k < 576 → s.2 k = rr_bi (if k < i then P k ^^ F k else P k)) 576 (0, sa) ⟨rfl, fun k hk => by rw [if_neg (Nat.not_lt_zero k)]; exact hP k hk⟩ ?_ ?_
  · rintro n ⟨c, a⟩ ⟨h1, h2⟩
    dsimp only at h1 h2 ⊢
    subst h1
    exact br_t rr_576 (h a (fun k hk => by rw [h2 k hk, if_pos hk]))
  · rintro n i ⟨c, a⟩ hi ⟨h1, h2⟩ hk
    dsimp only at h1 h2 ⊢
    subst h1
    have ai : a i = rr_bi (P i) := by rw [h2 i hi, if_neg (Nat.lt_irrefl i)]
    have up : ∀ b, b = (P i ^^ F i) → ∀ k, k < 576 → upd a i (rr_bi b) k = rr_bi (if k < i + 1 then P k ^^ F k else P k) := by
      intro b hb k hk
      by_cases e : k = i
      · rw [e, pk_us, if_pos (Nat.lt_succ_self i), hb]
      · rw [pk_un e, h2 k hk]
        by_cases l : k < i
        · rw [if_pos l, if_pos (by omega)]
        · rw [if_neg l, if_neg (by omega)]
    refine br_f (rr_l576 hi) ⟨vp_in_nI hi (by decide), ?_⟩
    rw [rr_cl hi, hF i hi, ai]
    refine ek_if (rr_bi_0 (F i)) (fun z => ?_) (fun z => ⟨vp_in_nI hi (by decide), ?_⟩)
    · refine nm_r (nI_1 i) ?_
      have w := hk (nI (rr_cnt F (i + 1)), a) ⟨rfl, fun k hk => ?_⟩
      · rw [rr_cnt_s, z] at w
        exact w
      · show a k = _
        rw [h2 k hk]
        by_cases e : k = i
        · rw [e, if_neg (Nat.lt_irrefl i), if_pos (Nat.lt_succ_self i), z, Bool.xor_false]
        · by_cases l : k < i
          · rw [if_pos l, if_pos (by omega)]
          · rw [if_neg l, if_neg (by omega)]
    · have ft : F i = true := rr_nf z
      have cn : nI (rr_cnt F i) + 1 = nI (rr_cnt F (i + 1)) := by
        rw [rr_cnt_s, ft, nI_1]
        rfl
      refine ek_if (rr_bi_0 (P i)) (fun y => ⟨vp_in_nI hi (by decide), ?_⟩) (fun y => ⟨vp_in_nI hi (by decide), ?_⟩)
      · exact nm_r (congrArg (upd a i) (rr_vb true)) (nm_r cn (nm_r (nI_1 i) (hk (nI (rr_cnt F (i + 1)), upd a i (rr_bi true)) ⟨rfl, up true (by rw [y, ft]; rfl)⟩)))
      · have pt : P i = true := rr_nf y
        exact nm_r (congrArg (upd a i) (rr_vb false)) (nm_r cn (nm_r (nI_1 i) (hk (nI (rr_cnt F (i + 1)), upd a i (rr_bi false)) ⟨rfl, up false (by rw [pt, ft]; rfl)⟩)))
/-- one round over all pixels -/
theorem ry_round {post : Int32 → SY → Prop} {J : Int32 → Int32 → (Nat → Int32) → (Nat → Int32) → Prop} {fp : Int32} {sa fa : Nat → Int32} {P F : Nat → Bool} {s i : Nat} (h5 : s < 576) (hP : rr_RY sa P) (hF : rr_RY fa F) (hY : rr_YI P s F) (hJ : ∀ (m : Nat) fa' F', m ≤ 1 → rr_RY fa' F' → rr_YI P s F' → rr_cnt F 576 + m ≤ rr_cnt F' 576 → (m = 0 → rr_Yc P s F' 576) → J (nI m) (nI (i + 1)) sa fa') : ∃ n, wY_flood_76 post J (nI s) (nI i) fp n 0 0 sa fa := by
  refine loop_0 (fun n k (w : Int32 × (Nat → Int32)) => wY_flood_76 post J (nI s) (nI i) fp n w.1 (nI k) sa w.2) (fun k w => ∃ m F', w.1 = nI m ∧ m ≤ 1 ∧ rr_RY w.2 F' ∧ rr_YI P s F' ∧ rr_cnt F 576 + m ≤ rr_cnt F' 576 ∧ (m = 0 → rr_Yc P s F' k)) 576 (0, fa) ⟨0, F, rfl, by omega, hF, hY, by omega, fun _ j hj => absurd hj (Nat.not_lt_zero j)⟩ ?_ ?_
  · rintro n ⟨c, a⟩ ⟨m, F', h1, h2, h3, h4, h6, h7⟩
    dsimp only at h1 h3 ⊢
    subst h1
    exact br_t rr_576 (nm_r (nI_1 i) (hJ m a F' h2 h3 h4 h6 h7))
  · rintro n k ⟨c, a⟩ hk5 ⟨m, F', h1, h2, h3, h4, h6, h7⟩ hk
    dsimp only at h1 h3 ⊢
    subst h1
    have stay : (F' k = false → P k = P s → ¬ rr_bes F' k) → wY_flood_76 post J (nI s) (nI i) fp n (nI m) (nI (k + 1)) sa a := by
      intro z
      refine hk (nI m, a) ⟨m, F', rfl, h2, h3, h4, h6, fun e j hj => ?_⟩
      by_cases ej : j = k
      · rw [ej]; exact z
      · exact h7 e j (by omega)
    refine br_f (rr_l576 hk5) ⟨vp_in_nI hk5 (by decide), ?_⟩
    rw [rr_cl hk5, rr_cl h5, h3 k hk5, hP k hk5, hP s h5]
    refine ek_if (rr_bi_0 (F' k)) (fun z => ⟨vp_in_nI hk5 (by decide), vp_in_nI h5 (by decide), ?_⟩) (fun z => nm_r (nI_1 k) (stay (fun w => absurd w z)))
    refine ek_if (rr_bi_e (P k) (P s)) (fun y => ?_) (fun y => nm_r (nI_1 k) (stay (fun _ w => absurd w y)))
    refine ry_bes h3 hk5 (fun b => br_f rr_10 ⟨vp_in_nI hk5 (by decide), nm_e (nm_r (nI_1 k) ?_)⟩) (fun b => br_t rfl (nm_r (nI_1 k) (stay (fun _ _ => b))))
    refine hk (nI 1, upd a k (vp_nar .boolean 1)) ⟨1, rr_put F' k, rfl, by omega, ry_RYput h3 k, rr_YI_add h4 hk5 y b, ?_, fun e => by omega⟩
    rw [rr_cnt_put z, if_pos hk5]
    omega
theorem ry_rounds {post : Int32 → SY → Prop} {fp : Int32} {sa fa : Nat → Int32} {P F : Nat → Bool} {s : Nat} (h5 : s < 576) (hP : rr_RY sa P) (hF : rr_RY fa F) (hY : rr_YI P s F) (hc : 1 ≤ rr_cnt F 576) (h : ∀ sa' fa' Q, rr_isF P s Q → rr_RY sa' (fun k => P k ^^ Q k) → post (nI (rr_cnt Q 576)) (fp, sa', fa')) : ∃ n, wY_flood_59 post (nI s) fp n 1 0 sa fa := by
  have fin : ∀ fa' F', rr_RY fa' F' → rr_YI P s F' → rr_Yc P s F' 576 → ∃ n, wY_flood_147 post fp n 0 0 sa fa' := fun fa' F' a b c =>
    ry_turn hP a (fun sa' hS => h sa' fa' F' (rr_YI_end b c) hS)
  refine loop_0 (fun n i (w : Int32 × (Nat → Int32)) => wY_flood_59 post (nI s) fp n w.1 (nI i) sa w.2) (fun i w => ∃ m F', w.1 = nI m ∧ m ≤ 1 ∧ rr_RY w.2 F' ∧ rr_YI P s F' ∧ (m = 1 → i + 1 ≤ rr_cnt F' 576) ∧ (m = 0 → rr_Yc P s F' 576)) 576 (1, fa) ⟨1, F, rfl, by omega, hF, hY, fun _ => by omega, fun e => by omega⟩ ?_ ?_
  · rintro n ⟨c, a⟩ ⟨m, F', h1, h2, h3, h4, h6, h7⟩
    have l := rr_cnt_le F' 576
    have m0 : m = 0 := by
      by_cases e : m = 1
      · have := h6 e
        omega
      · omega
    exact br_t rr_576 (fin a F' h3 h4 (h7 m0))
  · rintro n i ⟨c, a⟩ hi ⟨m, F', h1, h2, h3, h4, h6, h7⟩ hk
    dsimp only at h1 h3 ⊢
    subst h1
    refine br_f (rr_l576 hi) (pk_eq m 0 (fun e => fin a F' h3 h4 (h7 e)) (fun e => ?_))
    refine ry_round h5 hP h3 h4 (fun m' fa' F'' g1 g2 g3 g4 g5 => ?_)
    refine hk (nI m', fa') ⟨m', F'', rfl, g1, g2, g3, fun e' => ?_, g5⟩
    have := h6 (by omega)
    omega
theorem ry_at {v : Int32} {x y : Nat} (hv : rr_P v x y) : 24 * (v / 32) + (v - v / 32 * 32) = nI (24 * y + x) := by
  have e : (24 : Int32) * nI y = nI (24 * y) := pk_mul 24 y
  rw [rr_P_rem hv, rr_P_div hv, e, nI_add]
theorem ry_flood {post : Int32 → SY → Prop} {P : Nat → Bool} {fp : Int32} {sa fa : Nat → Int32} (hP : rr_RY sa P) (v : Int32) (h1 : ∀ x y, rr_P v x y → ∀ sa' fa' Q, rr_isF P (24 * y + x) Q → rr_RY sa' (fun k => P k ^^ Q k) → post (nI (rr_cnt Q 576)) (fp, sa', fa')) (h0 : (¬ ∃ x y, rr_P v x y) → post (-1) (fp, sa, fa)) : wpY_flood post (fp, sa, fa) v := by
  unfold wpY_flood
  dsimp only
  refine ry_pix v (fun x y hv => br_f rr_10 ⟨rr_320, rr_320, nm_r (ry_at hv) ?_⟩) (fun z => br_t rfl (h0 z))
  have hx := hv.1
  have hy := hv.2.1
  have h5 : 24 * y + x < 576 := by omega
  have h1' := h1 x y hv
  generalize 24 * y + x = s at *
  refine loop_0 (fun n i w => wY_flood_25 post (nI s) fp n (nI i) sa w) (fun i w => ∀ j, j < i → w j = rr_bi (rr_put (fun _ => false) s j)) 576 fa (fun j hj => absurd hj (Nat.not_lt_zero j)) ?_ ?_
  · intro n w hw
    refine br_t rr_576 ?_
    refine ry_rounds (F := rr_put (fun _ => false) s) h5 hP hw ⟨rr_put_s _ _, fun k hk z => ?_⟩ ?_ (fun sa' fa' Q a b => h1' sa' fa' Q a b)
    · by_cases e : k = s
      · rw [e]; exact rr_conn_0 P s
      · rw [rr_put_n e] at z
        exact absurd z (by decide)
    · rw [rr_cnt_put rfl, if_pos h5]
      omega
  · intro n i w hi hw hk
    refine br_f (rr_l576 hi) ?_
    rw [rr_cl hi]
    refine pk_eq i s (fun e => ⟨vp_in_nI hi (by decide), nm_e (nm_r (nI_1 i) (hk _ (ry_put hw (b := true) ?_)))⟩) (fun e => ⟨vp_in_nI hi (by decide), nm_e (nm_r (nI_1 i) (hk _ (ry_put hw (b := false) ?_)))⟩)
    · rw [e]; exact rr_put_s _ _
    · exact rr_put_n e
theorem ry_count {post : Int32 → Prop} {fp : Int32} {sa fa : Nat → Int32} {P : Nat → Bool} (hP : rr_RY sa P) (h : post (nI (rr_cnt P 576))) : wpY_count post (fp, sa, fa) := by
  show ∃ n4 : Nat, wY_count_4 post fp sa fa n4 0 0
  refine loop_0 (fun n i s => wY_count_4 post fp sa fa n s (nI i)) (fun i s => s = nI (rr_cnt P i)) 576 0 rfl ?_ ?_
  · intro n s hs
    subst hs
    exact br_t rr_576 h
  · intro n i s hi hs hk
    subst hs
    refine br_f (rr_l576 hi) ⟨vp_in_nI hi (by decide), ?_⟩
    rw [rr_cl hi, hP i hi]
    have w := hk (nI (rr_cnt P (i + 1))) rfl
    refine ek_if (rr_bi_0 (P i)) (fun z => nm_r (nI_1 i) ?_) (fun z => nm_r ?_ (nm_r (nI_1 i) w))
    · rw [rr_cnt_s, z] at w
      exact w
    · rw [rr_cnt_s, rr_nf z, nI_1]
      rfl
theorem ry_get {post : Int32 → Prop} {fp : Int32} {sa fa : Nat → Int32} {P : Nat → Bool} (hP : rr_RY sa P) (v : Int32) (h1 : ∀ x y, rr_P v x y → post (rr_bi (P (24 * y + x)))) (h0 : (¬ ∃ x y, rr_P v x y) → post (-1)) : wpY_get post (fp, sa, fa) v := by
  unfold wpY_get
  dsimp only
  refine ry_pix v (fun x y hv => br_f rr_10 ⟨rr_320, rr_320, ?_⟩) (fun z => br_t rfl (h0 z))
  have hx := hv.1
  have hy := hv.2.1
  have w := h1 x y hv
  rw [ry_at hv, rr_cl (by omega), hP _ (by omega)]
  refine ⟨vp_in_nI (by omega) (by decide), ek_if (rr_bi_0 _) (fun z => ?_) (fun z => ?_)⟩
  · rw [z] at w
    exact w
  · rw [rr_nf z] at w
    exact w
theorem ry_row {post : Int32 → Prop} {fp : Int32} {sa fa : Nat → Int32} {P : Nat → Bool} (hP : rr_RY sa P) {y : Nat} (hy : y < 24) (h : ∀ r, (∀ x, x < 32 → bt r x = (decide (x < 24) && P (24 * y + x))) → post r) : ∃ n, wY_row_16 post (nI y) fp sa fa n 0 0 := by
  refine loop_0 (fun n i s => wY_row_16 post (nI y) fp sa fa n s (nI i)) (fun i s => ∀ x, x < 32 → bt s x = (decide (x < i) && P (24 * y + x))) 24 0 (fun x _ => by rw [b_0, decide_eq_false (Nat.not_lt_zero x), Bool.false_and]) ?_ ?_
  · intro n s hs
    exact br_t rr_24 (h s hs)
  · intro n i s hi hs hk
    have e : (24 : Int32) * nI y = nI (24 * y) := pk_mul 24 y
    refine br_f (rr_l24 hi) ?_
    rw [e, nI_add, rr_cl (by omega), hP _ (by omega)]
    refine ⟨vp_in_nI (by omega) (by decide), ek_if (rr_bi_0 _) (fun z => nm_r (nI_1 i) (hk s (fun x hx => ?_))) (fun z => nm_e (nm_r (nI_1 i) (hk _ (fun x hx => ?_))))⟩
    · rw [hs x hx]
      by_cases l : x = i
      · rw [l, z, Bool.and_false, Bool.and_false]
      · by_cases l2 : x < i
        · rw [decide_eq_true l2, decide_eq_true (by omega)]
        · rw [decide_eq_false l2, decide_eq_false (by omega)]
    · rw [b_or, hs x hx, rr_one (by omega) hx]
      by_cases l : x = i
      · rw [l, rr_nf z, decide_eq_true rfl, decide_eq_true (Nat.lt_succ_self i), Bool.or_true]
        rfl
      · rw [decide_eq_false l, Bool.or_false]
        by_cases l2 : x < i
        · rw [decide_eq_true l2, decide_eq_true (by omega)]
        · rw [decide_eq_false l2, decide_eq_false (by omega)]
theorem ry_mv120 {post : Int32 → SY → Prop} {J : Int32 → (Nat → Int32) → (Nat → Int32) → Prop} {x1 x2 x3 fp : Int32} {w fa : Nat → Int32} {P : Nat → Bool} {i X Y : Nat} (hF : rr_RY fa P) (hi : i < 576) (hX : X < 24) (hY : Y < 24) (h : J (nI (i + 1)) (upd w i (vp_nar .boolean (rr_bi (P (24 * Y + X))))) fa) : wY_move_120 post J x1 x2 x3 (nI i) (nI X) (nI Y) 1 fp w fa := by
  have e : (24 : Int32) * nI Y = nI (24 * Y) := pk_mul 24 Y
  unfold wY_move_120
  rw [e, nI_add, rr_cl hi, rr_cl (by omega), hF _ (by omega)]
  refine br_f rr_10 ⟨vp_in_nI (by omega) (by decide), ek_if (rr_bi_0 _) (fun z => ⟨vp_in_nI hi (by decide), nm_e (nm_r (nI_1 i) ?_)⟩) (fun z => ⟨vp_in_nI hi (by decide), nm_e (nm_r (nI_1 i) ?_)⟩)⟩
  · rw [z] at h
    exact h
  · rw [rr_nf z] at h
    exact h
theorem ry_mv119 {post : Int32 → SY → Prop} {J : Int32 → (Nat → Int32) → (Nat → Int32) → Prop} {x1 x2 x3 x5 x6 fp : Int32} {w fa : Nat → Int32} {i : Nat} (hi : i < 576) (h : J (nI (i + 1)) (upd w i (vp_nar .boolean (rr_bi false))) fa) : wY_move_119 post J x1 x2 x3 (nI i) x5 x6 fp w fa := by
  unfold wY_move_119 wY_move_120
  rw [rr_cl hi]
  exact br_t rfl ⟨vp_in_nI hi (by decide), nm_e (nm_r (nI_1 i) h)⟩
theorem ry_mv65 {post : Int32 → SY → Prop} {fp c : Int32} {sa fa : Nat → Int32} {P : Nat → Bool} {d e : Int32} (hd : rr_stp d) (he : rr_stp e) (hF : rr_RY fa P) (h : ∀ sa', rr_RY sa' (rr_mv P d.toInt e.toInt) → post (c - nI (rr_cnt (rr_mv P d.toInt e.toInt) 576)) (fp, sa', fa)) : ∃ n, wY_move_65 post d e c fp n 0 sa fa := by
  have d1 := hd.1
  have d2 := hd.2
  have e1 := he.1
  have e2 := he.2
  refine loop_0 (fun n i w => wY_move_65 post d e c fp n (nI i) w fa) (fun i w => ∀ j, j < i → w j = rr_bi (rr_mv P d.toInt e.toInt j)) 576 sa (fun j hj => absurd hj (Nat.not_lt_zero j)) ?_ ?_
  · intro n w hw
    refine br_t rr_576 ?_
    exact ry_count hw (h w hw)
  · intro n i w hi hw hk
    refine br_f (rr_l576 hi) ⟨rr_240, ?_⟩
    rw [rr_rem24 (by omega), rr_div24 (by omega)]
    have ex : nI (i % 24) - d = rr_i (((i % 24 : Nat) : Int) - d.toInt) := by
      rw [← rr_sub, ← rr_n]
      exact congrArg (fun t => nI (i % 24) - t) (rr_of d)
    have ey : nI (i / 24) - e = rr_i (((i / 24 : Nat) : Int) - e.toInt) := by
      rw [← rr_sub, ← rr_n]
      exact congrArg (fun t => nI (i / 24) - t) (rr_of e)
    refine nm_r ex ⟨rr_240, nm_r ey ?_⟩
    have e0 : (0 : Int32) = rr_i 0 := rfl
    have e23 : (23 : Int32) = rr_i 23 := rfl
    have hm : rr_mv P d.toInt e.toInt i = (decide (0 ≤ ((i % 24 : Nat) : Int) - d.toInt ∧ ((i % 24 : Nat) : Int) - d.toInt ≤ 23 ∧ 0 ≤ ((i / 24 : Nat) : Int) - e.toInt ∧ ((i / 24 : Nat) : Int) - e.toInt ≤ 23) && P (24 * (((i / 24 : Nat) : Int) - e.toInt).toNat + (((i % 24 : Nat) : Int) - d.toInt).toNat)) := rfl
    have b1 : -50 ≤ ((i % 24 : Nat) : Int) - d.toInt ∧ ((i % 24 : Nat) : Int) - d.toInt ≤ 50 := by omega
    have b2 : -50 ≤ ((i / 24 : Nat) : Int) - e.toInt ∧ ((i / 24 : Nat) : Int) - e.toInt ≤ 50 := by omega
    generalize ((i % 24 : Nat) : Int) - d.toInt = X at *
    generalize ((i / 24 : Nat) : Int) - e.toInt = Y at *
    have no : ¬ (0 ≤ X ∧ X ≤ 23 ∧ 0 ≤ Y ∧ Y ≤ 23) → wY_move_65 post d e c fp n (nI (i + 1)) (upd w i (vp_nar .boolean (rr_bi false))) fa := by
      intro z
      rw [decide_eq_false z, Bool.false_and] at hm
      exact hk _ (ry_put hw hm)
    refine ek_if (d := X < 0) (by rw [e0, rr_lt (by omega) (by omega)]) (fun z => ry_mv119 hi (no (by omega))) (fun z1 => ?_)
    refine ek_if (d := 23 < X) (by rw [e23, rr_lt (by omega) (by omega)]) (fun z => ry_mv119 hi (no (by omega))) (fun z2 => ?_)
    refine ek_if (d := Y < 0) (by rw [e0, rr_lt (by omega) (by omega)]) (fun z => ry_mv119 hi (no (by omega))) (fun z3 => ?_)
    refine ek_if (d := 23 < Y) (by rw [e23, rr_lt (by omega) (by omega)]) (fun z => ry_mv119 hi (no (by omega))) (fun z4 => ?_)
    rw [decide_eq_true (by omega), Bool.true_and] at hm
    have fX : rr_i X = nI X.toNat := by rw [rr_n]; exact congrArg rr_i (by omega)
    have fY : rr_i Y = nI Y.toNat := by rw [rr_n]; exact congrArg rr_i (by omega)
    rw [fX, fY]
    exact ry_mv120 hF hi (by omega) (by omega) (hk _ (ry_put hw hm))
theorem ry_move {post : Int32 → SY → Prop} {fp : Int32} {sa fa : Nat → Int32} {P : Nat → Bool} (hP : rr_RY sa P) (d e : Int32) (h1 : rr_stp d ∧ rr_stp e → ∀ sa' fa', rr_RY sa' (rr_mv P d.toInt e.toInt) → post (nI (rr_cnt P 576) - nI (rr_cnt (rr_mv P d.toInt e.toInt) 576)) (fp, sa', fa')) (h0 : ¬ (rr_stp d ∧ rr_stp e) → post (-1) (fp, sa, fa)) : wpY_move post (fp, sa, fa) d e := by
  unfold wpY_move
  dsimp only
  refine ek_if (rr_m24 d) (fun z => h0 (fun w => by have := w.1.1; omega)) (fun z1 => ?_)
  refine ek_if (rr_p24 d) (fun z => h0 (fun w => by have := w.1.2; omega)) (fun z2 => ?_)
  refine ek_if (rr_m24 e) (fun z => h0 (fun w => by have := w.2.1; omega)) (fun z3 => ?_)
  refine ek_if (rr_p24l e) (fun z4 => ?_) (fun z => h0 (fun w => z w.2.2))
  have hd : rr_stp d := ⟨by omega, by omega⟩
  have he : rr_stp e := ⟨by omega, z4⟩
  refine ry_count hP ?_
  refine loop_0 (fun n i w => wY_move_34 post d e (nI (rr_cnt P 576)) fp n (nI i) sa w) (fun i w => ∀ j, j < i → w j = rr_bi (P j)) 576 fa (fun j hj => absurd hj (Nat.not_lt_zero j)) ?_ ?_
  · intro n w hw
    exact br_t rr_576 (ry_mv65 hd he hw (fun sa' hS => h1 ⟨hd, he⟩ sa' w hS))
  · intro n i w hi hw hk
    refine br_f (rr_l576 hi) ⟨vp_in_nI hi (by decide), vp_in_nI hi (by decide), ?_⟩
    rw [rr_cl hi, hP i hi]
    exact nm_e (nm_r (nI_1 i) (hk _ (ry_put hw rfl)))
end
section
/-! the relation and what is owed -/
/-- one raster P and one pen p, as both sides hold them -/
def i_Rel (k : Nat) (u : SX) (v : SY) : Prop := ∃ (P : Nat → Bool) (p : Nat) (q : Int32) (ra fa ma qa sa fb : Nat → Int32), p ≤ 2 ∧ u = (q, nI p, ra, fa, ma, qa) ∧ v = (nI p, sa, fb) ∧ rr_RX ra P ∧ rr_RY sa P
theorem i_up {k : Nat} {u : SX} {v : SY} (h : i_Rel k u v) : i_Rel (k + 4) u v := h
theorem i_vc0 : wpX_init (fun u => wpY_init (fun v => i_Rel 0 u v)) :=
  ⟨fun _ => false, 0, 0, fun _ => 0, fun _ => 0, fun _ => 0, fun _ => 0, fun _ => 0, fun _ => 0, by omega, rfl, rfl, fun _ _ x _ => by rw [b_0, Bool.and_false], fun _ _ => rfl⟩
def rr_rad (r : Int32) : Prop := ¬ r < 0 ∧ ¬ 30 < r
theorem rx_rad {post : Int32 → Prop} (r : Int32) (h1 : rr_rad r → post 1) (h0 : ¬ rr_rad r → post 0) : wpX_isRadius post r :=
  br_c (fun a => h0 (fun z => z.1 a)) (fun a => br_c (fun b => h0 (fun z => z.2 b)) (fun b => h1 ⟨a, b⟩))
theorem ry_rnd {post : Int32 → Prop} {fp : Int32} {sa fa : Nat → Int32} (v r : Int32) (h1 : (∃ x y, rr_P v x y) → rr_rad r → post 1) (h0 : ¬ ((∃ x y, rr_P v x y) ∧ rr_rad r) → post 0) : wpY_isRound post (fp, sa, fa) v r := by
  unfold wpY_isRound
  dsimp only
  refine ry_pix v (fun x y hv => br_f rr_10 ?_) (fun z => br_t rfl (h0 (fun w => z w.1)))
  exact br_c (fun a => h0 (fun z => z.2.1 a)) (fun a => br_c (fun b => h0 (fun z => z.2.2 b)) (fun b => h1 ⟨x, y, hv⟩ ⟨a, b⟩))
theorem rr_rad_n {r : Int32} (h : rr_rad r) : ∃ n, n ≤ 30 ∧ r = nI n := by
  obtain ⟨n, hn, rfl⟩ := nI_of h.1
  refine ⟨n, ?_, rfl⟩
  have h2 := h.2
  have e : (30 : Int32) = nI 30 := rfl
  rw [e, nI_ltI (by omega) hn] at h2
  omega
theorem i_vc_pen {k : Nat} {u : SX} {v : SY} (I : i_Rel k u v) (hk : k + 4 ≤ 2048) (v1 : Int32) : wpX_pen (fun r u' => wpY_pen (fun r' v' => r' = r ∧ i_Rel (k + 4) u' v') v v1) u v1 := by
  obtain ⟨P, p, q, ra, fa, ma, qa, sa, fb, hp, rfl, rfl, hX, hY⟩ := I
  by_cases a : v1 < 0
  · exact br_t a (br_t a ⟨rfl, P, p, q, ra, fa, ma, qa, sa, fb, hp, rfl, rfl, hX, hY⟩)
  · by_cases b : v1 ≤ 2
    · obtain ⟨n, hn, rfl⟩ := nI_of a
      have b2 := b
      have e : (2 : Int32) = nI 2 := rfl
      rw [e, nI_leI hn (by omega)] at b2
      exact br_f a (br_t b (br_f a (br_t b ⟨rfl, P, n, q, ra, fa, ma, qa, sa, fb, b2, rfl, rfl, hX, hY⟩)))
    · exact br_f a (br_f b (br_f a (br_f b ⟨rfl, P, p, q, ra, fa, ma, qa, sa, fb, hp, rfl, rfl, hX, hY⟩)))
theorem i_vc_line {k : Nat} {u : SX} {v : SY} (I : i_Rel k u v) (hk : k + 4 ≤ 2048) (v1 : Int32) (v2 : Int32) : wpX_line (fun r u' => wpY_line (fun r' v' => r' = r ∧ i_Rel (k + 4) u' v') v v1 v2) u v1 v2 := by
  obtain ⟨P, p, q, ra, fa, ma, qa, sa, fb, hp, rfl, rfl, hX, hY⟩ := I
  have bad : ¬ ((∃ x y, rr_P v1 x y) ∧ (∃ x y, rr_P v2 x y)) → wpY_line (fun r' v' => r' = -1 ∧ i_Rel (k + 4) (q, nI p, ra, fa, ma, qa) v') (nI p, sa, fb) v1 v2 := by
    intro z
    unfold wpY_line
    dsimp only
    refine ry_pix v1 (fun a b h1 => br_f rr_10 ?_) (fun _ => br_t rfl ⟨rfl, P, p, q, ra, fa, ma, qa, sa, fb, hp, rfl, rfl, hX, hY⟩)
    refine ry_pix v2 (fun c d h2 => absurd ⟨⟨a, b, h1⟩, ⟨c, d, h2⟩⟩ z) (fun _ => br_t rfl ⟨rfl, P, p, q, ra, fa, ma, qa, sa, fb, hp, rfl, rfl, hX, hY⟩)
  unfold wpX_line
  dsimp only
  refine rx_pix v1 (fun a b h1 => br_f rr_10 ?_) (fun z => br_t rfl (bad (fun w => z w.1)))
  refine rx_pix v2 (fun c d h2 => br_f rr_10 ?_) (fun z => br_t rfl (bad (fun w => z w.2)))
  refine rx_clear (fun f0 g0 => ?_)
  refine rx_line h1 h2 g0 (fun f1 g1 => ?_)
  refine rx_draw (F := rr_FL a b c d) hp hX (rr_RF_X g1 (fun k _ => (rr_ol_lx _ _ _ _ _ _).symm)) (fun ra' hR => ?_)
  show wpY_line (fun r' v' => r' = nI (rr_cnt (rr_df p P (rr_FL a b c d)) 576) ∧ i_Rel (k + 4) (q, nI p, ra', f1, ma, qa) v') (nI p, sa, fb) v1 v2
  unfold wpY_line
  dsimp only
  refine ry_pix v1 (fun _ _ _ => br_f rr_10 ?_) (fun z => absurd ⟨a, b, h1⟩ z)
  refine ry_pix v2 (fun _ _ _ => br_f rr_10 ?_) (fun z => absurd ⟨c, d, h2⟩ z)
  exact ry_line h1 h2 hp hY (fun sa' fa' hS => ⟨rfl, rr_dr p P (rr_FL a b c d), p, q, ra', f1, ma, qa, sa', fa', hp, rfl, rfl, hR, hS⟩)
theorem i_vc_disc {k : Nat} {u : SX} {v : SY} (I : i_Rel k u v) (hk : k + 4 ≤ 2048) (v1 : Int32) (v2 : Int32) : wpX_disc (fun r u' => wpY_disc (fun r' v' => r' = r ∧ i_Rel (k + 4) u' v') v v1 v2) u v1 v2 := by
  obtain ⟨P, p, q, ra, fa, ma, qa, sa, fb, hp, rfl, rfl, hX, hY⟩ := I
  have bad : ¬ ((∃ x y, rr_P v1 x y) ∧ rr_rad v2) → wpY_disc (fun r' v' => r' = -1 ∧ i_Rel (k + 4) (q, nI p, ra, fa, ma, qa) v') (nI p, sa, fb) v1 v2 := by
    intro z
    unfold wpY_disc
    dsimp only
    exact ry_rnd v1 v2 (fun a b => absurd ⟨a, b⟩ z) (fun _ => br_t rfl ⟨rfl, P, p, q, ra, fa, ma, qa, sa, fb, hp, rfl, rfl, hX, hY⟩)
  unfold wpX_disc
  dsimp only
  refine rx_pix v1 (fun a b h1 => br_f rr_10 ?_) (fun z => br_t rfl (bad (fun w => z w.1)))
  refine rx_rad v2 (fun h2 => br_f rr_10 ?_) (fun z => br_t rfl (bad (fun w => z w.2)))
  refine rx_clear (fun f0 g0 => ?_)
  refine rx_disc h1 g0 (fun f1 g1 => ?_)
  refine rx_draw (F := rr_FG (rr_gd v2 (nI a) (nI b))) hp hX (rr_RF_X g1 (fun k _ => (rr_dec_i _).symm)) (fun ra' hR => ?_)
  show wpY_disc (fun r' v' => r' = nI (rr_cnt (rr_df p P (rr_FG (rr_gd v2 (nI a) (nI b)))) 576) ∧ i_Rel (k + 4) (q, nI p, ra', f1, ma, qa) v') (nI p, sa, fb) v1 v2
  unfold wpY_disc
  dsimp only
  refine ry_rnd v1 v2 (fun _ _ => br_f rr_10 ?_) (fun z => absurd ⟨⟨a, b, h1⟩, h2⟩ z)
  exact ry_disc h1 hp hY (fun sa' fa' hS => ⟨rfl, rr_dr p P _, p, q, ra', f1, ma, qa, sa', fa', hp, rfl, rfl, hR, hS⟩)
theorem i_vc_ring {k : Nat} {u : SX} {v : SY} (I : i_Rel k u v) (hk : k + 4 ≤ 2048) (v1 : Int32) (v2 : Int32) : wpX_ring (fun r u' => wpY_ring (fun r' v' => r' = r ∧ i_Rel (k + 4) u' v') v v1 v2) u v1 v2 := by
  obtain ⟨P, p, q, ra, fa, ma, qa, sa, fb, hp, rfl, rfl, hX, hY⟩ := I
  have bad : ¬ ((∃ x y, rr_P v1 x y) ∧ rr_rad v2) → wpY_ring (fun r' v' => r' = -1 ∧ i_Rel (k + 4) (q, nI p, ra, fa, ma, qa) v') (nI p, sa, fb) v1 v2 := by
    intro z
    unfold wpY_ring
    dsimp only
    exact ry_rnd v1 v2 (fun a b => absurd ⟨a, b⟩ z) (fun _ => br_t rfl ⟨rfl, P, p, q, ra, fa, ma, qa, sa, fb, hp, rfl, rfl, hX, hY⟩)
  unfold wpX_ring
  dsimp only
  refine rx_pix v1 (fun a b h1 => br_f rr_10 ?_) (fun z => br_t rfl (bad (fun w => z w.1)))
  refine rx_rad v2 (fun h2 => br_f rr_10 ?_) (fun z => br_t rfl (bad (fun w => z w.2)))
  obtain ⟨n, hn, rfl⟩ := rr_rad_n h2
  refine rx_clear (fun f0 g0 => ?_)
  refine rx_ring h1 hn g0 (fun f1 g1 => ?_)
  refine rx_draw (F := rr_FR a b n) hp hX (rr_RF_X g1 (fun k _ => (rr_dec_i _).symm)) (fun ra' hR => ?_)
  show wpY_ring (fun r' v' => r' = nI (rr_cnt (rr_df p P (rr_FR a b n)) 576) ∧ i_Rel (k + 4) (q, nI p, ra', f1, ma, qa) v') (nI p, sa, fb) v1 (nI n)
  unfold wpY_ring
  dsimp only
  refine ry_rnd v1 (nI n) (fun _ _ => br_f rr_10 ?_) (fun z => absurd ⟨⟨a, b, h1⟩, h2⟩ z)
  exact ry_ring h1 hn hp hY (fun sa' fa' hS => ⟨rfl, rr_dr p P _, p, q, ra', f1, ma, qa, sa', fa', hp, rfl, rfl, hR, hS⟩)
theorem i_vc_blot {k : Nat} {u : SX} {v : SY} (I : i_Rel k u v) (hk : k + 4 ≤ 2048) (v1 : Int32) (v2 : Int32) (v3 : Int32) : wpX_blot (fun r u' => wpY_blot (fun r' v' => r' = r ∧ i_Rel (k + 4) u' v') v v1 v2 v3) u v1 v2 v3 := by
  obtain ⟨P, p, q, ra, fa, ma, qa, sa, fb, hp, rfl, rfl, hX, hY⟩ := I
  have bad : ¬ ((∃ x y, rr_P v1 x y) ∧ rr_rad v2 ∧ rr_rad v3) → wpY_blot (fun r' v' => r' = -1 ∧ i_Rel (k + 4) (q, nI p, ra, fa, ma, qa) v') (nI p, sa, fb) v1 v2 v3 := by
    intro z
    unfold wpY_blot
    dsimp only
    refine ry_rnd v1 v2 (fun a b => br_f rr_10 ?_) (fun _ => br_t rfl ⟨rfl, P, p, q, ra, fa, ma, qa, sa, fb, hp, rfl, rfl, hX, hY⟩)
    exact ry_rnd v1 v3 (fun _ c => absurd ⟨a, b, c⟩ z) (fun _ => br_t rfl ⟨rfl, P, p, q, ra, fa, ma, qa, sa, fb, hp, rfl, rfl, hX, hY⟩)
  unfold wpX_blot
  dsimp only
  refine rx_pix v1 (fun a b h1 => br_f rr_10 ?_) (fun z => br_t rfl (bad (fun w => z w.1)))
  refine rx_rad v2 (fun h2 => br_f rr_10 ?_) (fun z => br_t rfl (bad (fun w => z w.2.1)))
  refine rx_rad v3 (fun h3 => br_f rr_10 ?_) (fun z => br_t rfl (bad (fun w => z w.2.2)))
  refine rx_clear (fun f0 g0 => ?_)
  refine rx_blot h1 g0 (fun f1 g1 => ?_)
  refine rx_draw (F := rr_FG (rr_gb v2 v3 (nI a) (nI b))) hp hX (rr_RF_X g1 (fun k _ => (rr_dec_i _).symm)) (fun ra' hR => ?_)
  show wpY_blot (fun r' v' => r' = nI (rr_cnt (rr_df p P (rr_FG (rr_gb v2 v3 (nI a) (nI b)))) 576) ∧ i_Rel (k + 4) (q, nI p, ra', f1, ma, qa) v') (nI p, sa, fb) v1 v2 v3
  unfold wpY_blot
  dsimp only
  refine ry_rnd v1 v2 (fun _ _ => br_f rr_10 ?_) (fun z => absurd ⟨⟨a, b, h1⟩, h2⟩ z)
  refine ry_rnd v1 v3 (fun _ _ => br_f rr_10 ?_) (fun z => absurd ⟨⟨a, b, h1⟩, h3⟩ z)
  exact ry_blot h1 hp hY (fun sa' fa' hS => ⟨rfl, rr_dr p P _, p, q, ra', f1, ma, qa, sa', fa', hp, rfl, rfl, hR, hS⟩)
theorem i_vc_triangle {k : Nat} {u : SX} {v : SY} (I : i_Rel k u v) (hk : k + 4 ≤ 2048) (v1 : Int32) (v2 : Int32) (v3 : Int32) : wpX_triangle (fun r u' => wpY_triangle (fun r' v' => r' = r ∧ i_Rel (k + 4) u' v') v v1 v2 v3) u v1 v2 v3 := by
  obtain ⟨P, p, q, ra, fa, ma, qa, sa, fb, hp, rfl, rfl, hX, hY⟩ := I
  have bad : ¬ ((∃ x y, rr_P v1 x y) ∧ (∃ x y, rr_P v2 x y) ∧ (∃ x y, rr_P v3 x y)) → wpY_triangle (fun r' v' => r' = -1 ∧ i_Rel (k + 4) (q, nI p, ra, fa, ma, qa) v') (nI p, sa, fb) v1 v2 v3 := by
    intro z
    unfold wpY_triangle
    dsimp only
    refine ry_pix v1 (fun a b h1 => br_f rr_10 ?_) (fun _ => br_t rfl ⟨rfl, P, p, q, ra, fa, ma, qa, sa, fb, hp, rfl, rfl, hX, hY⟩)
    refine ry_pix v2 (fun c d h2 => br_f rr_10 ?_) (fun _ => br_t rfl ⟨rfl, P, p, q, ra, fa, ma, qa, sa, fb, hp, rfl, rfl, hX, hY⟩)
    refine ry_pix v3 (fun e f h3 => absurd ⟨⟨a, b, h1⟩, ⟨c, d, h2⟩, ⟨e, f, h3⟩⟩ z) (fun _ => br_t rfl ⟨rfl, P, p, q, ra, fa, ma, qa, sa, fb, hp, rfl, rfl, hX, hY⟩)
  unfold wpX_triangle
  dsimp only
  refine rx_pix v1 (fun a b h1 => br_f rr_10 ?_) (fun z => br_t rfl (bad (fun w => z w.1)))
  refine rx_pix v2 (fun c d h2 => br_f rr_10 ?_) (fun z => br_t rfl (bad (fun w => z w.2.1)))
  refine rx_pix v3 (fun e f h3 => br_f rr_10 ?_) (fun z => br_t rfl (bad (fun w => z w.2.2)))
  refine rx_clear (fun f0 g0 => ?_)
  refine rx_tri h1 h2 h3 g0 (fun f1 g1 => ?_)
  refine rx_draw (F := rr_FG (rr_gt a b c d e f)) hp hX (rr_RF_X g1 (fun k _ => (rr_dec_i _).symm)) (fun ra' hR => ?_)
  show wpY_triangle (fun r' v' => r' = nI (rr_cnt (rr_df p P (rr_FG (rr_gt a b c d e f))) 576) ∧ i_Rel (k + 4) (q, nI p, ra', f1, ma, qa) v') (nI p, sa, fb) v1 v2 v3
  unfold wpY_triangle
  dsimp only
  refine ry_pix v1 (fun _ _ _ => br_f rr_10 ?_) (fun z => absurd ⟨a, b, h1⟩ z)
  refine ry_pix v2 (fun _ _ _ => br_f rr_10 ?_) (fun z => absurd ⟨c, d, h2⟩ z)
  refine ry_pix v3 (fun _ _ _ => br_f rr_10 ?_) (fun z => absurd ⟨e, f, h3⟩ z)
  exact ry_tri h1 h2 h3 hp hY (fun sa' fa' hS => ⟨rfl, rr_dr p P _, p, q, ra', f1, ma, qa, sa', fa', hp, rfl, rfl, hR, hS⟩)
theorem i_vc_flood {k : Nat} {u : SX} {v : SY} (I : i_Rel k u v) (hk : k + 4 ≤ 2048) (v1 : Int32) : wpX_flood (fun r u' => wpY_flood (fun r' v' => r' = r ∧ i_Rel (k + 4) u' v') v v1) u v1 := by
  obtain ⟨P, p, q, ra, fa, ma, qa, sa, fb, hp, rfl, rfl, hX, hY⟩ := I
  refine rx_flood hX v1 (fun x y hv q' ra' qa' Q hQ hR => ?_) (fun z => ?_)
  · refine ry_flood hY v1 (fun x' y' hv' sa' fa' R hR' hS => ?_) (fun z => absurd ⟨x, y, hv⟩ z)
    have ex : x' = x ∧ y' = y := by
      have a1 := hv.1
      have a2 := hv.2.1
      have a3 := hv'.1
      have a4 := hv'.2.1
      have e := hv.2.2.symm.trans hv'.2.2
      rw [nI_eq (by omega) (by omega)] at e
      omega
    rw [ex.1, ex.2] at hR'
    have hu := rr_isF_u hR' hQ
    refine ⟨congrArg nI (rr_cnt_congr 576 hu), fun k => P k ^^ Q k, p, q', ra', fa, ma, qa', sa', fa', hp, rfl, rfl, hR, fun j hj => ?_⟩
    rw [hS j hj]
    exact congrArg (fun t => rr_bi (P j ^^ t)) (hu j hj)
  · exact ry_flood hY v1 (fun x' y' hv' => absurd ⟨x', y', hv'⟩ z) (fun _ => ⟨rfl, P, p, q, ra, fa, ma, qa, sa, fb, hp, rfl, rfl, hX, hY⟩)
theorem i_vc_get {k : Nat} {u : SX} {v : SY} (I : i_Rel k u v) (hk : k + 4 ≤ 2048) (v1 : Int32) : wpX_get (fun r => wpY_get (fun r' => r' = r ∧ i_Rel (k + 4) u v) v v1) u v1 := by
  have I' := I
  obtain ⟨P, p, q, ra, fa, ma, qa, sa, fb, hp, rfl, rfl, hX, hY⟩ := I
  unfold wpX_get
  dsimp only
  refine rx_pix v1 (fun x y hv => br_f rr_10 ?_) (fun z => br_t rfl (ry_get hY v1 (fun x' y' hv' => absurd ⟨x', y', hv'⟩ z) (fun _ => ⟨rfl, I'⟩)))
  unfold wpX_columnOf wpX_rowOf
  dsimp only
  rw [rr_P_col hv, rr_P_row hv]
  refine rx_value hX hv.1 hv.2.1 ?_
  refine ry_get hY v1 (fun x' y' hv' => ⟨?_, I'⟩) (fun z => absurd ⟨x, y, hv⟩ z)
  have a1 := hv.1
  have a2 := hv.2.1
  have a3 := hv'.1
  have a4 := hv'.2.1
  have e := hv.2.2.symm.trans hv'.2.2
  rw [nI_eq (by omega) (by omega)] at e
  rw [show x' = x by omega, show y' = y by omega]
theorem i_vc_count {k : Nat} {u : SX} {v : SY} (I : i_Rel k u v) (hk : k + 4 ≤ 2048) : wpX_count (fun r => wpY_count (fun r' => r' = r ∧ i_Rel (k + 4) u v) v) u := by
  have I' := I
  obtain ⟨P, p, q, ra, fa, ma, qa, sa, fb, hp, rfl, rfl, hX, hY⟩ := I
  exact rx_count hX (ry_count hY ⟨rfl, I'⟩)
theorem i_vc_row {k : Nat} {u : SX} {v : SY} (I : i_Rel k u v) (hk : k + 4 ≤ 2048) (v1 : Int32) : wpX_row (fun r => wpY_row (fun r' => r' = r ∧ i_Rel (k + 4) u v) v v1) u v1 := by
  have I' := I
  obtain ⟨P, p, q, ra, fa, ma, qa, sa, fb, hp, rfl, rfl, hX, hY⟩ := I
  unfold wpX_row
  dsimp only
  refine rx_side v1 (fun n hn e => br_f rr_10 ?_) (fun z => br_t rfl ?_)
  · subst e
    refine ⟨vp_in_nI hn (by decide), ?_⟩
    rw [rr_cl (by omega)]
    refine br_f (nI_pos (by omega)) (br_t (nI_le (b := 23) (by omega) (by decide)) ?_)
    refine ry_row hY hn (fun r hr => ⟨b_ext (fun x hx => ?_), I'⟩)
    rw [hr x hx, hX n hn x hx]
  · by_cases a : v1 < 0
    · exact br_t a ⟨rfl, I'⟩
    · refine br_f a (br_f ?_ ⟨rfl, I'⟩)
      intro b
      obtain ⟨n, hn, rfl⟩ := nI_of a
      have e : (23 : Int32) = nI 23 := rfl
      rw [e, nI_leI hn (by omega)] at b
      exact z n (by omega) rfl
theorem i_vc_move {k : Nat} {u : SX} {v : SY} (I : i_Rel k u v) (hk : k + 4 ≤ 2048) (v1 : Int32) (v2 : Int32) : wpX_move (fun r u' => wpY_move (fun r' v' => r' = r ∧ i_Rel (k + 4) u' v') v v1 v2) u v1 v2 := by
  obtain ⟨P, p, q, ra, fa, ma, qa, sa, fb, hp, rfl, rfl, hX, hY⟩ := I
  refine rx_move hX v1 v2 (fun hs ra' ma' hR => ?_) (fun z => ?_)
  · exact ry_move hY v1 v2 (fun _ sa' fa' hS => ⟨rfl, rr_mv P v1.toInt v2.toInt, p, q, ra', fa, ma', qa, sa', fa', hp, rfl, rfl, hR, hS⟩) (fun z => absurd hs z)
  · exact ry_move hY v1 v2 (fun hs => absurd hs z) (fun _ => ⟨rfl, P, p, q, ra, fa, ma, qa, sa, fb, hp, rfl, rfl, hX, hY⟩)
end
