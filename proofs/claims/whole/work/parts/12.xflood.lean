/-! the component's flood -/
theorem rx_value {post : Int32 → Prop} {q p : Int32} {ra fa ma qa : Nat → Int32} {P : Nat → Bool} (hP : rr_RX ra P) {x y : Nat} (hx : x < 24) (hy : y < 24) (h : post (rr_bi (P (24 * y + x)))) : wpX_valueAt post (q, p, ra, fa, ma, qa) (nI x) (nI y) := by
  unfold wpX_valueAt
  dsimp only
  refine rx_side _ (fun n hn en => br_f rr_10 ?_) (fun z => absurd rfl (z x hx))
  refine rx_side _ (fun m hm em => br_f rr_10 ⟨vp_in_nI hy (by decide), ?_⟩) (fun z => absurd rfl (z y hy))
  rw [rr_cl (by omega), rr_bit _ (by omega), rr_RX_at hP hx hy]
  exact h
theorem rr_enc {x y : Nat} (hx : x < 24) (hy : y < 24) : (nI y <<< ((5 : Int32) &&& 31)) + nI x = nI (rr_code (24 * y + x)) := by
  rw [pk_shlN _ 5 (by decide) (by omega), nI_add]
  refine congrArg nI ?_
  unfold rr_code
  omega
theorem rx_reach {post : SX → Prop} {P : Nat → Bool} {s : Nat} {p : Int32} {n : Nat} {ra fa ma qa : Nat → Int32} {Q : Nat → Bool} (x y : Int32) (hI : rr_FI P s ra qa n Q) (hc : ∀ X Y, X < 24 → Y < 24 → x = nI X → y = nI Y → P (24 * Y + X) = P s → rr_conn P s (24 * Y + X)) (h : ∀ ra' qa' n' Q', rr_FI P s ra' qa' n' Q' → (∀ k, k < 576 → Q k = true → Q' k = true) → (∀ i, i < n → qa' i = qa i) → n ≤ n' → (∀ X Y, X < 24 → Y < 24 → x = nI X → y = nI Y → P (24 * Y + X) = P s → Q' (24 * Y + X) = true) → post (nI n', p, ra', fa, ma, qa')) : wpX_reach post (nI n, p, ra, fa, ma, qa) x y (rr_bi (P s)) := by
  have stay : (∀ X Y, X < 24 → Y < 24 → x = nI X → y = nI Y → P (24 * Y + X) = P s → Q (24 * Y + X) = true) → post (nI n, p, ra, fa, ma, qa) := fun w => h ra qa n Q hI (fun _ _ z => z) (fun _ _ => rfl) (Nat.le_refl n) w
  have nle := rr_FI_le hI
  unfold wpX_reach
  dsimp only
  refine rx_side x (fun X hX eX => br_f rr_10 ?_) (fun z => br_t rfl (stay (fun X Y hX hY eX eY _ => absurd eX (z X hX))))
  refine rx_side y (fun Y hY eY => br_f rr_10 ?_) (fun z => br_t rfl (stay (fun X Y hX hY eX eY _ => absurd eY (z Y hY))))
  subst eX eY
  refine pk_lt n 576 (fun z => ?_) (fun z => stay (fun X' Y' hX' hY' _ _ _ => rr_FI_all hI z _ (by omega)))
  refine ⟨vp_in_nI hY (by decide), ?_⟩
  have inj : ∀ X' Y', X' < 24 → Y' < 24 → nI X = nI X' → nI Y = nI Y' → 24 * Y' + X' = 24 * Y + X := by
    intro X' Y' a1 a2 a3 a4
    rw [nI_eq (by omega) (by omega)] at a3 a4
    omega
  have hb : bt (ra Y) X = (P (24 * Y + X) ^^ Q (24 * Y + X)) := rr_RX_at hI.1 hX hY
  rw [rr_cl (show Y < 576 by omega), rr_bit _ (by omega), hb]
  refine ek_if (rr_bi_e _ _) (fun e => ?_) (fun e => stay ?_)
  · refine ⟨vp_in_nI hY (by decide), vp_in_nI hY (by decide), nm_e ⟨vp_in_nI z (by decide), ?_⟩⟩
    rw [rr_cl z, rr_enc hX hY]
    refine nm_e (nm_r (nI_1 n) (h _ _ _ _ (rr_FI_add hI hX hY e (hc X Y hX hY rfl rfl)) (fun k _ w => rr_put_m w) (fun i hi => pk_un (by omega)) (by omega) ?_))
    intro X' Y' a1 a2 a3 a4 _
    rw [inj X' Y' a1 a2 a3 a4]
    exact rr_put_s _ _
  · intro X' Y' a1 a2 a3 a4 hp
    rw [inj X' Y' a1 a2 a3 a4] at hp ⊢
    cases hq : Q (24 * Y + X) with
    | true => rfl
    | false =>
      rw [hq, Bool.xor_false] at e
      exact absurd hp e
theorem rr_dec1 {x X : Nat} (hx : x < 24) (hX : X < 24) (e : nI x - 1 = nI X) : x = X + 1 := by
  have e2 : rr_i ((x : Int) - ((1 : Nat) : Int)) = rr_i (X : Int) := by
    rw [← rr_nsub, ← rr_n]
    exact e
  rw [rr_eq (by omega) (by omega)] at e2
  omega
theorem rr_inc1 {x X : Nat} (hx : x < 24) (hX : X < 24) (e : nI x + 1 = nI X) : x + 1 = X := by
  rw [nI_1, nI_eq (by omega) (by omega)] at e
  exact e
theorem rx_nbrs {post : SX → Prop} {P : Nat → Bool} {s : Nat} {p : Int32} {n : Nat} {ra fa ma qa : Nat → Int32} {Q : Nat → Bool} {k : Nat} (hk : k < 576) (hI : rr_FI P s ra qa n Q) (hQ : Q k = true) (h : ∀ ra' qa' n' Q', rr_FI P s ra' qa' n' Q' → (∀ k, k < 576 → Q k = true → Q' k = true) → (∀ i, i < n → qa' i = qa i) → n ≤ n' → (∀ j, j < 576 → rr_adj k j → P j = P s → Q' j = true) → post (nI n', p, ra', fa, ma, qa')) : wpX_reachNeighbours post (nI n, p, ra, fa, ma, qa) (nI (rr_code k)) (rr_bi (P s)) := by
  have x24 : k % 24 < 24 := by omega
  have y24 : k / 24 < 24 := by omega
  have hp : rr_P (nI (rr_code k)) (k % 24) (k / 24) := ⟨x24, y24, rfl⟩
  have ck := hI.2.2.2.2.2 k hk hQ
  unfold wpX_reachNeighbours wpX_columnOf wpX_rowOf
  dsimp only
  rw [rr_P_col hp, rr_P_row hp]
  refine rx_reach _ _ hI ?_ (fun r1 q1 n1 Q1 i1 s1 e1 l1 c1 => ?_)
  · intro X Y hX hY eX eY hP
    have a1 := rr_dec1 x24 hX eX
    rw [nI_eq (by omega) (by omega)] at eY
    refine rr_conn_s ck hk (by omega) ?_ hP
    unfold rr_adj
    omega
  refine rx_reach _ _ i1 ?_ (fun r2 q2 n2 Q2 i2 s2 e2 l2 c2 => ?_)
  · intro X Y hX hY eX eY hP
    have a1 := rr_inc1 x24 hX eX
    rw [nI_eq (by omega) (by omega)] at eY
    refine rr_conn_s ck hk (by omega) ?_ hP
    unfold rr_adj
    omega
  refine rx_reach _ _ i2 ?_ (fun r3 q3 n3 Q3 i3 s3 e3 l3 c3 => ?_)
  · intro X Y hX hY eX eY hP
    have a1 := rr_dec1 y24 hY eY
    rw [nI_eq (by omega) (by omega)] at eX
    refine rr_conn_s ck hk (by omega) ?_ hP
    unfold rr_adj
    omega
  refine rx_reach _ _ i3 ?_ (fun r4 q4 n4 Q4 i4 s4 e4 l4 c4 => ?_)
  · intro X Y hX hY eX eY hP
    have a1 := rr_inc1 y24 hY eY
    rw [nI_eq (by omega) (by omega)] at eX
    refine rr_conn_s ck hk (by omega) ?_ hP
    unfold rr_adj
    omega
  refine h r4 q4 n4 Q4 i4 (fun j hj z => s4 j hj (s3 j hj (s2 j hj (s1 j hj z)))) (fun i hi => ?_) (by omega) ?_
  · exact (e4 i (by omega)).trans ((e3 i (by omega)).trans ((e2 i (by omega)).trans (e1 i hi)))
  · intro j hj ha hP
    have ej : 24 * (j / 24) + j % 24 = j := by omega
    have pj : P (24 * (j / 24) + j % 24) = P s := by rw [ej]; exact hP
    have j1 : j % 24 < 24 := by omega
    have j2 : j / 24 < 24 := by omega
    unfold rr_adj at ha
    rcases ha with ⟨h1, h2⟩ | ⟨h1, h2⟩ | ⟨h1, h2⟩ | ⟨h1, h2⟩
    · have w := c2 (j % 24) (j / 24) j1 j2 (by rw [nI_1]; exact congrArg nI (by omega)) (congrArg nI (by omega)) pj
      rw [ej] at w
      exact s4 j hj (s3 j hj w)
    · have w := c1 (j % 24) (j / 24) j1 j2 ((pk_sub (b := 1) (by omega)).trans (congrArg nI (by omega))) (congrArg nI (by omega)) pj
      rw [ej] at w
      exact s4 j hj (s3 j hj (s2 j hj w))
    · have w := c4 (j % 24) (j / 24) j1 j2 (congrArg nI (by omega)) (by rw [nI_1]; exact congrArg nI (by omega)) pj
      rw [ej] at w
      exact w
    · have w := c3 (j % 24) (j / 24) j1 j2 (congrArg nI (by omega)) ((pk_sub (b := 1) (by omega)).trans (congrArg nI (by omega))) pj
      rw [ej] at w
      exact s4 j hj w
theorem rx_flood_l {post : Int32 → SX → Prop} {P : Nat → Bool} {s : Nat} {p : Int32} {fa ma : Nat → Int32} (h : ∀ ra' qa' Q, rr_isF P s Q → rr_RX ra' (fun k => P k ^^ Q k) → post (nI (rr_cnt Q 576)) (nI (rr_cnt Q 576), p, ra', fa, ma, qa')) {n : Nat} {ra qa : Nat → Int32} {Q : Nat → Bool} (hI : rr_FI P s ra qa n Q) (h5 : s < 576) (hs : Q s = true) : ∃ n43 : Nat, wX_flood_43 post (rr_bi (P s)) n43 0 (nI n) p ra fa ma qa := by
  refine lp4 (A1 := Nat) (A2 := Nat) (A3 := Nat → Int32) (A4 := Nat → Int32) (fun f m n ra qa => wX_flood_43 post (rr_bi (P s)) f (nI m) (nI n) p ra fa ma qa) (fun m n ra qa => ∃ Q, rr_FI P s ra qa n Q ∧ Q s = true ∧ m ≤ n ∧ rr_Cl P s qa Q m) (fun m _ _ _ => 576 - m) ?_ 0 n ra qa ⟨Q, hI, hs, Nat.zero_le n, fun i hi => absurd hi (Nat.not_lt_zero i)⟩
  rintro f m n ra qa ⟨Q, hI, hs, hmn, hC⟩ hk
  have nle := rr_FI_le hI
  refine pk_le n m (fun z => ?_) (fun z => ?_)
  · have e : m = n := by omega
    subst e
    have w := h ra qa Q (rr_FI_end hI hs hC) hI.1
    rw [← hI.2.1] at w
    exact w
  · refine pk_le 576 m (fun w => by omega) (fun w => ⟨vp_in_nI w (by decide), ?_⟩)
    obtain ⟨k, a1, a2, a3⟩ := hI.2.2.1 m z
    rw [rr_cl w, a3]
    refine rx_nbrs a1 hI a2 (fun r' q' n' Q' i' s' e' l' c' => ?_)
    refine nm_r (nI_1 m) (hk (m + 1) n' r' q' ⟨Q', i', ?_, by omega, ?_⟩ (by omega))
    · exact s' s h5 hs
    · intro i hi
      by_cases e : i = m
      · subst e
        exact ⟨k, a1, by rw [e' i z]; exact a3, c'⟩
      · exact rr_Cl_m hC hmn e' s' i (by omega)
theorem rx_flood {post : Int32 → SX → Prop} {P : Nat → Bool} {q p : Int32} {ra fa ma qa : Nat → Int32} (hP : rr_RX ra P) (v : Int32) (h1 : ∀ x y, rr_P v x y → ∀ q' ra' qa' Q, rr_isF P (24 * y + x) Q → rr_RX ra' (fun k => P k ^^ Q k) → post (nI (rr_cnt Q 576)) (q', p, ra', fa, ma, qa')) (h0 : (¬ ∃ x y, rr_P v x y) → post (-1) (q, p, ra, fa, ma, qa)) : wpX_flood post (q, p, ra, fa, ma, qa) v := by
  unfold wpX_flood
  dsimp only
  refine rx_pix v (fun x y hv => br_f rr_10 ?_) (fun z => br_t rfl (h0 z))
  unfold wpX_columnOf wpX_rowOf
  dsimp only
  rw [rr_P_col hv, rr_P_row hv]
  have hx := hv.1
  have hy := hv.2.1
  refine rx_value hP hx hy ?_
  refine rx_reach (n := 0) (s := 24 * y + x) _ _ (rr_FI_0 hP) ?_ (fun r' q' n' Q' i' s' e' l' c' => ?_)
  · intro X Y hX hY eX eY _
    rw [nI_eq (by omega) (by omega)] at eX eY
    subst eX eY
    exact rr_conn_0 P _
  · exact rx_flood_l (fun ra' qa' Q a b => h1 x y hv _ ra' qa' Q a b) i' (by omega) (c' x y hx hy rfl rfl rfl)
/-! the component's move -/
def rr_stp (d : Int32) : Prop := -24 ≤ d.toInt ∧ d.toInt ≤ 24
theorem rr_m24 (d : Int32) : d < (-24) ↔ d.toInt < -24 := by
  rw [Int32.lt_iff_toInt_lt, show (-24 : Int32).toInt = -24 from by decide]
theorem rr_p24 (d : Int32) : 24 < d ↔ 24 < d.toInt := by
  rw [Int32.lt_iff_toInt_lt, show (24 : Int32).toInt = 24 from by decide]
theorem rr_p24l (d : Int32) : d ≤ 24 ↔ d.toInt ≤ 24 := by
  rw [Int32.le_iff_toInt_le, show (24 : Int32).toInt = 24 from by decide]
theorem rx_step {post : Int32 → Prop} (d : Int32) (h1 : rr_stp d → post 1) (h0 : ¬ rr_stp d → post 0) : wpX_isStep post d := by
  refine ek_if (rr_m24 d) (fun z => h0 (fun w => by have := w.1; omega)) (fun z => ?_)
  exact ek_if (rr_p24 d) (fun y => h0 (fun w => by have := w.2; omega)) (fun y => h1 ⟨by omega, by omega⟩)
theorem rx_shift {post : Int32 → Prop} {ra : Nat → Int32} {P : Nat → Bool} (hP : rr_RX ra P) {s y : Nat} {dx : Int32} {dy : Int} (hd : rr_stp dx) (hs : s < 24) (hdy : (y : Int) - dy = s) (h : ∀ r, (∀ x, x < 32 → bt r x = (decide (x < 24) && rr_mv P dx.toInt dy (24 * y + x))) → post r) : wpX_shifted post (ra s) dx := by
  have h1 := hd.1
  have h2 := hd.2
  refine ek_if (d := 0 ≤ dx.toInt) (by rw [Int32.le_iff_toInt_le, show (0 : Int32).toInt = 0 from by decide]) (fun z => ?_) (fun z => ?_)
  · have e : dx = nI dx.toInt.toNat := by
      rw [rr_n, show ((dx.toInt.toNat : Nat) : Int) = dx.toInt by omega]
      exact rr_of dx
    refine h _ (fun x hx => ?_)
    have w := rr_shL hP (n := dx.toInt.toNat) (s := s) (x := x) (y := y) (dx := dx.toInt) (dy := dy) (by omega) hs (by omega) hdy hx
    rw [← e] at w
    exact w
  · have e : -dx = nI (-dx.toInt).toNat := by
      rw [rr_n, show (((-dx.toInt).toNat : Nat) : Int) = -dx.toInt by omega, ← rr_neg]
      exact congrArg (fun t => -t) (rr_of dx)
    refine h _ (fun x hx => ?_)
    have w := rr_shR hP (n := (-dx.toInt).toNat) (s := s) (x := x) (y := y) (dx := dx.toInt) (dy := dy) (by omega) hs (by omega) hdy hx
    rw [← e] at w
    exact w
theorem rx_move2 {post : Int32 → SX → Prop} {q p : Int32} {ra fa ma qa : Nat → Int32} {P : Nat → Bool} {c : Int32} (hM : rr_RX ma P) (h : ∀ ra', rr_RX ra' P → post (c - nI (rr_cnt P 576)) (q, p, ra', fa, ma, qa)) : ∃ n76 : Nat, wX_move_76 post c q p n76 0 ra fa ma qa := by
  refine loop_0 (fun n i s => wX_move_76 post c q p n (nI i) s fa ma qa) (fun i s => ∀ y, y < i → s y = ma y) 24 ra (fun y hy => absurd hy (Nat.not_lt_zero y)) ?_ ?_
  · intro n s hI
    have hR : rr_RX s P := fun y hy x hx => by rw [hI y hy]; exact hM y hy x hx
    refine br_t rr_24 ?_
    exact rx_count hR (h s hR)
  · intro n i s hi hI hk
    refine br_f (rr_l24 hi) ⟨vp_in_nI hi (by decide), vp_in_nI hi (by decide), ?_⟩
    rw [rr_cl (by omega)]
    refine nm_e (nm_r (nI_1 i) (hk _ ?_))
    intro y hy
    by_cases e : y = i
    · rw [e]; exact pk_us
    · show upd s i (ma i) y = ma y
      rw [pk_un e]
      exact hI y (by omega)
theorem rx_move {post : Int32 → SX → Prop} {q p : Int32} {ra fa ma qa : Nat → Int32} {P : Nat → Bool} (hP : rr_RX ra P) (d e : Int32) (h1 : rr_stp d ∧ rr_stp e → ∀ ra' ma', rr_RX ra' (rr_mv P d.toInt e.toInt) → post (nI (rr_cnt P 576) - nI (rr_cnt (rr_mv P d.toInt e.toInt) 576)) (q, p, ra', fa, ma', qa)) (h0 : ¬ (rr_stp d ∧ rr_stp e) → post (-1) (q, p, ra, fa, ma, qa)) : wpX_move post (q, p, ra, fa, ma, qa) d e := by
  unfold wpX_move
  dsimp only
  refine rx_step d (fun hd => br_f rr_10 ?_) (fun z => br_t rfl (h0 (fun w => z w.1)))
  refine rx_step e (fun he => br_f rr_10 ?_) (fun z => br_t rfl (h0 (fun w => z w.2)))
  refine rx_count hP ?_
  refine loop_0 (fun n i s => wX_move_24 post d e (nI (rr_cnt P 576)) q p n (nI i) ra fa s qa) (fun i s => ∀ y, y < i → ∀ x, x < 32 → bt (s y) x = (decide (x < 24) && rr_mv P d.toInt e.toInt (24 * y + x))) 24 ma (fun y hy => absurd hy (Nat.not_lt_zero y)) ?_ ?_
  · intro n s hI
    exact br_t rr_24 (rx_move2 (P := rr_mv P d.toInt e.toInt) hI (fun ra' hR => h1 ⟨hd, he⟩ ra' s hR))
  · intro n i s hi hI hk
    have he1 := he.1
    have he2 := he.2
    have ex : nI i - e = rr_i ((i : Int) - e.toInt) := by
      rw [← rr_sub, ← rr_n]
      exact congrArg (fun t => nI i - t) (rr_of e)
    have up : ∀ v, (∀ x, x < 32 → bt v x = (decide (x < 24) && rr_mv P d.toInt e.toInt (24 * i + x))) → ∀ y, y < i + 1 → ∀ x, x < 32 → bt (upd s i v y) x = (decide (x < 24) && rr_mv P d.toInt e.toInt (24 * y + x)) := by
      intro v hv y hy x hx
      by_cases ey : y = i
      · subst ey
        rw [pk_us]
        exact hv x hx
      · rw [pk_un ey]
        exact hI y (by omega) x hx
    refine br_f (rr_l24 hi) (nm_e ?_)
    refine rx_side _ (fun m hm em => br_f rr_10 ?_) (fun z => br_t rfl ⟨vp_in_nI hi (by decide), ?_⟩)
    · rw [em]
      refine ⟨vp_in_nI hm (by decide), ?_⟩
      rw [rr_cl (show m < 576 by omega), rr_cl (show i < 576 by omega)]
      rw [ex, rr_n, rr_eq (by omega) (by omega)] at em
      refine rx_shift hP hd hm em (fun r hr => ⟨vp_in_nI hi (by decide), ?_⟩)
      exact nm_e (nm_r (nI_1 i) (hk _ (up r hr)))
    · rw [rr_cl (show i < 576 by omega)]
      refine nm_e (nm_r (nI_1 i) (hk _ (up 0 (fun x hx => rr_sh0 ?_))))
      intro w
      refine z ((i : Int) - e.toInt).toNat (by omega) ?_
      rw [ex, rr_n]
      exact congrArg rr_i (by omega)
