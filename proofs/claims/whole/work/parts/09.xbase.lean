/-! the component's small methods -/
theorem rr_10 : ¬ (1 : Int32) = 0 := by decide
theorem rr_24 : (24 : Int32) ≤ nI 24 := nI_le (a := 24) (Nat.le_refl 24) (by decide)
theorem rr_l24 {i : Nat} (h : i < 24) : ¬ (24 : Int32) ≤ nI i := nI_ge (b := 24) h (by decide)
theorem rr_576 : (576 : Int32) ≤ nI 576 := nI_le (a := 576) (Nat.le_refl 576) (by decide)
theorem rr_l576 {i : Nat} (h : i < 576) : ¬ (576 : Int32) ≤ nI i := nI_ge (b := 576) h (by decide)
theorem rr_cl {i : Nat} (h : i < 576) : (nI i).toNatClampNeg = i := nI_clamp (by omega)
theorem rx_side {post : Int32 → Prop} (x : Int32) (h1 : ∀ n, n < 24 → x = nI n → post 1) (h0 : (∀ n, n < 24 → x ≠ nI n) → post 0) : wpX_isOnSide post x := by
  by_cases h : x < 0
  · exact br_t h (h0 (by rintro n hn rfl; exact nI_pos (by omega) h))
  · obtain ⟨j, hj, rfl⟩ := nI_of h
    by_cases z : j < 24
    · exact br_f h (br_f (nI_ge (b := 24) z (by decide)) (h1 j z rfl))
    · refine br_f h (br_t (nI_le (a := 24) (by omega) hj) (h0 ?_))
      intro n hn e
      rw [nI_eq hj (by omega)] at e
      omega
theorem rx_pix {post : Int32 → Prop} (v : Int32) (h1 : ∀ x y, rr_P v x y → post 1) (h0 : (¬ ∃ x y, rr_P v x y) → post 0) : wpX_isPixel post v := by
  unfold wpX_isPixel wpX_columnOf wpX_rowOf
  dsimp only
  rcases rr_P_or v with ⟨x, y, h⟩ | ⟨hh, hno⟩
  · refine rx_side _ (fun n hn en => br_f rr_10 ?_) (fun z => absurd (rr_P_col h) (z x h.1))
    exact rx_side _ (fun m hm em => br_f rr_10 (h1 x y h)) (fun z => absurd (rr_P_row h) (z y h.2.1))
  · have key : ∀ n m, n < 24 → m < 24 → v &&& 31 = nI n → v >>> ((5 : Int32) &&& 31) = nI m → False := by
      intro n m hn hm en em
      rcases hh with h | ⟨w, hw, rfl, hz⟩
      · have z := rr_row_neg h
        rw [em] at z
        exact nI_pos (by omega) z
      · rw [rr_col (by omega), nI_eq (by omega) (by omega)] at en
        rw [rr_row hw, nI_eq (by omega) (by omega)] at em
        omega
    refine rx_side _ (fun n hn en => br_f rr_10 ?_) (fun _ => br_t rfl (h0 hno))
    exact rx_side _ (fun m hm em => (key n m hn hm en em).elim) (fun _ => br_t rfl (h0 hno))
theorem rx_clear {post : SX → Prop} {q p : Int32} {ra fa ma qa : Nat → Int32} (h : ∀ fa', rr_RF fa' (fun _ => False) → post (q, p, ra, fa', ma, qa)) : wpX_clearFigure post (q, p, ra, fa, ma, qa) := by
  show ∃ n2 : Nat, wX_clearFigure_2 post q p n2 0 ra fa ma qa
  refine loop_0 (fun n i s => wX_clearFigure_2 post q p n (nI i) ra s ma qa) (fun i s => ∀ y, y < i → s y = 0) 24 fa (fun y hy => absurd hy (Nat.not_lt_zero y)) ?_ ?_
  · intro n s hI
    exact br_t rr_24 (h s (rr_RF0 hI))
  · intro n i s hi hI hk
    refine br_f (rr_l24 hi) ⟨vp_in_nI hi (by decide), nm_r (congrArg (fun t => upd s t 0) (rr_cl (by omega))) (nm_r (nI_1 i) (hk _ ?_))⟩
    intro y hy
    by_cases e : y = i
    · rw [e]; exact pk_us
    · show upd s i 0 y = 0
      rw [pk_un e]
      exact hI y (by omega)
theorem rx_mark {post : SX → Prop} {q p : Int32} {ra fa ma qa : Nat → Int32} {F : Nat → Prop} (x y : Int32) (hF : rr_RF fa F) (h : ∀ fa', rr_RF fa' (fun k => F k ∨ (x = nI (k % 24) ∧ y = nI (k / 24))) → post (q, p, ra, fa', ma, qa)) : wpX_mark post (q, p, ra, fa, ma, qa) x y := by
  have off : ((∀ n, n < 24 → x ≠ nI n) ∨ (∀ n, n < 24 → y ≠ nI n)) → rr_RF fa (fun k => F k ∨ (x = nI (k % 24) ∧ y = nI (k / 24))) := by
    intro z
    refine rr_RF_c hF (fun k hk => ⟨Or.inl, ?_⟩)
    rintro (w | w)
    · exact w
    · rcases z with z | z
      · exact absurd w.1 (z _ (Nat.mod_lt _ (by decide)))
      · exact absurd w.2 (z _ (by omega))
  unfold wpX_mark
  dsimp only
  refine rx_side x (fun n hn en => br_f rr_10 ?_) (fun z => br_t rfl (h fa (off (Or.inl z))))
  refine rx_side y (fun m hm em => br_f rr_10 ?_) (fun z => br_t rfl (h fa (off (Or.inr z))))
  subst en em
  refine ⟨vp_in_nI hm (by decide), vp_in_nI hm (by decide), nm_r ?_ (h _ (rr_markU hF hn hm))⟩
  rw [nI_clamp (by omega)]
theorem rx_drawn {post : Int32 → Prop} {q : Int32} {ra fa ma qa : Nat → Int32} {P F : Nat → Bool} {p y : Nat} (hp : p ≤ 2) {b m : Int32} (hb : ∀ x, x < 32 → bt b x = (decide (x < 24) && P (24 * y + x))) (hm : ∀ x, x < 32 → bt m x = (decide (x < 24) && F (24 * y + x))) (h : ∀ r, (∀ x, x < 32 → bt r x = (decide (x < 24) && rr_dr p P F (24 * y + x))) → post r) : wpX_drawn post (q, nI p, ra, fa, ma, qa) b m := by
  have hc : p = 0 ∨ p = 1 ∨ p = 2 := by omega
  rcases hc with rfl | rfl | rfl
  · exact br_t nI_0 (h _ (fun x hx => rr_row0 (hb x hx) (hm x hx)))
  · exact br_f (by decide) (br_t rfl (h _ (fun x hx => rr_row1 hx (hb x hx) (hm x hx))))
  · exact br_f (by decide) (br_f (by decide) (h _ (fun x hx => rr_row2 (hb x hx) (hm x hx))))
theorem rx_ones {post : Int32 → Prop} (b : Int32) (h : post (nI (rr_cnt (bt b) 24))) : wpX_ones post b := by
  show ∃ n4 : Nat, wX_ones_4 post b n4 0 0
  refine loop_0 (fun n i s => wX_ones_4 post b n s (nI i)) (fun i s => s = nI (rr_cnt (bt b) i)) 24 0 rfl ?_ ?_
  · intro n s hs
    subst hs
    exact br_t rr_24 h
  · intro n i s hi hs hk
    subst hs
    refine br_f (rr_l24 hi) (nm_r ?_ (nm_r (nI_1 i) (hk (nI (rr_cnt (bt b) (i + 1))) rfl)))
    rw [rr_bit b (by omega), rr_cbi]
theorem rx_draw {post : Int32 → SX → Prop} {q : Int32} {p : Nat} {ra fa ma qa : Nat → Int32} {P F : Nat → Bool} (hp : p ≤ 2) (hP : rr_RX ra P) (hF : rr_RX fa F) (h : ∀ ra', rr_RX ra' (rr_dr p P F) → post (nI (rr_cnt (rr_df p P F) 576)) (q, nI p, ra', fa, ma, qa)) : wpX_drawFigure post (q, nI p, ra, fa, ma, qa) := by
  show ∃ n4 : Nat, wX_drawFigure_4 post q (nI p) n4 0 0 ra fa ma qa
  refine loop_0 (fun n i (s : Int32 × (Nat → Int32)) => wX_drawFigure_4 post q (nI p) n s.1 (nI i) s.2 fa ma qa) (fun i s => s.1 = nI (rr_cnt (rr_df p P F) (24 * i)) ∧ rr_RX s.2 (fun k => if k < 24 * i then rr_dr p P F k else P k)) 24 (0, ra) ⟨rfl, rr_RX_c hP (fun k _ => (if_neg (by omega)).symm)⟩ ?_ ?_
  · rintro n ⟨c, a⟩ ⟨h1, h2⟩
    dsimp only at h1 h2 ⊢
    subst h1
    exact br_t rr_24 (h a (rr_RX_c h2 (fun k hk => if_pos hk)))
  · rintro n i ⟨c, a⟩ hi ⟨h1, h2⟩ hk
    dsimp only at h1 h2 ⊢
    subst h1
    have hr : ∀ x, x < 32 → bt (a i) x = (decide (x < 24) && P (24 * i + x)) := by
      intro x hx
      rw [h2 i hi x hx]
      dsimp only
      rw [if_neg (by omega)]
    refine br_f (rr_l24 hi) ⟨vp_in_nI hi (by decide), ?_⟩
    rw [rr_cl (by omega)]
    refine nm_e ⟨vp_in_nI hi (by decide), ?_⟩
    refine rx_drawn hp hr (fun x hx => hF i hi x hx) (fun r hr2 => ?_)
    refine rx_ones _ ?_
    refine nm_r ?_ ⟨vp_in_nI hi (by decide), nm_e (nm_r (nI_1 i) (hk (nI (rr_cnt (rr_df p P F) (24 * (i + 1))), upd a i r) ⟨rfl, rr_RX_u h2 hr2⟩))⟩
    rw [← rr_cnt24]
    refine congrArg (fun t => nI (rr_cnt (rr_df p P F) (24 * i)) + nI t) (rr_cnt_congr 24 (fun x hx => ?_))
    rw [b_xor, hr x (by omega), hr2 x (by omega), decide_eq_true hx, Bool.true_and, Bool.true_and]
    rfl
theorem rx_count {post : Int32 → Prop} {q p : Int32} {ra fa ma qa : Nat → Int32} {P : Nat → Bool} (hP : rr_RX ra P) (h : post (nI (rr_cnt P 576))) : wpX_count post (q, p, ra, fa, ma, qa) := by
  show ∃ n4 : Nat, wX_count_4 post q p ra fa ma qa n4 0 0
  refine loop_0 (fun n i s => wX_count_4 post q p ra fa ma qa n s (nI i)) (fun i s => s = nI (rr_cnt P (24 * i))) 24 0 rfl ?_ ?_
  · intro n s hs
    subst hs
    exact br_t rr_24 h
  · intro n i s hi hs hk
    subst hs
    refine br_f (rr_l24 hi) ⟨vp_in_nI hi (by decide), ?_⟩
    rw [rr_cl (by omega)]
    refine rx_ones _ ?_
    refine nm_r ?_ (nm_r (nI_1 i) (hk (nI (rr_cnt P (24 * (i + 1)))) rfl))
    rw [← rr_cnt24]
    exact congrArg (fun t => nI (rr_cnt P (24 * i)) + nI t) (rr_cnt_congr 24 (fun x hx => rr_RX_at hP hx hi))
