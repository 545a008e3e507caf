/-! the component's disc, blot and triangle -/
def rr_gd (r a b : Int32) (x y : Int32) : Prop := ¬ r * r < (x - a) * (x - a) + (y - b) * (y - b)
def rr_gb (r s a b : Int32) (x y : Int32) : Prop := ¬ r * r * s * s < s * s * (x - a) * (x - a) + r * r * (y - b) * (y - b)
def rr_sp (a b c v : Int32) : Prop := (a ≤ v ∨ b ≤ v ∨ c ≤ v) ∧ (v ≤ a ∨ v ≤ b ∨ v ≤ c)
def rr_sd (x0 y0 x1 y1 : Nat) (x y : Int32) : Int32 := (nI x1 - nI x0) * (y - nI y0) - (nI y1 - nI y0) * (x - nI x0)
def rr_ins (a b c : Int32) : Prop := (¬ a < 0 ∧ ¬ b < 0 ∧ 0 ≤ c) ∨ (¬ 0 < a ∧ ¬ 0 < b ∧ ¬ 0 < c)
def rr_gt (x1 y1 x2 y2 x3 y3 : Nat) (x y : Int32) : Prop :=
  rr_ins (rr_sd x1 y1 x2 y2 x y) (rr_sd x2 y2 x3 y3 x y) (rr_sd x3 y3 x1 y1 x y) ∧ rr_sp (nI x1) (nI x2) (nI x3) x ∧ rr_sp (nI y1) (nI y2) (nI y3) y
theorem rx_span20 {post : Int32 → Prop} {x0 x1 x2 x3 z : Int32} (hA : (x3 ≤ x0 ∨ x3 ≤ x1 ∨ x3 ≤ x2) → wX_isSpanned_42 post z 0) (hN : ¬ (x3 ≤ x0 ∨ x3 ≤ x1 ∨ x3 ≤ x2) → wX_isSpanned_42 post z 1) : wX_isSpanned_20 post x0 x1 x2 x3 z :=
  br_c (fun a => hA (Or.inl a)) (fun a => br_c (fun b => hA (Or.inr (Or.inl b))) (fun b => br_c (fun c => hA (Or.inr (Or.inr c))) (fun c => hN (fun h => h.elim a (fun h => h.elim b c)))))
theorem rx_span {post : Int32 → Prop} {a b c v : Int32} (h1 : rr_sp a b c v → post 1) (h0 : ¬ rr_sp a b c v → post 0) : wpX_isSpanned post a b c v := by
  have go : (a ≤ v ∨ b ≤ v ∨ c ≤ v) → wX_isSpanned_20 post a b c v 0 := fun B =>
    rx_span20 (fun A => br_t rfl (br_t rfl (h1 ⟨B, A⟩))) (fun N => br_t rfl (br_f rr_10 (h0 (fun z => N z.2))))
  refine br_c (fun x => go (Or.inl x)) (fun x => br_c (fun y => go (Or.inr (Or.inl y))) (fun y => br_c (fun z => go (Or.inr (Or.inr z))) (fun z => ?_)))
  have n : ¬ rr_sp a b c v := fun h => h.1.elim x (fun h => h.elim y z)
  exact rx_span20 (fun _ => br_f rr_10 (h0 n)) (fun _ => br_f rr_10 (h0 n))
theorem rx_box {post : Int32 → Prop} {v1 v2 v3 : Int32} {x1 y1 x2 y2 x3 y3 : Nat} (h1 : rr_P v1 x1 y1) (h2 : rr_P v2 x2 y2) (h3 : rr_P v3 x3 y3) (x y : Int32) (t : rr_sp (nI x1) (nI x2) (nI x3) x ∧ rr_sp (nI y1) (nI y2) (nI y3) y → post 1) (f : ¬ (rr_sp (nI x1) (nI x2) (nI x3) x ∧ rr_sp (nI y1) (nI y2) (nI y3) y) → post 0) : wpX_isInBox post v1 v2 v3 x y := by
  unfold wpX_isInBox wpX_columnOf wpX_rowOf
  dsimp only
  rw [rr_P_col h1, rr_P_col h2, rr_P_col h3, rr_P_row h1, rr_P_row h2, rr_P_row h3]
  refine rx_span (fun a => br_f rr_10 ?_) (fun a => br_t rfl (f (fun z => a z.1)))
  exact rx_span (fun b => br_f rr_10 (t ⟨a, b⟩)) (fun b => br_t rfl (f (fun z => b z.2)))
theorem rx_turn {post : Int32 → Prop} {v1 v2 : Int32} {x1 y1 x2 y2 : Nat} (h1 : rr_P v1 x1 y1) (h2 : rr_P v2 x2 y2) (x y : Int32) (t : post (rr_sd x1 y1 x2 y2 x y)) : wpX_turn post v1 v2 x y := by
  unfold wpX_turn wpX_columnOf wpX_rowOf
  dsimp only
  rw [rr_P_col h1, rr_P_col h2, rr_P_row h1, rr_P_row h2]
  exact t
theorem rx_one {post : Int32 → Prop} {v1 v2 v3 : Int32} {x1 y1 x2 y2 x3 y3 : Nat} (h1 : rr_P v1 x1 y1) (h2 : rr_P v2 x2 y2) (h3 : rr_P v3 x3 y3) (x y : Int32) (t : rr_ins (rr_sd x1 y1 x2 y2 x y) (rr_sd x2 y2 x3 y3 x y) (rr_sd x3 y3 x1 y1 x y) → post 1) (f : ¬ rr_ins (rr_sd x1 y1 x2 y2 x y) (rr_sd x2 y2 x3 y3 x y) (rr_sd x3 y3 x1 y1 x y) → post 0) : wpX_isOnOneSide post v1 v2 v3 x y := by
  unfold wpX_isOnOneSide
  refine rx_turn h1 h2 _ _ ?_
  refine rx_turn h2 h3 _ _ ?_
  refine rx_turn h3 h1 _ _ ?_
  generalize rr_sd x1 y1 x2 y2 x y = a at *
  generalize rr_sd x2 y2 x3 y3 x y = b at *
  generalize rr_sd x3 y3 x1 y1 x y = c at *
  have go : ¬ (¬ a < 0 ∧ ¬ b < 0 ∧ 0 ≤ c) → wX_isOnOneSide_45 post a b c := fun n =>
    br_c (fun u => f (fun z => z.elim n (fun z => z.1 u))) (fun u => br_c (fun w => f (fun z => z.elim n (fun z => z.2.1 w))) (fun w => br_c (fun k => f (fun z => z.elim n (fun z => z.2.2 k))) (fun k => t (Or.inr ⟨u, w, k⟩))))
  exact br_c (fun u => go (fun z => z.1 u)) (fun u => br_c (fun w => go (fun z => z.2.1 w)) (fun w => br_c (fun k => t (Or.inl ⟨u, w, k⟩)) (fun k => go (fun z => k z.2.2))))
theorem rx_disc_in {post : SX → Prop} {J : Int32 → Int32 → Int32 → (Nat → Int32) → (Nat → Int32) → (Nat → Int32) → (Nat → Int32) → Prop} {r a b : Int32} {y : Nat} (hy : y < 24) {q p : Int32} {ra fa ma qa : Nat → Int32}  (h0 : rr_RF fa (fun k => k < 24 * y ∧ rr_G (rr_gd r a b) k)) (hJ : ∀ fa', rr_RF fa' (fun k => k < 24 * (y + 1) ∧ rr_G (rr_gd r a b) k) → J (nI (y + 1)) q p ra fa' ma qa) : ∃ n, wX_markDisc_24 post J r a b (nI y) n 0 q p ra fa ma qa := by
  refine loop_0 (fun n i s => wX_markDisc_24 post J r a b (nI y) n (nI i) q p ra s ma qa) (fun i s => rr_RF s (fun k => k < 24 * y + i ∧ rr_G (rr_gd r a b) k)) 24 fa h0 ?_ ?_
  · intro n s hs
    exact br_t rr_24 (nm_r (nI_1 y) (hJ s (rr_RF_c hs (fun k _ => ⟨fun z => ⟨by omega, z.2⟩, fun z => ⟨by omega, z.2⟩⟩))))
  · intro n i s hi hs hk
    refine br_f (rr_l24 hi) (br_c (fun c => nm_r (nI_1 i) (hk s (rr_st0 hi hs (fun z => z c)))) (fun c => ?_))
    refine rx_mark _ _ hs (fun fa' hf => ?_)
    exact nm_r (nI_1 i) (hk fa' (rr_st1 hi hy hf c))
theorem rx_blot_in {post : SX → Prop} {J : Int32 → Int32 → Int32 → (Nat → Int32) → (Nat → Int32) → (Nat → Int32) → (Nat → Int32) → Prop} {r t a b : Int32} {y : Nat} (hy : y < 24) {q p : Int32} {ra fa ma qa : Nat → Int32}  (h0 : rr_RF fa (fun k => k < 24 * y ∧ rr_G (rr_gb r t a b) k)) (hJ : ∀ fa', rr_RF fa' (fun k => k < 24 * (y + 1) ∧ rr_G (rr_gb r t a b) k) → J (nI (y + 1)) q p ra fa' ma qa) : ∃ n, wX_markBlot_25 post J r t a b (nI y) n 0 q p ra fa ma qa := by
  refine loop_0 (fun n i s => wX_markBlot_25 post J r t a b (nI y) n (nI i) q p ra s ma qa) (fun i s => rr_RF s (fun k => k < 24 * y + i ∧ rr_G (rr_gb r t a b) k)) 24 fa h0 ?_ ?_
  · intro n s hs
    exact br_t rr_24 (nm_r (nI_1 y) (hJ s (rr_RF_c hs (fun k _ => ⟨fun z => ⟨by omega, z.2⟩, fun z => ⟨by omega, z.2⟩⟩))))
  · intro n i s hi hs hk
    refine br_f (rr_l24 hi) (nm_e (nm_e (br_c (fun c => nm_r (nI_1 i) (hk s (rr_st0 hi hs (fun z => z c)))) (fun c => ?_))))
    refine rx_mark _ _ hs (fun fa' hf => ?_)
    exact nm_r (nI_1 i) (hk fa' (rr_st1 hi hy hf c))
theorem rx_tri_in {post : SX → Prop} {J : Int32 → Int32 → Int32 → (Nat → Int32) → (Nat → Int32) → (Nat → Int32) → (Nat → Int32) → Prop} {v1 v2 v3 : Int32} {x1 y1 x2 y2 x3 y3 : Nat} {y : Nat} (hy : y < 24) {q p : Int32} {ra fa ma qa : Nat → Int32} (h1 : rr_P v1 x1 y1) (h2 : rr_P v2 x2 y2) (h3 : rr_P v3 x3 y3) (h0 : rr_RF fa (fun k => k < 24 * y ∧ rr_G (rr_gt x1 y1 x2 y2 x3 y3) k)) (hJ : ∀ fa', rr_RF fa' (fun k => k < 24 * (y + 1) ∧ rr_G (rr_gt x1 y1 x2 y2 x3 y3) k) → J (nI (y + 1)) q p ra fa' ma qa) : ∃ n, wX_markTriangle_13 post J v1 v2 v3 (nI y) n 0 q p ra fa ma qa := by
  refine loop_0 (fun n i s => wX_markTriangle_13 post J v1 v2 v3 (nI y) n (nI i) q p ra s ma qa) (fun i s => rr_RF s (fun k => k < 24 * y + i ∧ rr_G (rr_gt x1 y1 x2 y2 x3 y3) k)) 24 fa h0 ?_ ?_
  · intro n s hs
    exact br_t rr_24 (nm_r (nI_1 y) (hJ s (rr_RF_c hs (fun k _ => ⟨fun z => ⟨by omega, z.2⟩, fun z => ⟨by omega, z.2⟩⟩))))
  · intro n i s hi hs hk
    refine br_f (rr_l24 hi) ?_
    refine rx_box h1 h2 h3 _ _ (fun z => br_f rr_10 ?_) (fun z => br_t rfl (nm_r (nI_1 i) (hk s (rr_st0 hi hs (fun w => z w.2)))))
    refine rx_one h1 h2 h3 _ _ (fun w => br_f rr_10 ?_) (fun w => br_t rfl (nm_r (nI_1 i) (hk s (rr_st0 hi hs (fun t => w t.1)))))
    refine rx_mark _ _ hs (fun fa' hf => ?_)
    exact nm_r (nI_1 i) (hk fa' (rr_st1 hi hy hf ⟨w, z⟩))
theorem rx_disc {post : SX → Prop} {q p : Int32} {ra fa ma qa : Nat → Int32} {m r : Int32} {x y : Nat} (hm : rr_P m x y) (hF : rr_RF fa (fun _ => False)) (h : ∀ fa', rr_RF fa' (rr_G (rr_gd r (nI x) (nI y))) → post (q, p, ra, fa', ma, qa)) : wpX_markDisc post (q, p, ra, fa, ma, qa) m r := by
  unfold wpX_markDisc wpX_columnOf wpX_rowOf
  dsimp only
  rw [rr_P_col hm, rr_P_row hm]
  refine loop_0 (fun n i s => wX_markDisc_14 post r (nI x) (nI y) n (nI i) q p ra s ma qa) (fun i s => rr_RF s (fun k => k < 24 * i ∧ rr_G (rr_gd r (nI x) (nI y)) k)) 24 fa ?_ ?_ ?_
  · exact rr_RF_c hF (fun k _ => ⟨fun z => z.elim, fun z => by omega⟩)
  · intro n s hs
    exact br_t rr_24 (h s (rr_RF_c hs (fun k hk => ⟨fun z => z.2, fun z => ⟨by omega, z⟩⟩)))
  · intro n i s hi hs hk
    exact br_f (rr_l24 hi) (rx_disc_in hi hs hk)
theorem rx_blot {post : SX → Prop} {q p : Int32} {ra fa ma qa : Nat → Int32} {m r s : Int32} {x y : Nat} (hm : rr_P m x y) (hF : rr_RF fa (fun _ => False)) (h : ∀ fa', rr_RF fa' (rr_G (rr_gb r s (nI x) (nI y))) → post (q, p, ra, fa', ma, qa)) : wpX_markBlot post (q, p, ra, fa, ma, qa) m r s := by
  unfold wpX_markBlot wpX_columnOf wpX_rowOf
  dsimp only
  rw [rr_P_col hm, rr_P_row hm]
  refine loop_0 (fun n i w => wX_markBlot_15 post r s (nI x) (nI y) n (nI i) q p ra w ma qa) (fun i w => rr_RF w (fun k => k < 24 * i ∧ rr_G (rr_gb r s (nI x) (nI y)) k)) 24 fa ?_ ?_ ?_
  · exact rr_RF_c hF (fun k _ => ⟨fun z => z.elim, fun z => by omega⟩)
  · intro n s hs
    exact br_t rr_24 (h s (rr_RF_c hs (fun k hk => ⟨fun z => z.2, fun z => ⟨by omega, z⟩⟩)))
  · intro n i s hi hs hk
    exact br_f (rr_l24 hi) (rx_blot_in hi hs hk)
theorem rx_tri {post : SX → Prop} {q p : Int32} {ra fa ma qa : Nat → Int32} {v1 v2 v3 : Int32} {x1 y1 x2 y2 x3 y3 : Nat} (h1 : rr_P v1 x1 y1) (h2 : rr_P v2 x2 y2) (h3 : rr_P v3 x3 y3) (hF : rr_RF fa (fun _ => False)) (h : ∀ fa', rr_RF fa' (rr_G (rr_gt x1 y1 x2 y2 x3 y3)) → post (q, p, ra, fa', ma, qa)) : wpX_markTriangle post (q, p, ra, fa, ma, qa) v1 v2 v3 := by
  show ∃ n3 : Nat, wX_markTriangle_3 post v1 v2 v3 n3 0 q p ra fa ma qa
  refine loop_0 (fun n i s => wX_markTriangle_3 post v1 v2 v3 n (nI i) q p ra s ma qa) (fun i s => rr_RF s (fun k => k < 24 * i ∧ rr_G (rr_gt x1 y1 x2 y2 x3 y3) k)) 24 fa ?_ ?_ ?_
  · exact rr_RF_c hF (fun k _ => ⟨fun z => z.elim, fun z => by omega⟩)
  · intro n s hs
    exact br_t rr_24 (h s (rr_RF_c hs (fun k hk => ⟨fun z => z.2, fun z => ⟨by omega, z⟩⟩)))
  · intro n i s hi hs hk
    exact br_f (rr_l24 hi) (rx_tri_in hi h1 h2 h3 hs hk)
