/-! the component's line and ring -/
theorem rx_dist {post : Int32 → Prop} {a b : Nat} (ha : a < 2 ^ 31) (hb : b < 2 ^ 31) (h : post (nI (rr_dist a b))) : wpX_distance post (nI a) (nI b) := by
  refine pk_le b a (fun z => ?_) (fun z => ?_) rfl rfl hb ha
  · have e : rr_dist a b = a - b := if_neg (by omega)
    rw [e] at h
    rw [pk_sub z]
    exact h
  · have e : rr_dist a b = b - a := if_pos z
    rw [e] at h
    rw [pk_sub (by omega)]
    exact h
theorem rx_hi {post : Int32 → Prop} {a b : Nat} (ha : a < 2 ^ 31) (hb : b < 2 ^ 31) (h : post (nI (rr_hi a b))) : wpX_greater post (nI a) (nI b) := by
  refine pk_le b a (fun z => ?_) (fun z => ?_) rfl rfl hb ha
  · have e : rr_hi a b = a := if_neg (by omega)
    rw [e] at h
    exact h
  · have e : rr_hi a b = b := if_pos z
    rw [e] at h
    exact h
theorem rx_lo {post : Int32 → Prop} {a b : Nat} (ha : a < 2 ^ 31) (hb : b < 2 ^ 31) (h : post (nI (rr_lo a b))) : wpX_smaller post (nI a) (nI b) := by
  refine pk_le b a (fun z => ?_) (fun z => ?_) rfl rfl hb ha
  · have e : rr_lo a b = b := if_neg (by omega)
    rw [e] at h
    exact h
  · have e : rr_lo a b = a := if_pos z
    rw [e] at h
    exact h
theorem rx_nol25 {post : Int32 → Prop} {u fv tv L z : Nat} (hu : u < 24) (hf : fv < 24) (ht : tv < 24) (hz : z < 24) (hL0 : L ≠ 0) (hL : L ≤ 23) (h : post (nI (rr_lo fv tv + (2 * (rr_dist u z * rr_dist fv tv) + L - 1) / (2 * L)))) : wX_nearestOnLine_25 post (nI u) (nI fv) (nI tv) (nI L) (nI z) := by
  unfold wX_nearestOnLine_25
  refine rx_lo (by omega) (by omega) ?_
  refine rx_dist (by omega) (by omega) ?_
  refine rx_dist (by omega) (by omega) ?_
  have b1 := rr_dist_le hu hz
  have b2 := rr_dist_le hf ht
  have b3 : rr_dist u z * rr_dist fv tv ≤ 23 * 23 := Nat.mul_le_mul b1 b2
  refine nm_r (pk_mul _ _) ⟨?_, ?_⟩
  · intro e
    have e2 : nI (2 * L) = nI 0 := (pk_mul 2 L).symm.trans e
    rw [nI_eq (by omega) (by omega)] at e2
    omega
  · have e1 : (2 : Int32) * nI (rr_dist u z * rr_dist fv tv) = nI (2 * (rr_dist u z * rr_dist fv tv)) := pk_mul 2 _
    have e2 : (2 : Int32) * nI L = nI (2 * L) := pk_mul 2 _
    have e3 : nI (2 * (rr_dist u z * rr_dist fv tv) + L) - 1 = nI (2 * (rr_dist u z * rr_dist fv tv) + L - 1) := pk_sub (b := 1) (by omega)
    rw [e1, e2, nI_add, e3, pk_div (by omega) (by omega) (by omega), nI_add]
    exact h
theorem rx_nol {post : Int32 → Prop} {u fu fv tu tv : Nat} (hu : u < 24) (h1 : fu < 24) (h2 : fv < 24) (h3 : tu < 24) (h4 : tv < 24) (h : post (nI (rr_nolX u fu fv tu tv))) : wpX_nearestOnLine post (nI u) (nI fu) (nI fv) (nI tu) (nI tv) := by
  unfold wpX_nearestOnLine
  refine rx_dist (by omega) (by omega) ?_
  have b1 := rr_dist_le h1 h3
  unfold rr_nolX at h
  refine pk_eq (rr_dist fu tu) 0 (fun e => ?_) (fun ne => ?_)
  · rw [if_pos e] at h
    exact h
  · rw [if_neg ne] at h
    unfold rr_nol at h
    refine pk_lt tv fv (fun z => ?_) (fun z => ?_)
    · rw [if_neg (show ¬ fv ≤ tv by omega)] at h
      exact rx_nol25 hu h2 h4 h3 ne b1 h
    · rw [if_pos z] at h
      exact rx_nol25 hu h2 h4 h1 ne b1 h
theorem rr_nolX_lt {u fu fv tu tv : Nat} (hu : u < 24) (h1 : fu < 24) (h2 : fv < 24) (h3 : tu < 24) (h4 : tv < 24) : rr_nolX u fu fv tu tv < 2100 := by
  unfold rr_nolX
  by_cases e : rr_dist fu tu = 0
  · rw [if_pos e]; omega
  · rw [if_neg e]
    have b := rr_nol_lt hu h1 h2 h3 h4 e
    unfold rr_nol
    have c := Nat.div_le_self (2 * (rr_dist u (if fv ≤ tv then fu else tu) * rr_dist fv tv) + rr_dist fu tu - 1) (2 * rr_dist fu tu)
    have d : (if fv < tv then fv else tv) < 24 := by
      by_cases z : fv < tv
      · rw [if_pos z]; exact h2
      · rw [if_neg z]; exact h4
    omega
theorem rr_lo_hi {a b : Nat} (ha : a < 24) (hb : b < 24) : rr_lo a b ≤ rr_hi a b ∧ rr_hi a b < 24 := by
  unfold rr_lo rr_hi
  by_cases z : a < b
  · rw [if_pos z, if_pos z]; omega
  · rw [if_neg z, if_neg z]; omega
theorem rx_flat {post : SX → Prop} {q p : Int32} {ra fa ma qa : Nat → Int32} {a b c d : Nat} (ha : a < 24) (hb : b < 24) (hc : c < 24) (hd : d < 24) (hF : rr_RF fa (fun _ => False)) (h : ∀ fa', rr_RF fa' (fun k => rr_lo a c ≤ k % 24 ∧ k % 24 ≤ rr_hi a c ∧ k / 24 = rr_nolX (k % 24) a b c d) → post (q, p, ra, fa', ma, qa)) : wpX_markFlatLine post (q, p, ra, fa, ma, qa) (nI a) (nI b) (nI c) (nI d) := by
  unfold wpX_markFlatLine
  dsimp only
  refine rx_hi (by omega) (by omega) ?_
  refine rx_lo (by omega) (by omega) ?_
  have bb := rr_lo_hi ha hc
  refine pk_loop (fun n i s => wX_markFlatLine_14 post (nI a) (nI b) (nI c) (nI d) (nI (rr_hi a c)) n (nI i) q p ra s ma qa) (fun i s => rr_lo a c ≤ i ∧ rr_RF s (fun k => rr_lo a c ≤ k % 24 ∧ k % 24 < i ∧ k / 24 = rr_nolX (k % 24) a b c d)) (rr_hi a c + 1) (rr_lo a c) fa (by omega) ?_ ?_ ?_
  · exact ⟨Nat.le_refl _, rr_RF_c hF (fun k _ => ⟨fun z => z.elim, fun z => by omega⟩)⟩
  · intro n s hs
    exact br_t (nI_lt (by omega) (by omega)) (h s (rr_RF_c hs.2 (fun k hk => ⟨fun z => ⟨z.1, by omega, z.2.2⟩, fun z => ⟨z.1, by omega, z.2.2⟩⟩)))
  · intro n i s hi hs hk
    have hlo := hs.1
    refine br_f (nI_nlt (by omega) (by omega)) ?_
    refine rx_nol (by omega) ha hb hc hd ?_
    refine rx_mark _ _ hs.2 (fun fa' hf => ?_)
    refine nm_r (nI_1 i) (hk fa' ⟨by omega, rr_RF_c hf (fun k hk => ?_)⟩)
    have lt := rr_nolX_lt (u := i) (by omega) ha hb hc hd
    rw [nI_eq (by omega) (by omega), nI_eq (by omega) (by omega)]
    by_cases e : i = k % 24
    · subst e
      constructor
      · rintro (z | z)
        · omega
        · exact ⟨hlo, by omega, z.2.symm⟩
      · rintro ⟨z1, z2, z3⟩
        exact Or.inr ⟨rfl, z3.symm⟩
    · constructor
      · rintro (z | z)
        · exact ⟨z.1, by omega, z.2.2⟩
        · exact absurd z.1 e
      · rintro ⟨z1, z2, z3⟩
        exact Or.inl ⟨z1, by omega, z3⟩
theorem rx_steep {post : SX → Prop} {q p : Int32} {ra fa ma qa : Nat → Int32} {a b c d : Nat} (ha : a < 24) (hb : b < 24) (hc : c < 24) (hd : d < 24) (hF : rr_RF fa (fun _ => False)) (h : ∀ fa', rr_RF fa' (fun k => rr_lo b d ≤ k / 24 ∧ k / 24 ≤ rr_hi b d ∧ k % 24 = rr_nolX (k / 24) b a d c) → post (q, p, ra, fa', ma, qa)) : wpX_markSteepLine post (q, p, ra, fa, ma, qa) (nI a) (nI b) (nI c) (nI d) := by
  unfold wpX_markSteepLine
  dsimp only
  refine rx_hi (by omega) (by omega) ?_
  refine rx_lo (by omega) (by omega) ?_
  have bb := rr_lo_hi hb hd
  refine pk_loop (fun n i s => wX_markSteepLine_16 post (nI a) (nI b) (nI c) (nI d) (nI (rr_hi b d)) n (nI i) q p ra s ma qa) (fun i s => rr_lo b d ≤ i ∧ rr_RF s (fun k => rr_lo b d ≤ k / 24 ∧ k / 24 < i ∧ k % 24 = rr_nolX (k / 24) b a d c)) (rr_hi b d + 1) (rr_lo b d) fa (by omega) ?_ ?_ ?_
  · exact ⟨Nat.le_refl _, rr_RF_c hF (fun k _ => ⟨fun z => z.elim, fun z => by omega⟩)⟩
  · intro n s hs
    exact br_t (nI_lt (by omega) (by omega)) (h s (rr_RF_c hs.2 (fun k hk => ⟨fun z => ⟨z.1, by omega, z.2.2⟩, fun z => ⟨z.1, by omega, z.2.2⟩⟩)))
  · intro n i s hi hs hk
    have hlo := hs.1
    refine br_f (nI_nlt (by omega) (by omega)) ?_
    refine rx_nol (by omega) hb ha hd hc ?_
    refine rx_mark _ _ hs.2 (fun fa' hf => ?_)
    refine nm_r (nI_1 i) (hk fa' ⟨by omega, rr_RF_c hf (fun k hk => ?_)⟩)
    have lt := rr_nolX_lt (u := i) (by omega) hb ha hd hc
    rw [nI_eq (by omega) (by omega), nI_eq (by omega) (by omega)]
    by_cases e : i = k / 24
    · subst e
      constructor
      · rintro (z | z)
        · omega
        · exact ⟨hlo, by omega, z.1.symm⟩
      · rintro ⟨z1, z2, z3⟩
        exact Or.inr ⟨z3.symm, rfl⟩
    · constructor
      · rintro (z | z)
        · exact ⟨z.1, by omega, z.2.2⟩
        · exact absurd z.2 e
      · rintro ⟨z1, z2, z3⟩
        exact Or.inl ⟨z1, by omega, z3⟩
theorem rx_line {post : SX → Prop} {q p : Int32} {ra fa ma qa : Nat → Int32} {v w : Int32} {a b c d : Nat} (hv : rr_P v a b) (hw : rr_P w c d) (hF : rr_RF fa (fun _ => False)) (h : ∀ fa', rr_RF fa' (fun k => rr_lx (k % 24) (k / 24) a b c d) → post (q, p, ra, fa', ma, qa)) : wpX_markLine post (q, p, ra, fa, ma, qa) v w := by
  have ha := hv.1
  have hb := hv.2.1
  have hc := hw.1
  have hd := hw.2.1
  unfold wpX_markLine wpX_columnOf wpX_rowOf
  dsimp only
  rw [rr_P_col hv, rr_P_col hw, rr_P_row hv, rr_P_row hw]
  refine rx_dist (by omega) (by omega) ?_
  refine rx_dist (by omega) (by omega) ?_
  have b1 := rr_dist_le ha hc
  have b2 := rr_dist_le hb hd
  unfold rr_lx at h
  refine pk_lt (rr_dist a c) (rr_dist b d) (fun z => ?_) (fun z => ?_)
  · refine rx_steep ha hb hc hd hF (fun fa' hf => h fa' (rr_RF_c hf (fun k _ => ?_)))
    rw [if_neg (by omega)]
  · refine rx_flat ha hb hc hd hF (fun fa' hf => h fa' (rr_RF_c hf (fun k _ => ?_)))
    rw [if_pos z]
/-! the ring -/
theorem rx_root {post : Int32 → Prop} {m : Nat} (hm : m ≤ 900) (h : ∀ v, v ≤ 30 → rr_rt m v → post (nI v)) : wpX_nearestRoot post (nI m) := by
  show ∃ n2 : Nat, wX_nearestRoot_2 post (nI m) n2 0
  refine lp1 (A1 := Nat) (fun n i => wX_nearestRoot_2 post (nI m) n (nI i)) (fun i => i ≤ 30 ∧ ∀ w, w < i → w * (w + 1) < m) (fun i => 30 - i) ?_ 0 ⟨by omega, fun w hw => absurd hw (Nat.not_lt_zero w)⟩
  intro n i hI hk
  have bi : i * (i + 1) ≤ 30 * 31 := Nat.mul_le_mul hI.1 (by omega)
  have e1 : nI i * (nI i + 1) = nI (i * (i + 1)) := by rw [nI_1, pk_mul]
  refine pk_le 30 i (fun z => ?_) (fun z => ?_)
  · have e : i = 30 := by omega
    exact h i hI.1 ⟨by rw [e]; omega, hI.2⟩
  · rw [e1]
    refine pk_le m (i * (i + 1)) (fun y => ?_) (fun y => ?_)
    · exact h i hI.1 ⟨y, hI.2⟩
    · refine nm_r (nI_1 i) (hk (i + 1) ⟨by omega, fun w hw => ?_⟩ (by omega))
      by_cases e : w = i
      · rw [e]; exact y
      · exact hI.2 w (by omega)
theorem rx_dist0 {post : Int32 → Prop} {U : Int} (hU : -30 ≤ U ∧ U ≤ 30) (h : post (nI U.natAbs)) : wpX_distance post (rr_i U) 0 := by
  have e0 : (0 : Int32) = rr_i 0 := rfl
  rw [rr_n] at h
  refine ek_if (d := 0 ≤ U) (by rw [e0, rr_le (by omega) (by omega)]) (fun z => ?_) (fun z => ?_)
  · rw [e0, rr_sub, show U - 0 = (U.natAbs : Int) by omega]
    exact h
  · rw [e0, rr_sub, show 0 - U = (U.natAbs : Int) by omega]
    exact h
theorem rr_e1 {a k : Nat} {U : Int} (ha : a < 24) (hk : k < 24) (hU : -30 ≤ U ∧ U ≤ 30) : nI a + rr_i U = nI k ↔ (k : Int) - a = U := by
  rw [rr_n, rr_n, rr_add, rr_eq (by omega) (by omega)]
  omega
theorem rr_e2 {a k v : Nat} (ha : a < 24) (hk : k < 24) (hv : v ≤ 30) : nI a + nI v = nI k ↔ (k : Int) - a = v := by
  rw [rr_n, rr_n, rr_n, rr_add, rr_eq (by omega) (by omega)]
  omega
theorem rr_e3 {a k v : Nat} (ha : a < 24) (hk : k < 24) (hv : v ≤ 30) : nI a - nI v = nI k ↔ (k : Int) - a = -(v : Int) := by
  rw [rr_n, rr_n, rr_n, rr_sub, rr_eq (by omega) (by omega)]
  omega
theorem rx_ring {post : SX → Prop} {q p : Int32} {ra fa ma qa : Nat → Int32} {m : Int32} {r a b : Nat} (hm : rr_P m a b) (hr : r ≤ 30) (hF : rr_RF fa (fun _ => False)) (h : ∀ fa', rr_RF fa' (fun k => rr_arc (((k % 24 : Nat) : Int) - a) (((k / 24 : Nat) : Int) - b) r ∨ rr_arc (((k / 24 : Nat) : Int) - b) (((k % 24 : Nat) : Int) - a) r) → post (q, p, ra, fa', ma, qa)) : wpX_markRing post (q, p, ra, fa, ma, qa) m (nI r) := by
  have ha := hm.1
  have hb := hm.2.1
  unfold wpX_markRing wpX_columnOf wpX_rowOf
  dsimp only
  rw [rr_P_col hm, rr_P_row hm]
  refine nm_r (e' := rr_i (((0 : Nat) : Int) - r)) (by rw [rr_n, rr_neg]; exact congrArg rr_i (by omega)) ?_
  refine loop_0 (fun n j s => wX_markRing_15 post (nI r) (nI a) (nI b) n (rr_i ((j : Int) - r)) q p ra s ma qa) (fun j s => rr_RF s (fun k => rr_rs r j (((k % 24 : Nat) : Int) - a) (((k / 24 : Nat) : Int) - b))) (2 * r + 1) fa ?_ ?_ ?_
  · exact rr_RF_c hF (fun k _ => ⟨fun z => z.elim, fun z => rr_rs_0 z⟩)
  · intro n s hs
    refine br_t ?_ (h s (rr_RF_c hs (fun k _ => rr_rs_eq r _ _)))
    rw [rr_n, rr_lt (by omega) (by omega)]
    omega
  · intro n j s hj hs hk
    obtain ⟨U, hU⟩ : ∃ U : Int, U = (j : Int) - r := ⟨_, rfl⟩
    have bU : -30 ≤ U ∧ U ≤ 30 := by omega
    have eU : ((j + 1 : Nat) : Int) - r = U + 1 := by omega
    obtain ⟨t, ht⟩ : ∃ t : Nat, t = U.natAbs := ⟨_, rfl⟩
    have tr : t ≤ r := by omega
    have t2 : t * t ≤ r * r := Nat.mul_le_mul tr tr
    have r2 : r * r ≤ 30 * 30 := Nat.mul_le_mul hr hr
    have eq1 : nI r * nI r - rr_i U * rr_i U = nI (r * r - t * t) := by
      have e2 : U * U = ((t * t : Nat) : Int) := by rw [ht]; exact Int.natAbs_mul_self.symm
      rw [rr_mul, e2, ← rr_n, pk_mul, pk_sub t2]
    have step : rr_i U + 1 = rr_i (((j + 1 : Nat) : Int) - r) := by
      rw [eU, ← rr_add]; rfl
    show wX_markRing_15 post (nI r) (nI a) (nI b) (n + 1) (rr_i ((j : Int) - r)) q p ra s ma qa
    rw [← hU]
    refine br_f ?_ ?_
    · rw [rr_n, rr_lt (by omega) (by omega)]
      omega
    · rw [eq1]
      refine rx_root (by omega) (fun v hv rt => ?_)
      refine rx_dist0 bU ?_
      rw [← ht]
      have rt2 : rr_rt (r * r - ((j : Int) - r).natAbs * ((j : Int) - r).natAbs) v := by rw [← hU, ← ht]; exact rt
      refine pk_lt v t (fun z => ?_) (fun z => ?_)
      · refine nm_r step (hk s (rr_RF_c hs (fun k _ => ?_)))
        rw [rr_rs_s rt2]
        refine ⟨Or.inl, ?_⟩
        rintro (w | w)
        · exact w
        · have w1 := w.1
          rw [← hU, ← ht] at w1
          omega
      · refine rx_mark _ _ hs (fun f1 g1 => ?_)
        refine rx_mark _ _ g1 (fun f2 g2 => ?_)
        refine rx_mark _ _ g2 (fun f3 g3 => ?_)
        refine rx_mark _ _ g3 (fun f4 g4 => ?_)
        refine nm_r step (hk f4 (rr_RF_c g4 (fun k hk => ?_)))
        have k1 : k % 24 < 24 := by omega
        have k2 : k / 24 < 24 := by omega
        rw [rr_rs_s rt2, rr_e1 ha k1 bU, rr_e2 hb k2 hv, rr_e3 hb k2 hv, rr_e2 ha k1 hv, rr_e1 hb k2 bU, rr_e3 ha k1 hv]
        unfold rr_rp
        rw [← hU, ← ht]
        constructor
        · rintro ((((w | w) | w) | w) | w)
          · exact Or.inl w
          · exact Or.inr ⟨z, Or.inl ⟨w.1, Or.inl w.2⟩⟩
          · exact Or.inr ⟨z, Or.inl ⟨w.1, Or.inr w.2⟩⟩
          · exact Or.inr ⟨z, Or.inr ⟨w.2, Or.inl w.1⟩⟩
          · exact Or.inr ⟨z, Or.inr ⟨w.2, Or.inr w.1⟩⟩
        · rintro (w | ⟨_, (⟨w1, w2 | w2⟩ | ⟨w1, w2 | w2⟩)⟩)
          · exact Or.inl (Or.inl (Or.inl (Or.inl w)))
          · exact Or.inl (Or.inl (Or.inl (Or.inr ⟨w1, w2⟩)))
          · exact Or.inl (Or.inl (Or.inr ⟨w1, w2⟩))
          · exact Or.inl (Or.inr ⟨w2, w1⟩)
          · exact Or.inr ⟨w2, w1⟩
