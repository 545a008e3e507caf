/-! the relation and what is owed -/
/-- one raster P and one pen p, as both sides hold them -/
def i_Rel (k : Nat) (u : SX) (v : SY) : Prop := ∃ (P : Nat → Bool) (p : Nat) (q : Int32) (ra fa ma qa sa fb : Nat → Int32), p ≤ 2 ∧ u = (q, nI p, ra, fa, ma, qa) ∧ v = (nI p, sa, fb) ∧ rr_RX ra P ∧ rr_RY sa P
theorem i_up {k : Nat} {u : SX} {v : SY} (h : i_Rel k u v) : i_Rel (k + 4) u v := h
theorem i_vc0 : wpX_init (fun u => wpY_init (fun v => i_Rel 0 u v)) :=
  ⟨fun _ => false, 0, 0, fun _ => 0, fun _ => 0, fun _ => 0, fun _ => 0, fun _ => 0, fun _ => 0, by omega, rfl, rfl, fun _ _ x _ => by rw [b_0, Bool.and_false], fun _ _ => rfl⟩
def rr_rad (r : Int32) : Prop := ¬ r < 0 ∧ ¬ 30 < r
theorem rx_rad {post : Int32 → Prop} (r : Int32) (h1 : rr_rad r → post 1) (h0 : ¬ rr_rad r → post 0) : wpX_isRadius post r :=
  br_c (fun a => h0 (fun z => z.1 a)) (fun a => br_c (fun b => h0 (fun z => z.2 b)) (fun b => h1 ⟨a, b⟩))
theorem ry_rnd {post : Int32 → Prop} {fp : Int32} {sa fa : Nat → Int32} (v r : Int32) (h1 : (∃ x y, rr_P v x y) → rr_rad r → post 1) (h0 : ¬ ((∃ x y, rr_P v x y) ∧ rr_rad r) → post 0) : wpY_isRound post (fp, sa, fa) v r := by
  unfold wpY_isRound
  dsimp only
  refine ry_pix v (fun x y hv => br_f rr_10 ?_) (fun z => br_t rfl (h0 (fun w => z w.1)))
  exact br_c (fun a => h0 (fun z => z.2.1 a)) (fun a => br_c (fun b => h0 (fun z => z.2.2 b)) (fun b => h1 ⟨x, y, hv⟩ ⟨a, b⟩))
theorem rr_rad_n {r : Int32} (h : rr_rad r) : ∃ n, n ≤ 30 ∧ r = nI n := by
  obtain ⟨n, hn, rfl⟩ := nI_of h.1
  refine ⟨n, ?_, rfl⟩
  have h2 := h.2
  have e : (30 : Int32) = nI 30 := rfl
  rw [e, nI_ltI (by omega) hn] at h2
  omega
theorem i_vc_pen {k : Nat} {u : SX} {v : SY} (I : i_Rel k u v) (hk : k + 4 ≤ 2048) (v1 : Int32) : wpX_pen (fun r u' => wpY_pen (fun r' v' => r' = r ∧ i_Rel (k + 4) u' v') v v1) u v1 := by
  obtain ⟨P, p, q, ra, fa, ma, qa, sa, fb, hp, rfl, rfl, hX, hY⟩ := I
  by_cases a : v1 < 0
  · exact br_t a (br_t a ⟨rfl, P, p, q, ra, fa, ma, qa, sa, fb, hp, rfl, rfl, hX, hY⟩)
  · by_cases b : v1 ≤ 2
    · obtain ⟨n, hn, rfl⟩ := nI_of a
      have b2 := b
      have e : (2 : Int32) = nI 2 := rfl
      rw [e, nI_leI hn (by omega)] at b2
      exact br_f a (br_t b (br_f a (br_t b ⟨rfl, P, n, q, ra, fa, ma, qa, sa, fb, b2, rfl, rfl, hX, hY⟩)))
    · exact br_f a (br_f b (br_f a (br_f b ⟨rfl, P, p, q, ra, fa, ma, qa, sa, fb, hp, rfl, rfl, hX, hY⟩)))
theorem i_vc_line {k : Nat} {u : SX} {v : SY} (I : i_Rel k u v) (hk : k + 4 ≤ 2048) (v1 : Int32) (v2 : Int32) : wpX_line (fun r u' => wpY_line (fun r' v' => r' = r ∧ i_Rel (k + 4) u' v') v v1 v2) u v1 v2 := by
  obtain ⟨P, p, q, ra, fa, ma, qa, sa, fb, hp, rfl, rfl, hX, hY⟩ := I
  have bad : ¬ ((∃ x y, rr_P v1 x y) ∧ (∃ x y, rr_P v2 x y)) → wpY_line (fun r' v' => r' = -1 ∧ i_Rel (k + 4) (q, nI p, ra, fa, ma, qa) v') (nI p, sa, fb) v1 v2 := by
    intro z
    unfold wpY_line
    dsimp only
    refine ry_pix v1 (fun a b h1 => br_f rr_10 ?_) (fun _ => br_t rfl ⟨rfl, P, p, q, ra, fa, ma, qa, sa, fb, hp, rfl, rfl, hX, hY⟩)
    refine ry_pix v2 (fun c d h2 => absurd ⟨⟨a, b, h1⟩, ⟨c, d, h2⟩⟩ z) (fun _ => br_t rfl ⟨rfl, P, p, q, ra, fa, ma, qa, sa, fb, hp, rfl, rfl, hX, hY⟩)
  unfold wpX_line
  dsimp only
  refine rx_pix v1 (fun a b h1 => br_f rr_10 ?_) (fun z => br_t rfl (bad (fun w => z w.1)))
  refine rx_pix v2 (fun c d h2 => br_f rr_10 ?_) (fun z => br_t rfl (bad (fun w => z w.2)))
  refine rx_clear (fun f0 g0 => ?_)
  refine rx_line h1 h2 g0 (fun f1 g1 => ?_)
  refine rx_draw (F := rr_FL a b c d) hp hX (rr_RF_X g1 (fun k _ => (rr_ol_lx _ _ _ _ _ _).symm)) (fun ra' hR => ?_)
  show wpY_line (fun r' v' => r' = nI (rr_cnt (rr_df p P (rr_FL a b c d)) 576) ∧ i_Rel (k + 4) (q, nI p, ra', f1, ma, qa) v') (nI p, sa, fb) v1 v2
  unfold wpY_line
  dsimp only
  refine ry_pix v1 (fun _ _ _ => br_f rr_10 ?_) (fun z => absurd ⟨a, b, h1⟩ z)
  refine ry_pix v2 (fun _ _ _ => br_f rr_10 ?_) (fun z => absurd ⟨c, d, h2⟩ z)
  exact ry_line h1 h2 hp hY (fun sa' fa' hS => ⟨rfl, rr_dr p P (rr_FL a b c d), p, q, ra', f1, ma, qa, sa', fa', hp, rfl, rfl, hR, hS⟩)
theorem i_vc_disc {k : Nat} {u : SX} {v : SY} (I : i_Rel k u v) (hk : k + 4 ≤ 2048) (v1 : Int32) (v2 : Int32) : wpX_disc (fun r u' => wpY_disc (fun r' v' => r' = r ∧ i_Rel (k + 4) u' v') v v1 v2) u v1 v2 := by
  obtain ⟨P, p, q, ra, fa, ma, qa, sa, fb, hp, rfl, rfl, hX, hY⟩ := I
  have bad : ¬ ((∃ x y, rr_P v1 x y) ∧ rr_rad v2) → wpY_disc (fun r' v' => r' = -1 ∧ i_Rel (k + 4) (q, nI p, ra, fa, ma, qa) v') (nI p, sa, fb) v1 v2 := by
    intro z
    unfold wpY_disc
    dsimp only
    exact ry_rnd v1 v2 (fun a b => absurd ⟨a, b⟩ z) (fun _ => br_t rfl ⟨rfl, P, p, q, ra, fa, ma, qa, sa, fb, hp, rfl, rfl, hX, hY⟩)
  unfold wpX_disc
  dsimp only
  refine rx_pix v1 (fun a b h1 => br_f rr_10 ?_) (fun z => br_t rfl (bad (fun w => z w.1)))
  refine rx_rad v2 (fun h2 => br_f rr_10 ?_) (fun z => br_t rfl (bad (fun w => z w.2)))
  refine rx_clear (fun f0 g0 => ?_)
  refine rx_disc h1 g0 (fun f1 g1 => ?_)
  refine rx_draw (F := rr_FG (rr_gd v2 (nI a) (nI b))) hp hX (rr_RF_X g1 (fun k _ => (rr_dec_i _).symm)) (fun ra' hR => ?_)
  show wpY_disc (fun r' v' => r' = nI (rr_cnt (rr_df p P (rr_FG (rr_gd v2 (nI a) (nI b)))) 576) ∧ i_Rel (k + 4) (q, nI p, ra', f1, ma, qa) v') (nI p, sa, fb) v1 v2
  unfold wpY_disc
  dsimp only
  refine ry_rnd v1 v2 (fun _ _ => br_f rr_10 ?_) (fun z => absurd ⟨⟨a, b, h1⟩, h2⟩ z)
  exact ry_disc h1 hp hY (fun sa' fa' hS => ⟨rfl, rr_dr p P _, p, q, ra', f1, ma, qa, sa', fa', hp, rfl, rfl, hR, hS⟩)
theorem i_vc_ring {k : Nat} {u : SX} {v : SY} (I : i_Rel k u v) (hk : k + 4 ≤ 2048) (v1 : Int32) (v2 : Int32) : wpX_ring (fun r u' => wpY_ring (fun r' v' => r' = r ∧ i_Rel (k + 4) u' v') v v1 v2) u v1 v2 := by
  obtain ⟨P, p, q, ra, fa, ma, qa, sa, fb, hp, rfl, rfl, hX, hY⟩ := I
  have bad : ¬ ((∃ x y, rr_P v1 x y) ∧ rr_rad v2) → wpY_ring (fun r' v' => r' = -1 ∧ i_Rel (k + 4) (q, nI p, ra, fa, ma, qa) v') (nI p, sa, fb) v1 v2 := by
    intro z
    unfold wpY_ring
    dsimp only
    exact ry_rnd v1 v2 (fun a b => absurd ⟨a, b⟩ z) (fun _ => br_t rfl ⟨rfl, P, p, q, ra, fa, ma, qa, sa, fb, hp, rfl, rfl, hX, hY⟩)
  unfold wpX_ring
  dsimp only
  refine rx_pix v1 (fun a b h1 => br_f rr_10 ?_) (fun z => br_t rfl (bad (fun w => z w.1)))
  refine rx_rad v2 (fun h2 => br_f rr_10 ?_) (fun z => br_t rfl (bad (fun w => z w.2)))
  obtain ⟨n, hn, rfl⟩ := rr_rad_n h2
  refine rx_clear (fun f0 g0 => ?_)
  refine rx_ring h1 hn g0 (fun f1 g1 => ?_)
  refine rx_draw (F := rr_FR a b n) hp hX (rr_RF_X g1 (fun k _ => (rr_dec_i _).symm)) (fun ra' hR => ?_)
  show wpY_ring (fun r' v' => r' = nI (rr_cnt (rr_df p P (rr_FR a b n)) 576) ∧ i_Rel (k + 4) (q, nI p, ra', f1, ma, qa) v') (nI p, sa, fb) v1 (nI n)
  unfold wpY_ring
  dsimp only
  refine ry_rnd v1 (nI n) (fun _ _ => br_f rr_10 ?_) (fun z => absurd ⟨⟨a, b, h1⟩, h2⟩ z)
  exact ry_ring h1 hn hp hY (fun sa' fa' hS => ⟨rfl, rr_dr p P _, p, q, ra', f1, ma, qa, sa', fa', hp, rfl, rfl, hR, hS⟩)
theorem i_vc_blot {k : Nat} {u : SX} {v : SY} (I : i_Rel k u v) (hk : k + 4 ≤ 2048) (v1 : Int32) (v2 : Int32) (v3 : Int32) : wpX_blot (fun r u' => wpY_blot (fun r' v' => r' = r ∧ i_Rel (k + 4) u' v') v v1 v2 v3) u v1 v2 v3 := by
  obtain ⟨P, p, q, ra, fa, ma, qa, sa, fb, hp, rfl, rfl, hX, hY⟩ := I
  have bad : ¬ ((∃ x y, rr_P v1 x y) ∧ rr_rad v2 ∧ rr_rad v3) → wpY_blot (fun r' v' => r' = -1 ∧ i_Rel (k + 4) (q, nI p, ra, fa, ma, qa) v') (nI p, sa, fb) v1 v2 v3 := by
    intro z
    unfold wpY_blot
    dsimp only
    refine ry_rnd v1 v2 (fun a b => br_f rr_10 ?_) (fun _ => br_t rfl ⟨rfl, P, p, q, ra, fa, ma, qa, sa, fb, hp, rfl, rfl, hX, hY⟩)
    exact ry_rnd v1 v3 (fun _ c => absurd ⟨a, b, c⟩ z) (fun _ => br_t rfl ⟨rfl, P, p, q, ra, fa, ma, qa, sa, fb, hp, rfl, rfl, hX, hY⟩)
  unfold wpX_blot
  dsimp only
  refine rx_pix v1 (fun a b h1 => br_f rr_10 ?_) (fun z => br_t rfl (bad (fun w => z w.1)))
  refine rx_rad v2 (fun h2 => br_f rr_10 ?_) (fun z => br_t rfl (bad (fun w => z w.2.1)))
  refine rx_rad v3 (fun h3 => br_f rr_10 ?_) (fun z => br_t rfl (bad (fun w => z w.2.2)))
  refine rx_clear (fun f0 g0 => ?_)
  refine rx_blot h1 g0 (fun f1 g1 => ?_)
  refine rx_draw (F := rr_FG (rr_gb v2 v3 (nI a) (nI b))) hp hX (rr_RF_X g1 (fun k _ => (rr_dec_i _).symm)) (fun ra' hR => ?_)
  show wpY_blot (fun r' v' => r' = nI (rr_cnt (rr_df p P (rr_FG (rr_gb v2 v3 (nI a) (nI b)))) 576) ∧ i_Rel (k + 4) (q, nI p, ra', f1, ma, qa) v') (nI p, sa, fb) v1 v2 v3
  unfold wpY_blot
  dsimp only
  refine ry_rnd v1 v2 (fun _ _ => br_f rr_10 ?_) (fun z => absurd ⟨⟨a, b, h1⟩, h2⟩ z)
  refine ry_rnd v1 v3 (fun _ _ => br_f rr_10 ?_) (fun z => absurd ⟨⟨a, b, h1⟩, h3⟩ z)
  exact ry_blot h1 hp hY (fun sa' fa' hS => ⟨rfl, rr_dr p P _, p, q, ra', f1, ma, qa, sa', fa', hp, rfl, rfl, hR, hS⟩)
theorem i_vc_triangle {k : Nat} {u : SX} {v : SY} (I : i_Rel k u v) (hk : k + 4 ≤ 2048) (v1 : Int32) (v2 : Int32) (v3 : Int32) : wpX_triangle (fun r u' => wpY_triangle (fun r' v' => r' = r ∧ i_Rel (k + 4) u' v') v v1 v2 v3) u v1 v2 v3 := by
  obtain ⟨P, p, q, ra, fa, ma, qa, sa, fb, hp, rfl, rfl, hX, hY⟩ := I
  have bad : ¬ ((∃ x y, rr_P v1 x y) ∧ (∃ x y, rr_P v2 x y) ∧ (∃ x y, rr_P v3 x y)) → wpY_triangle (fun r' v' => r' = -1 ∧ i_Rel (k + 4) (q, nI p, ra, fa, ma, qa) v') (nI p, sa, fb) v1 v2 v3 := by
    intro z
    unfold wpY_triangle
    dsimp only
    refine ry_pix v1 (fun a b h1 => br_f rr_10 ?_) (fun _ => br_t rfl ⟨rfl, P, p, q, ra, fa, ma, qa, sa, fb, hp, rfl, rfl, hX, hY⟩)
    refine ry_pix v2 (fun c d h2 => br_f rr_10 ?_) (fun _ => br_t rfl ⟨rfl, P, p, q, ra, fa, ma, qa, sa, fb, hp, rfl, rfl, hX, hY⟩)
    refine ry_pix v3 (fun e f h3 => absurd ⟨⟨a, b, h1⟩, ⟨c, d, h2⟩, ⟨e, f, h3⟩⟩ z) (fun _ => br_t rfl ⟨rfl, P, p, q, ra, fa, ma, qa, sa, fb, hp, rfl, rfl, hX, hY⟩)
  unfold wpX_triangle
  dsimp only
  refine rx_pix v1 (fun a b h1 => br_f rr_10 ?_) (fun z => br_t rfl (bad (fun w => z w.1)))
  refine rx_pix v2 (fun c d h2 => br_f rr_10 ?_) (fun z => br_t rfl (bad (fun w => z w.2.1)))
  refine rx_pix v3 (fun e f h3 => br_f rr_10 ?_) (fun z => br_t rfl (bad (fun w => z w.2.2)))
  refine rx_clear (fun f0 g0 => ?_)
  refine rx_tri h1 h2 h3 g0 (fun f1 g1 => ?_)
  refine rx_draw (F := rr_FG (rr_gt a b c d e f)) hp hX (rr_RF_X g1 (fun k _ => (rr_dec_i _).symm)) (fun ra' hR => ?_)
  show wpY_triangle (fun r' v' => r' = nI (rr_cnt (rr_df p P (rr_FG (rr_gt a b c d e f))) 576) ∧ i_Rel (k + 4) (q, nI p, ra', f1, ma, qa) v') (nI p, sa, fb) v1 v2 v3
  unfold wpY_triangle
  dsimp only
  refine ry_pix v1 (fun _ _ _ => br_f rr_10 ?_) (fun z => absurd ⟨a, b, h1⟩ z)
  refine ry_pix v2 (fun _ _ _ => br_f rr_10 ?_) (fun z => absurd ⟨c, d, h2⟩ z)
  refine ry_pix v3 (fun _ _ _ => br_f rr_10 ?_) (fun z => absurd ⟨e, f, h3⟩ z)
  exact ry_tri h1 h2 h3 hp hY (fun sa' fa' hS => ⟨rfl, rr_dr p P _, p, q, ra', f1, ma, qa, sa', fa', hp, rfl, rfl, hR, hS⟩)
theorem i_vc_flood {k : Nat} {u : SX} {v : SY} (I : i_Rel k u v) (hk : k + 4 ≤ 2048) (v1 : Int32) : wpX_flood (fun r u' => wpY_flood (fun r' v' => r' = r ∧ i_Rel (k + 4) u' v') v v1) u v1 := by
  obtain ⟨P, p, q, ra, fa, ma, qa, sa, fb, hp, rfl, rfl, hX, hY⟩ := I
  refine rx_flood hX v1 (fun x y hv q' ra' qa' Q hQ hR => ?_) (fun z => ?_)
  · refine ry_flood hY v1 (fun x' y' hv' sa' fa' R hR' hS => ?_) (fun z => absurd ⟨x, y, hv⟩ z)
    have ex : x' = x ∧ y' = y := by
      have a1 := hv.1
      have a2 := hv.2.1
      have a3 := hv'.1
      have a4 := hv'.2.1
      have e := hv.2.2.symm.trans hv'.2.2
      rw [nI_eq (by omega) (by omega)] at e
      omega
    rw [ex.1, ex.2] at hR'
    have hu := rr_isF_u hR' hQ
    refine ⟨congrArg nI (rr_cnt_congr 576 hu), fun k => P k ^^ Q k, p, q', ra', fa, ma, qa', sa', fa', hp, rfl, rfl, hR, fun j hj => ?_⟩
    rw [hS j hj]
    exact congrArg (fun t => rr_bi (P j ^^ t)) (hu j hj)
  · exact ry_flood hY v1 (fun x' y' hv' => absurd ⟨x', y', hv'⟩ z) (fun _ => ⟨rfl, P, p, q, ra, fa, ma, qa, sa, fb, hp, rfl, rfl, hX, hY⟩)
theorem i_vc_get {k : Nat} {u : SX} {v : SY} (I : i_Rel k u v) (hk : k + 4 ≤ 2048) (v1 : Int32) : wpX_get (fun r => wpY_get (fun r' => r' = r ∧ i_Rel (k + 4) u v) v v1) u v1 := by
  have I' := I
  obtain ⟨P, p, q, ra, fa, ma, qa, sa, fb, hp, rfl, rfl, hX, hY⟩ := I
  unfold wpX_get
  dsimp only
  refine rx_pix v1 (fun x y hv => br_f rr_10 ?_) (fun z => br_t rfl (ry_get hY v1 (fun x' y' hv' => absurd ⟨x', y', hv'⟩ z) (fun _ => ⟨rfl, I'⟩)))
  unfold wpX_columnOf wpX_rowOf
  dsimp only
  rw [rr_P_col hv, rr_P_row hv]
  refine rx_value hX hv.1 hv.2.1 ?_
  refine ry_get hY v1 (fun x' y' hv' => ⟨?_, I'⟩) (fun z => absurd ⟨x, y, hv⟩ z)
  have a1 := hv.1
  have a2 := hv.2.1
  have a3 := hv'.1
  have a4 := hv'.2.1
  have e := hv.2.2.symm.trans hv'.2.2
  rw [nI_eq (by omega) (by omega)] at e
  rw [show x' = x by omega, show y' = y by omega]
theorem i_vc_count {k : Nat} {u : SX} {v : SY} (I : i_Rel k u v) (hk : k + 4 ≤ 2048) : wpX_count (fun r => wpY_count (fun r' => r' = r ∧ i_Rel (k + 4) u v) v) u := by
  have I' := I
  obtain ⟨P, p, q, ra, fa, ma, qa, sa, fb, hp, rfl, rfl, hX, hY⟩ := I
  exact rx_count hX (ry_count hY ⟨rfl, I'⟩)
theorem i_vc_row {k : Nat} {u : SX} {v : SY} (I : i_Rel k u v) (hk : k + 4 ≤ 2048) (v1 : Int32) : wpX_row (fun r => wpY_row (fun r' => r' = r ∧ i_Rel (k + 4) u v) v v1) u v1 := by
  have I' := I
  obtain ⟨P, p, q, ra, fa, ma, qa, sa, fb, hp, rfl, rfl, hX, hY⟩ := I
  unfold wpX_row
  dsimp only
  refine rx_side v1 (fun n hn e => br_f rr_10 ?_) (fun z => br_t rfl ?_)
  · subst e
    refine ⟨vp_in_nI hn (by decide), ?_⟩
    rw [rr_cl (by omega)]
    refine br_f (nI_pos (by omega)) (br_t (nI_le (b := 23) (by omega) (by decide)) ?_)
    refine ry_row hY hn (fun r hr => ⟨b_ext (fun x hx => ?_), I'⟩)
    rw [hr x hx, hX n hn x hx]
  · by_cases a : v1 < 0
    · exact br_t a ⟨rfl, I'⟩
    · refine br_f a (br_f ?_ ⟨rfl, I'⟩)
      intro b
      obtain ⟨n, hn, rfl⟩ := nI_of a
      have e : (23 : Int32) = nI 23 := rfl
      rw [e, nI_leI hn (by omega)] at b
      exact z n (by omega) rfl
theorem i_vc_move {k : Nat} {u : SX} {v : SY} (I : i_Rel k u v) (hk : k + 4 ≤ 2048) (v1 : Int32) (v2 : Int32) : wpX_move (fun r u' => wpY_move (fun r' v' => r' = r ∧ i_Rel (k + 4) u' v') v v1 v2) u v1 v2 := by
  obtain ⟨P, p, q, ra, fa, ma, qa, sa, fb, hp, rfl, rfl, hX, hY⟩ := I
  refine rx_move hX v1 v2 (fun hs ra' ma' hR => ?_) (fun z => ?_)
  · exact ry_move hY v1 v2 (fun _ sa' fa' hS => ⟨rfl, rr_mv P v1.toInt v2.toInt, p, q, ra', fa, ma', qa, sa', fa', hp, rfl, rfl, hR, hS⟩) (fun z => absurd hs z)
  · exact ry_move hY v1 v2 (fun hs => absurd hs z) (fun _ => ⟨rfl, P, p, q, ra, fa, ma, qa, sa, fb, hp, rfl, rfl, hX, hY⟩)
