/-! the reference's ring, line and triangle -/
theorem ry_arc {post : Int32 → Prop} {fp : Int32} {sa fa : Nat → Int32} {U V : Int} {r : Nat} (hU : -30 ≤ U ∧ U ≤ 30) (hV : -30 ≤ V ∧ V ≤ 30) (hr : r ≤ 30) (h1 : rr_arc U V r → post 1) (h0 : ¬ rr_arc U V r → post 0) : wpY_onArc post (fp, sa, fa) (rr_i U) (rr_i V) (nI r) := by
  have b1 := rr_mulb (m := 30) hU hU
  have b2 := rr_mulb (a := (r : Int)) (b := (r : Int)) (m := 30) (by omega) (by omega)
  have b3 := rr_mulb (a := (V.natAbs : Int)) (b := (V.natAbs : Int)) (m := 30) (by omega) (by omega)
  rw [rr_arc_i] at h1 h0
  unfold wpY_onArc
  dsimp only
  refine ry_size (by omega) ?_
  refine nm_r (e' := rr_i ((r : Int) * r - U * U)) (by rw [rr_n, rr_mul, rr_mul, rr_sub]) ?_
  have e0 : (0 : Int32) = rr_i 0 := rfl
  have eq1 : nI V.natAbs * nI V.natAbs + nI V.natAbs = rr_i ((V.natAbs : Int) * (V.natAbs : Int) + (V.natAbs : Int)) := by rw [rr_n, rr_mul, rr_add]
  have eq2 : nI V.natAbs * nI V.natAbs - nI V.natAbs = rr_i ((V.natAbs : Int) * (V.natAbs : Int) - (V.natAbs : Int)) := by rw [rr_n, rr_mul, rr_sub]
  rw [eq1, eq2]
  have bS : -1800 ≤ (r : Int) * r - U * U ∧ (r : Int) * r - U * U ≤ 1800 := by omega
  generalize (r : Int) * r - U * U = S at *
  refine ek_if (d := S < 0) (by rw [e0, rr_lt (by omega) (by omega)]) (fun z => h0 (fun w => by omega)) (fun z => ?_)
  refine ry_size (by omega) ?_
  refine pk_le U.natAbs V.natAbs (fun y => ?_) (fun y => h0 (fun w => by omega))
  refine ek_if (rr_lt (by omega) (by omega)) (fun w => h0 (fun k => by omega)) (fun w => ?_)
  refine pk_eq V.natAbs 0 (fun k => h1 ⟨by omega, y, by omega, Or.inl k⟩) (fun k => ?_)
  exact ek_if (rr_le (by omega) (by omega)) (fun l => h0 (fun k' => by omega)) (fun l => h1 ⟨by omega, y, by omega, Or.inr (by omega)⟩)
noncomputable def rr_FR (a b r : Nat) : Nat → Bool := fun k => rr_dec (rr_arc (((k % 24 : Nat) : Int) - a) (((k / 24 : Nat) : Int) - b) r ∨ rr_arc (((k / 24 : Nat) : Int) - b) (((k % 24 : Nat) : Int) - a) r)
theorem ry_ring {post : Int32 → SY → Prop} {p : Nat} {sa fa : Nat → Int32} {P : Nat → Bool} {v : Int32} {x y r : Nat} (hv : rr_P v x y) (hr : r ≤ 30) (hp : p ≤ 2) (hP : rr_RY sa P) (h : ∀ sa' fa', rr_RY sa' (rr_dr p P (rr_FR x y r)) → post (nI (rr_cnt (rr_df p P (rr_FR x y r)) 576)) (nI p, sa', fa')) : ∃ n, wY_ring_13 post v (nI r) (nI p) n 0 sa fa := by
  have hx := hv.1
  have hy := hv.2.1
  refine loop_0 (fun n i s => wY_ring_13 post v (nI r) (nI p) n (nI i) sa s) (fun i s => ∀ j, j < i → s j = rr_bi (rr_FR x y r j)) 576 fa (fun j hj => absurd hj (Nat.not_lt_zero j)) ?_ ?_
  · intro n s hs
    refine br_t rr_576 ?_
    exact ry_ink hp hP hs (fun sa' hS => h sa' s hS)
  · intro n i s hi hs hk
    refine br_f (rr_l576 hi) ⟨rr_240, rr_320, nm_e ⟨rr_240, rr_320, nm_e ?_⟩⟩
    rw [rr_rem24 (by omega), rr_div24 (by omega), rr_P_rem hv, rr_P_div hv, rr_cl hi, rr_nsub, rr_nsub]
    refine ry_arc (by omega) (by omega) hr (fun c => br_f rr_10 ⟨vp_in_nI hi (by decide), nm_e (nm_r (nI_1 i) (hk _ (ry_put hs (b := true) (rr_dec_t (Or.inl c)))))⟩) (fun c => br_t rfl ?_)
    refine ry_arc (by omega) (by omega) hr (fun d => br_f rr_10 ⟨vp_in_nI hi (by decide), nm_e (nm_r (nI_1 i) (hk _ (ry_put hs (b := true) (rr_dec_t (Or.inr d)))))⟩) (fun d => br_t rfl ⟨vp_in_nI hi (by decide), nm_e (nm_r (nI_1 i) (hk _ (ry_put hs (b := false) (rr_dec_f (fun z => z.elim c d)))))⟩)
theorem ry_near {post : Int32 → Prop} {fp : Int32} {sa fa : Nat → Int32} {x y a b c d : Nat} (hx : x < 24) (hy : y < 24) (ha : a < 24) (hb : b < 24) (hc : c < 24) (hd : d < 24) (h : post (rr_bi (rr_nr x y a b c d))) : wpY_nearest post (fp, sa, fa) (nI x) (nI y) (nI a) (nI b) (nI c) (nI d) := by
  have b1 := rr_mulb (a := (c : Int) - a) (b := (y : Int) - b) (m := 23) (by omega) (by omega)
  have b2 := rr_mulb (a := (d : Int) - b) (b := (x : Int) - a) (m := 23) (by omega) (by omega)
  unfold rr_nr at h
  unfold wpY_nearest
  dsimp only
  refine nm_r (rr_nsub c a) (nm_r (e' := rr_i (2 * (((c : Int) - a) * ((y : Int) - b) - ((d : Int) - b) * ((x : Int) - a)))) ?_ ?_)
  · rw [rr_nsub, rr_nsub, rr_nsub, rr_mul, rr_mul, rr_sub]
    exact rr_mul 2 _
  · generalize ((c : Int) - a) * ((y : Int) - b) = X at *
    generalize ((d : Int) - b) * ((x : Int) - a) = Y at *
    have no : ¬ (a ≤ x ∧ x ≤ c ∧ -((c : Int) - a) ≤ 2 * (X - Y) ∧ 2 * (X - Y) < (c : Int) - a) → post 0 := fun z => by
      rw [decide_eq_false z] at h
      exact h
    rw [rr_neg]
    refine pk_lt x a (fun z => no (by omega)) (fun z => ?_)
    refine pk_lt c x (fun z => no (by omega)) (fun z' => ?_)
    refine ek_if (rr_lt (by omega) (by omega)) (fun w => no (by omega)) (fun w => ?_)
    refine ek_if (rr_le (by omega) (by omega)) (fun w => no (by omega)) (fun w' => ?_)
    rw [decide_eq_true (by omega)] at h
    exact h
theorem rr_dist_i {a b : Nat} : ((a : Int) - b).natAbs = rr_dist a b := by
  unfold rr_dist
  by_cases z : a < b
  · rw [if_pos z]; omega
  · rw [if_neg z]; omega
theorem ry_ol30 {post : Int32 → Prop} {fp : Int32} {sa fa : Nat → Int32} {x y a b c d : Nat} (hx : x < 24) (hy : y < 24) (ha : a < 24) (hb : b < 24) (hc : c < 24) (hd : d < 24) (hn : ¬ (a = c ∧ b = d)) (h : post (rr_bi (rr_ol x y a b c d))) : wY_onLine_30 post (nI x) (nI y) (nI a) (nI b) (nI c) (nI d) fp sa fa := by
  unfold wY_onLine_30
  unfold rr_ol at h
  rw [if_neg hn] at h
  have d1 := rr_dist_le ha hc
  have d2 := rr_dist_le hb hd
  rw [rr_nsub, rr_nsub]
  refine ry_size (by omega) ?_
  refine ry_size (by omega) ?_
  rw [rr_dist_i, rr_dist_i]
  refine pk_lt (rr_dist a c) (rr_dist b d) (fun z => ?_) (fun z => ?_)
  · rw [if_neg (by omega)] at h
    refine pk_le d b (fun w => ?_) (fun w => ?_)
    · rw [if_neg (by omega)] at h
      exact ry_near hy hx hd hc hb ha ⟨rr_nb _, h⟩
    · rw [if_pos w] at h
      exact ry_near hy hx hb ha hd hc ⟨rr_nb _, h⟩
  · rw [if_pos z] at h
    refine pk_le c a (fun w => ?_) (fun w => ?_)
    · rw [if_neg (by omega)] at h
      exact ry_near hx hy hc hd ha hb ⟨rr_nb _, h⟩
    · rw [if_pos w] at h
      exact ry_near hx hy ha hb hc hd ⟨rr_nb _, h⟩
theorem ry_ol {post : Int32 → Prop} {fp : Int32} {sa fa : Nat → Int32} {x y a b c d : Nat} (hx : x < 24) (hy : y < 24) (ha : a < 24) (hb : b < 24) (hc : c < 24) (hd : d < 24) (h : post (rr_bi (rr_ol x y a b c d))) : wpY_onLine post (fp, sa, fa) (nI x) (nI y) (nI a) (nI b) (nI c) (nI d) := by
  unfold wpY_onLine
  dsimp only
  refine pk_eq a c (fun e1 => ?_) (fun e1 => ry_ol30 hx hy ha hb hc hd (fun z => e1 z.1) h)
  refine pk_eq b d (fun e2 => ?_) (fun e2 => ry_ol30 hx hy ha hb hc hd (fun z => e2 z.2) h)
  unfold rr_ol at h
  rw [if_pos ⟨e1, e2⟩] at h
  refine pk_eq x a (fun e3 => ?_) (fun e3 => ?_)
  · refine pk_eq y b (fun e4 => ?_) (fun e4 => ?_)
    · rw [decide_eq_true ⟨e3, e4⟩] at h
      exact h
    · rw [decide_eq_false (fun z => e4 z.2)] at h
      exact h
  · rw [decide_eq_false (fun z => e3 z.1)] at h
    exact h
def rr_FL (a b c d : Nat) : Nat → Bool := fun k => rr_ol (k % 24) (k / 24) a b c d
theorem ry_line {post : Int32 → SY → Prop} {p : Nat} {sa fa : Nat → Int32} {P : Nat → Bool} {v w : Int32} {a b c d : Nat} (hv : rr_P v a b) (hw : rr_P w c d) (hp : p ≤ 2) (hP : rr_RY sa P) (h : ∀ sa' fa', rr_RY sa' (rr_dr p P (rr_FL a b c d)) → post (nI (rr_cnt (rr_df p P (rr_FL a b c d)) 576)) (nI p, sa', fa')) : ∃ n, wY_line_20 post v w (nI p) n 0 sa fa := by
  refine loop_0 (fun n i s => wY_line_20 post v w (nI p) n (nI i) sa s) (fun i s => ∀ j, j < i → s j = rr_bi (rr_FL a b c d j)) 576 fa (fun j hj => absurd hj (Nat.not_lt_zero j)) ?_ ?_
  · intro n s hs
    refine br_t rr_576 ?_
    exact ry_ink hp hP hs (fun sa' hS => h sa' s hS)
  · intro n i s hi hs hk
    refine br_f (rr_l576 hi) ⟨rr_240, rr_240, rr_320, rr_320, rr_320, rr_320, ?_⟩
    rw [rr_rem24 (by omega), rr_div24 (by omega), rr_P_rem hv, rr_P_div hv, rr_P_rem hw, rr_P_div hw]
    refine ry_ol (by omega) (by omega) hv.1 hv.2.1 hw.1 hw.2.1 ⟨vp_in_nI hi (by decide), ?_⟩
    rw [rr_cl hi]
    exact nm_e (nm_r (nI_1 i) (hk _ (ry_put hs rfl)))
theorem ry_side {post : Int32 → Prop} {fp : Int32} {sa fa : Nat → Int32} {v1 v2 : Int32} {x1 y1 x2 y2 : Nat} (h1 : rr_P v1 x1 y1) (h2 : rr_P v2 x2 y2) (x y : Int32) (t : post (rr_sd x1 y1 x2 y2 x y)) : wpY_side post (fp, sa, fa) x y v1 v2 := by
  unfold wpY_side
  dsimp only
  rw [rr_P_rem h1, rr_P_rem h2, rr_P_div h1, rr_P_div h2]
  exact ⟨rr_320, rr_320, rr_320, rr_320, rr_320, rr_320, t⟩
theorem ry_btw {post : Int32 → Prop} {fp : Int32} {sa fa : Nat → Int32} {a b c v : Int32} (h1 : rr_sp a b c v → post 1) (h0 : ¬ rr_sp a b c v → post 0) : wpY_between post (fp, sa, fa) v a b c := by
  have go : (a ≤ v ∨ b ≤ v ∨ c ≤ v) → wY_between_16 post v a b c fp sa fa := fun B =>
    br_c (fun x => h1 ⟨B, Or.inl x⟩) (fun x => br_c (fun y => h1 ⟨B, Or.inr (Or.inl y)⟩) (fun y => br_c (fun z => h0 (fun w => w.2.elim x (fun w => w.elim y (fun w => absurd z (Int32.not_lt.mpr w))))) (fun z => h1 ⟨B, Or.inr (Or.inr (Int32.not_lt.mp z))⟩)))
  exact br_c (fun x => go (Or.inl x)) (fun x => br_c (fun y => go (Or.inr (Or.inl y))) (fun y => br_c (fun z => h0 (fun w => w.1.elim x (fun w => w.elim y (fun w => absurd z (Int32.not_lt.mpr w))))) (fun z => go (Or.inr (Or.inr (Int32.not_lt.mp z))))))
theorem ry_tri0 {post : Int32 → Prop} {fp : Int32} {sa fa : Nat → Int32} {v1 v2 v3 : Int32} {x1 y1 x2 y2 x3 y3 : Nat} (h1 : rr_P v1 x1 y1) (h2 : rr_P v2 x2 y2) (h3 : rr_P v3 x3 y3) (x y : Int32) (t : rr_gt x1 y1 x2 y2 x3 y3 x y → post 1) (f : ¬ rr_gt x1 y1 x2 y2 x3 y3 x y → post 0) : wpY_inTriangle post (fp, sa, fa) x y v1 v2 v3 := by
  unfold rr_gt at t f
  unfold wpY_inTriangle
  dsimp only
  refine ry_side h1 h2 _ _ ?_
  refine ry_side h2 h3 _ _ ?_
  refine ry_side h3 h1 _ _ ?_
  generalize rr_sd x1 y1 x2 y2 x y = a at *
  generalize rr_sd x2 y2 x3 y3 x y = b at *
  generalize rr_sd x3 y3 x1 y1 x y = c at *
  have yes : rr_ins a b c → wY_inTriangle_64 post x y v1 v2 v3 fp sa fa := by
    intro hi
    unfold wY_inTriangle_64 wY_inTriangle_69
    rw [rr_P_rem h1, rr_P_rem h2, rr_P_rem h3, rr_P_div h1, rr_P_div h2, rr_P_div h3]
    refine br_f rr_10 ⟨rr_320, rr_320, rr_320, ?_⟩
    refine ry_btw (fun u => br_f rr_10 ⟨rr_320, rr_320, rr_320, ?_⟩) (fun u => br_t rfl (f (fun z => u z.2.1)))
    exact ry_btw (fun w => br_f rr_10 (t ⟨hi, u, w⟩)) (fun w => br_t rfl (f (fun z => w z.2.2)))
  have no : ¬ rr_ins a b c → wY_inTriangle_68 post x y v1 v2 v3 fp sa fa := fun hi => br_t rfl (f (fun z => hi z.1))
  have go : ¬ (¬ a < 0 ∧ ¬ b < 0 ∧ 0 ≤ c) → wY_inTriangle_49 post x y v1 v2 v3 a b c fp sa fa := fun n =>
    br_c (fun u => no (fun z => z.elim n (fun z => z.1 u))) (fun u => br_c (fun w => no (fun z => z.elim n (fun z => z.2.1 w))) (fun w => br_c (fun k => no (fun z => z.elim n (fun z => z.2.2 k))) (fun k => yes (Or.inr ⟨u, w, k⟩))))
  exact br_c (fun u => go (fun z => z.1 u)) (fun u => br_c (fun w => go (fun z => z.2.1 w)) (fun w => br_c (fun k => yes (Or.inl ⟨u, w, k⟩)) (fun k => go (fun z => k z.2.2))))
theorem ry_tri {post : Int32 → SY → Prop} {p : Nat} {sa fa : Nat → Int32} {P : Nat → Bool} {v1 v2 v3 : Int32} {x1 y1 x2 y2 x3 y3 : Nat} (h1 : rr_P v1 x1 y1) (h2 : rr_P v2 x2 y2) (h3 : rr_P v3 x3 y3) (hp : p ≤ 2) (hP : rr_RY sa P) (h : ∀ sa' fa', rr_RY sa' (rr_dr p P (rr_FG (rr_gt x1 y1 x2 y2 x3 y3))) → post (nI (rr_cnt (rr_df p P (rr_FG (rr_gt x1 y1 x2 y2 x3 y3))) 576)) (nI p, sa', fa')) : ∃ n, wY_triangle_29 post v1 v2 v3 (nI p) n 0 sa fa := by
  refine loop_0 (fun n i s => wY_triangle_29 post v1 v2 v3 (nI p) n (nI i) sa s) (fun i s => ∀ j, j < i → s j = rr_bi (rr_FG (rr_gt x1 y1 x2 y2 x3 y3) j)) 576 fa (fun j hj => absurd hj (Nat.not_lt_zero j)) ?_ ?_
  · intro n s hs
    refine br_t rr_576 ?_
    exact ry_ink hp hP hs (fun sa' hS => h sa' s hS)
  · intro n i s hi hs hk
    refine br_f (rr_l576 hi) ⟨rr_240, rr_240, ?_⟩
    rw [rr_rem24 (by omega), rr_div24 (by omega)]
    refine ry_tri0 h1 h2 h3 _ _ (fun c => ⟨vp_in_nI hi (by decide), ?_⟩) (fun c => ⟨vp_in_nI hi (by decide), ?_⟩)
    · rw [rr_cl hi]
      exact nm_e (nm_r (nI_1 i) (hk _ (ry_put hs (b := true) (rr_dec_t c))))
    · rw [rr_cl hi]
      exact nm_e (nm_r (nI_1 i) (hk _ (ry_put hs (b := false) (rr_dec_f c))))
