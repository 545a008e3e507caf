/-! the reference's flood, get, count, row and move -/
theorem rr_nf {b : Bool} (h : ¬ b = false) : b = true := by
  cases b
  · exact absurd rfl h
  · rfl
theorem ry_bes {post : Int32 → Prop} {fp : Int32} {sa fa : Nat → Int32} {F : Nat → Bool} (hF : rr_RY fa F) {k : Nat} (hk : k < 576) (h1 : rr_bes F k → post 1) (h0 : ¬ rr_bes F k → post 0) : wpY_besideFigure post (fp, sa, fa) (nI k) := by
  have e1 : (1 : Int32) = nI 1 := rfl
  have e24 : (24 : Int32) = nI 24 := rfl
  have p58 : ¬ (0 < k % 24 ∧ F (k - 1) = true) → ¬ (k % 24 < 23 ∧ F (k + 1) = true) → ¬ (24 ≤ k ∧ F (k - 24) = true) → wY_besideFigure_58 post (nI k) fp sa fa := by
    intro n1 n2 n3
    unfold wY_besideFigure_58
    refine pk_le 552 k (fun z => h0 ?_) (fun z => ?_)
    · rintro (w | w | w | w)
      · exact n1 w
      · exact n2 w
      · exact n3 w
      · omega
    · have ea : nI k + 24 = nI (k + 24) := nI_add k 24
      rw [ea, rr_cl (by omega), hF (k + 24) (by omega)]
      refine ⟨vp_in_nI (by omega) (by decide), ek_if (rr_bi_0 _) (fun w => h0 ?_) (fun w => h1 (Or.inr (Or.inr (Or.inr ⟨z, rr_nf w⟩))))⟩
      rintro (u | u | u | u)
      · exact n1 u
      · exact n2 u
      · exact n3 u
      · rw [w] at u
        exact absurd u.2 (by decide)
  have p40 : ¬ (0 < k % 24 ∧ F (k - 1) = true) → ¬ (k % 24 < 23 ∧ F (k + 1) = true) → wY_besideFigure_40 post (nI k) fp sa fa := by
    intro n1 n2
    unfold wY_besideFigure_40
    refine pk_lt k 24 (fun z => p58 n1 n2 (fun w => by omega)) (fun z => ?_)
    have ea : nI k - 24 = nI (k - 24) := pk_sub (b := 24) z
    rw [ea, rr_cl (by omega), hF (k - 24) (by omega)]
    refine ⟨vp_in_nI (by omega) (by decide), ek_if (rr_bi_0 _) (fun w => p58 n1 n2 (fun u => ?_)) (fun w => h1 (Or.inr (Or.inr (Or.inl ⟨z, rr_nf w⟩))))⟩
    rw [w] at u
    exact absurd u.2 (by decide)
  have p18 : ¬ (0 < k % 24 ∧ F (k - 1) = true) → wY_besideFigure_18 post (nI k) fp sa fa := by
    intro n1
    unfold wY_besideFigure_18
    rw [rr_rem24 (by omega)]
    refine ⟨rr_240, pk_le 23 (k % 24) (fun z => p40 n1 (fun w => by omega)) (fun z => ?_)⟩
    have ea : nI k + 1 = nI (k + 1) := nI_1 k
    rw [ea, rr_cl (by omega), hF (k + 1) (by omega)]
    refine ⟨vp_in_nI (by omega) (by decide), ek_if (rr_bi_0 _) (fun w => p40 n1 (fun u => ?_)) (fun w => h1 (Or.inr (Or.inl ⟨z, rr_nf w⟩)))⟩
    rw [w] at u
    exact absurd u.2 (by decide)
  unfold wpY_besideFigure
  dsimp only
  rw [rr_rem24 (by omega)]
  refine ⟨rr_240, pk_le (k % 24) 0 (fun z => p18 (fun w => by omega)) (fun z => ?_)⟩
  have ea : nI k - 1 = nI (k - 1) := pk_sub (b := 1) (by omega)
  rw [ea, rr_cl (by omega), hF (k - 1) (by omega)]
  refine ⟨vp_in_nI (by omega) (by decide), ek_if (rr_bi_0 _) (fun w => p18 (fun u => ?_)) (fun w => h1 (Or.inl ⟨z, rr_nf w⟩))⟩
  rw [w] at u
  exact absurd u.2 (by decide)
theorem ry_RYput {fa : Nat → Int32} {F : Nat → Bool} (h : rr_RY fa F) (k : Nat) : rr_RY (upd fa k (vp_nar .boolean 1)) (rr_put F k) := by
  intro j hj
  by_cases e : j = k
  · rw [e, pk_us, rr_put_s]
    exact rr_vb true
  · rw [pk_un e, rr_put_n e]
    exact h j hj
/-- the last loop: what is in the figure is turned over -/
theorem ry_turn {post : Int32 → SY → Prop} {fp : Int32} {sa fa : Nat → Int32} {P F : Nat → Bool} (hP : rr_RY sa P) (hF : rr_RY fa F) (h : ∀ sa', rr_RY sa' (fun k => P k ^^ F k) → post (nI (rr_cnt F 576)) (fp, sa', fa)) : ∃ n, wY_flood_147 post fp n 0 0 sa fa := by
  refine loop_0 (fun n i (s : Int32 × (Nat → Int32)) => wY_flood_147 post fp n s.1 (nI i) s.2 fa) (fun i s => s.1 = nI (rr_cnt F i) ∧ ∀ k, k < 576 → s.2 k = rr_bi (if k < i then P k ^^ F k else P k)) 576 (0, sa) ⟨rfl, fun k hk => by rw [if_neg (Nat.not_lt_zero k)]; exact hP k hk⟩ ?_ ?_
  · rintro n ⟨c, a⟩ ⟨h1, h2⟩
    dsimp only at h1 h2 ⊢
    subst h1
    exact br_t rr_576 (h a (fun k hk => by rw [h2 k hk, if_pos hk]))
  · rintro n i ⟨c, a⟩ hi ⟨h1, h2⟩ hk
    dsimp only at h1 h2 ⊢
    subst h1
    have ai : a i = rr_bi (P i) := by rw [h2 i hi, if_neg (Nat.lt_irrefl i)]
    have up : ∀ b, b = (P i ^^ F i) → ∀ k, k < 576 → upd a i (rr_bi b) k = rr_bi (if k < i + 1 then P k ^^ F k else P k) := by
      intro b hb k hk
      by_cases e : k = i
      · rw [e, pk_us, if_pos (Nat.lt_succ_self i), hb]
      · rw [pk_un e, h2 k hk]
        by_cases l : k < i
        · rw [if_pos l, if_pos (by omega)]
        · rw [if_neg l, if_neg (by omega)]
    refine br_f (rr_l576 hi) ⟨vp_in_nI hi (by decide), ?_⟩
    rw [rr_cl hi, hF i hi, ai]
    refine ek_if (rr_bi_0 (F i)) (fun z => ?_) (fun z => ⟨vp_in_nI hi (by decide), ?_⟩)
    · refine nm_r (nI_1 i) ?_
      have w := hk (nI (rr_cnt F (i + 1)), a) ⟨rfl, fun k hk => ?_⟩
      · rw [rr_cnt_s, z] at w
        exact w
      · show a k = _
        rw [h2 k hk]
        by_cases e : k = i
        · rw [e, if_neg (Nat.lt_irrefl i), if_pos (Nat.lt_succ_self i), z, Bool.xor_false]
        · by_cases l : k < i
          · rw [if_pos l, if_pos (by omega)]
          · rw [if_neg l, if_neg (by omega)]
    · have ft : F i = true := rr_nf z
      have cn : nI (rr_cnt F i) + 1 = nI (rr_cnt F (i + 1)) := by
        rw [rr_cnt_s, ft, nI_1]
        rfl
      refine ek_if (rr_bi_0 (P i)) (fun y => ⟨vp_in_nI hi (by decide), ?_⟩) (fun y => ⟨vp_in_nI hi (by decide), ?_⟩)
      · exact nm_r (congrArg (upd a i) (rr_vb true)) (nm_r cn (nm_r (nI_1 i) (hk (nI (rr_cnt F (i + 1)), upd a i (rr_bi true)) ⟨rfl, up true (by rw [y, ft]; rfl)⟩)))
      · have pt : P i = true := rr_nf y
        exact nm_r (congrArg (upd a i) (rr_vb false)) (nm_r cn (nm_r (nI_1 i) (hk (nI (rr_cnt F (i + 1)), upd a i (rr_bi false)) ⟨rfl, up false (by rw [pt, ft]; rfl)⟩)))
/-- one round over all pixels -/
theorem ry_round {post : Int32 → SY → Prop} {J : Int32 → Int32 → (Nat → Int32) → (Nat → Int32) → Prop} {fp : Int32} {sa fa : Nat → Int32} {P F : Nat → Bool} {s i : Nat} (h5 : s < 576) (hP : rr_RY sa P) (hF : rr_RY fa F) (hY : rr_YI P s F) (hJ : ∀ (m : Nat) fa' F', m ≤ 1 → rr_RY fa' F' → rr_YI P s F' → rr_cnt F 576 + m ≤ rr_cnt F' 576 → (m = 0 → rr_Yc P s F' 576) → J (nI m) (nI (i + 1)) sa fa') : ∃ n, wY_flood_76 post J (nI s) (nI i) fp n 0 0 sa fa := by
  refine loop_0 (fun n k (w : Int32 × (Nat → Int32)) => wY_flood_76 post J (nI s) (nI i) fp n w.1 (nI k) sa w.2) (fun k w => ∃ m F', w.1 = nI m ∧ m ≤ 1 ∧ rr_RY w.2 F' ∧ rr_YI P s F' ∧ rr_cnt F 576 + m ≤ rr_cnt F' 576 ∧ (m = 0 → rr_Yc P s F' k)) 576 (0, fa) ⟨0, F, rfl, by omega, hF, hY, by omega, fun _ j hj => absurd hj (Nat.not_lt_zero j)⟩ ?_ ?_
  · rintro n ⟨c, a⟩ ⟨m, F', h1, h2, h3, h4, h6, h7⟩
    dsimp only at h1 h3 ⊢
    subst h1
    exact br_t rr_576 (nm_r (nI_1 i) (hJ m a F' h2 h3 h4 h6 h7))
  · rintro n k ⟨c, a⟩ hk5 ⟨m, F', h1, h2, h3, h4, h6, h7⟩ hk
    dsimp only at h1 h3 ⊢
    subst h1
    have stay : (F' k = false → P k = P s → ¬ rr_bes F' k) → wY_flood_76 post J (nI s) (nI i) fp n (nI m) (nI (k + 1)) sa a := by
      intro z
      refine hk (nI m, a) ⟨m, F', rfl, h2, h3, h4, h6, fun e j hj => ?_⟩
      by_cases ej : j = k
      · rw [ej]; exact z
      · exact h7 e j (by omega)
    refine br_f (rr_l576 hk5) ⟨vp_in_nI hk5 (by decide), ?_⟩
    rw [rr_cl hk5, rr_cl h5, h3 k hk5, hP k hk5, hP s h5]
    refine ek_if (rr_bi_0 (F' k)) (fun z => ⟨vp_in_nI hk5 (by decide), vp_in_nI h5 (by decide), ?_⟩) (fun z => nm_r (nI_1 k) (stay (fun w => absurd w z)))
    refine ek_if (rr_bi_e (P k) (P s)) (fun y => ?_) (fun y => nm_r (nI_1 k) (stay (fun _ w => absurd w y)))
    refine ry_bes h3 hk5 (fun b => br_f rr_10 ⟨vp_in_nI hk5 (by decide), nm_e (nm_r (nI_1 k) ?_)⟩) (fun b => br_t rfl (nm_r (nI_1 k) (stay (fun _ _ => b))))
    refine hk (nI 1, upd a k (vp_nar .boolean 1)) ⟨1, rr_put F' k, rfl, by omega, ry_RYput h3 k, rr_YI_add h4 hk5 y b, ?_, fun e => by omega⟩
    rw [rr_cnt_put z, if_pos hk5]
    omega
theorem ry_rounds {post : Int32 → SY → Prop} {fp : Int32} {sa fa : Nat → Int32} {P F : Nat → Bool} {s : Nat} (h5 : s < 576) (hP : rr_RY sa P) (hF : rr_RY fa F) (hY : rr_YI P s F) (hc : 1 ≤ rr_cnt F 576) (h : ∀ sa' fa' Q, rr_isF P s Q → rr_RY sa' (fun k => P k ^^ Q k) → post (nI (rr_cnt Q 576)) (fp, sa', fa')) : ∃ n, wY_flood_59 post (nI s) fp n 1 0 sa fa := by
  have fin : ∀ fa' F', rr_RY fa' F' → rr_YI P s F' → rr_Yc P s F' 576 → ∃ n, wY_flood_147 post fp n 0 0 sa fa' := fun fa' F' a b c =>
    ry_turn hP a (fun sa' hS => h sa' fa' F' (rr_YI_end b c) hS)
  refine loop_0 (fun n i (w : Int32 × (Nat → Int32)) => wY_flood_59 post (nI s) fp n w.1 (nI i) sa w.2) (fun i w => ∃ m F', w.1 = nI m ∧ m ≤ 1 ∧ rr_RY w.2 F' ∧ rr_YI P s F' ∧ (m = 1 → i + 1 ≤ rr_cnt F' 576) ∧ (m = 0 → rr_Yc P s F' 576)) 576 (1, fa) ⟨1, F, rfl, by omega, hF, hY, fun _ => by omega, fun e => by omega⟩ ?_ ?_
  · rintro n ⟨c, a⟩ ⟨m, F', h1, h2, h3, h4, h6, h7⟩
    have l := rr_cnt_le F' 576
    have m0 : m = 0 := by
      by_cases e : m = 1
      · have := h6 e
        omega
      · omega
    exact br_t rr_576 (fin a F' h3 h4 (h7 m0))
  · rintro n i ⟨c, a⟩ hi ⟨m, F', h1, h2, h3, h4, h6, h7⟩ hk
    dsimp only at h1 h3 ⊢
    subst h1
    refine br_f (rr_l576 hi) (pk_eq m 0 (fun e => fin a F' h3 h4 (h7 e)) (fun e => ?_))
    refine ry_round h5 hP h3 h4 (fun m' fa' F'' g1 g2 g3 g4 g5 => ?_)
    refine hk (nI m', fa') ⟨m', F'', rfl, g1, g2, g3, fun e' => ?_, g5⟩
    have := h6 (by omega)
    omega
theorem ry_at {v : Int32} {x y : Nat} (hv : rr_P v x y) : 24 * (v / 32) + (v - v / 32 * 32) = nI (24 * y + x) := by
  have e : (24 : Int32) * nI y = nI (24 * y) := pk_mul 24 y
  rw [rr_P_rem hv, rr_P_div hv, e, nI_add]
theorem ry_flood {post : Int32 → SY → Prop} {P : Nat → Bool} {fp : Int32} {sa fa : Nat → Int32} (hP : rr_RY sa P) (v : Int32) (h1 : ∀ x y, rr_P v x y → ∀ sa' fa' Q, rr_isF P (24 * y + x) Q → rr_RY sa' (fun k => P k ^^ Q k) → post (nI (rr_cnt Q 576)) (fp, sa', fa')) (h0 : (¬ ∃ x y, rr_P v x y) → post (-1) (fp, sa, fa)) : wpY_flood post (fp, sa, fa) v := by
  unfold wpY_flood
  dsimp only
  refine ry_pix v (fun x y hv => br_f rr_10 ⟨rr_320, rr_320, nm_r (ry_at hv) ?_⟩) (fun z => br_t rfl (h0 z))
  have hx := hv.1
  have hy := hv.2.1
  have h5 : 24 * y + x < 576 := by omega
  have h1' := h1 x y hv
  generalize 24 * y + x = s at *
  refine loop_0 (fun n i w => wY_flood_25 post (nI s) fp n (nI i) sa w) (fun i w => ∀ j, j < i → w j = rr_bi (rr_put (fun _ => false) s j)) 576 fa (fun j hj => absurd hj (Nat.not_lt_zero j)) ?_ ?_
  · intro n w hw
    refine br_t rr_576 ?_
    refine ry_rounds (F := rr_put (fun _ => false) s) h5 hP hw ⟨rr_put_s _ _, fun k hk z => ?_⟩ ?_ (fun sa' fa' Q a b => h1' sa' fa' Q a b)
    · by_cases e : k = s
      · rw [e]; exact rr_conn_0 P s
      · rw [rr_put_n e] at z
        exact absurd z (by decide)
    · rw [rr_cnt_put rfl, if_pos h5]
      omega
  · intro n i w hi hw hk
    refine br_f (rr_l576 hi) ?_
    rw [rr_cl hi]
    refine pk_eq i s (fun e => ⟨vp_in_nI hi (by decide), nm_e (nm_r (nI_1 i) (hk _ (ry_put hw (b := true) ?_)))⟩) (fun e => ⟨vp_in_nI hi (by decide), nm_e (nm_r (nI_1 i) (hk _ (ry_put hw (b := false) ?_)))⟩)
    · rw [e]; exact rr_put_s _ _
    · exact rr_put_n e
theorem ry_count {post : Int32 → Prop} {fp : Int32} {sa fa : Nat → Int32} {P : Nat → Bool} (hP : rr_RY sa P) (h : post (nI (rr_cnt P 576))) : wpY_count post (fp, sa, fa) := by
  show ∃ n4 : Nat, wY_count_4 post fp sa fa n4 0 0
  refine loop_0 (fun n i s => wY_count_4 post fp sa fa n s (nI i)) (fun i s => s = nI (rr_cnt P i)) 576 0 rfl ?_ ?_
  · intro n s hs
    subst hs
    exact br_t rr_576 h
  · intro n i s hi hs hk
    subst hs
    refine br_f (rr_l576 hi) ⟨vp_in_nI hi (by decide), ?_⟩
    rw [rr_cl hi, hP i hi]
    have w := hk (nI (rr_cnt P (i + 1))) rfl
    refine ek_if (rr_bi_0 (P i)) (fun z => nm_r (nI_1 i) ?_) (fun z => nm_r ?_ (nm_r (nI_1 i) w))
    · rw [rr_cnt_s, z] at w
      exact w
    · rw [rr_cnt_s, rr_nf z, nI_1]
      rfl
theorem ry_get {post : Int32 → Prop} {fp : Int32} {sa fa : Nat → Int32} {P : Nat → Bool} (hP : rr_RY sa P) (v : Int32) (h1 : ∀ x y, rr_P v x y → post (rr_bi (P (24 * y + x)))) (h0 : (¬ ∃ x y, rr_P v x y) → post (-1)) : wpY_get post (fp, sa, fa) v := by
  unfold wpY_get
  dsimp only
  refine ry_pix v (fun x y hv => br_f rr_10 ⟨rr_320, rr_320, ?_⟩) (fun z => br_t rfl (h0 z))
  have hx := hv.1
  have hy := hv.2.1
  have w := h1 x y hv
  rw [ry_at hv, rr_cl (by omega), hP _ (by omega)]
  refine ⟨vp_in_nI (by omega) (by decide), ek_if (rr_bi_0 _) (fun z => ?_) (fun z => ?_)⟩
  · rw [z] at w
    exact w
  · rw [rr_nf z] at w
    exact w
theorem ry_row {post : Int32 → Prop} {fp : Int32} {sa fa : Nat → Int32} {P : Nat → Bool} (hP : rr_RY sa P) {y : Nat} (hy : y < 24) (h : ∀ r, (∀ x, x < 32 → bt r x = (decide (x < 24) && P (24 * y + x))) → post r) : ∃ n, wY_row_16 post (nI y) fp sa fa n 0 0 := by
  refine loop_0 (fun n i s => wY_row_16 post (nI y) fp sa fa n s (nI i)) (fun i s => ∀ x, x < 32 → bt s x = (decide (x < i) && P (24 * y + x))) 24 0 (fun x _ => by rw [b_0, decide_eq_false (Nat.not_lt_zero x), Bool.false_and]) ?_ ?_
  · intro n s hs
    exact br_t rr_24 (h s hs)
  · intro n i s hi hs hk
    have e : (24 : Int32) * nI y = nI (24 * y) := pk_mul 24 y
    refine br_f (rr_l24 hi) ?_
    rw [e, nI_add, rr_cl (by omega), hP _ (by omega)]
    refine ⟨vp_in_nI (by omega) (by decide), ek_if (rr_bi_0 _) (fun z => nm_r (nI_1 i) (hk s (fun x hx => ?_))) (fun z => nm_e (nm_r (nI_1 i) (hk _ (fun x hx => ?_))))⟩
    · rw [hs x hx]
      by_cases l : x = i
      · rw [l, z, Bool.and_false, Bool.and_false]
      · by_cases l2 : x < i
        · rw [decide_eq_true l2, decide_eq_true (by omega)]
        · rw [decide_eq_false l2, decide_eq_false (by omega)]
    · rw [b_or, hs x hx, rr_one (by omega) hx]
      by_cases l : x = i
      · rw [l, rr_nf z, decide_eq_true rfl, decide_eq_true (Nat.lt_succ_self i), Bool.or_true]
        rfl
      · rw [decide_eq_false l, Bool.or_false]
        by_cases l2 : x < i
        · rw [decide_eq_true l2, decide_eq_true (by omega)]
        · rw [decide_eq_false l2, decide_eq_false (by omega)]
theorem ry_mv120 {post : Int32 → SY → Prop} {J : Int32 → (Nat → Int32) → (Nat → Int32) → Prop} {x1 x2 x3 fp : Int32} {w fa : Nat → Int32} {P : Nat → Bool} {i X Y : Nat} (hF : rr_RY fa P) (hi : i < 576) (hX : X < 24) (hY : Y < 24) (h : J (nI (i + 1)) (upd w i (vp_nar .boolean (rr_bi (P (24 * Y + X))))) fa) : wY_move_120 post J x1 x2 x3 (nI i) (nI X) (nI Y) 1 fp w fa := by
  have e : (24 : Int32) * nI Y = nI (24 * Y) := pk_mul 24 Y
  unfold wY_move_120
  rw [e, nI_add, rr_cl hi, rr_cl (by omega), hF _ (by omega)]
  refine br_f rr_10 ⟨vp_in_nI (by omega) (by decide), ek_if (rr_bi_0 _) (fun z => ⟨vp_in_nI hi (by decide), nm_e (nm_r (nI_1 i) ?_)⟩) (fun z => ⟨vp_in_nI hi (by decide), nm_e (nm_r (nI_1 i) ?_)⟩)⟩
  · rw [z] at h
    exact h
  · rw [rr_nf z] at h
    exact h
theorem ry_mv119 {post : Int32 → SY → Prop} {J : Int32 → (Nat → Int32) → (Nat → Int32) → Prop} {x1 x2 x3 x5 x6 fp : Int32} {w fa : Nat → Int32} {i : Nat} (hi : i < 576) (h : J (nI (i + 1)) (upd w i (vp_nar .boolean (rr_bi false))) fa) : wY_move_119 post J x1 x2 x3 (nI i) x5 x6 fp w fa := by
  unfold wY_move_119 wY_move_120
  rw [rr_cl hi]
  exact br_t rfl ⟨vp_in_nI hi (by decide), nm_e (nm_r (nI_1 i) h)⟩
theorem ry_mv65 {post : Int32 → SY → Prop} {fp c : Int32} {sa fa : Nat → Int32} {P : Nat → Bool} {d e : Int32} (hd : rr_stp d) (he : rr_stp e) (hF : rr_RY fa P) (h : ∀ sa', rr_RY sa' (rr_mv P d.toInt e.toInt) → post (c - nI (rr_cnt (rr_mv P d.toInt e.toInt) 576)) (fp, sa', fa)) : ∃ n, wY_move_65 post d e c fp n 0 sa fa := by
  have d1 := hd.1
  have d2 := hd.2
  have e1 := he.1
  have e2 := he.2
  refine loop_0 (fun n i w => wY_move_65 post d e c fp n (nI i) w fa) (fun i w => ∀ j, j < i → w j = rr_bi (rr_mv P d.toInt e.toInt j)) 576 sa (fun j hj => absurd hj (Nat.not_lt_zero j)) ?_ ?_
  · intro n w hw
    refine br_t rr_576 ?_
    exact ry_count hw (h w hw)
  · intro n i w hi hw hk
    refine br_f (rr_l576 hi) ⟨rr_240, ?_⟩
    rw [rr_rem24 (by omega), rr_div24 (by omega)]
    have ex : nI (i % 24) - d = rr_i (((i % 24 : Nat) : Int) - d.toInt) := by
      rw [← rr_sub, ← rr_n]
      exact congrArg (fun t => nI (i % 24) - t) (rr_of d)
    have ey : nI (i / 24) - e = rr_i (((i / 24 : Nat) : Int) - e.toInt) := by
      rw [← rr_sub, ← rr_n]
      exact congrArg (fun t => nI (i / 24) - t) (rr_of e)
    refine nm_r ex ⟨rr_240, nm_r ey ?_⟩
    have e0 : (0 : Int32) = rr_i 0 := rfl
    have e23 : (23 : Int32) = rr_i 23 := rfl
    have hm : rr_mv P d.toInt e.toInt i = (decide (0 ≤ ((i % 24 : Nat) : Int) - d.toInt ∧ ((i % 24 : Nat) : Int) - d.toInt ≤ 23 ∧ 0 ≤ ((i / 24 : Nat) : Int) - e.toInt ∧ ((i / 24 : Nat) : Int) - e.toInt ≤ 23) && P (24 * (((i / 24 : Nat) : Int) - e.toInt).toNat + (((i % 24 : Nat) : Int) - d.toInt).toNat)) := rfl
    have b1 : -50 ≤ ((i % 24 : Nat) : Int) - d.toInt ∧ ((i % 24 : Nat) : Int) - d.toInt ≤ 50 := by omega
    have b2 : -50 ≤ ((i / 24 : Nat) : Int) - e.toInt ∧ ((i / 24 : Nat) : Int) - e.toInt ≤ 50 := by omega
    generalize ((i % 24 : Nat) : Int) - d.toInt = X at *
    generalize ((i / 24 : Nat) : Int) - e.toInt = Y at *
    have no : ¬ (0 ≤ X ∧ X ≤ 23 ∧ 0 ≤ Y ∧ Y ≤ 23) → wY_move_65 post d e c fp n (nI (i + 1)) (upd w i (vp_nar .boolean (rr_bi false))) fa := by
      intro z
      rw [decide_eq_false z, Bool.false_and] at hm
      exact hk _ (ry_put hw hm)
    refine ek_if (d := X < 0) (by rw [e0, rr_lt (by omega) (by omega)]) (fun z => ry_mv119 hi (no (by omega))) (fun z1 => ?_)
    refine ek_if (d := 23 < X) (by rw [e23, rr_lt (by omega) (by omega)]) (fun z => ry_mv119 hi (no (by omega))) (fun z2 => ?_)
    refine ek_if (d := Y < 0) (by rw [e0, rr_lt (by omega) (by omega)]) (fun z => ry_mv119 hi (no (by omega))) (fun z3 => ?_)
    refine ek_if (d := 23 < Y) (by rw [e23, rr_lt (by omega) (by omega)]) (fun z => ry_mv119 hi (no (by omega))) (fun z4 => ?_)
    rw [decide_eq_true (by omega), Bool.true_and] at hm
    have fX : rr_i X = nI X.toNat := by rw [rr_n]; exact congrArg rr_i (by omega)
    have fY : rr_i Y = nI Y.toNat := by rw [rr_n]; exact congrArg rr_i (by omega)
    rw [fX, fY]
    exact ry_mv120 hF hi (by omega) (by omega) (hk _ (ry_put hw hm))
theorem ry_move {post : Int32 → SY → Prop} {fp : Int32} {sa fa : Nat → Int32} {P : Nat → Bool} (hP : rr_RY sa P) (d e : Int32) (h1 : rr_stp d ∧ rr_stp e → ∀ sa' fa', rr_RY sa' (rr_mv P d.toInt e.toInt) → post (nI (rr_cnt P 576) - nI (rr_cnt (rr_mv P d.toInt e.toInt) 576)) (fp, sa', fa')) (h0 : ¬ (rr_stp d ∧ rr_stp e) → post (-1) (fp, sa, fa)) : wpY_move post (fp, sa, fa) d e := by
  unfold wpY_move
  dsimp only
  refine ek_if (rr_m24 d) (fun z => h0 (fun w => by have := w.1.1; omega)) (fun z1 => ?_)
  refine ek_if (rr_p24 d) (fun z => h0 (fun w => by have := w.1.2; omega)) (fun z2 => ?_)
  refine ek_if (rr_m24 e) (fun z => h0 (fun w => by have := w.2.1; omega)) (fun z3 => ?_)
  refine ek_if (rr_p24l e) (fun z4 => ?_) (fun z => h0 (fun w => z w.2.2))
  have hd : rr_stp d := ⟨by omega, by omega⟩
  have he : rr_stp e := ⟨by omega, z4⟩
  refine ry_count hP ?_
  refine loop_0 (fun n i w => wY_move_34 post d e (nI (rr_cnt P 576)) fp n (nI i) sa w) (fun i w => ∀ j, j < i → w j = rr_bi (P j)) 576 fa (fun j hj => absurd hj (Nat.not_lt_zero j)) ?_ ?_
  · intro n w hw
    exact br_t rr_576 (ry_mv65 hd he hw (fun sa' hS => h1 ⟨hd, he⟩ sa' w hS))
  · intro n i w hi hw hk
    refine br_f (rr_l576 hi) ⟨vp_in_nI hi (by decide), vp_in_nI hi (by decide), ?_⟩
    rw [rr_cl hi, hP i hi]
    exact nm_e (nm_r (nI_1 i) (hk _ (ry_put hw rfl)))
