/-! the reference's figures -/
theorem rr_320 : ¬ (32 : Int32) = 0 := by decide
theorem rr_240 : ¬ (24 : Int32) = 0 := by decide
theorem ry_pix {post : Int32 → Prop} {fp : Int32} {sa fa : Nat → Int32} (v : Int32) (h1 : ∀ x y, rr_P v x y → post 1) (h0 : (¬ ∃ x y, rr_P v x y) → post 0) : wpY_isPixel post (fp, sa, fa) v := by
  unfold wpY_isPixel
  dsimp only
  by_cases h : v < 0
  · refine br_t h (h0 ?_)
    rintro ⟨x, y, a1, a2, rfl⟩
    exact nI_pos (by omega) h
  · refine br_f h ⟨rr_320, ?_⟩
    obtain ⟨n, hn, rfl⟩ := nI_of h
    have no : ¬ (n % 32 < 24 ∧ n / 32 < 24) → ¬ ∃ x y, rr_P (nI n) x y := by
      rintro z ⟨x, y, a1, a2, e⟩
      rw [nI_eq hn (by omega)] at e
      omega
    rw [rr_rem32 hn, rr_div32 hn]
    refine pk_lt 23 (n % 32) (fun z => h0 (no (by omega))) (fun z => ⟨rr_320, ?_⟩)
    exact pk_lt 23 (n / 32) (fun w => h0 (no (by omega))) (fun w => h1 (n % 32) (n / 32) ⟨by omega, by omega, congrArg nI (by omega)⟩)
theorem ry_size {post : Int32 → Prop} {fp : Int32} {sa fa : Nat → Int32} {U : Int} (hU : -1000 ≤ U ∧ U ≤ 1000) (h : post (nI U.natAbs)) : wpY_size post (fp, sa, fa) (rr_i U) := by
  have e0 : (0 : Int32) = rr_i 0 := rfl
  rw [rr_n] at h
  refine ek_if (d := 0 ≤ U) (by rw [e0, rr_le (by omega) (by omega)]) (fun z => ?_) (fun z => ?_)
  · rw [show (U.natAbs : Int) = U by omega] at h
    exact h
  · rw [show (U.natAbs : Int) = -U by omega] at h
    rw [rr_neg]
    exact h
theorem ry_ink40 {post : Int32 → SY → Prop} {J : Int32 → Int32 → (Nat → Int32) → (Nat → Int32) → Prop} {x1 fp : Int32} {sa fa : Nat → Int32} {i : Nat} (hi : i < 576) {now b f : Bool} (hs : sa i = rr_bi b) (hf : fa i = rr_bi f) (hk0 : f = false ∨ b = now → J x1 (nI (i + 1)) sa fa) (hk1 : f = true → b ≠ now → J (x1 + 1) (nI (i + 1)) (upd sa i (rr_bi now)) fa) : wY_ink_40 post J x1 (nI i) (rr_bi now) fp sa fa := by
  unfold wY_ink_40
  rw [rr_cl hi, hs, hf, rr_vb]
  refine ⟨vp_in_nI hi (by decide), ek_if (rr_bi_0 f) (fun z => nm_r (nI_1 i) (hk0 (Or.inl z))) (fun z => ⟨vp_in_nI hi (by decide), ?_⟩)⟩
  refine ek_if (rr_bi_e b now) (fun w => nm_r (nI_1 i) (hk0 (Or.inr w))) (fun w => ⟨vp_in_nI hi (by decide), nm_e (nm_e (nm_r (nI_1 i) (hk1 ?_ w)))⟩)
  cases f
  · exact absurd rfl z
  · rfl
theorem ry_ink {post : Int32 → SY → Prop} {p : Nat} {sa fa : Nat → Int32} {P F : Nat → Bool} (hp : p ≤ 2) (hP : rr_RY sa P) (hF : rr_RY fa F) (h : ∀ sa', rr_RY sa' (rr_dr p P F) → post (nI (rr_cnt (rr_df p P F) 576)) (nI p, sa', fa)) : wpY_ink post (nI p, sa, fa) := by
  show ∃ n4 : Nat, wY_ink_4 post (nI p) n4 0 0 sa fa
  refine loop_0 (fun n i (s : Int32 × (Nat → Int32)) => wY_ink_4 post (nI p) n s.1 (nI i) s.2 fa) (fun i s => s.1 = nI (rr_cnt (rr_df p P F) i) ∧ ∀ k, k < 576 → s.2 k = rr_bi (if k < i then rr_dr p P F k else P k)) 576 (0, sa) ⟨rfl, fun k hk => by rw [if_neg (Nat.not_lt_zero k)]; exact hP k hk⟩ ?_ ?_
  · rintro n ⟨c, a⟩ ⟨h1, h2⟩
    dsimp only at h1 h2 ⊢
    subst h1
    exact br_t rr_576 (h a (fun k hk => by rw [h2 k hk, if_pos hk]))
  · rintro n i ⟨c, a⟩ hi ⟨h1, h2⟩ hk
    dsimp only at h1 h2 ⊢
    subst h1
    have ai : a i = rr_bi (P i) := by rw [h2 i hi, if_neg (Nat.lt_irrefl i)]
    have fin : ∀ now : Bool, now = (decide (p = 0) || (decide (p = 2) && !P i)) → wY_ink_40 post (wY_ink_4 post (nI p) n) (nI (rr_cnt (rr_df p P F) i)) (nI i) (rr_bi now) (nI p) a fa := by
      intro now hn
      have hdr : rr_dr p P F i = if F i = true then now else P i := by rw [hn]; rfl
      refine ry_ink40 hi ai (hF i hi) (fun z => ?_) (fun z1 z2 => ?_)
      · have e1 : rr_dr p P F i = P i := by
          rw [hdr]
          rcases z with z | z
          · rw [z]; rfl
          · rw [z]; cases F i <;> rfl
        have e2 : rr_df p P F i = false := by
          show (P i ^^ rr_dr p P F i) = false
          rw [e1]
          cases P i <;> rfl
        have w := hk (nI (rr_cnt (rr_df p P F) (i + 1)), a) ⟨rfl, fun k hk => ?_⟩
        · rw [rr_cnt_s, e2] at w
          exact w
        · show a k = _
          rw [h2 k hk]
          by_cases e : k = i
          · rw [e, if_neg (Nat.lt_irrefl i), if_pos (Nat.lt_succ_self i), e1]
          · by_cases l : k < i
            · rw [if_pos l, if_pos (by omega)]
            · rw [if_neg l, if_neg (by omega)]
      · have e1 : rr_dr p P F i = now := by rw [hdr, z1]; rfl
        have e2 : rr_df p P F i = true := by
          show (P i ^^ rr_dr p P F i) = true
          rw [e1]
          revert z2
          cases P i <;> cases now <;> decide
        have w := hk (nI (rr_cnt (rr_df p P F) (i + 1)), upd a i (rr_bi now)) ⟨rfl, fun k hk => ?_⟩
        · rw [rr_cnt_s, e2] at w
          rw [nI_1]
          exact w
        · show upd a i (rr_bi now) k = _
          by_cases e : k = i
          · rw [e, pk_us, if_pos (Nat.lt_succ_self i), e1]
          · rw [pk_un e, h2 k hk]
            by_cases l : k < i
            · rw [if_pos l, if_pos (by omega)]
            · rw [if_neg l, if_neg (by omega)]
    refine br_f (rr_l576 hi) ?_
    have hc : p = 0 ∨ p = 1 ∨ p = 2 := by omega
    rcases hc with rfl | rfl | rfl
    · exact br_t rfl (fin true rfl)
    · exact br_f (by decide) (br_f (by decide) (fin false rfl))
    · refine br_f (by decide) (br_t rfl ⟨vp_in_nI hi (by decide), ?_⟩)
      rw [rr_cl hi, ai]
      refine ek_if (rr_bi_0 (P i)) (fun z => fin true (by rw [z]; rfl)) (fun z => fin false ?_)
      cases hb : P i
      · exact absurd hb z
      · rfl
theorem ry_put {s : Nat → Int32} {F : Nat → Bool} {i : Nat} (hI : ∀ j, j < i → s j = rr_bi (F j)) {b : Bool} (hb : F i = b) : ∀ j, j < i + 1 → upd s i (vp_nar .boolean (rr_bi b)) j = rr_bi (F j) := by
  intro j hj
  by_cases e : j = i
  · rw [e, pk_us, rr_vb, hb]
  · rw [pk_un e]
    exact hI j (by omega)
noncomputable def rr_FG (g : Int32 → Int32 → Prop) : Nat → Bool := fun k => rr_dec (rr_G g k)
theorem ry_disc {post : Int32 → SY → Prop} {p : Nat} {sa fa : Nat → Int32} {P : Nat → Bool} {v r : Int32} {x y : Nat} (hv : rr_P v x y) (hp : p ≤ 2) (hP : rr_RY sa P) (h : ∀ sa' fa', rr_RY sa' (rr_dr p P (rr_FG (rr_gd r (nI x) (nI y)))) → post (nI (rr_cnt (rr_df p P (rr_FG (rr_gd r (nI x) (nI y)))) 576)) (nI p, sa', fa')) : ∃ n, wY_disc_13 post v r (nI p) n 0 sa fa := by
  refine loop_0 (fun n i s => wY_disc_13 post v r (nI p) n (nI i) sa s) (fun i s => ∀ j, j < i → s j = rr_bi (rr_FG (rr_gd r (nI x) (nI y)) j)) 576 fa (fun j hj => absurd hj (Nat.not_lt_zero j)) ?_ ?_
  · intro n s hs
    refine br_t rr_576 ?_
    exact ry_ink hp hP hs (fun sa' hS => h sa' s hS)
  · intro n i s hi hs hk
    refine br_f (rr_l576 hi) ⟨rr_240, rr_320, nm_e ⟨rr_240, rr_320, nm_e ?_⟩⟩
    rw [rr_rem24 (by omega), rr_div24 (by omega), rr_P_rem hv, rr_P_div hv, rr_cl hi]
    refine br_c (fun c => ⟨vp_in_nI hi (by decide), nm_e (nm_r (nI_1 i) (hk _ (ry_put hs (b := false) (rr_dec_f (fun z => z c)))))⟩) (fun c => ⟨vp_in_nI hi (by decide), nm_e (nm_r (nI_1 i) (hk _ (ry_put hs (b := true) (rr_dec_t c))))⟩)
theorem ry_blot {post : Int32 → SY → Prop} {p : Nat} {sa fa : Nat → Int32} {P : Nat → Bool} {v r t : Int32} {x y : Nat} (hv : rr_P v x y) (hp : p ≤ 2) (hP : rr_RY sa P) (h : ∀ sa' fa', rr_RY sa' (rr_dr p P (rr_FG (rr_gb r t (nI x) (nI y)))) → post (nI (rr_cnt (rr_df p P (rr_FG (rr_gb r t (nI x) (nI y)))) 576)) (nI p, sa', fa')) : ∃ n, wY_blot_23 post v r t (nI p) n 0 sa fa := by
  refine loop_0 (fun n i s => wY_blot_23 post v r t (nI p) n (nI i) sa s) (fun i s => ∀ j, j < i → s j = rr_bi (rr_FG (rr_gb r t (nI x) (nI y)) j)) 576 fa (fun j hj => absurd hj (Nat.not_lt_zero j)) ?_ ?_
  · intro n s hs
    refine br_t rr_576 ?_
    exact ry_ink hp hP hs (fun sa' hS => h sa' s hS)
  · intro n i s hi hs hk
    refine br_f (rr_l576 hi) ⟨rr_240, rr_320, nm_e ⟨rr_240, rr_320, nm_e ?_⟩⟩
    rw [rr_rem24 (by omega), rr_div24 (by omega), rr_P_rem hv, rr_P_div hv, rr_cl hi]
    refine br_c (fun c => ⟨vp_in_nI hi (by decide), nm_e (nm_r (nI_1 i) (hk _ (ry_put hs (b := false) (rr_dec_f (fun z => z c)))))⟩) (fun c => ⟨vp_in_nI hi (by decide), nm_e (nm_r (nI_1 i) (hk _ (ry_put hs (b := true) (rr_dec_t c))))⟩)
