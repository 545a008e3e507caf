/-! a mark, a row under a pen, a row that is shifted -/
theorem rr_markU {f : Nat → Int32} {F : Nat → Prop} (h : rr_RF f F) {x y : Nat} (hx : x < 24) (hy : y < 24) : rr_RF (upd f y (f y ||| ((1 : Int32) <<< (nI x &&& 31)))) (fun k => F k ∨ (nI x = nI (k % 24) ∧ nI y = nI (k / 24))) := by
  intro y' hy' x' hx'
  have e1 : x' < 24 → (nI x = nI ((24 * y' + x') % 24) ↔ x' = x) := fun z => by
    rw [nI_eq (by omega) (by omega)]; omega
  have e2 : x' < 24 → (nI y = nI ((24 * y' + x') / 24) ↔ y' = y) := fun z => by
    rw [nI_eq (by omega) (by omega)]; omega
  by_cases e : y' = y
  · subst e
    rw [pk_us, b_or, rr_one (by omega) hx', Bool.or_eq_true, h y' hy x' hx', decide_eq_true_iff]
    constructor
    · rintro (z | z)
      · exact ⟨z.1, Or.inl z.2⟩
      · have w : x' < 24 := by omega
        exact ⟨w, Or.inr ⟨(e1 w).mpr z, (e2 w).mpr rfl⟩⟩
    · rintro ⟨w, z | z⟩
      · exact Or.inl ⟨w, z⟩
      · exact Or.inr ((e1 w).mp z.1)
  · rw [pk_un e, h y' hy' x' hx']
    constructor
    · intro z
      exact ⟨z.1, Or.inl z.2⟩
    · rintro ⟨w, z | z⟩
      · exact ⟨w, z⟩
      · exact absurd ((e2 w).mp z.2) e
theorem rr_RF0 {f : Nat → Int32} (h : ∀ y, y < 24 → f y = 0) : rr_RF f (fun _ => False) := by
  intro y hy x _
  rw [h y hy, b_0]
  constructor
  · intro z; exact absurd z (by decide)
  · intro z; exact z.2.elim
theorem rr_row0 {b m : Int32} {P F : Nat → Bool} {y x : Nat} (hb : bt b x = (decide (x < 24) && P (24 * y + x))) (hm : bt m x = (decide (x < 24) && F (24 * y + x))) : bt (b ||| m) x = (decide (x < 24) && rr_dr 0 P F (24 * y + x)) := by
  rw [b_or, hb, hm, rr_dr_x 0 (by decide), if_pos rfl]
  cases decide (x < 24) <;> cases P (24 * y + x) <;> cases F (24 * y + x) <;> rfl
theorem rr_row1 {b m : Int32} {P F : Nat → Bool} {y x : Nat} (hx : x < 32) (hb : bt b x = (decide (x < 24) && P (24 * y + x))) (hm : bt m x = (decide (x < 24) && F (24 * y + x))) : bt (b &&& (m ^^^ (-1))) x = (decide (x < 24) && rr_dr 1 P F (24 * y + x)) := by
  rw [b_and, b_xor, b_m1 x hx, hb, hm, rr_dr_x 1 (by decide), if_neg (by decide), if_pos rfl]
  cases decide (x < 24) <;> cases P (24 * y + x) <;> cases F (24 * y + x) <;> rfl
theorem rr_row2 {b m : Int32} {P F : Nat → Bool} {y x : Nat} (hb : bt b x = (decide (x < 24) && P (24 * y + x))) (hm : bt m x = (decide (x < 24) && F (24 * y + x))) : bt (b ^^^ m) x = (decide (x < 24) && rr_dr 2 P F (24 * y + x)) := by
  rw [b_xor, hb, hm, rr_dr_x 2 (by decide), if_neg (by decide), if_neg (by decide)]
  cases decide (x < 24) <;> cases P (24 * y + x) <;> cases F (24 * y + x) <;> rfl
theorem rr_cnt24 (D : Nat → Bool) (y : Nat) : nI (rr_cnt D (24 * y)) + nI (rr_cnt (fun x => D (24 * y + x)) 24) = nI (rr_cnt D (24 * (y + 1))) := by
  rw [nI_add, show 24 * (y + 1) = 24 * y + 24 from rfl, rr_cnt_add]
/-- row y of the raster is replaced by one that shows Q there -/
theorem rr_RX_u {a : Nat → Int32} {P Q : Nat → Bool} {y : Nat} {v : Int32} (h : rr_RX a (fun k => if k < 24 * y then Q k else P k)) (hv : ∀ x, x < 32 → bt v x = (decide (x < 24) && Q (24 * y + x))) : rr_RX (upd a y v) (fun k => if k < 24 * (y + 1) then Q k else P k) := by
  intro y' hy' x hx
  by_cases e : y' = y
  · subst e
    rw [pk_us, hv x hx]
    dsimp only
    by_cases z : x < 24
    · rw [if_pos (by omega)]
    · rw [decide_eq_false z, Bool.false_and, Bool.false_and]
  · rw [pk_un e, h y' hy' x hx]
    dsimp only
    by_cases z : x < 24
    · by_cases w : 24 * y' + x < 24 * y
      · rw [if_pos w, if_pos (by omega)]
      · rw [if_neg w, if_neg (by omega)]
    · rw [decide_eq_false z, Bool.false_and, Bool.false_and]
theorem rr_mv_at (P : Nat → Bool) (dx dy : Int) {x y : Nat} (hx : x < 24) : rr_mv P dx dy (24 * y + x) = (decide (0 ≤ (x : Int) - dx ∧ (x : Int) - dx ≤ 23 ∧ 0 ≤ (y : Int) - dy ∧ (y : Int) - dy ≤ 23) && P (24 * ((y : Int) - dy).toNat + ((x : Int) - dx).toNat)) := by
  unfold rr_mv
  rw [show (24 * y + x) % 24 = x by omega, show (24 * y + x) / 24 = y by omega]
theorem rr_shR {a : Nat → Int32} {P : Nat → Bool} (ha : rr_RX a P) {n s x y : Nat} {dx dy : Int} (hn : n ≤ 24) (hs : s < 24) (hdx : dx = -(n : Int)) (hdy : (y : Int) - dy = s) (hx : x < 32) : bt (a s >>> (nI n &&& 31)) x = (decide (x < 24) && rr_mv P dx dy (24 * y + x)) := by
  rw [b_sshr n (by omega) (a s) hx]
  by_cases z : x < 24
  · rw [decide_eq_true z, Bool.true_and, rr_mv_at P dx dy z, hdy]
    by_cases w : n + x < 24
    · rw [if_pos (by omega), rr_RX_at ha w hs, decide_eq_true (by omega), Bool.true_and]
      congr 1
      omega
    · rw [decide_eq_false (by omega), Bool.false_and]
      by_cases w2 : n + x < 32
      · rw [if_pos w2, rr_RX_hi ha (by omega) hs]
      · rw [if_neg w2, rr_RX_hi ha (by omega) hs]
  · rw [decide_eq_false z, Bool.false_and]
    by_cases w2 : n + x < 32
    · rw [if_pos w2, rr_RX_hi ha (by omega) hs]
    · rw [if_neg w2, rr_RX_hi ha (by omega) hs]
theorem rr_shL {a : Nat → Int32} {P : Nat → Bool} (ha : rr_RX a P) {n s x y : Nat} {dx dy : Int} (hn : n ≤ 24) (hs : s < 24) (hdx : dx = (n : Int)) (hdy : (y : Int) - dy = s) (hx : x < 32) : bt ((a s <<< (nI n &&& 31)) &&& 16777215) x = (decide (x < 24) && rr_mv P dx dy (24 * y + x)) := by
  rw [b_and, b_shl n (by omega) (a s) hx, rr_bfull x hx, Bool.and_comm]
  by_cases z : x < 24
  · rw [decide_eq_true z, Bool.true_and, Bool.true_and, rr_mv_at P dx dy z, hdy]
    by_cases w : n ≤ x
    · rw [decide_eq_true w, Bool.true_and, rr_RX_at ha (by omega) hs, decide_eq_true (by omega), Bool.true_and]
      congr 1
      omega
    · rw [decide_eq_false w, Bool.false_and, decide_eq_false (by omega), Bool.false_and]
  · rw [decide_eq_false z, Bool.false_and, Bool.false_and]
theorem rr_sh0 {P : Nat → Bool} {x y : Nat} {dx dy : Int} (h : ¬ (0 ≤ (y : Int) - dy ∧ (y : Int) - dy ≤ 23)) : bt 0 x = (decide (x < 24) && rr_mv P dx dy (24 * y + x)) := by
  rw [b_0]
  by_cases z : x < 24
  · rw [decide_eq_true z, Bool.true_and, rr_mv_at P dx dy z, decide_eq_false (by omega), Bool.false_and]
  · rw [decide_eq_false z, Bool.false_and]
/-- marks cell by cell -/
def rr_G (g : Int32 → Int32 → Prop) : Nat → Prop := fun k => g (nI (k % 24)) (nI (k / 24))
theorem rr_G_at {g : Int32 → Int32 → Prop} {x y : Nat} (hx : x < 24) : rr_G g (24 * y + x) ↔ g (nI x) (nI y) := by
  unfold rr_G
  rw [show (24 * y + x) % 24 = x by omega, show (24 * y + x) / 24 = y by omega]
theorem rr_st0 {f : Nat → Int32} {g : Int32 → Int32 → Prop} {y i : Nat} (hi : i < 24) (h : rr_RF f (fun k => k < 24 * y + i ∧ rr_G g k)) (hG : ¬ g (nI i) (nI y)) : rr_RF f (fun k => k < 24 * y + (i + 1) ∧ rr_G g k) := by
  refine rr_RF_c h (fun k _ => ⟨fun z => ⟨by omega, z.2⟩, fun z => ⟨?_, z.2⟩⟩)
  by_cases e : k = 24 * y + i
  · subst e
    exact absurd ((rr_G_at hi).mp z.2) hG
  · omega
theorem rr_st1 {f : Nat → Int32} {g : Int32 → Int32 → Prop} {y i : Nat} (hi : i < 24) (hy : y < 24) (h : rr_RF f (fun k => (k < 24 * y + i ∧ rr_G g k) ∨ (nI i = nI (k % 24) ∧ nI y = nI (k / 24)))) (hG : g (nI i) (nI y)) : rr_RF f (fun k => k < 24 * y + (i + 1) ∧ rr_G g k) := by
  refine rr_RF_c h (fun k hk => ⟨?_, ?_⟩)
  · rintro (z | ⟨z1, z2⟩)
    · exact ⟨by omega, z.2⟩
    · rw [nI_eq (by omega) (by omega)] at z1 z2
      have e : k = 24 * y + i := by omega
      subst e
      exact ⟨by omega, (rr_G_at hi).mpr hG⟩
  · rintro ⟨z1, z2⟩
    by_cases e : k = 24 * y + i
    · right
      subst e
      exact ⟨congrArg nI (by omega), congrArg nI (by omega)⟩
    · exact Or.inl ⟨by omega, z2⟩
noncomputable def rr_dec (p : Prop) : Bool := @decide p (Classical.propDecidable p)
theorem rr_dec_i (p : Prop) : rr_dec p = true ↔ p := @decide_eq_true_iff p (Classical.propDecidable p)
theorem rr_dec_t {p : Prop} (h : p) : rr_dec p = true := (rr_dec_i p).mpr h
theorem rr_dec_f {p : Prop} (h : ¬ p) : rr_dec p = false := by
  cases e : rr_dec p with
  | false => rfl
  | true => exact absurd ((rr_dec_i p).mp e) h
