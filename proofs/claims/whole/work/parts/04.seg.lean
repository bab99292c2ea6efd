/-! one segment: the component's walk and the reference's end alike -/
theorem bs_bl {B p : Nat} (hp : p ≤ 8 * B) : nI B * 8 - nI p = nI (8 * B - p) := by
  have e : nI B * 8 = nI (8 * B) := by
    rw [Nat.mul_comm]
    exact pk_mul B 8
  rw [e, pk_sub hp]
theorem bs_bl' {B p : Nat} (hp : p ≤ 8 * B) : 8 * nI B - nI p = nI (8 * B - p) := by
  have e : 8 * nI B = nI (8 * B) := pk_mul 8 B
  rw [e, pk_sub hp]
/-- a segment as the calls append it -/
def bs_ok (a1 a2 a3 a4 : Int32) : Prop :=
  (a1 = 0 ∧ ∃ w, w ≤ 16 ∧ a2 = nI w) ∨
  (a1 = 1 ∧ ∃ x w f, x < 4 ∧ w ≤ 32 ∧ f ≤ 3 ∧ (2 ≤ f → ∃ m, 1 ≤ m ∧ w = 8 * m) ∧ a2 = nI x ∧ a3 = nI w ∧ a4 = nI f) ∨
  (a1 = 2 ∧ ∃ x y, x < 4 ∧ y < 4 ∧ a2 = nI x ∧ a3 = nI y) ∨
  (a1 = 3 ∧ ∃ y, y < 4 ∧ a2 = nI y) ∨
  (a1 = 4 ∧ ∃ x y, x < 4 ∧ y < 4 ∧ a2 = nI x ∧ a3 = nI y) ∨
  (a1 = 5 ∧ ∃ x, x < 4 ∧ a2 = nI x)
section
variable {B R p : Nat} (b k1 k2 k3 k4 h1 h2 h3 h4 l v : Nat → Int32)
theorem bs_leftX (hp : p ≤ 8 * B) (post : Int32 → Prop) (H : post (nI (8 * B - p))) : wpX_bitsLeft post (nI B, nI R, nI p, b, k1, k2, k3, k4, l, v) := by
  show post (nI B * 8 - nI p)
  rw [bs_bl hp]
  exact H
theorem bs_litX (hB : B ≤ 8) (hp : p ≤ 8 * B) {w : Nat} (hw : w ≤ 16) {x y : Int32} (ex : x = nI w) (post : Int32 → SX → Prop)
    (c0 : 8 * B - p < w → post 0 (nI B, nI R, nI p, b, k1, k2, k3, k4, l, v)) (c1 : w ≤ 8 * B - p → nI (bs_nb b p w) = y → post 1 (nI B, nI R, nI (p + w), b, k1, k2, k3, k4, l, v)) (c2 : w ≤ 8 * B - p → ¬ nI (bs_nb b p w) = y → post 0 (nI B, nI R, nI (p + w), b, k1, k2, k3, k4, l, v)) :
    wpX_literalFits post (nI B, nI R, nI p, b, k1, k2, k3, k4, l, v) x y := by
  subst ex
  unfold wpX_literalFits
  refine bs_leftX b k1 k2 k3 k4 l v hp _ ?_
  exact (pk_lt (8 * B - p) w c0 (fun h => bs_takeX (nI B) (nI R) b k1 k2 k3 k4 l v _ (p := p) (w := w) (by omega) (by omega) (br_c (c1 h) (c2 h))))
theorem bs_31X {x w f n : Nat} (hx : x < 4) (hw : w ≤ 32) (hf : f ≤ 3) (hn : n < 2 ^ w) (post : Int32 → SX → Prop)
    (H : post 1 (nI B, nI R, nI p, b, k1, k2, k3, k4, l, upd v x (if f % 2 = 0 then nI n else bs_sg n w))) : wX_fieldFits_31 post (nI x) (nI w) (nI f) (nI n) (nI B) (nI R) (nI p) b k1 k2 k3 k4 l v := by
  have e : nI f &&& 1 = nI (f % 2) := pk_andN (by omega) 1 (by decide)
  have ec : (nI x).toNatClampNeg = x := nI_clamp (by omega)
  by_cases h : f % 2 = 0
  · rw [if_pos h] at H
    exact br_t (by rw [e, h]; rfl) ⟨vp_in_nI hx (by omega), nm_r (by rw [ec]) H⟩
  · rw [if_neg h] at H
    refine br_f (by rw [e, show f % 2 = 1 from by omega]; decide) ?_
    exact nm_e ⟨vp_in_nI hx (by omega), nm_r (by rw [ec, bs_sgX hw hn]) H⟩
theorem bs_f2 : ∀ f, f < 4 → ((nI f &&& 2 = 0) ↔ f ≤ 1) := by decide +kernel
theorem bs_fieldX (hB : B ≤ 8) (hp : p ≤ 8 * B) {x w f : Nat} (hx : x < 4) (hw : w ≤ 32) (hf : f ≤ 3) (h8 : 2 ≤ f → ∃ m, 1 ≤ m ∧ w = 8 * m) {a2 a3 a4 : Int32} (e2 : a2 = nI x) (e3 : a3 = nI w) (e4 : a4 = nI f) (post : Int32 → SX → Prop)
    (c0 : 8 * B - p < w → post 0 (nI B, nI R, nI p, b, k1, k2, k3, k4, l, v)) (c1 : w ≤ 8 * B - p → post 1 (nI B, nI R, nI (p + w), b, k1, k2, k3, k4, l, upd v x (bs_fv b p w f))) : wpX_fieldFits post (nI B, nI R, nI p, b, k1, k2, k3, k4, l, v) a2 a3 a4 := by
  subst e2 e3 e4
  have hr := bs_raw_lt b (p := p) hw h8
  unfold bs_fv at c1
  unfold bs_raw at c1 hr
  unfold wpX_fieldFits
  refine bs_leftX b k1 k2 k3 k4 l v hp _ ?_
  refine (pk_le w (8 * B - p) (fun h => bs_takeX (nI B) (nI R) b k1 k2 k3 k4 l v _ (p := p) (w := w) (by omega) (by omega) ?_) c0)
  have c := c1 h
  by_cases hf1 : f ≤ 1
  · rw [if_pos hf1] at c hr
    exact br_t ((bs_f2 f (by omega)).mpr hf1) (bs_31X b k1 k2 k3 k4 l v hx hw hf hr post c)
  · obtain ⟨m, hm, rfl⟩ := h8 (by omega)
    rw [if_neg hf1, show 8 * m / 8 = m from by omega] at c hr
    exact br_f (fun z => hf1 ((bs_f2 f (by omega)).mp z)) (bs_revX b _ (by omega) (bs_31X b k1 k2 k3 k4 l v hx hw hf hr post c))
theorem bs_sizedX1 (hB : B ≤ 8) (hp : p ≤ 8 * B) {x y w : Nat} (hx : x < 4) (hy : y < 4) (hw : w ≤ 32) (hl : w ≤ 8 * B - p) {a2 a3 a4 : Int32} (e2 : a2 = nI x) (e3 : a3 = nI y) (e4 : v y * a4 = nI w) (post : Int32 → SX → Prop)
    (c1 : post 1 (nI B, nI R, nI (p + w), b, k1, k2, k3, k4, l, upd v x (nI (bs_nb b p w)))) : wpX_sizedFits post (nI B, nI R, nI p, b, k1, k2, k3, k4, l, v) a2 a3 a4 := by
  subst e2 e3
  have ec : (nI x).toNatClampNeg = x := nI_clamp (by omega)
  have ed : (nI y).toNatClampNeg = y := nI_clamp (by omega)
  refine ⟨vp_in_nI hy (by omega), nm_r (e' := nI w) (by rw [ed, e4]) (br_f (nI_pos (by omega)) (br_f (nI_nlt (a := 32) (b := w) hw (by omega)) ?_))⟩
  refine bs_leftX b k1 k2 k3 k4 l v hp _ (br_t (nI_le hl (by omega)) (bs_takeX (nI B) (nI R) b k1 k2 k3 k4 l v _ (p := p) (w := w) hw (by omega) ?_))
  exact ⟨vp_in_nI hx (by omega), nm_r (by rw [ec]) c1⟩
theorem bs_sizedX0 (hB : B ≤ 8) (hp : p ≤ 8 * B) {y : Nat} (hy : y < 4) {a2 a3 a4 : Int32} (e3 : a3 = nI y) (post : Int32 → SX → Prop)
    (hz : v y * a4 < 0 ∨ ∃ w, w < 2 ^ 31 ∧ v y * a4 = nI w ∧ (32 < w ∨ 8 * B - p < w)) (c0 : post 0 (nI B, nI R, nI p, b, k1, k2, k3, k4, l, v)) : wpX_sizedFits post (nI B, nI R, nI p, b, k1, k2, k3, k4, l, v) a2 a3 a4 := by
  subst e3
  have ed : (nI y).toNatClampNeg = y := nI_clamp (by omega)
  rcases hz with h | ⟨w, hw, e, h⟩
  · exact ⟨vp_in_nI hy (by omega), nm_r (by rw [ed]) (br_t h c0)⟩
  · refine ⟨vp_in_nI hy (by omega), nm_r (e' := nI w) (by rw [ed, e]) (br_f (nI_pos hw) (pk_lt 32 w (fun _ => c0) (fun h2 => ?_)))⟩
    exact bs_leftX b k1 k2 k3 k4 l v hp _ (br_f (nI_ge (by omega) hw) c0)
theorem bs_skipX1 (hB : B ≤ 8) (hp : p ≤ 8 * B) {y w : Nat} (hy : y < 4) (hl : w ≤ 8 * B - p) {a2 a3 : Int32} (e2 : a2 = nI y) (e3 : v y * a3 = nI w) (post : Int32 → SX → Prop)
    (c1 : post 1 (nI B, nI R, nI (p + w), b, k1, k2, k3, k4, l, v)) : wpX_skipFits post (nI B, nI R, nI p, b, k1, k2, k3, k4, l, v) a2 a3 := by
  subst e2
  have ed : (nI y).toNatClampNeg = y := nI_clamp (by omega)
  refine ⟨vp_in_nI hy (by omega), nm_r (e' := nI w) (by rw [ed, e3]) (br_f (nI_pos (by omega)) ?_)⟩
  exact bs_leftX b k1 k2 k3 k4 l v hp _ (br_t (nI_le hl (by omega)) (nm_r (nI_add p w) c1))
theorem bs_skipX0 (hB : B ≤ 8) (hp : p ≤ 8 * B) {y : Nat} (hy : y < 4) {a2 a3 : Int32} (e2 : a2 = nI y) (post : Int32 → SX → Prop)
    (hz : v y * a3 < 0 ∨ ∃ w, w < 2 ^ 31 ∧ v y * a3 = nI w ∧ 8 * B - p < w) (c0 : post 0 (nI B, nI R, nI p, b, k1, k2, k3, k4, l, v)) : wpX_skipFits post (nI B, nI R, nI p, b, k1, k2, k3, k4, l, v) a2 a3 := by
  subst e2
  have ed : (nI y).toNatClampNeg = y := nI_clamp (by omega)
  rcases hz with h | ⟨w, hw, e, h⟩
  · exact ⟨vp_in_nI hy (by omega), nm_r (by rw [ed]) (br_t h c0)⟩
  · refine ⟨vp_in_nI hy (by omega), nm_r (e' := nI w) (by rw [ed, e]) (br_f (nI_pos hw) ?_)⟩
    exact bs_leftX b k1 k2 k3 k4 l v hp _ (br_f (nI_ge h hw) c0)
theorem bs_restX (hp : p ≤ 8 * B) {x : Nat} (hx : x < 4) {a2 : Int32} (e2 : a2 = nI x) (post : Int32 → SX → Prop)
    (c1 : post 1 (nI B, nI R, nI (8 * B), b, k1, k2, k3, k4, l, upd v x (nI (8 * B - p)))) : wpX_restFits post (nI B, nI R, nI p, b, k1, k2, k3, k4, l, v) a2 := by
  subst e2
  have ec : (nI x).toNatClampNeg = x := nI_clamp (by omega)
  have e : nI B * 8 = nI (8 * B) := by
    rw [Nat.mul_comm]
    exact pk_mul B 8
  unfold wpX_restFits
  refine bs_leftX b k1 k2 k3 k4 l v hp _ ?_
  exact ⟨vp_in_nI hx (by omega), nm_r (by rw [ec]) (nm_r e c1)⟩
/-! the reference's pieces -/
theorem bs_159Y0 {q a1 x3 x4 z : Int32} (hq : vp_in q 42) (e1 : h1 q.toNatClampNeg = a1) (post : Int32 → SY → Prop)
    (hB : B ≤ 8) (hz : z < 0 ∨ ∃ w, w < 2 ^ 31 ∧ z = nI w ∧ (8 * B - p < w ∨ (a1 = 2 ∧ 32 < w))) (c0 : post 0 (nI R, nI B, nI p, h1, h2, h3, h4, l, b, v)) :
    wY_fitsSegment_159 post q (nI (8 * B - p)) x3 x4 z (nI R) (nI B) (nI p) h1 h2 h3 h4 l b v := by
  rcases hz with h | ⟨w, hw, rfl, h⟩
  · exact br_t h c0
  · refine br_f (nI_pos hw) (pk_lt (8 * B - p) w (fun _ => c0) (fun hl => ⟨hq, ?_⟩))
    have h2' : a1 = 2 ∧ 32 < w := by
      rcases h with h | h
      · omega
      · exact h
    exact br_t (by rw [e1]; exact h2'.1) (br_f (nI_ge (b := w) (a := 32) h2'.2 hw) c0)
theorem bs_159Y1 {q a1 x3 x4 z : Int32} (hq : vp_in q 42) (e1 : h1 q.toNatClampNeg = a1) (post : Int32 → SY → Prop)
    (hB : B ≤ 8) {w : Nat} (ez : z = nI w) (hl : w ≤ 8 * B - p) (h32 : a1 = 2 → w ≤ 32) (c : wY_fitsSegment_189 post q x3 x4 (nI w) (nI R) (nI B) (nI p) h1 h2 h3 h4 l b v) :
    wY_fitsSegment_159 post q (nI (8 * B - p)) x3 x4 z (nI R) (nI B) (nI p) h1 h2 h3 h4 l b v := by
  subst ez
  refine br_f (nI_pos (by omega)) (br_f (nI_nlt hl (by omega)) ⟨hq, ?_⟩)
  by_cases h2' : a1 = 2
  · exact br_t (by rw [e1]; exact h2') (br_t (nI_le (a := w) (b := 32) (h32 h2') (by omega)) c)
  · exact br_f (by rw [e1]; exact h2') c
theorem bs_274Y {x w f : Nat} (hx : x < 4) (hw : w ≤ 32) (hf : f ≤ 3) (h8 : 2 ≤ f → ∃ m, 1 ≤ m ∧ w = 8 * m) (hl : p + w ≤ 64) {z0 z4 at' : Int32} (e0 : z0 = nI f) (e4 : z4 = nI x) (post : Int32 → SY → Prop)
    (c : post 1 (nI R, nI B, at', h1, h2, h3, h4, l, b, upd v x (bs_fv b p w f))) : wY_fitsSegment_274 post z0 (nI w) (nI p) z4 (nI R) (nI B) at' h1 h2 h3 h4 l b v := by
  subst e0 e4
  have ec : (nI x).toNatClampNeg = x := nI_clamp (by omega)
  refine bs_fvY (nI R) (nI B) at' h1 h2 h3 h4 l b v _ hw hf h8 hl ?_
  exact ⟨vp_in_nI hx (by omega), nm_r (by rw [ec]) c⟩
end
