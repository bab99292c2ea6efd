/-! one segment, both sides -/
def bs_T (v : Nat → Int32) : Prop := ∀ j, 4 ≤ j → v j = 0
theorem bs_Tu {v : Nat → Int32} (h : bs_T v) {x : Nat} (hx : x < 4) (z : Int32) : bs_T (upd v x z) := fun j hj => (pk_un (by omega)).trans (h j hj)
def bs_Seg (B R p : Nat) (b k1 k2 k3 k4 h1 h2 h3 h4 l v : Nat → Int32) (q : Int32) : Prop := ∃ (r : Int32) (p' : Nat) (v' : Nat → Int32), p' ≤ 8 * B ∧ bs_T v' ∧ (∀ post : Int32 → SX → Prop, post r (nI B, nI R, nI p', b, k1, k2, k3, k4, l, v') → wpX_segmentFits post (nI B, nI R, nI p, b, k1, k2, k3, k4, l, v) q) ∧ (∀ post : Int32 → SY → Prop, post r (nI R, nI B, nI p', h1, h2, h3, h4, l, b, v') → wpY_fitsSegment post (nI R, nI B, nI p, h1, h2, h3, h4, l, b, v) q)
section
variable {B R p : Nat} (b k1 k2 k3 k4 h1 h2 h3 h4 l v : Nat → Int32) {q a2 a3 a4 : Int32}
theorem bs_seg0 (hB : B ≤ 8) (hp : p ≤ 8 * B) (hv : bs_T v) (hq : vp_in q 42) (x1 : k1 q.toNatClampNeg = 0) (x2 : k2 q.toNatClampNeg = a2) (x3 : k3 q.toNatClampNeg = a3) (y1 : h1 q.toNatClampNeg = 0) (y2 : h2 q.toNatClampNeg = a2) (y3 : h3 q.toNatClampNeg = a3)
    {w : Nat} (hw : w ≤ 16) (ew : a2 = nI w) : bs_Seg B R p b k1 k2 k3 k4 h1 h2 h3 h4 l v q := by
  by_cases hl : w ≤ 8 * B - p
  · by_cases he : nI (bs_nb b p w) = a3
    · refine ⟨1, p + w, v, by omega, hv, fun post H => ?_, fun post H => ?_⟩
      · exact ⟨hq, nm_r x1 (br_f (by decide) (br_f (by decide) (br_t rfl ⟨hq, hq, bs_litX b k1 k2 k3 k4 l v hB hp hw (x2.trans ew) _ (fun h => absurd h (by omega)) (fun _ _ => ⟨rfl, H⟩) (fun _ h => absurd (he.trans x3.symm) h)⟩)))⟩
      · refine nm_r (bs_bl' hp) ⟨hq, nm_r y2 ⟨hq, nm_r y3 ⟨hq, br_f (by rw [y1]; decide) ⟨hq, br_f (by rw [y1]; decide) ⟨hq, br_f (by rw [y1]; decide) ⟨hq, br_f (by rw [y1]; decide) ⟨hq, br_f (by rw [y1]; decide) ?_⟩⟩⟩⟩⟩⟩⟩
        refine bs_159Y1 b h1 h2 h3 h4 l v hq y1 post hB ew hl (fun z => absurd z (by decide)) ?_
        exact nm_r (nI_add p w) ⟨hq, br_t y1 (bs_numY (nI R) (nI B) (nI (p + w)) h1 h2 h3 h4 l b v _ rfl rfl (by omega) (by omega) (br_t he H))⟩
    · refine ⟨0, p + w, v, by omega, hv, fun post H => ?_, fun post H => ?_⟩
      · exact ⟨hq, nm_r x1 (br_f (by decide) (br_f (by decide) (br_t rfl ⟨hq, hq, bs_litX b k1 k2 k3 k4 l v hB hp hw (x2.trans ew) _ (fun h => absurd h (by omega)) (fun _ h => absurd (h.trans x3) he) (fun _ _ => ⟨rfl, H⟩)⟩)))⟩
      · refine nm_r (bs_bl' hp) ⟨hq, nm_r y2 ⟨hq, nm_r y3 ⟨hq, br_f (by rw [y1]; decide) ⟨hq, br_f (by rw [y1]; decide) ⟨hq, br_f (by rw [y1]; decide) ⟨hq, br_f (by rw [y1]; decide) ⟨hq, br_f (by rw [y1]; decide) ?_⟩⟩⟩⟩⟩⟩⟩
        refine bs_159Y1 b h1 h2 h3 h4 l v hq y1 post hB ew hl (fun z => absurd z (by decide)) ?_
        exact nm_r (nI_add p w) ⟨hq, br_t y1 (bs_numY (nI R) (nI B) (nI (p + w)) h1 h2 h3 h4 l b v _ rfl rfl (by omega) (by omega) (br_f he H))⟩
  · refine ⟨0, p, v, hp, hv, fun post H => ?_, fun post H => ?_⟩
    · exact ⟨hq, nm_r x1 (br_f (by decide) (br_f (by decide) (br_t rfl ⟨hq, hq, bs_litX b k1 k2 k3 k4 l v hB hp hw (x2.trans ew) _ (fun _ => ⟨rfl, H⟩) (fun h => absurd h hl) (fun h => absurd h hl)⟩)))⟩
    · refine nm_r (bs_bl' hp) ⟨hq, nm_r y2 ⟨hq, nm_r y3 ⟨hq, br_f (by rw [y1]; decide) ⟨hq, br_f (by rw [y1]; decide) ⟨hq, br_f (by rw [y1]; decide) ⟨hq, br_f (by rw [y1]; decide) ⟨hq, br_f (by rw [y1]; decide) ?_⟩⟩⟩⟩⟩⟩⟩
      exact bs_159Y0 b h1 h2 h3 h4 l v hq y1 post hB (Or.inr ⟨w, by omega, ew, Or.inl (by omega)⟩) H
theorem bs_seg1 (hB : B ≤ 8) (hp : p ≤ 8 * B) (hv : bs_T v) (hq : vp_in q 42) (x1 : k1 q.toNatClampNeg = 1) (x2 : k2 q.toNatClampNeg = a2) (x3 : k3 q.toNatClampNeg = a3) (x4 : k4 q.toNatClampNeg = a4) (y1 : h1 q.toNatClampNeg = 1) (y2 : h2 q.toNatClampNeg = a2) (y3 : h3 q.toNatClampNeg = a3) (y4 : h4 q.toNatClampNeg = a4)
    {x w f : Nat} (hx : x < 4) (hw : w ≤ 32) (hf : f ≤ 3) (h8 : 2 ≤ f → ∃ m, 1 ≤ m ∧ w = 8 * m) (e2 : a2 = nI x) (e3 : a3 = nI w) (e4 : a4 = nI f) : bs_Seg B R p b k1 k2 k3 k4 h1 h2 h3 h4 l v q := by
  by_cases hl : w ≤ 8 * B - p
  · refine ⟨1, p + w, upd v x (bs_fv b p w f), by omega, bs_Tu hv hx _, fun post H => ?_, fun post H => ?_⟩
    · exact ⟨hq, nm_r x1 (br_f (by decide) (br_f (by decide) (br_f (by decide) (br_t rfl ⟨hq, hq, hq, bs_fieldX b k1 k2 k3 k4 l v hB hp hx hw hf h8 (x2.trans e2) (x3.trans e3) (x4.trans e4) _ (fun h => absurd h (by omega)) (fun _ => ⟨rfl, H⟩)⟩))))⟩
    · refine nm_r (bs_bl' hp) ⟨hq, nm_r y2 ⟨hq, nm_r y3 ⟨hq, br_f (by rw [y1]; decide) ⟨hq, br_f (by rw [y1]; decide) ⟨hq, br_t y1 ?_⟩⟩⟩⟩⟩
      refine bs_159Y1 b h1 h2 h3 h4 l v hq y1 post hB e3 hl (fun z => absurd z (by decide)) ?_
      refine nm_r (nI_add p w) ⟨hq, br_f (by rw [y1]; decide) ⟨hq, br_f (by rw [y1]; decide) ⟨hq, br_t y1 ⟨hq, ?_⟩⟩⟩⟩
      exact bs_274Y b h1 h2 h3 h4 l v hx hw hf h8 (by omega) (y4.trans e4) e2 post H
  · refine ⟨0, p, v, hp, hv, fun post H => ?_, fun post H => ?_⟩
    · exact ⟨hq, nm_r x1 (br_f (by decide) (br_f (by decide) (br_f (by decide) (br_t rfl ⟨hq, hq, hq, bs_fieldX b k1 k2 k3 k4 l v hB hp hx hw hf h8 (x2.trans e2) (x3.trans e3) (x4.trans e4) _ (fun _ => ⟨rfl, H⟩) (fun h => absurd h hl)⟩))))⟩
    · refine nm_r (bs_bl' hp) ⟨hq, nm_r y2 ⟨hq, nm_r y3 ⟨hq, br_f (by rw [y1]; decide) ⟨hq, br_f (by rw [y1]; decide) ⟨hq, br_t y1 ?_⟩⟩⟩⟩⟩
      exact bs_159Y0 b h1 h2 h3 h4 l v hq y1 post hB (Or.inr ⟨w, by omega, e3, Or.inl (by omega)⟩) H
theorem bs_z (z : Int32) (m : Nat) : (z < 0 ∨ ∃ w, w < 2 ^ 31 ∧ z = nI w ∧ m < w) ∨ ∃ w, z = nI w ∧ w ≤ m := by
  by_cases h : z < 0
  · exact Or.inl (Or.inl h)
  · obtain ⟨w, hw, e⟩ := nI_of h
    by_cases h2 : w ≤ m
    · exact Or.inr ⟨w, e, h2⟩
    · exact Or.inl (Or.inr ⟨w, hw, e, by omega⟩)
theorem bs_seg2 (hB : B ≤ 8) (hp : p ≤ 8 * B) (hv : bs_T v) (hq : vp_in q 42) (x1 : k1 q.toNatClampNeg = 2) (x2 : k2 q.toNatClampNeg = a2) (x3 : k3 q.toNatClampNeg = a3) (x4 : k4 q.toNatClampNeg = a4) (y1 : h1 q.toNatClampNeg = 2) (y2 : h2 q.toNatClampNeg = a2) (y3 : h3 q.toNatClampNeg = a3) (y4 : h4 q.toNatClampNeg = a4)
    {x y : Nat} (hx : x < 4) (hy : y < 4) (e2 : a2 = nI x) (e3 : a3 = nI y) : bs_Seg B R p b k1 k2 k3 k4 h1 h2 h3 h4 l v q := by
  have i3 : vp_in a3 4 := by
    rw [e3]
    exact vp_in_nI hy (by omega)
  have ed : a3.toNatClampNeg = y := by
    rw [e3]
    exact nI_clamp (by omega)
  have ez : v a3.toNatClampNeg * h4 q.toNatClampNeg = v y * a4 := by rw [ed, y4]
  have hc : (v y * a4 < 0 ∨ ∃ w, w < 2 ^ 31 ∧ v y * a4 = nI w ∧ (32 < w ∨ 8 * B - p < w)) ∨ ∃ w, v y * a4 = nI w ∧ w ≤ 32 ∧ w ≤ 8 * B - p := by
    rcases bs_z (v y * a4) 32 with (h | ⟨w, hw, e, h⟩) | ⟨w, e, h⟩
    · exact Or.inl (Or.inl h)
    · exact Or.inl (Or.inr ⟨w, hw, e, Or.inl h⟩)
    · by_cases h2 : w ≤ 8 * B - p
      · exact Or.inr ⟨w, e, h, h2⟩
      · exact Or.inl (Or.inr ⟨w, by omega, e, Or.inr (by omega)⟩)
  rcases hc with hc | ⟨w, e, h32, hl⟩
  · refine ⟨0, p, v, hp, hv, fun post H => ?_, fun post H => ?_⟩
    · refine ⟨hq, nm_r x1 (br_f (by decide) (br_f (by decide) (br_f (by decide) (br_f (by decide) (br_t rfl ⟨hq, hq, hq, ?_⟩)))))⟩
      exact bs_sizedX0 b k1 k2 k3 k4 l v hB hp hy (x3.trans e3) _ (by rw [x4]; exact hc) ⟨rfl, H⟩
    · refine nm_r (bs_bl' hp) ⟨hq, nm_r y2 ⟨hq, nm_r y3 ⟨hq, br_f (by rw [y1]; decide) ⟨hq, br_f (by rw [y1]; decide) ⟨hq, br_f (by rw [y1]; decide) ⟨hq, br_t y1 ⟨i3, hq, nm_r ez ?_⟩⟩⟩⟩⟩⟩⟩
      refine bs_159Y0 b h1 h2 h3 h4 l v hq y1 post hB ?_ H
      rcases hc with h | ⟨w, hw, e, h⟩
      · exact Or.inl h
      · exact Or.inr ⟨w, hw, e, h.symm.imp id (fun z => ⟨rfl, z⟩)⟩
  · refine ⟨1, p + w, upd v x (nI (bs_nb b p w)), by omega, bs_Tu hv hx _, fun post H => ?_, fun post H => ?_⟩
    · refine ⟨hq, nm_r x1 (br_f (by decide) (br_f (by decide) (br_f (by decide) (br_f (by decide) (br_t rfl ⟨hq, hq, hq, ?_⟩)))))⟩
      exact bs_sizedX1 b k1 k2 k3 k4 l v hB hp hx hy h32 hl (x2.trans e2) (x3.trans e3) (by rw [x4]; exact e) _ ⟨rfl, H⟩
    · refine nm_r (bs_bl' hp) ⟨hq, nm_r y2 ⟨hq, nm_r y3 ⟨hq, br_f (by rw [y1]; decide) ⟨hq, br_f (by rw [y1]; decide) ⟨hq, br_f (by rw [y1]; decide) ⟨hq, br_t y1 ⟨i3, hq, nm_r ez ?_⟩⟩⟩⟩⟩⟩⟩
      refine bs_159Y1 b h1 h2 h3 h4 l v hq y1 post hB e hl (fun _ => h32) ?_
      refine nm_r (nI_add p w) ⟨hq, br_f (by rw [y1]; decide) ⟨hq, br_f (by rw [y1]; decide) ⟨hq, br_f (by rw [y1]; decide) ?_⟩⟩⟩
      exact bs_274Y (f := 0) b h1 h2 h3 h4 l v hx h32 (by omega) (fun h => absurd h (by omega)) (by omega) rfl e2 post H
theorem bs_seg3 (hB : B ≤ 8) (hp : p ≤ 8 * B) (hv : bs_T v) (hq : vp_in q 42) (x1 : k1 q.toNatClampNeg = 3) (x2 : k2 q.toNatClampNeg = a2) (x3 : k3 q.toNatClampNeg = a3) (y1 : h1 q.toNatClampNeg = 3) (y2 : h2 q.toNatClampNeg = a2) (y3 : h3 q.toNatClampNeg = a3)
    {y : Nat} (hy : y < 4) (e2 : a2 = nI y) : bs_Seg B R p b k1 k2 k3 k4 h1 h2 h3 h4 l v q := by
  have i2 : vp_in a2 4 := by
    rw [e2]
    exact vp_in_nI hy (by omega)
  have ed : a2.toNatClampNeg = y := by
    rw [e2]
    exact nI_clamp (by omega)
  have ez : v a2.toNatClampNeg * a3 = v y * a3 := by rw [ed]
  rcases bs_z (v y * a3) (8 * B - p) with hc | ⟨w, e, hl⟩
  · refine ⟨0, p, v, hp, hv, fun post H => ?_, fun post H => ?_⟩
    · refine ⟨hq, nm_r x1 (br_f (by decide) (br_f (by decide) (br_f (by decide) (br_f (by decide) (br_f (by decide) (br_t rfl ⟨hq, hq, ?_⟩))))))⟩
      exact bs_skipX0 b k1 k2 k3 k4 l v hB hp hy (x2.trans e2) _ (by rw [x3]; exact hc) ⟨rfl, H⟩
    · refine nm_r (bs_bl' hp) ⟨hq, nm_r y2 ⟨hq, nm_r y3 ⟨hq, br_f (by rw [y1]; decide) ⟨hq, br_f (by rw [y1]; decide) ⟨hq, br_f (by rw [y1]; decide) ⟨hq, br_f (by rw [y1]; decide) ⟨hq, br_t y1 ⟨i2, nm_r ez ?_⟩⟩⟩⟩⟩⟩⟩⟩
      refine bs_159Y0 b h1 h2 h3 h4 l v hq y1 post hB ?_ H
      rcases hc with h | ⟨w, hw, e, h⟩
      · exact Or.inl h
      · exact Or.inr ⟨w, hw, e, Or.inl h⟩
  · refine ⟨1, p + w, v, by omega, hv, fun post H => ?_, fun post H => ?_⟩
    · refine ⟨hq, nm_r x1 (br_f (by decide) (br_f (by decide) (br_f (by decide) (br_f (by decide) (br_f (by decide) (br_t rfl ⟨hq, hq, ?_⟩))))))⟩
      exact bs_skipX1 b k1 k2 k3 k4 l v hB hp hy hl (x2.trans e2) (by rw [x3]; exact e) _ ⟨rfl, H⟩
    · refine nm_r (bs_bl' hp) ⟨hq, nm_r y2 ⟨hq, nm_r y3 ⟨hq, br_f (by rw [y1]; decide) ⟨hq, br_f (by rw [y1]; decide) ⟨hq, br_f (by rw [y1]; decide) ⟨hq, br_f (by rw [y1]; decide) ⟨hq, br_t y1 ⟨i2, nm_r ez ?_⟩⟩⟩⟩⟩⟩⟩⟩
      refine bs_159Y1 b h1 h2 h3 h4 l v hq y1 post hB e hl (fun z => absurd z (by decide)) ?_
      exact nm_r (nI_add p w) ⟨hq, br_f (by rw [y1]; decide) ⟨hq, br_t (by rw [y1]; decide) H⟩⟩
theorem bs_seg4 (hp : p ≤ 8 * B) (hv : bs_T v) (hq : vp_in q 42) (x1 : k1 q.toNatClampNeg = 4) (x2 : k2 q.toNatClampNeg = a2) (x3 : k3 q.toNatClampNeg = a3) (y1 : h1 q.toNatClampNeg = 4) (y2 : h2 q.toNatClampNeg = a2) (y3 : h3 q.toNatClampNeg = a3)
    (i2 : vp_in a2 4) (i3 : vp_in a3 4) : bs_Seg B R p b k1 k2 k3 k4 h1 h2 h3 h4 l v q := by
  have i2' : vp_in (k2 q.toNatClampNeg) 4 := by rw [x2]; exact i2
  have i3' : vp_in (k3 q.toNatClampNeg) 4 := by rw [x3]; exact i3
  by_cases he : v a2.toNatClampNeg = v a3.toNatClampNeg
  · refine ⟨1, p, v, hp, hv, fun post H => ?_, fun post H => ?_⟩
    · exact ⟨hq, nm_r x1 (br_f (by decide) (br_f (by decide) (br_f (by decide) (br_f (by decide) (br_f (by decide) (br_f (by decide) (br_t rfl ⟨hq, i2', hq, i3', br_t (by rw [x2, x3]; exact he) H⟩)))))))⟩
    · exact nm_r (bs_bl' hp) ⟨hq, nm_r y2 ⟨hq, nm_r y3 ⟨hq, br_t y1 ⟨i2, i3, br_t he H⟩⟩⟩⟩
  · refine ⟨0, p, v, hp, hv, fun post H => ?_, fun post H => ?_⟩
    · exact ⟨hq, nm_r x1 (br_f (by decide) (br_f (by decide) (br_f (by decide) (br_f (by decide) (br_f (by decide) (br_f (by decide) (br_t rfl ⟨hq, i2', hq, i3', br_f (by rw [x2, x3]; exact he) H⟩)))))))⟩
    · exact nm_r (bs_bl' hp) ⟨hq, nm_r y2 ⟨hq, nm_r y3 ⟨hq, br_t y1 ⟨i2, i3, br_f he H⟩⟩⟩⟩
theorem bs_seg5 (hp : p ≤ 8 * B) (hv : bs_T v) (hq : vp_in q 42) (x1 : k1 q.toNatClampNeg = 5) (x2 : k2 q.toNatClampNeg = a2) (x3 : k3 q.toNatClampNeg = a3) (y1 : h1 q.toNatClampNeg = 5) (y2 : h2 q.toNatClampNeg = a2) (y3 : h3 q.toNatClampNeg = a3)
    {x : Nat} (hx : x < 4) (e2 : a2 = nI x) : bs_Seg B R p b k1 k2 k3 k4 h1 h2 h3 h4 l v q := by
  have i2 : vp_in a2 4 := by
    rw [e2]
    exact vp_in_nI hx (by omega)
  have ed : a2.toNatClampNeg = x := by
    rw [e2]
    exact nI_clamp (by omega)
  have ea : nI p + nI (8 * B - p) = nI (8 * B) := by
    rw [nI_add]
    exact congrArg nI (by omega)
  refine ⟨1, 8 * B, upd v x (nI (8 * B - p)), Nat.le_refl _, bs_Tu hv hx _, fun post H => ?_, fun post H => ?_⟩
  · exact ⟨hq, nm_r x1 (br_f (by decide) (br_t (by decide) ⟨hq, bs_restX b k1 k2 k3 k4 l v hp hx (x2.trans e2) _ ⟨rfl, H⟩⟩))⟩
  · exact nm_r (bs_bl' hp) ⟨hq, nm_r y2 ⟨hq, nm_r y3 ⟨hq, br_f (by rw [y1]; decide) ⟨hq, br_t y1 ⟨i2, nm_r (by rw [ed]) (nm_r ea H)⟩⟩⟩⟩⟩
theorem bs_seg {a1 : Int32} (ok : bs_ok a1 a2 a3 a4) (hB : B ≤ 8) (hp : p ≤ 8 * B) (hv : bs_T v) (hq : vp_in q 42) (x1 : k1 q.toNatClampNeg = a1) (x2 : k2 q.toNatClampNeg = a2) (x3 : k3 q.toNatClampNeg = a3) (x4 : k4 q.toNatClampNeg = a4) (y1 : h1 q.toNatClampNeg = a1) (y2 : h2 q.toNatClampNeg = a2) (y3 : h3 q.toNatClampNeg = a3) (y4 : h4 q.toNatClampNeg = a4) : bs_Seg B R p b k1 k2 k3 k4 h1 h2 h3 h4 l v q := by
  rcases ok with ⟨rfl, w, hw, e⟩ | ⟨rfl, x, w, f, hx, hw, hf, h8, e2, e3, e4⟩ | ⟨rfl, x, y, hx, hy, e2, e3⟩ | ⟨rfl, y, hy, e2⟩ | ⟨rfl, x, y, hx, hy, e2, e3⟩ | ⟨rfl, x, hx, e2⟩
  · exact bs_seg0 b k1 k2 k3 k4 h1 h2 h3 h4 l v hB hp hv hq x1 x2 x3 y1 y2 y3 hw e
  · exact bs_seg1 b k1 k2 k3 k4 h1 h2 h3 h4 l v hB hp hv hq x1 x2 x3 x4 y1 y2 y3 y4 hx hw hf h8 e2 e3 e4
  · exact bs_seg2 b k1 k2 k3 k4 h1 h2 h3 h4 l v hB hp hv hq x1 x2 x3 x4 y1 y2 y3 y4 hx hy e2 e3
  · exact bs_seg3 b k1 k2 k3 k4 h1 h2 h3 h4 l v hB hp hv hq x1 x2 x3 y1 y2 y3 hy e2
  · exact bs_seg4 b k1 k2 k3 k4 h1 h2 h3 h4 l v hp hv hq x1 x2 x3 y1 y2 y3 (by rw [e2]; exact vp_in_nI hx (by omega)) (by rw [e3]; exact vp_in_nI hy (by omega))
  · exact bs_seg5 b k1 k2 k3 k4 h1 h2 h3 h4 l v hp hv hq x1 x2 x3 y1 y2 y3 hx e2
end
