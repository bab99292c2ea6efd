/-! one rule, and the loops over the rules -/
def bs_Ag (k1 k2 k3 k4 h1 h2 h3 h4 : Nat → Int32) (n : Nat) : Prop := k1 n = h1 n ∧ k2 n = h2 n ∧ k3 n = h3 n ∧ k4 n = h4 n ∧ bs_ok (h1 n) (h2 n) (h3 n) (h4 n)
def bs_sum (s : Nat → Nat) : Nat → Nat
  | 0 => 0
  | n + 1 => bs_sum s n + s n
def bs_Inv (B R : Nat) (s : Nat → Nat) (k1 k2 k3 k4 h1 h2 h3 h4 l : Nat → Int32) : Prop :=
  B ≤ 8 ∧ R ≤ 6 ∧ (∀ j, j ≤ 6 → l j = nI (s j) ∧ s j ≤ 6) ∧ bs_sum s R + s 6 ≤ 30 ∧ (∀ j, j ≤ 6 → ∀ i, i < s j → bs_Ag k1 k2 k3 k4 h1 h2 h3 h4 (6 * j + i))
theorem bs_clr {v : Nat → Int32} (h : bs_T v) : upd (upd (upd (upd v (0 : Int32).toNatClampNeg 0) (1 : Int32).toNatClampNeg 0) (2 : Int32).toNatClampNeg 0) (3 : Int32).toNatClampNeg 0 = fun _ => 0 := by
  have c0 : (0 : Int32).toNatClampNeg = 0 := by decide
  have c1 : (1 : Int32).toNatClampNeg = 1 := by decide
  have c2 : (2 : Int32).toNatClampNeg = 2 := by decide
  have c3 : (3 : Int32).toNatClampNeg = 3 := by decide
  rw [c0, c1, c2, c3]
  funext j
  rcases (by omega : j = 0 ∨ j = 1 ∨ j = 2 ∨ j = 3 ∨ 4 ≤ j) with rfl | rfl | rfl | rfl | hj
  · rfl
  · rfl
  · rfl
  · rfl
  · rw [pk_un (by omega), pk_un (by omega), pk_un (by omega), pk_un (by omega)]
    exact h j hj
section
variable {B R : Nat} {s : Nat → Nat} (b k1 k2 k3 k4 h1 h2 h3 h4 l : Nat → Int32)
theorem bs_rule_go (I : bs_Inv B R s k1 k2 k3 k4 h1 h2 h3 h4 l) {j : Nat} (hj : j ≤ 6) : ∀ (d i p : Nat) (v : Nat → Int32), i + d = s j → p ≤ 8 * B → bs_T v →
    ∃ (r : Int32) (p' : Nat) (v' : Nat → Int32), bs_T v' ∧ (∀ (post : Int32 → SX → Prop) (n : Nat), d < n → post r (nI B, nI R, nI p', b, k1, k2, k3, k4, l, v') → wX_ruleFits_32 post (nI j) (nI (6 * j)) n (nI i) (nI B) (nI R) (nI p) b k1 k2 k3 k4 l v) ∧
      (∀ (post : Int32 → SY → Prop) (n : Nat), d < n → post r (nI R, nI B, nI p', h1, h2, h3, h4, l, b, v') → wY_fits_27 post (nI j) n (nI i) (nI R) (nI B) (nI p) h1 h2 h3 h4 l b v) := by
  obtain ⟨hB, hR, hl, hs, ha⟩ := I
  have hi7 : vp_in (nI j) 7 := vp_in_nI (by omega) (by omega)
  have el : l (nI j).toNatClampNeg = nI (s j) := by
    rw [nI_clamp (by omega)]
    exact (hl j hj).1
  have hsj := (hl j hj).2
  intro d
  induction d with
  | zero =>
    intro i p v hi hp hv
    have e8 : 8 * nI B = nI (8 * B) := pk_mul 8 B
    have hle : l (nI j).toNatClampNeg ≤ nI i := by
      rw [el]
      exact nI_le (by omega) (by omega)
    by_cases h : 8 * B - p = 0
    · refine ⟨1, p, v, hv, fun post n hn H => ?_, fun post n hn H => ?_⟩
      · obtain ⟨m, rfl⟩ : ∃ m, n = m + 1 := ⟨n - 1, by omega⟩
        refine ⟨hi7, br_t hle (bs_leftX b k1 k2 k3 k4 l v hp _ ?_)⟩
        exact br_t (by rw [h]; rfl) H
      · obtain ⟨m, rfl⟩ : ∃ m, n = m + 1 := ⟨n - 1, by omega⟩
        refine ⟨hi7, br_t hle (br_t ?_ H)⟩
        rw [e8, show p = 8 * B from by omega]
    · refine ⟨0, p, v, hv, fun post n hn H => ?_, fun post n hn H => ?_⟩
      · obtain ⟨m, rfl⟩ : ∃ m, n = m + 1 := ⟨n - 1, by omega⟩
        refine ⟨hi7, br_t hle (bs_leftX b k1 k2 k3 k4 l v hp _ ?_)⟩
        exact br_f (nI_ne0 (by omega) (by omega)) H
      · obtain ⟨m, rfl⟩ : ∃ m, n = m + 1 := ⟨n - 1, by omega⟩
        refine ⟨hi7, br_t hle (br_f ?_ H)⟩
        rw [e8, nI_eq (by omega) (by omega)]
        omega
  | succ d ih =>
    intro i p v hi hp hv
    have hle : ¬ l (nI j).toNatClampNeg ≤ nI i := by
      rw [el]
      exact nI_ge (by omega) (by omega)
    obtain ⟨g1, g2, g3, g4, gk⟩ := ha j hj i (by omega)
    have ec : (nI (6 * j + i)).toNatClampNeg = 6 * j + i := nI_clamp (by omega)
    have eX : nI (6 * j) + nI i = nI (6 * j + i) := nI_add _ _
    have eY : 6 * nI j + nI i = nI (6 * j + i) := by
      rw [← nI_add, ← pk_mul]
      rfl
    obtain ⟨r, p1, v1, hp1, hv1, hX, hY⟩ := bs_seg (B := B) (R := R) (p := p) b k1 k2 k3 k4 h1 h2 h3 h4 l v (q := nI (6 * j + i)) gk hB hp hv (vp_in_nI (by omega) (by omega)) (by rw [ec]; exact g1) (by rw [ec]; exact g2) (by rw [ec]; exact g3) (by rw [ec]; exact g4) (by rw [ec]) (by rw [ec]) (by rw [ec]) (by rw [ec])
    by_cases hr : r = 0
    · refine ⟨0, p1, v1, hv1, fun post n hn H => ?_, fun post n hn H => ?_⟩
      · obtain ⟨m, rfl⟩ : ∃ m, n = m + 1 := ⟨n - 1, by omega⟩
        refine ⟨hi7, br_f hle ?_⟩
        rw [eX]
        exact hX _ (br_t hr H)
      · obtain ⟨m, rfl⟩ : ∃ m, n = m + 1 := ⟨n - 1, by omega⟩
        refine ⟨hi7, br_f hle ?_⟩
        rw [eY]
        exact hY _ (br_t hr H)
    · obtain ⟨r2, p2, v2, hv2, iX, iY⟩ := ih (i + 1) p1 v1 (by omega) hp1 hv1
      refine ⟨r2, p2, v2, hv2, fun post n hn H => ?_, fun post n hn H => ?_⟩
      · obtain ⟨m, rfl⟩ : ∃ m, n = m + 1 := ⟨n - 1, by omega⟩
        refine ⟨hi7, br_f hle ?_⟩
        rw [eX]
        exact hX _ (br_f hr (nm_r (nI_1 i) (iX post m (by omega) H)))
      · obtain ⟨m, rfl⟩ : ∃ m, n = m + 1 := ⟨n - 1, by omega⟩
        refine ⟨hi7, br_f hle ?_⟩
        rw [eY]
        exact hY _ (br_f hr (nm_r (nI_1 i) (iY post m (by omega) H)))
end
/-- rule j answers r and leaves p, v, whatever stood there before -/
def bs_Fit (B R : Nat) (b k1 k2 k3 k4 h1 h2 h3 h4 l : Nat → Int32) (j : Nat) (r : Int32) (p : Nat) (v : Nat → Int32) : Prop :=
  (∀ (post : Int32 → SX → Prop) (ps : Int32) (w : Nat → Int32), bs_T w → post r (nI B, nI R, nI p, b, k1, k2, k3, k4, l, v) → wpX_ruleFits post (nI B, nI R, ps, b, k1, k2, k3, k4, l, w) (nI j)) ∧ (∀ (post : Int32 → SY → Prop) (ps : Int32) (w : Nat → Int32), bs_T w → post r (nI R, nI B, nI p, h1, h2, h3, h4, l, b, v) → wpY_fits post (nI R, nI B, ps, h1, h2, h3, h4, l, b, w) (nI j))
section
variable {B R : Nat} {s : Nat → Nat} (b k1 k2 k3 k4 h1 h2 h3 h4 l : Nat → Int32)
theorem bs_rule (I : bs_Inv B R s k1 k2 k3 k4 h1 h2 h3 h4 l) {j : Nat} (hj : j ≤ 6) : ∃ (r : Int32) (p : Nat) (v : Nat → Int32), bs_T v ∧ bs_Fit B R b k1 k2 k3 k4 h1 h2 h3 h4 l j r p v := by
  obtain ⟨r, p, v, hv, hX, hY⟩ := bs_rule_go b k1 k2 k3 k4 h1 h2 h3 h4 l I hj (s j) 0 0 (fun _ => 0) (by omega) (by omega) (fun _ _ => rfl)
  have e6 : nI j * 6 = nI (6 * j) := by
    rw [Nat.mul_comm]
    exact pk_mul j 6
  have i0 : vp_in (0 : Int32) 4 := vp_in_iff.mpr (by decide)
  have i1 : vp_in (1 : Int32) 4 := vp_in_iff.mpr (by decide)
  have i2 : vp_in (2 : Int32) 4 := vp_in_iff.mpr (by decide)
  have i3 : vp_in (3 : Int32) 4 := vp_in_iff.mpr (by decide)
  refine ⟨r, p, v, hv, fun post ps w hw H => ⟨5, ?_⟩, fun post ps w hw H => ⟨5, ?_⟩⟩
  · exact br_f (by decide) ⟨i0, nm_e (nm_r (e' := (1 : Int32)) (by decide) (br_f (by decide) ⟨i1, nm_e (nm_r (e' := (2 : Int32)) (by decide) (br_f (by decide) ⟨i2, nm_e (nm_r (e' := (3 : Int32)) (by decide) (br_f (by decide) ⟨i3, nm_r (bs_clr hw) (nm_r (e' := (4 : Int32)) (by decide) (br_t (by decide) (nm_r e6 ⟨s j + 1, hX post (s j + 1) (by omega) H⟩)))⟩))⟩))⟩))⟩
  · exact br_f (by decide) ⟨i0, nm_e (nm_r (e' := (1 : Int32)) (by decide) (br_f (by decide) ⟨i1, nm_e (nm_r (e' := (2 : Int32)) (by decide) (br_f (by decide) ⟨i2, nm_e (nm_r (e' := (3 : Int32)) (by decide) (br_f (by decide) ⟨i3, nm_r (bs_clr hw) (nm_r (e' := (4 : Int32)) (by decide) (br_t (by decide) ⟨s j + 1, hY post (s j + 1) (by omega) H⟩))⟩))⟩))⟩))⟩
theorem bs_first (I : bs_Inv B R s k1 k2 k3 k4 h1 h2 h3 h4 l) : ∀ d i : Nat, R ≤ i + d → i < 2 ^ 31 →
    ((∀ (post : Int32 → SX → Prop) (n : Nat) (ps : Int32) (w : Nat → Int32), d < n → bs_T w → (∀ ps' w', bs_T w' → post (-4) (nI B, nI R, ps', b, k1, k2, k3, k4, l, w')) → wX_firstFitting_2 post n (nI i) (nI B) (nI R) ps b k1 k2 k3 k4 l w) ∧
     (∀ (post : Int32 → SY → Prop) (n : Nat) (ps : Int32) (w : Nat → Int32), d < n → bs_T w → (∀ ps' w', bs_T w' → post (-4) (nI R, nI B, ps', h1, h2, h3, h4, l, b, w')) → wY_matchFrom_8 post n (nI i) (nI R) (nI B) ps h1 h2 h3 h4 l b w)) ∨
    (∃ (j : Nat) (r : Int32) (p : Nat) (v : Nat → Int32), j < R ∧ ¬ r = 0 ∧ bs_T v ∧ bs_Fit B R b k1 k2 k3 k4 h1 h2 h3 h4 l j r p v ∧
     (∀ (post : Int32 → SX → Prop) (n : Nat) (ps : Int32) (w : Nat → Int32), d < n → bs_T w → post (nI j) (nI B, nI R, nI p, b, k1, k2, k3, k4, l, v) → wX_firstFitting_2 post n (nI i) (nI B) (nI R) ps b k1 k2 k3 k4 l w) ∧
     (∀ (post : Int32 → SY → Prop) (n : Nat) (ps : Int32) (w : Nat → Int32), d < n → bs_T w → post (nI j) (nI R, nI B, nI p, h1, h2, h3, h4, l, b, v) → wY_matchFrom_8 post n (nI i) (nI R) (nI B) ps h1 h2 h3 h4 l b w)) := by
  intro d
  induction d with
  | zero =>
    intro i hi h31
    refine Or.inl ⟨fun post n ps w hn hw H => ?_, fun post n ps w hn hw H => ?_⟩
    · obtain ⟨m, rfl⟩ : ∃ m, n = m + 1 := ⟨n - 1, by omega⟩
      exact br_t (nI_le (by omega) h31) (H _ _ hw)
    · obtain ⟨m, rfl⟩ : ∃ m, n = m + 1 := ⟨n - 1, by omega⟩
      exact br_t (nI_le (by omega) h31) (H _ _ hw)
  | succ d ih =>
    intro i hi h31
    have hR : R ≤ 6 := I.2.1
    by_cases hR' : R ≤ i
    · refine Or.inl ⟨fun post n ps w hn hw H => ?_, fun post n ps w hn hw H => ?_⟩
      · obtain ⟨m, rfl⟩ : ∃ m, n = m + 1 := ⟨n - 1, by omega⟩
        exact br_t (nI_le (by omega) h31) (H _ _ hw)
      · obtain ⟨m, rfl⟩ : ∃ m, n = m + 1 := ⟨n - 1, by omega⟩
        exact br_t (nI_le (by omega) h31) (H _ _ hw)
    · have hlt : ¬ nI R ≤ nI i := nI_ge (by omega) (by omega)
      obtain ⟨r, p, v, hv, hX, hY⟩ := bs_rule b k1 k2 k3 k4 h1 h2 h3 h4 l I (j := i) (by omega)
      by_cases hr : r = 0
      · rcases ih (i + 1) (by omega) (by omega) with ⟨iX, iY⟩ | ⟨j, r2, p2, v2, hj, hr2, hv2, hF, iX, iY⟩
        · refine Or.inl ⟨fun post n ps w hn hw H => ?_, fun post n ps w hn hw H => ?_⟩
          · obtain ⟨m, rfl⟩ : ∃ m, n = m + 1 := ⟨n - 1, by omega⟩
            exact br_f hlt (hX _ ps w hw (br_t hr (nm_r (nI_1 i) (iX post m _ _ (by omega) hv H))))
          · obtain ⟨m, rfl⟩ : ∃ m, n = m + 1 := ⟨n - 1, by omega⟩
            exact br_f hlt (hY _ ps w hw (br_t hr (nm_r (nI_1 i) (iY post m _ _ (by omega) hv H))))
        · refine Or.inr ⟨j, r2, p2, v2, hj, hr2, hv2, hF, fun post n ps w hn hw H => ?_, fun post n ps w hn hw H => ?_⟩
          · obtain ⟨m, rfl⟩ : ∃ m, n = m + 1 := ⟨n - 1, by omega⟩
            exact br_f hlt (hX _ ps w hw (br_t hr (nm_r (nI_1 i) (iX post m _ _ (by omega) hv H))))
          · obtain ⟨m, rfl⟩ : ∃ m, n = m + 1 := ⟨n - 1, by omega⟩
            exact br_f hlt (hY _ ps w hw (br_t hr (nm_r (nI_1 i) (iY post m _ _ (by omega) hv H))))
      · refine Or.inr ⟨i, r, p, v, by omega, hr, hv, ⟨hX, hY⟩, fun post n ps w hn hw H => ?_, fun post n ps w hn hw H => ?_⟩
        · obtain ⟨m, rfl⟩ : ∃ m, n = m + 1 := ⟨n - 1, by omega⟩
          exact br_f hlt (hX _ ps w hw (br_f hr H))
        · obtain ⟨m, rfl⟩ : ∃ m, n = m + 1 := ⟨n - 1, by omega⟩
          exact br_f hlt (hY _ ps w hw (br_f hr H))
theorem bs_fitting (I : bs_Inv B R s k1 k2 k3 k4 h1 h2 h3 h4 l) : ∀ (d i : Nat) (c : Int32), i + d = R → ∃ a : Int32,
    (∀ (post : Int32 → SX → Prop) (n : Nat) (ps : Int32) (w : Nat → Int32), d < n → bs_T w → (∀ ps' w', bs_T w' → post a (nI B, nI R, ps', b, k1, k2, k3, k4, l, w')) → wX_fitting_4 post n c (nI i) (nI B) (nI R) ps b k1 k2 k3 k4 l w) ∧
    (∀ (post : Int32 → SY → Prop) (n : Nat) (ps : Int32) (w : Nat → Int32), d < n → bs_T w → (∀ ps' w', bs_T w' → post a (nI R, nI B, ps', h1, h2, h3, h4, l, b, w')) → wY_fitting_4 post n c (nI i) (nI R) (nI B) ps h1 h2 h3 h4 l b w) := by
  intro d
  have hR : R ≤ 6 := I.2.1
  induction d with
  | zero =>
    intro i c hi
    refine ⟨c, fun post n ps w hn hw H => ?_, fun post n ps w hn hw H => ?_⟩
    · obtain ⟨m, rfl⟩ : ∃ m, n = m + 1 := ⟨n - 1, by omega⟩
      exact br_t (nI_le (by omega) (by omega)) (H _ _ hw)
    · obtain ⟨m, rfl⟩ : ∃ m, n = m + 1 := ⟨n - 1, by omega⟩
      exact br_t (nI_le (by omega) (by omega)) (H _ _ hw)
  | succ d ih =>
    intro i c hi
    have hlt : ¬ nI R ≤ nI i := nI_ge (by omega) (by omega)
    obtain ⟨r, p, v, hv, hX, hY⟩ := bs_rule b k1 k2 k3 k4 h1 h2 h3 h4 l I (j := i) (by omega)
    by_cases hr : r = 0
    · obtain ⟨a, iX, iY⟩ := ih (i + 1) c (by omega)
      refine ⟨a, fun post n ps w hn hw H => ?_, fun post n ps w hn hw H => ?_⟩
      · obtain ⟨m, rfl⟩ : ∃ m, n = m + 1 := ⟨n - 1, by omega⟩
        exact br_f hlt (hX _ ps w hw (br_t hr (nm_r (nI_1 i) (iX post m _ _ (by omega) hv H))))
      · obtain ⟨m, rfl⟩ : ∃ m, n = m + 1 := ⟨n - 1, by omega⟩
        exact br_f hlt (hY _ ps w hw (br_t hr (nm_r (nI_1 i) (iY post m _ _ (by omega) hv H))))
    · obtain ⟨a, iX, iY⟩ := ih (i + 1) (c + ((1 : Int32) <<< (nI i &&& 31))) (by omega)
      refine ⟨a, fun post n ps w hn hw H => ?_, fun post n ps w hn hw H => ?_⟩
      · obtain ⟨m, rfl⟩ : ∃ m, n = m + 1 := ⟨n - 1, by omega⟩
        exact br_f hlt (hX _ ps w hw (br_f hr (nm_e (nm_r (nI_1 i) (iX post m _ _ (by omega) hv H)))))
      · obtain ⟨m, rfl⟩ : ∃ m, n = m + 1 := ⟨n - 1, by omega⟩
        exact br_f hlt (hY _ ps w hw (br_f hr (nm_e (nm_r (nI_1 i) (iY post m _ _ (by omega) hv H)))))
end
