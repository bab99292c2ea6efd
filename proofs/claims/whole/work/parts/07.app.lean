/-! the relation; append; the tests of arguments -/
def bs_R (u : SX) (v : SY) : Prop := ∃ (B R : Nat) (s : Nat → Nat) (ps at' : Int32) (b k1 k2 k3 k4 h1 h2 h3 h4 l va vb : Nat → Int32), u = (nI B, nI R, ps, b, k1, k2, k3, k4, l, va) ∧ v = (nI R, nI B, at', h1, h2, h3, h4, l, b, vb) ∧ bs_Inv B R s k1 k2 k3 k4 h1 h2 h3 h4 l ∧ bs_T va ∧ bs_T vb
theorem bs_fin {WX : (Int32 → SX → Prop) → Prop} {WY : (Int32 → SY → Prop) → Prop} (h : ∃ (r : Int32) (u' : SX) (v' : SY), bs_R u' v' ∧ (∀ post : Int32 → SX → Prop, post r u' → WX post) ∧ (∀ post : Int32 → SY → Prop, post r v' → WY post)) : WX (fun r u' => WY (fun r' v' => r' = r ∧ bs_R u' v')) := by
  obtain ⟨r, u', v', hR, hX, hY⟩ := h
  exact hX _ (hY _ ⟨rfl, hR⟩)
section
variable {B R : Nat} {s : Nat → Nat} (b k1 k2 k3 k4 h1 h2 h3 h4 l v : Nat → Int32) (ps : Int32)
theorem bs_sumX (hR : R ≤ 6) (hl : ∀ j, j ≤ 6 → l j = nI (s j) ∧ s j ≤ 6) (post : Int32 → Prop) (H : post (nI (s 6 + bs_sum s R))) : ∀ d n i : Nat, i + d = R → d < n → wX_segmentsInAll_10 post (nI B) (nI R) ps b k1 k2 k3 k4 l v n (nI (s 6 + bs_sum s i)) (nI i) := by
  intro d
  induction d with
  | zero =>
    intro n i hi hn
    obtain ⟨m, rfl⟩ : ∃ m, n = m + 1 := ⟨n - 1, by omega⟩
    obtain rfl : i = R := by omega
    exact br_t (nI_le (Nat.le_refl _) (by omega)) H
  | succ d ih =>
    intro n i hi hn
    obtain ⟨m, rfl⟩ : ∃ m, n = m + 1 := ⟨n - 1, by omega⟩
    have e : nI (s 6 + bs_sum s i) + l (nI i).toNatClampNeg = nI (s 6 + bs_sum s (i + 1)) := by
      rw [nI_clamp (by omega), (hl i (by omega)).1, nI_add, Nat.add_assoc]
      rfl
    exact br_f (nI_ge (by omega) (by omega)) ⟨vp_in_nI (by omega) (by omega), nm_r e (nm_r (nI_1 i) (ih m (i + 1) (by omega) (by omega)))⟩
theorem bs_sumY (hR : R ≤ 6) (hl : ∀ j, j ≤ 6 → l j = nI (s j) ∧ s j ≤ 6) (post : Int32 → SY → Prop) {a1 a2 a3 a4 : Int32} (H : ∀ m, wY_append_12 post a1 a2 a3 a4 (nI R) (nI B) ps h1 h2 h3 h4 l b v (m + 1) (nI (s 6 + bs_sum s R)) (nI R)) : ∀ d n i : Nat, i + d = R → d < n → wY_append_12 post a1 a2 a3 a4 (nI R) (nI B) ps h1 h2 h3 h4 l b v n (nI (s 6 + bs_sum s i)) (nI i) := by
  intro d
  induction d with
  | zero =>
    intro n i hi hn
    obtain ⟨m, rfl⟩ : ∃ m, n = m + 1 := ⟨n - 1, by omega⟩
    obtain rfl : i = R := by omega
    exact H m
  | succ d ih =>
    intro n i hi hn
    obtain ⟨m, rfl⟩ : ∃ m, n = m + 1 := ⟨n - 1, by omega⟩
    have e : nI (s 6 + bs_sum s i) + l (nI i).toNatClampNeg = nI (s 6 + bs_sum s (i + 1)) := by
      rw [nI_clamp (by omega), (hl i (by omega)).1, nI_add, Nat.add_assoc]
      rfl
    exact br_f (nI_ge (by omega) (by omega)) ⟨vp_in_nI (by omega) (by omega), nm_r e (nm_r (nI_1 i) (ih m (i + 1) (by omega) (by omega)))⟩
theorem bs_sum_up {s s' : Nat → Nat} : ∀ n, (∀ j, j < n → s' j = s j) → bs_sum s' n = bs_sum s n := by
  intro n
  induction n with
  | zero => exact fun _ => rfl
  | succ n ih =>
    intro h
    show bs_sum s' n + s' n = bs_sum s n + s n
    rw [ih (fun j hj => h j (by omega)), h n (by omega)]
/-- what append does to the invariant -/
theorem bs_inv_app (I : bs_Inv B R s k1 k2 k3 k4 h1 h2 h3 h4 l) (h6 : s 6 < 6) (h30 : s 6 + bs_sum s R < 30) {a1 a2 a3 a4 : Int32} (ok : bs_ok a1 a2 a3 a4) :
    bs_Inv B R (fun j => if j = 6 then s 6 + 1 else s j) (upd k1 (36 + s 6) a1) (upd k2 (36 + s 6) a2) (upd k3 (36 + s 6) a3) (upd k4 (36 + s 6) a4) (upd h1 (36 + s 6) a1) (upd h2 (36 + s 6) a2) (upd h3 (36 + s 6) a3) (upd h4 (36 + s 6) a4) (upd l 6 (nI (s 6 + 1))) := by
  obtain ⟨hB, hR, hl, hs, ha⟩ := I
  refine ⟨hB, hR, fun j hj => ?_, ?_, fun j hj i hi => ?_⟩
  · by_cases h : j = 6
    · subst h
      exact ⟨pk_us, h6⟩
    · rw [pk_un h]
      show _ = nI (if j = 6 then _ else _) ∧ (if j = 6 then _ else _) ≤ 6
      rw [if_neg h]
      exact hl j hj
  · rw [bs_sum_up (s := s) R (fun j hj => if_neg (by omega))]
    show bs_sum s R + (s 6 + 1) ≤ 30
    omega
  · by_cases h : 6 * j + i = 36 + s 6
    · rw [h]
      unfold bs_Ag
      rw [pk_us, pk_us, pk_us, pk_us, pk_us, pk_us, pk_us, pk_us]
      exact ⟨rfl, rfl, rfl, rfl, ok⟩
    · unfold bs_Ag
      rw [pk_un h, pk_un h, pk_un h, pk_un h, pk_un h, pk_un h, pk_un h, pk_un h]
      have hi' : i < if j = 6 then s 6 + 1 else s j := hi
      by_cases h2 : j = 6
      · subst h2
        rw [if_pos rfl] at hi'
        exact ha 6 (by omega) i (by omega)
      · rw [if_neg h2] at hi'
        exact ha j hj i hi'
theorem bs_append (I : bs_Inv B R s k1 k2 k3 k4 h1 h2 h3 h4 l) {a1 a2 a3 a4 : Int32} (ok : bs_ok a1 a2 a3 a4) {va vb : Nat → Int32} {at' : Int32} (hva : bs_T va) (hvb : bs_T vb) :
    ∃ (r : Int32) (c1 c2 c3 c4 d1 d2 d3 d4 l' : Nat → Int32), bs_R (nI B, nI R, ps, b, c1, c2, c3, c4, l', va) (nI R, nI B, at', d1, d2, d3, d4, l', b, vb) ∧
    (∀ post : Int32 → SX → Prop, post r (nI B, nI R, ps, b, c1, c2, c3, c4, l', va) → wpX_append post (nI B, nI R, ps, b, k1, k2, k3, k4, l, va) a1 a2 a3 a4) ∧
    (∀ post : Int32 → SY → Prop, post r (nI R, nI B, at', d1, d2, d3, d4, l', b, vb) → wpY_append post (nI R, nI B, at', h1, h2, h3, h4, l, b, vb) a1 a2 a3 a4) := by
  have I' := I
  obtain ⟨hB, hR, hl, hs, ha⟩ := I
  have el := (hl 6 (by omega)).1
  have h6 := (hl 6 (by omega)).2
  have h0 : bs_sum s 0 = 0 := rfl
  have hX0 : ∀ post : Int32 → SX → Prop, (s 6 = 6 → post (-2) (nI B, nI R, ps, b, k1, k2, k3, k4, l, va)) → (s 6 < 6 → (30 ≤ s 6 + bs_sum s R → post (-2) (nI B, nI R, ps, b, k1, k2, k3, k4, l, va)) ∧ (s 6 + bs_sum s R < 30 → post (nI (s 6 + 1)) (nI B, nI R, ps, b, upd k1 (36 + s 6) a1, upd k2 (36 + s 6) a2, upd k3 (36 + s 6) a3, upd k4 (36 + s 6) a4, upd l 6 (nI (s 6 + 1)), va))) → wpX_append post (nI B, nI R, ps, b, k1, k2, k3, k4, l, va) a1 a2 a3 a4 := by
    intro post f g
    refine nm_r el (pk_le 6 (s 6) (fun h => f (by omega)) (fun h => ?_))
    refine nm_r el ⟨R + 1, bs_sumX b k1 k2 k3 k4 l va ps hR hl _ ?_ R (R + 1) 0 (by omega) (by omega)⟩
    refine pk_lt (s 6 + bs_sum s R) 30 (fun h30 => ?_) (fun h30 => (g h).1 h30)
    have ep : (36 : Int32) + nI (s 6) = nI (36 + s 6) := nI_add 36 (s 6)
    have ec : (nI (36 + s 6)).toNatClampNeg = 36 + s 6 := nI_clamp (by omega)
    have i42 : vp_in (nI (36 + s 6)) 42 := vp_in_nI (by omega) (by omega)
    have e1 := nI_1 (s 6)
    refine nm_r ep ⟨i42, nm_r (by rw [ec]) ⟨i42, nm_r (by rw [ec]) ⟨i42, nm_r (by rw [ec]) ⟨i42, nm_r (by rw [ec]) (nm_r (by rw [e1]) ?_)⟩⟩⟩⟩
    rw [e1]
    exact (g h).2 h30
  have hY0 : ∀ post : Int32 → SY → Prop, (s 6 = 6 → post (-2) (nI R, nI B, at', h1, h2, h3, h4, l, b, vb)) → (s 6 < 6 → (30 ≤ s 6 + bs_sum s R → post (-2) (nI R, nI B, at', h1, h2, h3, h4, l, b, vb)) ∧ (s 6 + bs_sum s R < 30 → post (nI (s 6 + 1)) (nI R, nI B, at', upd h1 (36 + s 6) a1, upd h2 (36 + s 6) a2, upd h3 (36 + s 6) a3, upd h4 (36 + s 6) a4, upd l 6 (nI (s 6 + 1)), b, vb))) → wpY_append post (nI R, nI B, at', h1, h2, h3, h4, l, b, vb) a1 a2 a3 a4 := by
    intro post f g
    refine nm_r el ⟨R + 1, bs_sumY b h1 h2 h3 h4 l vb at' hR hl _ (fun m => ?_) R (R + 1) 0 (by omega) (by omega)⟩
    refine br_t (nI_le (Nat.le_refl _) (by omega)) ?_
    rw [el]
    refine pk_eq (s 6) 6 f (fun h => ?_)
    have h' : s 6 < 6 := by omega
    refine pk_eq (s 6 + bs_sum s R) 30 (fun h30 => (g h').1 (by omega)) (fun h30 => ?_)
    have ep : (36 : Int32) + nI (s 6) = nI (36 + s 6) := nI_add 36 (s 6)
    have ec : (nI (36 + s 6)).toNatClampNeg = 36 + s 6 := nI_clamp (by omega)
    have i42 : vp_in (nI (36 + s 6)) 42 := vp_in_nI (by omega) (by omega)
    have e1 := nI_1 (s 6)
    refine nm_r ep ⟨i42, nm_r (by rw [ec]) ⟨i42, nm_r (by rw [ec]) ⟨i42, nm_r (by rw [ec]) ⟨i42, nm_r (by rw [ec]) (nm_r (by rw [e1]) ?_)⟩⟩⟩⟩
    rw [pk_us]
    exact (g h').2 (by omega)
  by_cases c : s 6 < 6 ∧ s 6 + bs_sum s R < 30
  · refine ⟨nI (s 6 + 1), _, _, _, _, _, _, _, _, _, ⟨B, R, _, ps, at', b, _, _, _, _, _, _, _, _, _, va, vb, rfl, rfl, bs_inv_app k1 k2 k3 k4 h1 h2 h3 h4 l I' c.1 c.2 ok, hva, hvb⟩, fun post H => ?_, fun post H => ?_⟩
    · exact hX0 post (fun h => absurd h (by omega)) (fun _ => ⟨fun h => absurd h (by omega), fun _ => H⟩)
    · exact hY0 post (fun h => absurd h (by omega)) (fun _ => ⟨fun h => absurd h (by omega), fun _ => H⟩)
  · refine ⟨-2, _, _, _, _, _, _, _, _, _, ⟨B, R, s, ps, at', b, _, _, _, _, _, _, _, _, _, va, vb, rfl, rfl, I', hva, hvb⟩, fun post H => ?_, fun post H => ?_⟩
    · exact hX0 post (fun _ => H) (fun _ => ⟨fun _ => H, fun h => absurd h (by omega)⟩)
    · exact hY0 post (fun _ => H) (fun _ => ⟨fun _ => H, fun h => absurd h (by omega)⟩)
end
/-- the test of a variable, both sides -/
theorem bs_var (x : Int32) : ∃ r : Int32, (r = 0 ∨ (r = 1 ∧ ∃ j, j < 4 ∧ x = nI j)) ∧ (∀ post : Int32 → Prop, post r → wpX_isVariable post x) ∧ (∀ (post : Int32 → Prop) (a1 a2 a3 : Int32) (b1 b2 b3 b4 b5 b6 b7 : Nat → Int32), post r → wpY_isVariable post (a1, a2, a3, b1, b2, b3, b4, b5, b6, b7) x) := by
  rcases pk_ix x (n := 4) (by omega) with h | h | ⟨j, hj, rfl⟩
  · exact ⟨0, Or.inl rfl, fun _ H => br_t h H, fun _ _ _ _ _ _ _ _ _ _ _ H => br_t h H⟩
  · have h0 : ¬ x < 0 := Int32.not_lt.mpr (Int32.le_trans (by decide) h)
    have h3 : (3 : Int32) < x := Int32.lt_of_lt_of_le (by decide) h
    exact ⟨0, Or.inl rfl, fun _ H => br_f h0 (br_t h H), fun _ _ _ _ _ _ _ _ _ _ _ H => br_f h0 (br_t h3 H)⟩
  · have h0 : ¬ nI j < 0 := nI_pos (by omega)
    have h4 : ¬ (4 : Int32) ≤ nI j := nI_ge (b := 4) hj (by omega)
    have h3 : ¬ (3 : Int32) < nI j := nI_nlt (a := 3) (by omega) (by omega)
    exact ⟨1, Or.inr ⟨rfl, j, hj, rfl⟩, fun _ H => br_f h0 (br_f h4 H), fun _ _ _ _ _ _ _ _ _ _ _ H => br_f h0 (br_f h3 H)⟩
