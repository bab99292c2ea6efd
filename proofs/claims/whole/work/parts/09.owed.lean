/-! what is owed -/
def i_Rel (k : Nat) (u : SX) (v : SY) : Prop := bs_R u v
theorem i_up {k : Nat} {u : SX} {v : SY} (h : i_Rel k u v) : i_Rel (k + 4) u v := h
theorem i_vc0 : wpX_init (fun u => wpY_init (fun v => i_Rel 0 u v)) := ⟨0, 0, fun _ => 0, 0, 0, fun _ => 0, fun _ => 0, fun _ => 0, fun _ => 0, fun _ => 0, fun _ => 0, fun _ => 0, fun _ => 0, fun _ => 0, fun _ => 0, fun _ => 0, fun _ => 0, rfl, rfl, ⟨by omega, by omega, fun _ _ => ⟨rfl, Nat.zero_le _⟩, by decide, fun _ _ _ hi => absurd hi (Nat.not_lt_zero _)⟩, fun _ _ => rfl, fun _ _ => rfl⟩
theorem i_vc_literal {k : Nat} {u : SX} {v : SY} (I : i_Rel k u v) (hk : k + 4 ≤ 2048) (v1 : Int32) (v2 : Int32) : wpX_literal (fun r u' => wpY_literal (fun r' v' => r' = r ∧ i_Rel (k + 4) u' v') v v1 v2) u v1 v2 := by
  have rel : bs_R u v := I
  obtain ⟨B, R, s, ps, at', b, k1, k2, k3, k4, h1, h2, h3, h4, l, va, vb, rfl, rfl, J, hva, hvb⟩ := I
  refine bs_fin (WX := fun post => wpX_literal post (nI B, nI R, ps, b, k1, k2, k3, k4, l, va) v1 v2) (WY := fun post => wpY_literal post (nI R, nI B, at', h1, h2, h3, h4, l, b, vb) v1 v2) ?_
  by_cases c1 : v1 < 0
  · exact ⟨-1, _, _, rel, fun _ H => br_t c1 H, fun _ H => br_t c1 H⟩
  by_cases c2 : 16 < v1
  · exact ⟨-1, _, _, rel, fun _ H => br_f c1 (br_t c2 H), fun _ H => br_f c1 (br_t c2 H)⟩
  by_cases c3 : v2 < 0
  · exact ⟨-1, _, _, rel, fun _ H => br_f c1 (br_f c2 (br_t c3 H)), fun _ H => br_f c1 (br_f c2 (br_t c3 H))⟩
  by_cases c4 : v2 < ((1 : Int32) <<< (v1 &&& 31))
  · obtain ⟨w, hw, ew⟩ := nI_of2 (M := 16) (n := 16) (by decide) c1 (Int32.not_lt.mp c2)
    obtain ⟨r, g1, g2, g3, g4, d1, d2, d3, d4, l', hR, hX, hY⟩ := bs_append b k1 k2 k3 k4 h1 h2 h3 h4 l ps (at' := at') J (a1 := 0) (a2 := v1) (a3 := v2) (a4 := 0) (Or.inl ⟨rfl, w, hw, ew⟩) hva hvb
    exact ⟨r, _, _, hR, fun _ H => br_f c1 (br_f c2 (br_f c3 (br_t c4 (hX _ H)))), fun _ H => br_f c1 (br_f c2 (br_f c3 (br_t c4 (hY _ H))))⟩
  · exact ⟨-1, _, _, rel, fun _ H => br_f c1 (br_f c2 (br_f c3 (br_f c4 H))), fun _ H => br_f c1 (br_f c2 (br_f c3 (br_f c4 H)))⟩
theorem i_vc_field {k : Nat} {u : SX} {v : SY} (I : i_Rel k u v) (hk : k + 4 ≤ 2048) (v1 : Int32) (v2 : Int32) (v3 : Int32) : wpX_field (fun r u' => wpY_field (fun r' v' => r' = r ∧ i_Rel (k + 4) u' v') v v1 v2 v3) u v1 v2 v3 := by
  have rel : bs_R u v := I
  obtain ⟨B, R, s, ps, at', b, k1, k2, k3, k4, h1, h2, h3, h4, l, va, vb, rfl, rfl, J, hva, hvb⟩ := I
  refine bs_fin (WX := fun post => wpX_field post (nI B, nI R, ps, b, k1, k2, k3, k4, l, va) v1 v2 v3) (WY := fun post => wpY_field post (nI R, nI B, at', h1, h2, h3, h4, l, b, vb) v1 v2 v3) ?_
  unfold wpX_field wpY_field
  obtain ⟨r1, hr1, vX, vY⟩ := bs_var v1
  rcases hr1 with rfl | ⟨rfl, x, hx, ex⟩
  · exact ⟨-1, _, _, rel, fun _ H => vX _ (br_t rfl H), fun _ H => vY _ _ _ _ _ _ _ _ _ _ _ (br_t rfl H)⟩
  have n1 : ¬ (1 : Int32) = 0 := by decide
  by_cases c2 : v2 < 0
  · exact ⟨-1, _, _, rel, fun _ H => vX _ (br_f n1 (br_t c2 H)), fun _ H => vY _ _ _ _ _ _ _ _ _ _ _ (br_f n1 (br_t c2 H))⟩
  by_cases c3 : 32 < v2
  · exact ⟨-1, _, _, rel, fun _ H => vX _ (br_f n1 (br_f c2 (br_t c3 H))), fun _ H => vY _ _ _ _ _ _ _ _ _ _ _ (br_f n1 (br_f c2 (br_t c3 H)))⟩
  by_cases c4 : v3 < 0
  · exact ⟨-1, _, _, rel, fun _ H => vX _ (br_f n1 (br_f c2 (br_f c3 (br_t c4 H)))), fun _ H => vY _ _ _ _ _ _ _ _ _ _ _ (br_f n1 (br_f c2 (br_f c3 (br_t c4 H))))⟩
  by_cases c5 : v3 ≤ 3
  case neg => exact ⟨-1, _, _, rel, fun _ H => vX _ (br_f n1 (br_f c2 (br_f c3 (br_f c4 (br_f c5 H))))), fun _ H => vY _ _ _ _ _ _ _ _ _ _ _ (br_f n1 (br_f c2 (br_f c3 (br_f c4 (br_f c5 H)))))⟩
  obtain ⟨w, hw, ew⟩ := nI_of2 (M := 32) (n := 32) (by decide) c2 (Int32.not_lt.mp c3)
  obtain ⟨f, hf, ef⟩ := nI_of2 (M := 3) (n := 3) (by decide) c4 c5
  have go : (2 ≤ f → ∃ m, 1 ≤ m ∧ w = 8 * m) → ∃ (r : Int32) (g1 g2 g3 g4 d1 d2 d3 d4 l' : Nat → Int32), bs_R (nI B, nI R, ps, b, g1, g2, g3, g4, l', va) (nI R, nI B, at', d1, d2, d3, d4, l', b, vb) ∧
      (∀ post : Int32 → SX → Prop, post r (nI B, nI R, ps, b, g1, g2, g3, g4, l', va) → wpX_append post (nI B, nI R, ps, b, k1, k2, k3, k4, l, va) 1 v1 v2 v3) ∧
      (∀ post : Int32 → SY → Prop, post r (nI R, nI B, at', d1, d2, d3, d4, l', b, vb) → wpY_append post (nI R, nI B, at', h1, h2, h3, h4, l, b, vb) 1 v1 v2 v3) :=
    fun h8 => bs_append b k1 k2 k3 k4 h1 h2 h3 h4 l ps (at' := at') J (Or.inr (Or.inl ⟨rfl, x, w, f, hx, hw, hf, h8, ex, ew, ef⟩)) hva hvb
  have iX : v3 &&& 2 = 0 ↔ f ≤ 1 := by
    rw [ef]
    exact bs_f2 f (by omega)
  have iY : v3 ≤ 1 ↔ f ≤ 1 := by
    rw [ef]
    exact nI_leI (a := f) (b := 1) (by omega) (by omega)
  by_cases cf : f ≤ 1
  · obtain ⟨r, g1, g2, g3, g4, d1, d2, d3, d4, l', hR, hX, hY⟩ := go (fun h => absurd h (by omega))
    exact ⟨r, _, _, hR, fun _ H => vX _ (br_f n1 (br_f c2 (br_f c3 (br_f c4 (br_t c5 (br_t (iX.mpr cf) (hX _ H))))))), fun _ H => vY _ _ _ _ _ _ _ _ _ _ _ (br_f n1 (br_f c2 (br_f c3 (br_f c4 (br_t c5 (br_t (iY.mpr cf) (hY _ H)))))))⟩
  have fX : ¬ v3 &&& 2 = 0 := fun z => cf (iX.mp z)
  have fY : ¬ v3 ≤ 1 := fun z => cf (iY.mp z)
  have n8 : ¬ (8 : Int32) = 0 := by decide
  by_cases cz : v2 = 0
  · exact ⟨-1, _, _, rel, fun _ H => vX _ (br_f n1 (br_f c2 (br_f c3 (br_f c4 (br_t c5 (br_f fX (br_t cz H))))))), fun _ H => vY _ _ _ _ _ _ _ _ _ _ _ (br_f n1 (br_f c2 (br_f c3 (br_f c4 (br_t c5 (br_f fY (br_t cz H)))))))⟩
  by_cases cr : (v2 - v2 / 8 * 8) = 0
  · have hm : ∃ m, 1 ≤ m ∧ w = 8 * m := by
      rw [ew] at cr cz
      have er := pk_rem (a := w) (d := 8) (by omega) (by omega) (by omega)
      have e0 : nI (w % 8) = nI 0 := er.symm.trans cr
      have e1 := (nI_eq (by omega) (by omega)).mp e0
      have e2 : w ≠ 0 := fun z => cz (by rw [z]; rfl)
      exact ⟨w / 8, by omega, by omega⟩
    obtain ⟨r, g1, g2, g3, g4, d1, d2, d3, d4, l', hR, hX, hY⟩ := go (fun _ => hm)
    exact ⟨r, _, _, hR, fun _ H => vX _ (br_f n1 (br_f c2 (br_f c3 (br_f c4 (br_t c5 (br_f fX (br_f cz ⟨n8, br_t cr (hX _ H)⟩))))))), fun _ H => vY _ _ _ _ _ _ _ _ _ _ _ (br_f n1 (br_f c2 (br_f c3 (br_f c4 (br_t c5 (br_f fY (br_f cz ⟨n8, br_t cr (hY _ H)⟩)))))))⟩
  · exact ⟨-1, _, _, rel, fun _ H => vX _ (br_f n1 (br_f c2 (br_f c3 (br_f c4 (br_t c5 (br_f fX (br_f cz ⟨n8, br_f cr H⟩))))))), fun _ H => vY _ _ _ _ _ _ _ _ _ _ _ (br_f n1 (br_f c2 (br_f c3 (br_f c4 (br_t c5 (br_f fY (br_f cz ⟨n8, br_f cr H⟩)))))))⟩
theorem i_vc_sized {k : Nat} {u : SX} {v : SY} (I : i_Rel k u v) (hk : k + 4 ≤ 2048) (v1 : Int32) (v2 : Int32) (v3 : Int32) : wpX_sized (fun r u' => wpY_sized (fun r' v' => r' = r ∧ i_Rel (k + 4) u' v') v v1 v2 v3) u v1 v2 v3 := by
  have rel : bs_R u v := I
  obtain ⟨B, R, s, ps, at', b, k1, k2, k3, k4, h1, h2, h3, h4, l, va, vb, rfl, rfl, J, hva, hvb⟩ := I
  refine bs_fin (WX := fun post => wpX_sized post (nI B, nI R, ps, b, k1, k2, k3, k4, l, va) v1 v2 v3) (WY := fun post => wpY_sized post (nI R, nI B, at', h1, h2, h3, h4, l, b, vb) v1 v2 v3) ?_
  unfold wpX_sized wpY_sized
  have n1 : ¬ (1 : Int32) = 0 := by decide
  obtain ⟨r1, hr1, vX, vY⟩ := bs_var v1
  obtain ⟨r2, hr2, wX, wY⟩ := bs_var v2
  rcases hr1 with rfl | ⟨rfl, x, hx, ex⟩
  · exact ⟨-1, _, _, rel, fun _ H => vX _ (br_t rfl H), fun _ H => vY _ _ _ _ _ _ _ _ _ _ _ (br_t rfl H)⟩
  rcases hr2 with rfl | ⟨rfl, y, hy, ey⟩
  · exact ⟨-1, _, _, rel, fun _ H => vX _ (br_f n1 (wX _ (br_t rfl H))), fun _ H => vY _ _ _ _ _ _ _ _ _ _ _ (br_f n1 (wY _ _ _ _ _ _ _ _ _ _ _ (br_t rfl H)))⟩
  by_cases c1 : v3 < 1
  · refine ⟨-1, _, _, rel, fun _ H => vX _ (br_f n1 (wX _ (br_f n1 ?_))), fun _ H => vY _ _ _ _ _ _ _ _ _ _ _ (br_f n1 (wY _ _ _ _ _ _ _ _ _ _ _ (br_f n1 (br_t c1 H))))⟩
    unfold wpX_isUnit
    exact br_t c1 (br_t rfl H)
  by_cases c2 : v3 ≤ 8
  · obtain ⟨r, g1, g2, g3, g4, d1, d2, d3, d4, l', hR, hX, hY⟩ := bs_append b k1 k2 k3 k4 h1 h2 h3 h4 l ps (at' := at') J (a1 := 2) (a2 := v1) (a3 := v2) (a4 := v3) (Or.inr (Or.inr (Or.inl ⟨rfl, x, y, hx, hy, ex, ey⟩))) hva hvb
    refine ⟨r, _, _, hR, fun _ H => vX _ (br_f n1 (wX _ (br_f n1 ?_))), fun _ H => vY _ _ _ _ _ _ _ _ _ _ _ (br_f n1 (wY _ _ _ _ _ _ _ _ _ _ _ (br_f n1 (br_f c1 (br_t c2 (hY _ H))))))⟩
    unfold wpX_isUnit
    exact br_f c1 (br_f (Int32.not_lt.mpr c2) (br_f n1 (hX _ H)))
  · refine ⟨-1, _, _, rel, fun _ H => vX _ (br_f n1 (wX _ (br_f n1 ?_))), fun _ H => vY _ _ _ _ _ _ _ _ _ _ _ (br_f n1 (wY _ _ _ _ _ _ _ _ _ _ _ (br_f n1 (br_f c1 (br_f c2 H)))))⟩
    unfold wpX_isUnit
    exact br_f c1 (br_t (Int32.not_le.mp c2) (br_t rfl H))
theorem i_vc_skip {k : Nat} {u : SX} {v : SY} (I : i_Rel k u v) (hk : k + 4 ≤ 2048) (v1 : Int32) (v2 : Int32) : wpX_skip (fun r u' => wpY_skip (fun r' v' => r' = r ∧ i_Rel (k + 4) u' v') v v1 v2) u v1 v2 := by
  have rel : bs_R u v := I
  obtain ⟨B, R, s, ps, at', b, k1, k2, k3, k4, h1, h2, h3, h4, l, va, vb, rfl, rfl, J, hva, hvb⟩ := I
  refine bs_fin (WX := fun post => wpX_skip post (nI B, nI R, ps, b, k1, k2, k3, k4, l, va) v1 v2) (WY := fun post => wpY_skip post (nI R, nI B, at', h1, h2, h3, h4, l, b, vb) v1 v2) ?_
  unfold wpX_skip wpY_skip
  have n1 : ¬ (1 : Int32) = 0 := by decide
  obtain ⟨r1, hr1, vX, vY⟩ := bs_var v1
  rcases hr1 with rfl | ⟨rfl, x, hx, ex⟩
  · exact ⟨-1, _, _, rel, fun _ H => vX _ (br_t rfl H), fun _ H => vY _ _ _ _ _ _ _ _ _ _ _ (br_t rfl H)⟩
  by_cases c1 : v2 < 1
  · refine ⟨-1, _, _, rel, fun _ H => vX _ (br_f n1 ?_), fun _ H => vY _ _ _ _ _ _ _ _ _ _ _ (br_f n1 (br_t c1 H))⟩
    unfold wpX_isUnit
    exact br_t c1 (br_t rfl H)
  by_cases c2 : v2 ≤ 8
  · obtain ⟨r, g1, g2, g3, g4, d1, d2, d3, d4, l', hR, hX, hY⟩ := bs_append b k1 k2 k3 k4 h1 h2 h3 h4 l ps (at' := at') J (a1 := 3) (a2 := v1) (a3 := v2) (a4 := 0) (Or.inr (Or.inr (Or.inr (Or.inl ⟨rfl, x, hx, ex⟩)))) hva hvb
    refine ⟨r, _, _, hR, fun _ H => vX _ (br_f n1 ?_), fun _ H => vY _ _ _ _ _ _ _ _ _ _ _ (br_f n1 (br_f c1 (br_t c2 (hY _ H))))⟩
    unfold wpX_isUnit
    exact br_f c1 (br_f (Int32.not_lt.mpr c2) (br_f n1 (hX _ H)))
  · refine ⟨-1, _, _, rel, fun _ H => vX _ (br_f n1 ?_), fun _ H => vY _ _ _ _ _ _ _ _ _ _ _ (br_f n1 (br_f c1 (br_f c2 H)))⟩
    unfold wpX_isUnit
    exact br_f c1 (br_t (Int32.not_le.mp c2) (br_t rfl H))
theorem i_vc_same {k : Nat} {u : SX} {v : SY} (I : i_Rel k u v) (hk : k + 4 ≤ 2048) (v1 : Int32) (v2 : Int32) : wpX_same (fun r u' => wpY_same (fun r' v' => r' = r ∧ i_Rel (k + 4) u' v') v v1 v2) u v1 v2 := by
  have rel : bs_R u v := I
  obtain ⟨B, R, s, ps, at', b, k1, k2, k3, k4, h1, h2, h3, h4, l, va, vb, rfl, rfl, J, hva, hvb⟩ := I
  refine bs_fin (WX := fun post => wpX_same post (nI B, nI R, ps, b, k1, k2, k3, k4, l, va) v1 v2) (WY := fun post => wpY_same post (nI R, nI B, at', h1, h2, h3, h4, l, b, vb) v1 v2) ?_
  unfold wpX_same wpY_same
  have n1 : ¬ (1 : Int32) = 0 := by decide
  obtain ⟨r1, hr1, vX, vY⟩ := bs_var v1
  obtain ⟨r2, hr2, wX, wY⟩ := bs_var v2
  rcases hr1 with rfl | ⟨rfl, x, hx, ex⟩
  · exact ⟨-1, _, _, rel, fun _ H => vX _ (br_t rfl H), fun _ H => vY _ _ _ _ _ _ _ _ _ _ _ (br_t rfl H)⟩
  rcases hr2 with rfl | ⟨rfl, y, hy, ey⟩
  · exact ⟨-1, _, _, rel, fun _ H => vX _ (br_f n1 (wX _ (br_t rfl H))), fun _ H => vY _ _ _ _ _ _ _ _ _ _ _ (br_f n1 (wY _ _ _ _ _ _ _ _ _ _ _ (br_t rfl H)))⟩
  obtain ⟨r, g1, g2, g3, g4, d1, d2, d3, d4, l', hR, hX, hY⟩ := bs_append b k1 k2 k3 k4 h1 h2 h3 h4 l ps (at' := at') J (a1 := 4) (a2 := v1) (a3 := v2) (a4 := 0) (Or.inr (Or.inr (Or.inr (Or.inr (Or.inl ⟨rfl, x, y, hx, hy, ex, ey⟩))))) hva hvb
  exact ⟨r, _, _, hR, fun _ H => vX _ (br_f n1 (wX _ (br_f n1 (hX _ H)))), fun _ H => vY _ _ _ _ _ _ _ _ _ _ _ (br_f n1 (wY _ _ _ _ _ _ _ _ _ _ _ (br_f n1 (hY _ H))))⟩
theorem i_vc_rest {k : Nat} {u : SX} {v : SY} (I : i_Rel k u v) (hk : k + 4 ≤ 2048) (v1 : Int32) : wpX_rest (fun r u' => wpY_rest (fun r' v' => r' = r ∧ i_Rel (k + 4) u' v') v v1) u v1 := by
  have rel : bs_R u v := I
  obtain ⟨B, R, s, ps, at', b, k1, k2, k3, k4, h1, h2, h3, h4, l, va, vb, rfl, rfl, J, hva, hvb⟩ := I
  refine bs_fin (WX := fun post => wpX_rest post (nI B, nI R, ps, b, k1, k2, k3, k4, l, va) v1) (WY := fun post => wpY_rest post (nI R, nI B, at', h1, h2, h3, h4, l, b, vb) v1) ?_
  unfold wpX_rest wpY_rest
  have n1 : ¬ (1 : Int32) = 0 := by decide
  obtain ⟨r1, hr1, vX, vY⟩ := bs_var v1
  rcases hr1 with rfl | ⟨rfl, x, hx, ex⟩
  · exact ⟨-1, _, _, rel, fun _ H => vX _ (br_t rfl H), fun _ H => vY _ _ _ _ _ _ _ _ _ _ _ (br_t rfl H)⟩
  obtain ⟨r, g1, g2, g3, g4, d1, d2, d3, d4, l', hR, hX, hY⟩ := bs_append b k1 k2 k3 k4 h1 h2 h3 h4 l ps (at' := at') J (a1 := 5) (a2 := v1) (a3 := 0) (a4 := 0) (Or.inr (Or.inr (Or.inr (Or.inr (Or.inr ⟨rfl, x, hx, ex⟩))))) hva hvb
  exact ⟨r, _, _, hR, fun _ H => vX _ (br_f n1 (hX _ H)), fun _ H => vY _ _ _ _ _ _ _ _ _ _ _ (br_f n1 (hY _ H))⟩
theorem i_vc_segments {k : Nat} {u : SX} {v : SY} (I : i_Rel k u v) (hk : k + 4 ≤ 2048) : wpX_segments (fun r => wpY_segments (fun r' => r' = r ∧ i_Rel (k + 4) u v) v) u := by
  have rel : bs_R u v := I
  obtain ⟨B, R, s, ps, at', b, k1, k2, k3, k4, h1, h2, h3, h4, l, va, vb, rfl, rfl, J, hva, hvb⟩ := I
  exact ⟨rfl, rel⟩
theorem i_vc_scrap {k : Nat} {u : SX} {v : SY} (I : i_Rel k u v) (hk : k + 4 ≤ 2048) : wpX_scrap (fun u' => wpY_scrap (fun v' => i_Rel (k + 4) u' v') v) u := by
  obtain ⟨B, R, s, ps, at', b, k1, k2, k3, k4, h1, h2, h3, h4, l, va, vb, rfl, rfl, J, hva, hvb⟩ := I
  obtain ⟨hB, hR, hl, hs, ha⟩ := J
  refine nm_e (nm_e ⟨B, R, (fun j => if j = 6 then 0 else s j), ps, at', b, k1, k2, k3, k4, h1, h2, h3, h4, upd l 6 0, va, vb, rfl, rfl, ⟨hB, hR, fun j hj => ?_, ?_, fun j hj i hi => ?_⟩, hva, hvb⟩)
  · show _ = nI (if j = 6 then 0 else s j) ∧ (if j = 6 then 0 else s j) ≤ 6
    by_cases h : j = 6
    · subst h
      exact ⟨pk_us, Nat.zero_le _⟩
    · rw [pk_un h, if_neg h]
      exact hl j hj
  · rw [bs_sum_up (s := s) R (fun j hj => if_neg (by omega))]
    show bs_sum s R + 0 ≤ 30
    omega
  · have hi' : i < if j = 6 then 0 else s j := hi
    by_cases h : j = 6
    · rw [if_pos h] at hi'
      omega
    · rw [if_neg h] at hi'
      exact ha j hj i hi'
theorem i_vc_end {k : Nat} {u : SX} {v : SY} (I : i_Rel k u v) (hk : k + 4 ≤ 2048) : wpX_end (fun r u' => wpY_end (fun r' v' => r' = r ∧ i_Rel (k + 4) u' v') v) u := by
  have rel : bs_R u v := I
  obtain ⟨B, R, s, ps, at', b, k1, k2, k3, k4, h1, h2, h3, h4, l, va, vb, rfl, rfl, J, hva, hvb⟩ := I
  refine bs_fin (WX := fun post => wpX_end post (nI B, nI R, ps, b, k1, k2, k3, k4, l, va)) (WY := fun post => wpY_end post (nI R, nI B, at', h1, h2, h3, h4, l, b, vb)) ?_
  have hR6 : R ≤ 6 := J.2.1
  have h6 := J.2.2.1 6 (by omega)
  by_cases c : R < 6
  · exact ⟨nI R, _, _, ⟨B, R + 1, _, ps, at', b, _, _, _, _, _, _, _, _, _, va, vb, rfl, rfl, bs_inv_end k1 k2 k3 k4 h1 h2 h3 h4 l J c, hva, hvb⟩, fun post H => bs_endX b k1 k2 k3 k4 l va ps c post H, fun post H => bs_endY b h1 h2 h3 h4 l vb at' c h6.2 h6.1 post H⟩
  · obtain rfl : R = 6 := by omega
    exact ⟨-2, _, _, rel, fun _ H => br_f (by decide) H, fun _ H => br_t (by decide) H⟩
theorem i_vc_unend {k : Nat} {u : SX} {v : SY} (I : i_Rel k u v) (hk : k + 4 ≤ 2048) : wpX_unend (fun r u' => wpY_unend (fun r' v' => r' = r ∧ i_Rel (k + 4) u' v') v) u := by
  have rel : bs_R u v := I
  obtain ⟨B, R, s, ps, at', b, k1, k2, k3, k4, h1, h2, h3, h4, l, va, vb, rfl, rfl, J, hva, hvb⟩ := I
  refine bs_fin (WX := fun post => wpX_unend post (nI B, nI R, ps, b, k1, k2, k3, k4, l, va)) (WY := fun post => wpY_unend post (nI R, nI B, at', h1, h2, h3, h4, l, b, vb)) ?_
  rcases Nat.eq_zero_or_pos R with rfl | c
  · exact ⟨-4, _, _, rel, fun _ H => br_f (by decide) H, fun _ H => br_t (by decide) H⟩
  · obtain ⟨q, rfl⟩ : ∃ q, R = q + 1 := ⟨R - 1, by omega⟩
    obtain ⟨hB, hR, hl, hs, ha⟩ := J
    have hs' : bs_sum s q + s q + s 6 ≤ 30 := hs
    exact ⟨nI q, _, _, ⟨B, q, s, ps, at', b, k1, k2, k3, k4, h1, h2, h3, h4, l, va, vb, rfl, rfl, ⟨hB, by omega, hl, by omega, ha⟩, hva, hvb⟩, fun _ H => br_t (nI_lt (a := 0) (by omega) (by omega)) (nm_r (nI_pred q) H), fun _ H => br_f (nI_ne0 (by omega) (by omega)) (nm_r (nI_pred q) H)⟩
theorem i_vc_rules {k : Nat} {u : SX} {v : SY} (I : i_Rel k u v) (hk : k + 4 ≤ 2048) : wpX_rules (fun r => wpY_rules (fun r' => r' = r ∧ i_Rel (k + 4) u v) v) u := by
  have rel : bs_R u v := I
  obtain ⟨B, R, s, ps, at', b, k1, k2, k3, k4, h1, h2, h3, h4, l, va, vb, rfl, rfl, J, hva, hvb⟩ := I
  exact ⟨rfl, rel⟩
theorem i_vc_feed {k : Nat} {u : SX} {v : SY} (I : i_Rel k u v) (hk : k + 4 ≤ 2048) (v1 : Int32) : wpX_feed (fun r u' => wpY_feed (fun r' v' => r' = r ∧ i_Rel (k + 4) u' v') v v1) u v1 := by
  have rel : bs_R u v := I
  obtain ⟨B, R, s, ps, at', b, k1, k2, k3, k4, h1, h2, h3, h4, l, va, vb, rfl, rfl, J, hva, hvb⟩ := I
  refine bs_fin (WX := fun post => wpX_feed post (nI B, nI R, ps, b, k1, k2, k3, k4, l, va) v1) (WY := fun post => wpY_feed post (nI R, nI B, at', h1, h2, h3, h4, l, b, vb) v1) ?_
  unfold wpX_feed wpX_isByte
  have n1 : ¬ (1 : Int32) = 0 := by decide
  obtain ⟨hB, hR, hl, hs, ha⟩ := J
  by_cases c1 : v1 < 0
  · exact ⟨-1, _, _, rel, fun _ H => br_t c1 (br_t rfl H), fun _ H => br_t c1 H⟩
  by_cases c2 : v1 ≤ 255
  case neg => exact ⟨-1, _, _, rel, fun _ H => br_f c1 (br_t (Int32.not_le.mp c2) (br_t rfl H)), fun _ H => br_f c1 (br_f c2 H)⟩
  have c2' := Int32.not_lt.mpr c2
  by_cases c : B = 8
  · subst c
    exact ⟨-2, _, _, rel, fun _ H => br_f c1 (br_f c2' (br_f n1 (br_f (by decide) H))), fun _ H => br_f c1 (br_t c2 (br_t (by decide) H))⟩
  · have hc : (nI B).toNatClampNeg = B := nI_clamp (by omega)
    have hi : vp_in (nI B) 8 := vp_in_nI (by omega) (by omega)
    have hne : ¬ nI B = 8 := fun z => c ((nI_eq (a := B) (b := 8) (by omega) (by omega)).mp z)
    exact ⟨nI (B + 1), _, _, ⟨B + 1, R, s, ps, at', upd b B v1, k1, k2, k3, k4, h1, h2, h3, h4, l, va, vb, rfl, rfl, ⟨by omega, hR, hl, hs, ha⟩, hva, hvb⟩, fun _ H => br_f c1 (br_f c2' (br_f n1 (br_t (nI_lt (b := 8) (by omega) (by omega)) ⟨hi, nm_r (by rw [hc]) (nm_r (nI_1 B) H)⟩))), fun _ H => br_f c1 (br_t c2 (br_f hne ⟨hi, nm_r (by rw [hc]) (nm_r (nI_1 B) H)⟩))⟩
theorem i_vc_put {k : Nat} {u : SX} {v : SY} (I : i_Rel k u v) (hk : k + 4 ≤ 2048) (v1 : Int32) (v2 : Int32) : wpX_put (fun r u' => wpY_put (fun r' v' => r' = r ∧ i_Rel (k + 4) u' v') v v1 v2) u v1 v2 := by
  have rel : bs_R u v := I
  obtain ⟨B, R, s, ps, at', b, k1, k2, k3, k4, h1, h2, h3, h4, l, va, vb, rfl, rfl, J, hva, hvb⟩ := I
  refine bs_fin (WX := fun post => wpX_put post (nI B, nI R, ps, b, k1, k2, k3, k4, l, va) v1 v2) (WY := fun post => wpY_put post (nI R, nI B, at', h1, h2, h3, h4, l, b, vb) v1 v2) ?_
  unfold wpX_put wpX_isByte
  have n1 : ¬ (1 : Int32) = 0 := by decide
  by_cases c1 : v1 < 0
  · exact ⟨-1, _, _, rel, fun _ H => br_t c1 H, fun _ H => br_t c1 H⟩
  by_cases c2 : nI B ≤ v1
  · exact ⟨-1, _, _, rel, fun _ H => br_f c1 (br_t c2 H), fun _ H => br_f c1 (br_t c2 H)⟩
  by_cases c3 : v2 < 0
  · exact ⟨-1, _, _, rel, fun _ H => br_f c1 (br_f c2 (br_t c3 (br_t rfl H))), fun _ H => br_f c1 (br_f c2 (br_t c3 H))⟩
  by_cases c4 : v2 ≤ 255
  case neg => exact ⟨-1, _, _, rel, fun _ H => br_f c1 (br_f c2 (br_f c3 (br_t (Int32.not_le.mp c4) (br_t rfl H)))), fun _ H => br_f c1 (br_f c2 (br_f c3 (br_f c4 H)))⟩
  have c4' := Int32.not_lt.mpr c4
  have hB : B ≤ 8 := J.1
  obtain ⟨i, hi31, rfl⟩ := nI_of c1
  have hiB : i < B := by
    rw [nI_leI (by omega) hi31] at c2
    omega
  have hi : vp_in (nI i) 8 := vp_in_nI (by omega) (by omega)
  exact ⟨b (nI i).toNatClampNeg, _, _, ⟨B, R, s, ps, at', upd b (nI i).toNatClampNeg v2, k1, k2, k3, k4, h1, h2, h3, h4, l, va, vb, rfl, rfl, J, hva, hvb⟩, fun _ H => br_f c1 (br_f c2 (br_f c3 (br_f c4' (br_f n1 ⟨hi, nm_e ⟨hi, nm_e H⟩⟩)))), fun _ H => br_f c1 (br_f c2 (br_f c3 (br_t c4 ⟨hi, nm_e ⟨hi, nm_e H⟩⟩)))⟩
theorem i_vc_empty {k : Nat} {u : SX} {v : SY} (I : i_Rel k u v) (hk : k + 4 ≤ 2048) : wpX_empty (fun u' => wpY_empty (fun v' => i_Rel (k + 4) u' v') v) u := by
  obtain ⟨B, R, s, ps, at', b, k1, k2, k3, k4, h1, h2, h3, h4, l, va, vb, rfl, rfl, J, hva, hvb⟩ := I
  exact ⟨0, R, s, ps, at', b, k1, k2, k3, k4, h1, h2, h3, h4, l, va, vb, rfl, rfl, ⟨by omega, J.2⟩, hva, hvb⟩
theorem i_vc_match {k : Nat} {u : SX} {v : SY} (I : i_Rel k u v) (hk : k + 4 ≤ 2048) : wpX_match (fun r u' => wpY_match (fun r' v' => r' = r ∧ i_Rel (k + 4) u' v') v) u := by
  obtain ⟨B, R, s, ps, at', b, k1, k2, k3, k4, h1, h2, h3, h4, l, va, vb, rfl, rfl, J, hva, hvb⟩ := I
  have mk : ∀ (p1 p2 : Int32) (w1 w2 : Nat → Int32), bs_T w1 → bs_T w2 → bs_R (nI B, nI R, p1, b, k1, k2, k3, k4, l, w1) (nI R, nI B, p2, h1, h2, h3, h4, l, b, w2) := fun p1 p2 w1 w2 t1 t2 => ⟨B, R, s, p1, p2, b, k1, k2, k3, k4, h1, h2, h3, h4, l, w1, w2, rfl, rfl, J, t1, t2⟩
  unfold wpX_match
  rcases bs_first b k1 k2 k3 k4 h1 h2 h3 h4 l J R 0 (by omega) (by omega) with ⟨hX, hY⟩ | ⟨j, r, p, v, hj, hr, hv, hF, hX, hY⟩
  · refine ⟨R + 1, hX _ (R + 1) ps va (by omega) hva (fun p1 w1 t1 => ?_)⟩
    exact br_t (by decide) ⟨R + 1, hY _ (R + 1) at' vb (by omega) hvb (fun p2 w2 t2 => ⟨rfl, mk _ _ _ _ t1 t2⟩)⟩
  · refine ⟨R + 1, hX _ (R + 1) ps va (by omega) hva ?_⟩
    exact br_t (by decide) ⟨R + 1, hY _ (R + 1) at' vb (by omega) hvb ⟨rfl, mk _ _ _ _ hv hv⟩⟩
theorem i_vc_matchFrom {k : Nat} {u : SX} {v : SY} (I : i_Rel k u v) (hk : k + 4 ≤ 2048) (v1 : Int32) : wpX_matchFrom (fun r u' => wpY_matchFrom (fun r' v' => r' = r ∧ i_Rel (k + 4) u' v') v v1) u v1 := by
  have rel : bs_R u v := I
  obtain ⟨B, R, s, ps, at', b, k1, k2, k3, k4, h1, h2, h3, h4, l, va, vb, rfl, rfl, J, hva, hvb⟩ := I
  have mk : ∀ (p1 p2 : Int32) (w1 w2 : Nat → Int32), bs_T w1 → bs_T w2 → bs_R (nI B, nI R, p1, b, k1, k2, k3, k4, l, w1) (nI R, nI B, p2, h1, h2, h3, h4, l, b, w2) := fun p1 p2 w1 w2 t1 t2 => ⟨B, R, s, p1, p2, b, k1, k2, k3, k4, h1, h2, h3, h4, l, w1, w2, rfl, rfl, J, t1, t2⟩
  by_cases c : 0 ≤ v1
  case neg => exact br_f c (br_f c ⟨rfl, rel⟩)
  obtain ⟨i, hi, rfl⟩ := nI_of (Int32.not_lt.mpr c)
  rcases bs_first b k1 k2 k3 k4 h1 h2 h3 h4 l J R i (by omega) hi with ⟨hX, hY⟩ | ⟨j, r, p, v, hj, hr, hv, hF, hX, hY⟩
  · refine br_t c ⟨R + 1, hX _ (R + 1) ps va (by omega) hva (fun p1 w1 t1 => ?_)⟩
    exact br_t c ⟨R + 1, hY _ (R + 1) at' vb (by omega) hvb (fun p2 w2 t2 => ⟨rfl, mk _ _ _ _ t1 t2⟩)⟩
  · refine br_t c ⟨R + 1, hX _ (R + 1) ps va (by omega) hva ?_⟩
    exact br_t c ⟨R + 1, hY _ (R + 1) at' vb (by omega) hvb ⟨rfl, mk _ _ _ _ hv hv⟩⟩
theorem i_vc_bound {k : Nat} {u : SX} {v : SY} (I : i_Rel k u v) (hk : k + 4 ≤ 2048) (v1 : Int32) : wpX_bound (fun r u' => wpY_bound (fun r' v' => r' = r ∧ i_Rel (k + 4) u' v') v v1) u v1 := by
  have rel : bs_R u v := I
  obtain ⟨B, R, s, ps, at', b, k1, k2, k3, k4, h1, h2, h3, h4, l, va, vb, rfl, rfl, J, hva, hvb⟩ := I
  have mk : ∀ (p1 p2 : Int32) (w1 w2 : Nat → Int32), bs_T w1 → bs_T w2 → bs_R (nI B, nI R, p1, b, k1, k2, k3, k4, l, w1) (nI R, nI B, p2, h1, h2, h3, h4, l, b, w2) := fun p1 p2 w1 w2 t1 t2 => ⟨B, R, s, p1, p2, b, k1, k2, k3, k4, h1, h2, h3, h4, l, w1, w2, rfl, rfl, J, t1, t2⟩
  have hR : R ≤ 6 := J.2.1
  have n1 : ¬ (1 : Int32) = 0 := by decide
  obtain ⟨r1, hr1, vX, vY⟩ := bs_var v1
  unfold wpX_bound
  rcases bs_first b k1 k2 k3 k4 h1 h2 h3 h4 l J R 0 (by omega) (by omega) with ⟨hX, hY⟩ | ⟨j, r, p, v, hj, hr, hv, hF, hX, hY⟩
  · have yy : ∀ (p1 : Int32) (w1 : Nat → Int32), bs_T w1 → wpY_bound (fun r' v' => r' = 0 ∧ bs_R (nI B, nI R, p1, b, k1, k2, k3, k4, l, w1) v') (nI R, nI B, at', h1, h2, h3, h4, l, b, vb) v1 := by
      intro p1 w1 t1
      exact br_t (by decide) ⟨R + 1, hY _ (R + 1) at' vb (by omega) hvb (fun p2 w2 t2 => br_t (by decide) ⟨rfl, mk _ _ _ _ t1 t2⟩)⟩
    rcases hr1 with rfl | ⟨rfl, x, hx, rfl⟩
    · exact vX _ (br_t rfl (yy _ _ hva))
    · exact vX _ (br_f n1 ⟨R + 1, hX _ (R + 1) ps va (by omega) hva (fun p1 w1 t1 => br_t rfl (yy _ _ t1))⟩)
  · have j0 : ¬ nI j < 0 := nI_pos (by omega)
    have jR : ¬ nI R ≤ nI j := nI_ge hj (by omega)
    rcases hr1 with rfl | ⟨rfl, x, hx, rfl⟩
    · refine vX _ (br_t rfl ?_)
      exact br_t (by decide) ⟨R + 1, hY _ (R + 1) at' vb (by omega) hvb (br_f j0 (br_f jR (vY _ _ _ _ _ _ _ _ _ _ _ (br_t rfl ⟨rfl, mk _ _ _ _ hva hv⟩))))⟩
    · have hi : vp_in (nI x) 4 := vp_in_nI hx (by omega)
      have j4 : ¬ nI j = -4 := fun z => j0 (by rw [z]; decide)
      refine vX _ (br_f n1 ⟨R + 1, hX _ (R + 1) ps va (by omega) hva (br_f j4 ⟨hi, ?_⟩)⟩)
      exact br_t (by decide) ⟨R + 1, hY _ (R + 1) at' vb (by omega) hvb (br_f j0 (br_f jR (vY _ _ _ _ _ _ _ _ _ _ _ (br_f n1 (hF.2 _ _ _ hv (br_f hr ⟨hi, rfl, mk _ _ _ _ hv hv⟩))))))⟩
theorem i_vc_boundBy {k : Nat} {u : SX} {v : SY} (I : i_Rel k u v) (hk : k + 4 ≤ 2048) (v1 : Int32) (v2 : Int32) : wpX_boundBy (fun r u' => wpY_boundBy (fun r' v' => r' = r ∧ i_Rel (k + 4) u' v') v v1 v2) u v1 v2 := by
  have rel : bs_R u v := I
  obtain ⟨B, R, s, ps, at', b, k1, k2, k3, k4, h1, h2, h3, h4, l, va, vb, rfl, rfl, J, hva, hvb⟩ := I
  have mk : ∀ (p1 p2 : Int32) (w1 w2 : Nat → Int32), bs_T w1 → bs_T w2 → bs_R (nI B, nI R, p1, b, k1, k2, k3, k4, l, w1) (nI R, nI B, p2, h1, h2, h3, h4, l, b, w2) := fun p1 p2 w1 w2 t1 t2 => ⟨B, R, s, p1, p2, b, k1, k2, k3, k4, h1, h2, h3, h4, l, w1, w2, rfl, rfl, J, t1, t2⟩
  have hR : R ≤ 6 := J.2.1
  have n1 : ¬ (1 : Int32) = 0 := by decide
  by_cases c1 : v1 < 0
  · exact br_t c1 (br_t c1 ⟨rfl, rel⟩)
  by_cases c2 : nI R ≤ v1
  · exact br_f c1 (br_t c2 (br_f c1 (br_t c2 ⟨rfl, rel⟩)))
  obtain ⟨r1, hr1, vX, vY⟩ := bs_var v2
  rcases hr1 with rfl | ⟨rfl, x, hx, rfl⟩
  · exact br_f c1 (br_f c2 (vX _ (br_t rfl (br_f c1 (br_f c2 (vY _ _ _ _ _ _ _ _ _ _ _ (br_t rfl ⟨rfl, rel⟩)))))))
  obtain ⟨j, hj31, rfl⟩ := nI_of c1
  have hj : j < R := by
    rw [nI_leI (by omega) hj31] at c2
    omega
  have hi : vp_in (nI x) 4 := vp_in_nI hx (by omega)
  obtain ⟨r, p, v, hv, hX, hY⟩ := bs_rule b k1 k2 k3 k4 h1 h2 h3 h4 l J (j := j) (by omega)
  by_cases hr : r = 0
  · refine br_f c1 (br_f c2 (vX _ (br_f n1 (hX _ _ _ hva (br_t hr ?_)))))
    exact br_f c1 (br_f c2 (vY _ _ _ _ _ _ _ _ _ _ _ (br_f n1 (hY _ _ _ hvb (br_t hr ⟨rfl, mk _ _ _ _ hv hv⟩)))))
  · refine br_f c1 (br_f c2 (vX _ (br_f n1 (hX _ _ _ hva (br_f hr ⟨hi, ?_⟩)))))
    exact br_f c1 (br_f c2 (vY _ _ _ _ _ _ _ _ _ _ _ (br_f n1 (hY _ _ _ hvb (br_f hr ⟨hi, rfl, mk _ _ _ _ hv hv⟩)))))
theorem i_vc_fitting {k : Nat} {u : SX} {v : SY} (I : i_Rel k u v) (hk : k + 4 ≤ 2048) : wpX_fitting (fun r u' => wpY_fitting (fun r' v' => r' = r ∧ i_Rel (k + 4) u' v') v) u := by
  obtain ⟨B, R, s, ps, at', b, k1, k2, k3, k4, h1, h2, h3, h4, l, va, vb, rfl, rfl, J, hva, hvb⟩ := I
  obtain ⟨a, hX, hY⟩ := bs_fitting b k1 k2 k3 k4 h1 h2 h3 h4 l J R 0 0 (by omega)
  refine ⟨R + 1, hX _ (R + 1) ps va (by omega) hva (fun p1 w1 t1 => ?_)⟩
  exact ⟨R + 1, hY _ (R + 1) at' vb (by omega) hvb (fun p2 w2 t2 => ⟨rfl, ⟨B, R, s, p1, p2, b, k1, k2, k3, k4, h1, h2, h3, h4, l, w1, w2, rfl, rfl, J, t1, t2⟩⟩)⟩
