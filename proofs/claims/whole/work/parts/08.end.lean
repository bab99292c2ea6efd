/-! end: the copies -/
def bs_cp (a : Nat → Int32) (t : Nat) : Nat → (Nat → Int32)
  | 0 => a
  | n + 1 => upd (bs_cp a t n) (t + n) (bs_cp a t n (36 + n))
theorem bs_cp_at (a : Nat → Int32) {t : Nat} (ht : t ≤ 30) : ∀ n, n ≤ 6 → ∀ x, bs_cp a t n x = if t ≤ x ∧ x < t + n then a (36 + (x - t)) else a x := by
  intro n
  induction n with
  | zero =>
    intro _ x
    rw [if_neg (by omega)]
    rfl
  | succ n ih =>
    intro hn x
    show upd (bs_cp a t n) (t + n) (bs_cp a t n (36 + n)) x = _
    by_cases h : x = t + n
    · subst h
      rw [pk_us, ih (by omega), if_neg (by omega), if_pos (by omega)]
      exact congrArg a (by omega)
    · rw [pk_un h, ih (by omega)]
      by_cases h2 : t ≤ x ∧ x < t + n
      · rw [if_pos h2, if_pos (by omega)]
      · rw [if_neg h2, if_neg (by omega)]
section
variable {B R : Nat} {s : Nat → Nat} (b k1 k2 k3 k4 h1 h2 h3 h4 l v : Nat → Int32) (ps : Int32)
theorem bs_copyX_go (hR : R < 6) (post : SX → Prop) (H : post (nI B, nI R, ps, b, bs_cp k1 (6 * R) 6, bs_cp k2 (6 * R) 6, bs_cp k3 (6 * R) 6, bs_cp k4 (6 * R) 6, upd l R (l 6), v)) : ∀ d n i : Nat, i + d = 6 → d < n → wX_copyMadeRuleTo_11 post (nI R) 36 (nI (6 * R)) (nI B) (nI R) ps n (nI i) b (bs_cp k1 (6 * R) i) (bs_cp k2 (6 * R) i) (bs_cp k3 (6 * R) i) (bs_cp k4 (6 * R) i) l v := by
  intro d
  induction d with
  | zero =>
    intro n i hi hn
    obtain ⟨m, rfl⟩ : ∃ m, n = m + 1 := ⟨n - 1, by omega⟩
    obtain rfl : i = 6 := by omega
    exact br_t (by decide) ⟨vp_in_nI (by omega) (by omega), nm_r (by rw [nI_clamp (by omega)]) H⟩
  | succ d ih =>
    intro n i hi hn
    obtain ⟨m, rfl⟩ : ∃ m, n = m + 1 := ⟨n - 1, by omega⟩
    have ea : (36 : Int32) + nI i = nI (36 + i) := nI_add 36 i
    have et : nI (6 * R) + nI i = nI (6 * R + i) := nI_add _ _
    have ca : ((36 : Int32) + nI i).toNatClampNeg = 36 + i := by rw [ea, nI_clamp (by omega)]
    have ct : (nI (6 * R) + nI i).toNatClampNeg = 6 * R + i := by rw [et, nI_clamp (by omega)]
    have ia : vp_in ((36 : Int32) + nI i) 42 := by
      rw [ea]
      exact vp_in_nI (by omega) (by omega)
    have it : vp_in (nI (6 * R) + nI i) 42 := by
      rw [et]
      exact vp_in_nI (by omega) (by omega)
    have hu : ∀ a : Nat → Int32, upd (bs_cp a (6 * R) i) (nI (6 * R) + nI i).toNatClampNeg (bs_cp a (6 * R) i ((36 : Int32) + nI i).toNatClampNeg) = bs_cp a (6 * R) (i + 1) := by
      intro a
      rw [ca, ct]
      rfl
    exact br_f (nI_ge (b := 6) (by omega) (by omega)) ⟨ia, it, nm_r (hu k1) ⟨ia, it, nm_r (hu k2) ⟨ia, it, nm_r (hu k3) ⟨ia, it, nm_r (hu k4) (nm_r (nI_1 i) (ih m (i + 1) (by omega) (by omega)))⟩⟩⟩⟩
theorem bs_endX (hR : R < 6) (post : Int32 → SX → Prop) (H : post (nI R) (nI B, nI (R + 1), ps, b, bs_cp k1 (6 * R) 6, bs_cp k2 (6 * R) 6, bs_cp k3 (6 * R) 6, bs_cp k4 (6 * R) 6, upd (upd l R (l 6)) 6 0, v)) : wpX_end post (nI B, nI R, ps, b, k1, k2, k3, k4, l, v) := by
  have e6 : nI R * 6 = nI (6 * R) := by
    rw [Nat.mul_comm]
    exact pk_mul R 6
  refine br_t (nI_lt (b := 6) hR (by omega)) (nm_r e6 ⟨7, bs_copyX_go b k1 k2 k3 k4 l v ps hR _ ?_ 6 7 0 (by omega) (by omega)⟩)
  exact nm_e (nm_r (nI_1 R) H)
theorem bs_copyY_go (hR : R < 6) (hs : s 6 ≤ 6) (el : l 6 = nI (s 6)) (post : Int32 → SY → Prop) (H : post (nI R) (nI (R + 1), nI B, ps, bs_cp h1 (6 * R) (s 6), bs_cp h2 (6 * R) (s 6), bs_cp h3 (6 * R) (s 6), bs_cp h4 (6 * R) (s 6), upd (upd l R (l 6)) 6 0, b, v)) : ∀ d n i : Nat, i + d = s 6 → d < n → wY_end_14 post (nI R) (nI B) ps n (nI i) (bs_cp h1 (6 * R) i) (bs_cp h2 (6 * R) i) (bs_cp h3 (6 * R) i) (bs_cp h4 (6 * R) i) l b v := by
  intro d
  induction d with
  | zero =>
    intro n i hi hn
    obtain ⟨m, rfl⟩ : ∃ m, n = m + 1 := ⟨n - 1, by omega⟩
    obtain rfl : i = s 6 := by omega
    have hle : l 6 ≤ nI (s 6) := by
      rw [el]
      exact nI_le (Nat.le_refl _) (by omega)
    refine br_t hle ⟨vp_in_nI (by omega) (by omega), nm_r (by rw [nI_clamp (by omega)]) (nm_e (nm_r (nI_1 R) ?_))⟩
    rw [nI_pred]
    exact H
  | succ d ih =>
    intro n i hi hn
    obtain ⟨m, rfl⟩ : ∃ m, n = m + 1 := ⟨n - 1, by omega⟩
    have hle : ¬ l 6 ≤ nI i := by
      rw [el]
      exact nI_ge (by omega) (by omega)
    have ea : (36 : Int32) + nI i = nI (36 + i) := nI_add 36 i
    have et : 6 * nI R + nI i = nI (6 * R + i) := by
      rw [← nI_add, ← pk_mul]
      rfl
    have ca : ((36 : Int32) + nI i).toNatClampNeg = 36 + i := by rw [ea, nI_clamp (by omega)]
    have ct : (6 * nI R + nI i).toNatClampNeg = 6 * R + i := by rw [et, nI_clamp (by omega)]
    have ia : vp_in ((36 : Int32) + nI i) 42 := by
      rw [ea]
      exact vp_in_nI (by omega) (by omega)
    have it : vp_in (6 * nI R + nI i) 42 := by
      rw [et]
      exact vp_in_nI (by omega) (by omega)
    have hu : ∀ a : Nat → Int32, upd (bs_cp a (6 * R) i) (6 * nI R + nI i).toNatClampNeg (bs_cp a (6 * R) i ((36 : Int32) + nI i).toNatClampNeg) = bs_cp a (6 * R) (i + 1) := by
      intro a
      rw [ca, ct]
      rfl
    exact br_f hle ⟨ia, it, nm_r (hu h1) ⟨ia, it, nm_r (hu h2) ⟨ia, it, nm_r (hu h3) ⟨ia, it, nm_r (hu h4) (nm_r (nI_1 i) (ih m (i + 1) (by omega) (by omega)))⟩⟩⟩⟩
theorem bs_endY (hR : R < 6) (hs : s 6 ≤ 6) (el : l 6 = nI (s 6)) (post : Int32 → SY → Prop) (H : post (nI R) (nI (R + 1), nI B, ps, bs_cp h1 (6 * R) (s 6), bs_cp h2 (6 * R) (s 6), bs_cp h3 (6 * R) (s 6), bs_cp h4 (6 * R) (s 6), upd (upd l R (l 6)) 6 0, b, v)) : wpY_end post (nI R, nI B, ps, h1, h2, h3, h4, l, b, v) := by
  have hne : ¬ nI R = 6 := by
    intro h
    have := (nI_eq (a := R) (b := 6) (by omega) (by omega)).mp h
    omega
  exact br_f hne ⟨s 6 + 1, bs_copyY_go b h1 h2 h3 h4 l v ps hR hs el post H (s 6) (s 6 + 1) 0 (by omega) (by omega)⟩
theorem bs_inv_end (I : bs_Inv B R s k1 k2 k3 k4 h1 h2 h3 h4 l) (hR : R < 6) :
    bs_Inv B (R + 1) (fun j => if j = R then s 6 else if j = 6 then 0 else s j) (bs_cp k1 (6 * R) 6) (bs_cp k2 (6 * R) 6) (bs_cp k3 (6 * R) 6) (bs_cp k4 (6 * R) 6) (bs_cp h1 (6 * R) (s 6)) (bs_cp h2 (6 * R) (s 6)) (bs_cp h3 (6 * R) (s 6)) (bs_cp h4 (6 * R) (s 6)) (upd (upd l R (l 6)) 6 0) := by
  obtain ⟨hB, _, hl, hs, ha⟩ := I
  have h6 := (hl 6 (by omega)).2
  have el := (hl 6 (by omega)).1
  refine ⟨hB, by omega, fun j hj => ?_, ?_, fun j hj i hi => ?_⟩
  · show _ = nI (if j = R then s 6 else if j = 6 then 0 else s j) ∧ (if j = R then s 6 else if j = 6 then 0 else s j) ≤ 6
    by_cases h : j = R
    · subst h
      rw [if_pos rfl, pk_un (by omega), pk_us]
      exact ⟨el, h6⟩
    · by_cases h2 : j = 6
      · subst h2
        rw [if_neg h, if_pos rfl, pk_us]
        exact ⟨rfl, by omega⟩
      · rw [if_neg h, if_neg h2, pk_un h2, pk_un h]
        exact hl j hj
  · show bs_sum _ R + (if R = R then s 6 else if R = 6 then 0 else s R) + (if 6 = R then s 6 else if 6 = 6 then 0 else s 6) ≤ 30
    rw [bs_sum_up (s := s) R (fun j hj => by
      show (if j = R then s 6 else if j = 6 then 0 else s j) = s j
      rw [if_neg (by omega), if_neg (by omega)]), if_pos rfl, if_neg (by omega), if_pos rfl]
    omega
  · have hi' : i < if j = R then s 6 else if j = 6 then 0 else s j := hi
    unfold bs_Ag
    rw [bs_cp_at k1 (by omega) 6 (by omega), bs_cp_at k2 (by omega) 6 (by omega), bs_cp_at k3 (by omega) 6 (by omega), bs_cp_at k4 (by omega) 6 (by omega), bs_cp_at h1 (by omega) (s 6) h6, bs_cp_at h2 (by omega) (s 6) h6, bs_cp_at h3 (by omega) (s 6) h6, bs_cp_at h4 (by omega) (s 6) h6]
    by_cases h : j = R
    · subst h
      rw [if_pos rfl] at hi'
      have c1 : 6 * j ≤ 6 * j + i ∧ 6 * j + i < 6 * j + 6 := by omega
      have c2 : 6 * j ≤ 6 * j + i ∧ 6 * j + i < 6 * j + s 6 := by omega
      rw [if_pos c1, if_pos c1, if_pos c1, if_pos c1, if_pos c2, if_pos c2, if_pos c2, if_pos c2, show 36 + (6 * j + i - 6 * j) = 6 * 6 + i from by omega]
      exact ha 6 (by omega) i hi'
    · rw [if_neg h] at hi'
      by_cases h2 : j = 6
      · rw [if_pos h2] at hi'
        omega
      · rw [if_neg h2] at hi'
        have hsj := (hl j hj).2
        have c1 : ¬ (6 * R ≤ 6 * j + i ∧ 6 * j + i < 6 * R + 6) := by omega
        have c2 : ¬ (6 * R ≤ 6 * j + i ∧ 6 * j + i < 6 * R + s 6) := by omega
        rw [if_neg c1, if_neg c1, if_neg c1, if_neg c1, if_neg c2, if_neg c2, if_neg c2, if_neg c2]
        exact ha j hj i hi'
end
