/-! reading numbers: the component's walks and the reference's against bs_nb, bs_rv, bs_sg -/
section
variable (B R : Int32) (b k1 k2 k3 k4 l v : Nat → Int32)
theorem bs_takeX_go (post : Int32 → SX → Prop) {p w : Nat} (hw : w ≤ 32) (hp : p + w ≤ 64) (H : post (nI (bs_nb b p w)) (B, R, nI (p + w), b, k1, k2, k3, k4, l, v)) : ∀ d n i : Nat, i + d = w → d < n → wX_takeBits_4 post (nI w) B R b k1 k2 k3 k4 l v n (nI (bs_nb b p i)) (nI i) (nI (p + i)) := by
  intro d
  induction d with
  | zero =>
    intro n i hi hn
    obtain ⟨m, rfl⟩ : ∃ m, n = m + 1 := ⟨n - 1, by omega⟩
    obtain rfl : i = w := by omega
    exact br_t (nI_le (Nat.le_refl _) (by omega)) H
  | succ d ih =>
    intro n i hi hn
    obtain ⟨m, rfl⟩ : ∃ m, n = m + 1 := ⟨n - 1, by omega⟩
    have hlt : bs_nb b p i < 2 ^ 31 := Nat.lt_of_lt_of_le (bs_nb_lt b p i) (bs_pow_lt (by omega))
    exact br_f (nI_ge (by omega) (by omega)) ⟨bs_bit_in (by omega), nm_r (bs_bit b (by omega)) (nm_r (bs_or1 hlt (bs_b_lt b (p + i))) (nm_r (nI_1 (p + i)) (nm_r (nI_1 i) (ih m (i + 1) (by omega) (by omega)))))⟩
theorem bs_takeX (post : Int32 → SX → Prop) {p w : Nat} (hw : w ≤ 32) (hp : p + w ≤ 64) (H : post (nI (bs_nb b p w)) (B, R, nI (p + w), b, k1, k2, k3, k4, l, v)) : wpX_takeBits post (B, R, nI p, b, k1, k2, k3, k4, l, v) (nI w) :=
  ⟨w + 1, bs_takeX_go B R b k1 k2 k3 k4 l v post hw hp H w (w + 1) 0 (by omega) (by omega)⟩
theorem bs_revX_go (post : Int32 → Prop) {p m : Nat} (hm : m ≤ 4) (H : post (nI (bs_rv b p m m))) : ∀ d n i : Nat, i + d = m → d < n → wX_bytesReversed_4 post (nI (bs_nb b p (8 * m))) (nI (8 * m)) n (nI (bs_rv b p m i)) (nI (8 * i)) := by
  intro d
  induction d with
  | zero =>
    intro n i hi hn
    obtain ⟨q, rfl⟩ : ∃ q, n = q + 1 := ⟨n - 1, by omega⟩
    obtain rfl : i = m := by omega
    exact br_t (nI_le (Nat.le_refl _) (by omega)) H
  | succ d ih =>
    intro n i hi hn
    obtain ⟨q, rfl⟩ : ∃ q, n = q + 1 := ⟨n - 1, by omega⟩
    have h1 : bs_nb b p (8 * m) < 2 ^ 32 := Nat.lt_of_lt_of_le (bs_nb_lt b p (8 * m)) (bs_pow_lt (by omega))
    have h2 : bs_rv b p m i < 2 ^ 24 := Nat.lt_of_lt_of_le (bs_rv_lt b p m i) (bs_pow_lt (by omega))
    have h3 : bs_nb b (p + 8 * (m - 1 - i)) 8 < 256 := bs_nb_lt b _ 8
    have e1 : (nI (bs_rv b p m i) <<< ((8 : Int32) &&& 31)) ||| ((((nI (bs_nb b p (8 * m))).toUInt32 >>> ((nI (8 * i)).toUInt32 &&& Int32.toUInt32 31)).toInt32) &&& 255) = nI (bs_rv b p m (i + 1)) := by
      rw [bs_ushr h1 (by omega), bs_byte b p (by omega), bs_or8 h2 h3]
      rfl
    exact br_f (nI_ge (by omega) (by omega)) (nm_r e1 (nm_r (nI_add (8 * i) 8) (ih q (i + 1) (by omega) (by omega))))
theorem bs_revX (post : Int32 → Prop) {p m : Nat} (hm : m ≤ 4) (H : post (nI (bs_rv b p m m))) : wpX_bytesReversed post (nI (bs_nb b p (8 * m))) (nI (8 * m)) :=
  ⟨m + 1, bs_revX_go b post hm H m (m + 1) 0 (by omega) (by omega)⟩
end
section
variable (R B at' : Int32) (h1 h2 h3 h4 l b v : Nat → Int32)
theorem bs_bitY (post : Int32 → Prop) {q : Int32} {i : Nat} (e : q = nI i) (h : i < 64) (H : post (nI (bs_b b i))) : wpY_bit post (R, B, at', h1, h2, h3, h4, l, b, v) q := by
  subst e
  refine ⟨bs_bit_in h, ?_⟩
  rw [bs_bit b h]
  exact H
theorem bs_numY_go (post : Int32 → Prop) {p w : Nat} (hw : w ≤ 32) (hp : p + w ≤ 64) (H : post (nI (bs_nb b p w))) : ∀ d n i : Nat, i + d = w → d < n → wY_number_5 post (nI p) (nI w) R B at' h1 h2 h3 h4 l b v n (nI (bs_nb b p i)) (nI i) := by
  intro d
  induction d with
  | zero =>
    intro n i hi hn
    obtain ⟨m, rfl⟩ : ∃ m, n = m + 1 := ⟨n - 1, by omega⟩
    obtain rfl : i = w := by omega
    exact br_t (nI_le (Nat.le_refl _) (by omega)) H
  | succ d ih =>
    intro n i hi hn
    obtain ⟨m, rfl⟩ : ∃ m, n = m + 1 := ⟨n - 1, by omega⟩
    refine br_f (nI_ge (by omega) (by omega)) (bs_bitY R B at' h1 h2 h3 h4 l b v _ (nI_add p i) (by omega) ?_)
    exact nm_r (bs_m2 (bs_nb b p i) (bs_b b (p + i))) (nm_r (nI_1 i) (ih m (i + 1) (by omega) (by omega)))
theorem bs_numY (post : Int32 → Prop) {x y : Int32} {p w : Nat} (ex : x = nI p) (ey : y = nI w) (hw : w ≤ 32) (hp : p + w ≤ 64) (H : post (nI (bs_nb b p w))) : wpY_number post (R, B, at', h1, h2, h3, h4, l, b, v) x y := by
  subst ex ey
  exact ⟨w + 1, bs_numY_go R B at' h1 h2 h3 h4 l b v post hw hp H w (w + 1) 0 (by omega) (by omega)⟩
theorem bs_turnY_go (post : Int32 → Prop) {p m : Nat} (hm : m ≤ 4) (hp : p + 8 * m ≤ 64) (H : post (nI (bs_rv b p m m))) : ∀ d n i : Nat, i + d = m → d < n → wY_turned_10 post (nI p) R B at' h1 h2 h3 h4 l b v n (nI (bs_rv b p m i)) (nI d + (-1)) := by
  intro d
  induction d with
  | zero =>
    intro n i hi hn
    obtain ⟨q, rfl⟩ : ∃ q, n = q + 1 := ⟨n - 1, by omega⟩
    obtain rfl : i = m := by omega
    exact br_t (by decide) H
  | succ d ih =>
    intro n i hi hn
    obtain ⟨q, rfl⟩ : ∃ q, n = q + 1 := ⟨n - 1, by omega⟩
    have hd : m - 1 - i = d := by omega
    have e0 : nI p + 8 * nI d = nI (p + 8 * d) := by
      rw [← nI_add, ← pk_mul]; rfl
    have e1 : nI (bs_rv b p m i) * 256 + nI (bs_nb b (p + 8 * d) 8) = nI (bs_rv b p m (i + 1)) := by
      rw [bs_m256]
      show nI (bs_rv b p m i * 256 + bs_nb b (p + 8 * d) 8) = nI (bs_rv b p m i * 256 + bs_nb b (p + 8 * (m - 1 - i)) 8)
      rw [hd]
    rw [pk_m1]
    refine br_f (nI_pos (by omega)) (bs_numY R B at' h1 h2 h3 h4 l b v _ (w := 8) e0 rfl (by omega) (by omega) ?_)
    exact nm_r e1 (nm_e (ih q (i + 1) (by omega) (by omega)))
theorem bs_turnY (post : Int32 → Prop) {p m : Nat} (hm : m ≤ 4) (hp : p + 8 * m ≤ 64) (H : post (nI (bs_rv b p m m))) : wpY_turned post (R, B, at', h1, h2, h3, h4, l, b, v) (nI p) (nI (8 * m)) := by
  refine ⟨by decide, nm_r (e' := nI m + (-1)) ?_ ⟨m + 1, bs_turnY_go R B at' h1 h2 h3 h4 l b v post hm hp H m (m + 1) 0 (by omega) (by omega)⟩⟩
  have := pk_div (a := 8 * m) (d := 8) (by omega) (by omega) (by omega)
  rw [show (8 * m) / 8 = m from by omega] at this
  rw [show nI (8 * m) / 8 = nI m from this, Int32.sub_eq_add_neg]
theorem bs_37Y (post : Int32 → Prop) {n w : Nat} (hw : w ≤ 32) (hn : n < 2 ^ w) (H : post (bs_sg n w)) : wY_fieldValue_37 post (nI w) (nI n) 1 R B at' h1 h2 h3 h4 l b v := by
  unfold bs_sg at H
  refine br_f (by decide) (pk_le w 0 (fun h0 => ?_) (fun h0 => pk_le 32 w (fun h32 => ?_) (fun h32 => ?_)))
  · rw [if_neg (by omega)] at H
    exact H
  · rw [if_neg (by omega)] at H
    exact H
  · have hn31 : n < 2 ^ 31 := Nat.lt_of_lt_of_le hn (bs_pow_lt (by omega))
    have e : (nI n >>> ((nI w - 1) &&& 31)) &&& 1 = nI (n / 2 ^ (w - 1) % 2) := by
      have ew : nI w - 1 = nI (w - 1) := pk_sub (b := 1) h0
      rw [ew, pk_shrN hn31 _ _ (s_l (w - 1) (by omega)), pk_andN (Nat.lt_of_le_of_lt (Nat.div_le_self _ _) (by omega)) 1 (by decide)]
    rw [e]
    refine pk_eq (n / 2 ^ (w - 1) % 2) 1 (fun h1 => ?_) (fun h1 => ?_)
    · rw [if_pos ⟨h0, h32, h1⟩] at H
      exact nm_e H
    · rw [if_neg (fun z => h1 z.2.2)] at H
      exact H
theorem bs_20Y (post : Int32 → Prop) {n w f : Nat} (hw : w ≤ 32) (hf : f ≤ 3) (hn : n < 2 ^ w) (H : post (if f % 2 = 0 then nI n else bs_sg n w)) : wY_fieldValue_20 post (nI w) (nI f) (nI n) R B at' h1 h2 h3 h4 l b v := by
  rcases (by omega : f = 0 ∨ f = 1 ∨ f = 2 ∨ f = 3) with rfl | rfl | rfl | rfl
  · exact br_f (by decide) (br_f (by decide) (br_t rfl H))
  · exact br_t (by decide) (bs_37Y R B at' h1 h2 h3 h4 l b v post hw hn H)
  · exact br_f (by decide) (br_f (by decide) (br_t rfl H))
  · exact br_f (by decide) (br_t (by decide) (bs_37Y R B at' h1 h2 h3 h4 l b v post hw hn H))
theorem bs_raw_lt {p w f : Nat} (hw : w ≤ 32) (h8 : 2 ≤ f → ∃ m, 1 ≤ m ∧ w = 8 * m) : bs_raw b p w f < 2 ^ w := by
  unfold bs_raw
  by_cases h : f ≤ 1
  · rw [if_pos h]; exact bs_nb_lt b p w
  · obtain ⟨m, hm, rfl⟩ := h8 (by omega)
    rw [if_neg h, show 8 * m / 8 = m from by omega]
    exact bs_rv_lt b p m m
theorem bs_fvY (post : Int32 → Prop) {p w f : Nat} (hw : w ≤ 32) (hf : f ≤ 3) (h8 : 2 ≤ f → ∃ m, 1 ≤ m ∧ w = 8 * m) (hp : p + w ≤ 64) (H : post (bs_fv b p w f)) : wpY_fieldValue post (R, B, at', h1, h2, h3, h4, l, b, v) (nI p) (nI w) (nI f) := by
  have hr := bs_raw_lt b (p := p) hw h8
  unfold bs_fv at H
  refine pk_le f 1 (fun h => ?_) (fun h => ?_)
  · refine bs_numY R B at' h1 h2 h3 h4 l b v _ rfl rfl hw hp ?_
    unfold bs_raw at H hr
    rw [if_pos h] at H hr
    exact bs_20Y R B at' h1 h2 h3 h4 l b v post hw hf hr H
  · obtain ⟨m, hm, rfl⟩ := h8 (by omega)
    refine bs_turnY R B at' h1 h2 h3 h4 l b v _ (by omega) hp ?_
    unfold bs_raw at H hr
    rw [if_neg (show ¬ f ≤ 1 by omega), show 8 * m / 8 = m from by omega] at H hr
    exact bs_20Y R B at' h1 h2 h3 h4 l b v post hw hf hr H
end
