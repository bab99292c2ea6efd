section
/-! rows pasted from kit/rows -/
theorem pk_us {f : Nat → Int32} {k : Nat} {x : Int32} : upd f k x k = x := if_pos rfl
theorem pk_un {f : Nat → Int32} {k j : Nat} {x : Int32} (h : j ≠ k) : upd f k x j = f j := if_neg h
theorem pk_sub {a b : Nat} (h : b ≤ a) : nI a - nI b = nI (a - b) := by
  obtain ⟨c, rfl⟩ : ∃ c, a = c + b := ⟨a - b, by omega⟩
  rw [← nI_add, Int32.add_sub_cancel, Nat.add_sub_cancel]
theorem pk_m1 (n : Nat) : nI (n + 1) + (-1) = nI n := by
  rw [← nI_1, Int32.add_assoc, show (1 : Int32) + (-1) = 0 from rfl, Int32.add_zero]
theorem pk_mul (a b : Nat) : nI a * nI b = nI (a * b) := (Int32.ofNat_mul a b).symm
theorem pk_div {a d : Nat} (ha : a < 2 ^ 31) (h0 : 0 < d) (hd : d < 2 ^ 31) : nI a / nI d = nI (a / d) := by
  apply Int32.toInt_inj.mp
  rw [lg_idiv_nonneg (by rw [nI_toInt ha]; omega) (by rw [nI_toInt hd]; omega), nI_toInt ha, nI_toInt hd, nI_toInt (Nat.lt_of_le_of_lt (Nat.div_le_self a d) ha)]
  first | rfl | exact (Int.natCast_ediv _ _).symm
theorem pk_rem {a d : Nat} (ha : a < 2 ^ 31) (h0 : 0 < d) (hd : d < 2 ^ 31) : nI a - nI a / nI d * nI d = nI (a % d) := by
  rw [pk_div ha h0 hd, pk_mul, pk_sub (Nat.div_mul_le_self a d)]
  exact congrArg nI (by have := Nat.div_add_mod' a d; omega)
theorem pk_sub_toInt {a b : Nat} (ha : a < 2 ^ 30) (hb : b < 2 ^ 30) : (nI a - nI b).toInt = (a : Int) - b := by
  rw [Int32.toInt_sub, nI_toInt (by omega), nI_toInt (by omega)]
  exact Int.bmod_eq_of_le (by omega) (by omega)
theorem pk_sneg {a b : Nat} (hb : b < 2 ^ 30) (h : a < b) : nI a - nI b < 0 := by
  rw [Int32.lt_iff_toInt_lt, pk_sub_toInt (by omega) hb, show (0 : Int32).toInt = 0 from by decide]
  omega
theorem pk_ix (x : Int32) {n : Nat} (hn : n < 2 ^ 31) : x < 0 ∨ nI n ≤ x ∨ ∃ j : Nat, j < n ∧ x = nI j := by
  by_cases h : x < 0
  · exact Or.inl h
  · obtain ⟨j, hj, rfl⟩ := nI_of h
    by_cases h2 : j < n
    · exact Or.inr (Or.inr ⟨j, h2, rfl⟩)
    · exact Or.inr (Or.inl (nI_le (by omega) hj))
theorem pk_le {x y : Int32} {A B : Prop} (a b : Nat) (f : a ≤ b → A) (g : b < a → B) (hx : x = nI a := by rfl) (hy : y = nI b := by rfl) (ha : a < 2 ^ 31 := by omega) (hb : b < 2 ^ 31 := by omega) : (x ≤ y → A) ∧ (¬ x ≤ y → B) := by
  subst hx hy
  rw [nI_leI ha hb]
  exact ⟨f, fun z => g (by omega)⟩
theorem pk_lt {x y : Int32} {A B : Prop} (a b : Nat) (f : a < b → A) (g : b ≤ a → B) (hx : x = nI a := by rfl) (hy : y = nI b := by rfl) (ha : a < 2 ^ 31 := by omega) (hb : b < 2 ^ 31 := by omega) : (x < y → A) ∧ (¬ x < y → B) := by
  subst hx hy
  rw [nI_ltI ha hb]
  exact ⟨f, fun z => g (by omega)⟩
theorem pk_eq {x y : Int32} {A B : Prop} (a b : Nat) (f : a = b → A) (g : a ≠ b → B) (hx : x = nI a := by rfl) (hy : y = nI b := by rfl) (ha : a < 2 ^ 31 := by omega) (hb : b < 2 ^ 31 := by omega) : (x = y → A) ∧ (¬ x = y → B) := by
  subst hx hy
  rw [nI_eq ha hb]
  exact ⟨f, g⟩
theorem pk_in {x : Int32} (n N : Nat) (h : n < N) (hx : x = nI n := by rfl) (hN : N < 2 ^ 31 := by omega) : vp_in x N := by
  subst hx
  exact vp_in_nI h hN
theorem pk_cl {x : Int32} (n : Nat) (hx : x = nI n := by rfl) (h : n < 2 ^ 31 := by omega) : x.toNatClampNeg = n := by
  subst hx
  exact nI_clamp h
theorem pk_tn {n : Nat} (h : n < 2 ^ 32) : (nI n).toBitVec.toNat = n := Nat.mod_eq_of_lt h
theorem pk_and (x : Int32) {m : Int32} (k : Nat) (hm : m.toBitVec.toNat = 2 ^ k - 1) : x &&& m = nI (x.toBitVec.toNat % 2 ^ k) := by
  apply Int32.toBitVec_inj.mp
  apply BitVec.eq_of_toNat_eq
  rw [Int32.toBitVec_and, BitVec.toNat_and, hm, Nat.and_two_pow_sub_one_eq_mod]
  show _ = (BitVec.ofNat 32 _).toNat
  rw [BitVec.toNat_ofNat]
  exact (Nat.mod_eq_of_lt (Nat.lt_of_le_of_lt (Nat.mod_le _ _) x.toBitVec.isLt)).symm
theorem pk_andN {n : Nat} (h : n < 2 ^ 32) {m : Int32} (k : Nat) (hm : m.toBitVec.toNat = 2 ^ k - 1) : nI n &&& m = nI (n % 2 ^ k) := by
  rw [pk_and _ k hm, pk_tn h]
theorem pk_andE (x : Int32) {m : Int32} (k : Nat) (hm : m.toBitVec.toNat = 2 ^ k - 1) : ∃ j : Nat, j < 2 ^ k ∧ x &&& m = nI j := ⟨_, Nat.mod_lt _ (Nat.two_pow_pos k), pk_and x k hm⟩
theorem pk_shl (a s : Int32) (k : Nat) (hs : (s.toBitVec.smod 32).toNat = k) : (a <<< s).toBitVec.toNat = a.toBitVec.toNat * 2 ^ k % 2 ^ 32 := by
  show (a.toBitVec <<< (s.toBitVec.smod 32).toNat).toNat = _
  rw [hs, BitVec.toNat_shiftLeft, Nat.shiftLeft_eq]
theorem pk_shlN {n : Nat} (s : Int32) (k : Nat) (hs : (s.toBitVec.smod 32).toNat = k) (h : n * 2 ^ k < 2 ^ 32) : nI n <<< s = nI (n * 2 ^ k) := by
  apply Int32.toBitVec_inj.mp
  apply BitVec.eq_of_toNat_eq
  have hn : n < 2 ^ 32 := Nat.lt_of_le_of_lt (Nat.le_mul_of_pos_right n (Nat.two_pow_pos k)) h
  rw [pk_shl _ _ k hs, pk_tn hn, pk_tn h, Nat.mod_eq_of_lt h]
theorem pk_shr (a s : Int32) (k : Nat) (hs : (s.toBitVec.smod 32).toNat = k) : (a >>> s).toInt = a.toInt >>> k := by
  show (a.toBitVec.sshiftRight (s.toBitVec.smod 32).toNat).toInt = _
  rw [hs, BitVec.toInt_sshiftRight]
  rfl
theorem pk_shrN {n : Nat} (h : n < 2 ^ 31) (s : Int32) (k : Nat) (hs : (s.toBitVec.smod 32).toNat = k) : nI n >>> s = nI (n / 2 ^ k) := by
  apply Int32.toInt_inj.mp
  have h2 : n / 2 ^ k ≤ n := Nat.div_le_self _ _
  rw [pk_shr _ _ k hs, nI_toInt h, nI_toInt (by omega), Int.shiftRight_eq_div_pow]
  rfl
theorem pk_ushr (x s : Int32) (k : Nat) (hs : ((s.toUInt32 &&& Int32.toUInt32 31).toBitVec % 32).toNat = k) : (x.toUInt32 >>> (s.toUInt32 &&& Int32.toUInt32 31)).toInt32.toBitVec.toNat = x.toBitVec.toNat / 2 ^ k := by
  have e : (x.toUInt32 >>> (s.toUInt32 &&& Int32.toUInt32 31)).toInt32.toBitVec = x.toBitVec >>> k := by
    rw [← hs]
    exact UInt32.toBitVec_shiftRight _ _
  rw [e, BitVec.toNat_ushiftRight, Nat.shiftRight_eq_div_pow]
theorem pk_ushrN {n : Nat} (hn : n < 2 ^ 32) (s : Int32) (k : Nat) (hs : ((s.toUInt32 &&& Int32.toUInt32 31).toBitVec % 32).toNat = k) : ((nI n).toUInt32 >>> (s.toUInt32 &&& Int32.toUInt32 31)).toInt32 = nI (n / 2 ^ k) := by
  apply Int32.toBitVec_inj.mp
  apply BitVec.eq_of_toNat_eq
  rw [pk_ushr _ s k hs, pk_tn hn, pk_tn (Nat.lt_of_le_of_lt (Nat.div_le_self _ _) hn)]
theorem sb_shr0 (x : Int32) : x >>> ((0 : Int32) &&& 31) = x := by
  rw [show ((0 : Int32) &&& 31) = 0 by decide]
  simp
theorem sb_shl0 (x : Int32) : x <<< ((0 : Int32) &&& 31) = x := by
  rw [show ((0 : Int32) &&& 31) = 0 by decide]
  simp
theorem sb_cl0 : (0 : Int32).toNatClampNeg = 0 := by decide
theorem s_l : ∀ n, n < 32 → ((nI n &&& 31).toBitVec.smod 32).toNat = n := by decide +kernel
theorem s_u : ∀ n, n < 32 → (((nI n).toUInt32 &&& Int32.toUInt32 31).toBitVec % 32).toNat = n := by decide +kernel
theorem nx_and (a b : Nat) : nI a &&& nI b = nI (a &&& b) := by
  apply Int32.toBitVec_inj.1
  show BitVec.ofNat 32 a &&& BitVec.ofNat 32 b = BitVec.ofNat 32 (a &&& b)
  apply BitVec.eq_of_getLsbD_eq
  intro i hi
  simp [hi]
end
section
/-! the bits of the buffer, the numbers read from them -/
theorem bs_or (a b : Nat) : nI a ||| nI b = nI (a ||| b) := by
  apply Int32.toBitVec_inj.1
  show BitVec.ofNat 32 a ||| BitVec.ofNat 32 b = BitVec.ofNat 32 (a ||| b)
  apply BitVec.eq_of_getLsbD_eq
  intro i hi
  simp [hi]
def bs_b (b : Nat → Int32) (p : Nat) : Nat := (b (p / 8) >>> ((7 - nI (p % 8)) &&& 31)).toBitVec.toNat % 2
theorem bs_b_lt (b : Nat → Int32) (p : Nat) : bs_b b p < 2 := Nat.mod_lt _ (by decide)
theorem bs_bit (b : Nat → Int32) {p : Nat} (h : p < 64) : ((b (nI p >>> ((3 : Int32) &&& 31)).toNatClampNeg) >>> ((7 - (nI p &&& 7)) &&& 31)) &&& 1 = nI (bs_b b p) := by
  rw [pk_shrN (by omega) _ 3 (by decide), pk_andN (by omega) 3 (by decide), nI_clamp (by omega), pk_and _ 1 (by decide)]
  rfl
theorem bs_bit_in {p : Nat} (h : p < 64) : vp_in (nI p >>> ((3 : Int32) &&& 31)) 8 := by
  rw [pk_shrN (by omega) _ 3 (by decide)]
  exact vp_in_nI (by omega) (by omega)
def bs_nb (b : Nat → Int32) (p : Nat) : Nat → Nat
  | 0 => 0
  | w + 1 => bs_nb b p w * 2 + bs_b b (p + w)
theorem bs_nb_lt (b : Nat → Int32) (p w : Nat) : bs_nb b p w < 2 ^ w := by
  induction w with
  | zero => exact Nat.one_pos
  | succ w ih =>
    have := bs_b_lt b (p + w)
    rw [Nat.pow_succ]
    show bs_nb b p w * 2 + bs_b b (p + w) < _
    omega
theorem bs_nb_add (b : Nat → Int32) (p a c : Nat) : bs_nb b p (a + c) = bs_nb b p a * 2 ^ c + bs_nb b (p + a) c := by
  induction c with
  | zero => exact (Nat.mul_one _).symm
  | succ c ih =>
    show bs_nb b p (a + c) * 2 + bs_b b (p + (a + c)) = _ + (bs_nb b (p + a) c * 2 + bs_b b (p + a + c))
    rw [ih, Nat.pow_succ, Nat.add_mul, ← Nat.mul_assoc, Nat.add_assoc p a c, Nat.add_assoc]
theorem bs_pow_lt {a c : Nat} (h : a ≤ c) : 2 ^ a ≤ 2 ^ c := Nat.pow_le_pow_right (by decide) h
theorem bs_or1 {a c : Nat} (ha : a < 2 ^ 31) (hc : c < 2) : (nI a <<< ((1 : Int32) &&& 31)) ||| nI c = nI (a * 2 + c) := by
  rw [pk_shlN _ 1 (by decide) (by omega), bs_or]
  have := Nat.two_pow_add_eq_or_of_lt (i := 1) hc a
  rw [Nat.mul_comm a (2 ^ 1), ← this, Nat.mul_comm (2 ^ 1) a]
theorem bs_or8 {a c : Nat} (ha : a < 2 ^ 24) (hc : c < 256) : (nI a <<< ((8 : Int32) &&& 31)) ||| nI c = nI (a * 256 + c) := by
  rw [pk_shlN _ 8 (by decide) (by omega), bs_or]
  have := Nat.two_pow_add_eq_or_of_lt (i := 8) hc a
  rw [Nat.mul_comm a (2 ^ 8), ← this, Nat.mul_comm (2 ^ 8) a]
theorem bs_m2 (a c : Nat) : nI a * 2 + nI c = nI (a * 2 + c) := by
  rw [← nI_add, ← pk_mul]; rfl
theorem bs_m256 (a c : Nat) : nI a * 256 + nI c = nI (a * 256 + c) := by
  rw [← nI_add, ← pk_mul]; rfl
/-- the bytes turned: after i of m bytes -/
def bs_rv (b : Nat → Int32) (p m : Nat) : Nat → Nat
  | 0 => 0
  | i + 1 => bs_rv b p m i * 256 + bs_nb b (p + 8 * (m - 1 - i)) 8
theorem bs_rv_lt (b : Nat → Int32) (p m i : Nat) : bs_rv b p m i < 2 ^ (8 * i) := by
  induction i with
  | zero => exact Nat.one_pos
  | succ i ih =>
    have h1 := bs_nb_lt b (p + 8 * (m - 1 - i)) 8
    rw [Nat.mul_succ, Nat.pow_add]
    show bs_rv b p m i * 256 + bs_nb b (p + 8 * (m - 1 - i)) 8 < _
    generalize 2 ^ (8 * i) = z at *
    omega
theorem bs_byte (b : Nat → Int32) (p : Nat) {m i : Nat} (h : i < m) : bs_nb b p (8 * m) / 2 ^ (8 * i) % 256 = bs_nb b (p + 8 * (m - 1 - i)) 8 := by
  obtain ⟨q, rfl⟩ : ∃ q, m = (q + 1) + i := ⟨m - 1 - i, by omega⟩
  have e1 : bs_nb b p (8 * ((q + 1) + i)) = bs_nb b p (8 * q + 8) * 2 ^ (8 * i) + bs_nb b (p + (8 * q + 8)) (8 * i) := by
    rw [← bs_nb_add]
    exact congrArg _ (by omega)
  have e2 : bs_nb b p (8 * q + 8) = bs_nb b p (8 * q) * 2 ^ 8 + bs_nb b (p + 8 * q) 8 := bs_nb_add b p (8 * q) 8
  have h1 := bs_nb_lt b (p + (8 * q + 8)) (8 * i)
  have h2 := bs_nb_lt b (p + 8 * q) 8
  rw [e1, Nat.mul_comm _ (2 ^ (8 * i)), Nat.mul_add_div (Nat.two_pow_pos _), Nat.div_eq_of_lt h1, e2, show q + 1 + i - 1 - i = q from by omega]
  omega
theorem bs_ushr {n j : Nat} (hn : n < 2 ^ 32) (hj : j < 32) : (((nI n).toUInt32 >>> ((nI j).toUInt32 &&& Int32.toUInt32 31)).toInt32) &&& 255 = nI (n / 2 ^ j % 256) := by
  rw [pk_ushrN hn _ j (s_u j hj), pk_andN (Nat.lt_of_le_of_lt (Nat.div_le_self _ _) hn) 8 (by decide)]
/-! the sign -/
theorem bs_ti {m : Nat} (h : m < 2 ^ 32) : (nI m).toInt = if m < 2 ^ 31 then (m : Int) else (m : Int) - 2 ^ 32 := by
  have e : (nI m).toInt = (nI m).toBitVec.toInt := rfl
  rw [e, BitVec.toInt_eq_toNat_cond, pk_tn h]
  by_cases h2 : m < 2 ^ 31
  · rw [if_pos h2, if_pos (by omega)]
  · rw [if_neg h2, if_neg (by omega)]
    rfl
def bs_sg (n w : Nat) : Int32 := if 0 < w ∧ w < 32 ∧ n / 2 ^ (w - 1) % 2 = 1 then nI n - ((1 : Int32) <<< (nI w &&& 31)) else nI n
theorem bs_sgX {n w : Nat} (hw : w ≤ 32) (hn : n < 2 ^ w) : (nI n <<< ((32 - nI w) &&& 31)) >>> ((32 - nI w) &&& 31) = bs_sg n w := by
  have e0 : (32 : Int32) - nI w = nI (32 - w) := pk_sub (a := 32) hw
  rw [e0]
  unfold bs_sg
  rcases Nat.eq_zero_or_pos w with rfl | h0
  · have : n = 0 := by omega
    subst this
    decide
  rcases Nat.eq_or_lt_of_le hw with rfl | h32
  · rw [if_neg (by omega)]
    exact (sb_shr0 _).trans (sb_shl0 _)
  have hs := s_l (32 - w) (by omega)
  have hpw : 2 ^ w = 2 ^ (w - 1) * 2 := by
    rw [← Nat.pow_succ]; exact congrArg _ (by omega)
  have hp32 : 2 ^ w * 2 ^ (32 - w) = 2 ^ 32 := by
    rw [← Nat.pow_add]; exact congrArg _ (by omega)
  have hp31 : 2 ^ (w - 1) * 2 ^ (32 - w) = 2 ^ 31 := by
    rw [← Nat.pow_add]; exact congrArg _ (by omega)
  have hd : 0 < 2 ^ (32 - w) := Nat.two_pow_pos _
  have hm : n * 2 ^ (32 - w) < 2 ^ 32 := by
    rw [← hp32]; exact Nat.mul_lt_mul_of_pos_right hn hd
  have hw31 : 2 ^ w ≤ 2 ^ 31 := bs_pow_lt (by omega)
  rw [pk_shlN _ _ hs hm]
  by_cases hb : n < 2 ^ (w - 1)
  · have hq : n / 2 ^ (w - 1) = 0 := Nat.div_eq_of_lt hb
    rw [if_neg (by rw [hq]; omega), pk_shrN (by rw [← hp31]; exact Nat.mul_lt_mul_of_pos_right hb hd) _ _ hs, Nat.mul_div_cancel _ hd]
  · have hq : n / 2 ^ (w - 1) = 1 := by
      have : n = 2 ^ (w - 1) * 1 + (n - 2 ^ (w - 1)) := by omega
      rw [this, Nat.mul_add_div (Nat.two_pow_pos _), Nat.div_eq_of_lt (by omega)]
    rw [if_pos ⟨h0, h32, by rw [hq]⟩]
    have hs2 := s_l w h32
    have e1 : (1 : Int32) <<< (nI w &&& 31) = nI (2 ^ w) := by
      have := pk_shlN (n := 1) (nI w &&& 31) w hs2 (by omega)
      rw [Nat.one_mul] at this
      exact this
    rw [e1]
    apply Int32.toInt_inj.mp
    have hge : ¬ n * 2 ^ (32 - w) < 2 ^ 31 := by
      rw [← hp31]
      exact Nat.not_lt.mpr (Nat.mul_le_mul_right _ (by omega))
    rw [pk_shr _ _ _ hs, bs_ti hm, if_neg hge, Int32.toInt_sub, nI_toInt (n := n) (by omega)]
    have e2 : ((n * 2 ^ (32 - w) : Nat) : Int) - 2 ^ 32 = ((n : Int) - ((2 ^ w : Nat) : Int)) * ((2 ^ (32 - w) : Nat) : Int) := by
      rw [Int.sub_mul, ← Int.natCast_mul, ← Int.natCast_mul, hp32]
      rfl
    rw [e2, Int.shiftRight_eq_div_pow, Int.mul_ediv_cancel _ (by omega)]
    have e3 : (nI (2 ^ w)).toInt = ((2 ^ w : Nat) : Int).bmod (2 ^ 32) := by
      have e : (nI (2 ^ w)).toInt = (nI (2 ^ w)).toBitVec.toInt := rfl
      rw [e, BitVec.toInt_eq_toNat_bmod, pk_tn (by omega)]
    rw [e3, Int.sub_bmod_bmod]
    exact (Int.bmod_eq_of_le (by omega) (by omega)).symm
/-- what a field reads -/
def bs_raw (b : Nat → Int32) (p w f : Nat) : Nat := if f ≤ 1 then bs_nb b p w else bs_rv b p (w / 8) (w / 8)
def bs_fv (b : Nat → Int32) (p w f : Nat) : Int32 := if f % 2 = 0 then nI (bs_raw b p w f) else bs_sg (bs_raw b p w f) w
end
section
/-! reading numbers: the component's walks and the reference's against bs_nb, bs_rv, bs_sg -/
section
variable (B R : Int32) (b k1 k2 k3 k4 l v : Nat → Int32)
theorem bs_takeX_go (post : Int32 → SX → Prop) {p w : Nat} (hw : w ≤ 32) (hp : p + w ≤ 64) (H : post (nI (bs_nb b p w)) (B, R, nI (p + w), b, k1, k2, k3, k4, l, v)) : ∀ d n i : Nat, i + d = w → d < n → wX_takeBits_4 post (nI w) B R b k1 k2 k3 k4 l v n (nI (bs_nb b p i)) (nI i) (nI (p + i)) := by
  intro d
  induction d with
  | zero =>
    intro n i hi hn
    obtain ⟨m, rfl⟩ : ∃ m, n = m + 1 := ⟨n - 1, by omega⟩
    obtain rfl : i = w := by omega
    exact br_t (nI_le (Nat.le_refl _) (by omega)) H
  | succ d ih =>
    intro n i hi hn
    obtain ⟨m, rfl⟩ : ∃ m, n = m + 1 := ⟨n - 1, by omega⟩
    have hlt : bs_nb b p i < 2 ^ 31 := Nat.lt_of_lt_of_le (bs_nb_lt b p i) (bs_pow_lt (by omega))
    exact br_f (nI_ge (by omega) (by omega)) ⟨bs_bit_in (by omega), nm_r (bs_bit b (by omega)) (nm_r (bs_or1 hlt (bs_b_lt b (p + i))) (nm_r (nI_1 (p + i)) (nm_r (nI_1 i) (ih m (i + 1) (by omega) (by omega)))))⟩
theorem bs_takeX (post : Int32 → SX → Prop) {p w : Nat} (hw : w ≤ 32) (hp : p + w ≤ 64) (H : post (nI (bs_nb b p w)) (B, R, nI (p + w), b, k1, k2, k3, k4, l, v)) : wpX_takeBits post (B, R, nI p, b, k1, k2, k3, k4, l, v) (nI w) :=
  ⟨w + 1, bs_takeX_go B R b k1 k2 k3 k4 l v post hw hp H w (w + 1) 0 (by omega) (by omega)⟩
theorem bs_revX_go (post : Int32 → Prop) {p m : Nat} (hm : m ≤ 4) (H : post (nI (bs_rv b p m m))) : ∀ d n i : Nat, i + d = m → d < n → wX_bytesReversed_4 post (nI (bs_nb b p (8 * m))) (nI (8 * m)) n (nI (bs_rv b p m i)) (nI (8 * i)) := by
  intro d
  induction d with
  | zero =>
    intro n i hi hn
    obtain ⟨q, rfl⟩ : ∃ q, n = q + 1 := ⟨n - 1, by omega⟩
    obtain rfl : i = m := by omega
    exact br_t (nI_le (Nat.le_refl _) (by omega)) H
  | succ d ih =>
    intro n i hi hn
    obtain ⟨q, rfl⟩ : ∃ q, n = q + 1 := ⟨n - 1, by omega⟩
    have h1 : bs_nb b p (8 * m) < 2 ^ 32 := Nat.lt_of_lt_of_le (bs_nb_lt b p (8 * m)) (bs_pow_lt (by omega))
    have h2 : bs_rv b p m i < 2 ^ 24 := Nat.lt_of_lt_of_le (bs_rv_lt b p m i) (bs_pow_lt (by omega))
    have h3 : bs_nb b (p + 8 * (m - 1 - i)) 8 < 256 := bs_nb_lt b _ 8
    have e1 : (nI (bs_rv b p m i) <<< ((8 : Int32) &&& 31)) ||| ((((nI (bs_nb b p (8 * m))).toUInt32 >>> ((nI (8 * i)).toUInt32 &&& Int32.toUInt32 31)).toInt32) &&& 255) = nI (bs_rv b p m (i + 1)) := by
      rw [bs_ushr h1 (by omega), bs_byte b p (by omega), bs_or8 h2 h3]
      rfl
    exact br_f (nI_ge (by omega) (by omega)) (nm_r e1 (nm_r (nI_add (8 * i) 8) (ih q (i + 1) (by omega) (by omega))))
theorem bs_revX (post : Int32 → Prop) {p m : Nat} (hm : m ≤ 4) (H : post (nI (bs_rv b p m m))) : wpX_bytesReversed post (nI (bs_nb b p (8 * m))) (nI (8 * m)) :=
  ⟨m + 1, bs_revX_go b post hm H m (m + 1) 0 (by omega) (by omega)⟩
end
section
variable (R B at' : Int32) (h1 h2 h3 h4 l b v : Nat → Int32)
theorem bs_bitY (post : Int32 → Prop) {q : Int32} {i : Nat} (e : q = nI i) (h : i < 64) (H : post (nI (bs_b b i))) : wpY_bit post (R, B, at', h1, h2, h3, h4, l, b, v) q := by
  subst e
  refine ⟨bs_bit_in h, ?_⟩
  rw [bs_bit b h]
  exact H
theorem bs_numY_go (post : Int32 → Prop) {p w : Nat} (hw : w ≤ 32) (hp : p + w ≤ 64) (H : post (nI (bs_nb b p w))) : ∀ d n i : Nat, i + d = w → d < n → wY_number_5 post (nI p) (nI w) R B at' h1 h2 h3 h4 l b v n (nI (bs_nb b p i)) (nI i) := by
  intro d
  induction d with
  | zero =>
    intro n i hi hn
    obtain ⟨m, rfl⟩ : ∃ m, n = m + 1 := ⟨n - 1, by omega⟩
    obtain rfl : i = w := by omega
    exact br_t (nI_le (Nat.le_refl _) (by omega)) H
  | succ d ih =>
    intro n i hi hn
    obtain ⟨m, rfl⟩ : ∃ m, n = m + 1 := ⟨n - 1, by omega⟩
    refine br_f (nI_ge (by omega) (by omega)) (bs_bitY R B at' h1 h2 h3 h4 l b v _ (nI_add p i) (by omega) ?_)
    exact nm_r (bs_m2 (bs_nb b p i) (bs_b b (p + i))) (nm_r (nI_1 i) (ih m (i + 1) (by omega) (by omega)))
theorem bs_numY (post : Int32 → Prop) {x y : Int32} {p w : Nat} (ex : x = nI p) (ey : y = nI w) (hw : w ≤ 32) (hp : p + w ≤ 64) (H : post (nI (bs_nb b p w))) : wpY_number post (R, B, at', h1, h2, h3, h4, l, b, v) x y := by
  subst ex ey
  exact ⟨w + 1, bs_numY_go R B at' h1 h2 h3 h4 l b v post hw hp H w (w + 1) 0 (by omega) (by omega)⟩
theorem bs_turnY_go (post : Int32 → Prop) {p m : Nat} (hm : m ≤ 4) (hp : p + 8 * m ≤ 64) (H : post (nI (bs_rv b p m m))) : ∀ d n i : Nat, i + d = m → d < n → wY_turned_10 post (nI p) R B at' h1 h2 h3 h4 l b v n (nI (bs_rv b p m i)) (nI d + (-1)) := by
  intro d
  induction d with
  | zero =>
    intro n i hi hn
    obtain ⟨q, rfl⟩ : ∃ q, n = q + 1 := ⟨n - 1, by omega⟩
    obtain rfl : i = m := by omega
    exact br_t (by decide) H
  | succ d ih =>
    intro n i hi hn
    obtain ⟨q, rfl⟩ : ∃ q, n = q + 1 := ⟨n - 1, by omega⟩
    have hd : m - 1 - i = d := by omega
    have e0 : nI p + 8 * nI d = nI (p + 8 * d) := by
      rw [← nI_add, ← pk_mul]; rfl
    have e1 : nI (bs_rv b p m i) * 256 + nI (bs_nb b (p + 8 * d) 8) = nI (bs_rv b p m (i + 1)) := by
      rw [bs_m256]
      show nI (bs_rv b p m i * 256 + bs_nb b (p + 8 * d) 8) = nI (bs_rv b p m i * 256 + bs_nb b (p + 8 * (m - 1 - i)) 8)
      rw [hd]
    rw [pk_m1]
    refine br_f (nI_pos (by omega)) (bs_numY R B at' h1 h2 h3 h4 l b v _ (w := 8) e0 rfl (by omega) (by omega) ?_)
    exact nm_r e1 (nm_e (ih q (i + 1) (by omega) (by omega)))
theorem bs_turnY (post : Int32 → Prop) {p m : Nat} (hm : m ≤ 4) (hp : p + 8 * m ≤ 64) (H : post (nI (bs_rv b p m m))) : wpY_turned post (R, B, at', h1, h2, h3, h4, l, b, v) (nI p) (nI (8 * m)) := by
  refine ⟨by decide, nm_r (e' := nI m + (-1)) ?_ ⟨m + 1, bs_turnY_go R B at' h1 h2 h3 h4 l b v post hm hp H m (m + 1) 0 (by omega) (by omega)⟩⟩
  have := pk_div (a := 8 * m) (d := 8) (by omega) (by omega) (by omega)
  rw [show (8 * m) / 8 = m from by omega] at this
  rw [show nI (8 * m) / 8 = nI m from this, Int32.sub_eq_add_neg]
theorem bs_37Y (post : Int32 → Prop) {n w : Nat} (hw : w ≤ 32) (hn : n < 2 ^ w) (H : post (bs_sg n w)) : wY_fieldValue_37 post (nI w) (nI n) 1 R B at' h1 h2 h3 h4 l b v := by
  unfold bs_sg at H
  refine br_f (by decide) (pk_le w 0 (fun h0 => ?_) (fun h0 => pk_le 32 w (fun h32 => ?_) (fun h32 => ?_)))
  · rw [if_neg (by omega)] at H
    exact H
  · rw [if_neg (by omega)] at H
    exact H
  · have hn31 : n < 2 ^ 31 := Nat.lt_of_lt_of_le hn (bs_pow_lt (by omega))
    have e : (nI n >>> ((nI w - 1) &&& 31)) &&& 1 = nI (n / 2 ^ (w - 1) % 2) := by
      have ew : nI w - 1 = nI (w - 1) := pk_sub (b := 1) h0
      rw [ew, pk_shrN hn31 _ _ (s_l (w - 1) (by omega)), pk_andN (Nat.lt_of_le_of_lt (Nat.div_le_self _ _) (by omega)) 1 (by decide)]
    rw [e]
    refine pk_eq (n / 2 ^ (w - 1) % 2) 1 (fun h1 => ?_) (fun h1 => ?_)
    · rw [if_pos ⟨h0, h32, h1⟩] at H
      exact nm_e H
    · rw [if_neg (fun z => h1 z.2.2)] at H
      exact H
theorem bs_20Y (post : Int32 → Prop) {n w f : Nat} (hw : w ≤ 32) (hf : f ≤ 3) (hn : n < 2 ^ w) (H : post (if f % 2 = 0 then nI n else bs_sg n w)) : wY_fieldValue_20 post (nI w) (nI f) (nI n) R B at' h1 h2 h3 h4 l b v := by
  rcases (by omega : f = 0 ∨ f = 1 ∨ f = 2 ∨ f = 3) with rfl | rfl | rfl | rfl
  · exact br_f (by decide) (br_f (by decide) (br_t rfl H))
  · exact br_t (by decide) (bs_37Y R B at' h1 h2 h3 h4 l b v post hw hn H)
  · exact br_f (by decide) (br_f (by decide) (br_t rfl H))
  · exact br_f (by decide) (br_t (by decide) (bs_37Y R B at' h1 h2 h3 h4 l b v post hw hn H))
theorem bs_raw_lt {p w f : Nat} (hw : w ≤ 32) (h8 : 2 ≤ f → ∃ m, 1 ≤ m ∧ w = 8 * m) : bs_raw b p w f < 2 ^ w := by
  unfold bs_raw
  by_cases h : f ≤ 1
  · rw [if_pos h]; exact bs_nb_lt b p w
  · obtain ⟨m, hm, rfl⟩ := h8 (by omega)
    rw [if_neg h, show 8 * m / 8 = m from by omega]
    exact bs_rv_lt b p m m
theorem bs_fvY (post : Int32 → Prop) {p w f : Nat} (hw : w ≤ 32) (hf : f ≤ 3) (h8 : 2 ≤ f → ∃ m, 1 ≤ m ∧ w = 8 * m) (hp : p + w ≤ 64) (H : post (bs_fv b p w f)) : wpY_fieldValue post (R, B, at', h1, h2, h3, h4, l, b, v) (nI p) (nI w) (nI f) := by
  have hr := bs_raw_lt b (p := p) hw h8
  unfold bs_fv at H
  refine pk_le f 1 (fun h => ?_) (fun h => ?_)
  · refine bs_numY R B at' h1 h2 h3 h4 l b v _ rfl rfl hw hp ?_
    unfold bs_raw at H hr
    rw [if_pos h] at H hr
    exact bs_20Y R B at' h1 h2 h3 h4 l b v post hw hf hr H
  · obtain ⟨m, hm, rfl⟩ := h8 (by omega)
    refine bs_turnY R B at' h1 h2 h3 h4 l b v _ (by omega) hp ?_
    unfold bs_raw at H hr
    rw [if_neg (show ¬ f ≤ 1 by omega), show 8 * m / 8 = m from by omega] at H hr
    exact bs_20Y R B at' h1 h2 h3 h4 l b v post hw hf hr H
end
end
section
/-! one segment: the component's walk and the reference's end alike -/
theorem bs_bl {B p : Nat} (hp : p ≤ 8 * B) : nI B * 8 - nI p = nI (8 * B - p) := by
  have e : nI B * 8 = nI (8 * B) := by
    rw [Nat.mul_comm]
    exact pk_mul B 8
  rw [e, pk_sub hp]
theorem bs_bl' {B p : Nat} (hp : p ≤ 8 * B) : 8 * nI B - nI p = nI (8 * B - p) := by
  have e : 8 * nI B = nI (8 * B) := pk_mul 8 B
  rw [e, pk_sub hp]
/-- a segment as the calls append it -/
def bs_ok (a1 a2 a3 a4 : Int32) : Prop :=
  (a1 = 0 ∧ ∃ w, w ≤ 16 ∧ a2 = nI w) ∨
  (a1 = 1 ∧ ∃ x w f, x < 4 ∧ w ≤ 32 ∧ f ≤ 3 ∧ (2 ≤ f → ∃ m, 1 ≤ m ∧ w = 8 * m) ∧ a2 = nI x ∧ a3 = nI w ∧ a4 = nI f) ∨
  (a1 = 2 ∧ ∃ x y, x < 4 ∧ y < 4 ∧ a2 = nI x ∧ a3 = nI y) ∨
  (a1 = 3 ∧ ∃ y, y < 4 ∧ a2 = nI y) ∨
  (a1 = 4 ∧ ∃ x y, x < 4 ∧ y < 4 ∧ a2 = nI x ∧ a3 = nI y) ∨
  (a1 = 5 ∧ ∃ x, x < 4 ∧ a2 = nI x)
section
variable {B R p : Nat} (b k1 k2 k3 k4 h1 h2 h3 h4 l v : Nat → Int32)
theorem bs_leftX (hp : p ≤ 8 * B) (post : Int32 → Prop) (H : post (nI (8 * B - p))) : wpX_bitsLeft post (nI B, nI R, nI p, b, k1, k2, k3, k4, l, v) := by
  show post (nI B * 8 - nI p)
  rw [bs_bl hp]
  exact H
theorem bs_litX (hB : B ≤ 8) (hp : p ≤ 8 * B) {w : Nat} (hw : w ≤ 16) {x y : Int32} (ex : x = nI w) (post : Int32 → SX → Prop)
    (c0 : 8 * B - p < w → post 0 (nI B, nI R, nI p, b, k1, k2, k3, k4, l, v)) (c1 : w ≤ 8 * B - p → nI (bs_nb b p w) = y → post 1 (nI B, nI R, nI (p + w), b, k1, k2, k3, k4, l, v)) (c2 : w ≤ 8 * B - p → ¬ nI (bs_nb b p w) = y → post 0 (nI B, nI R, nI (p + w), b, k1, k2, k3, k4, l, v)) :
    wpX_literalFits post (nI B, nI R, nI p, b, k1, k2, k3, k4, l, v) x y := by
  subst ex
  unfold wpX_literalFits
  refine bs_leftX b k1 k2 k3 k4 l v hp _ ?_
  exact (pk_lt (8 * B - p) w c0 (fun h => bs_takeX (nI B) (nI R) b k1 k2 k3 k4 l v _ (p := p) (w := w) (by omega) (by omega) (br_c (c1 h) (c2 h))))
theorem bs_31X {x w f n : Nat} (hx : x < 4) (hw : w ≤ 32) (hf : f ≤ 3) (hn : n < 2 ^ w) (post : Int32 → SX → Prop)
    (H : post 1 (nI B, nI R, nI p, b, k1, k2, k3, k4, l, upd v x (if f % 2 = 0 then nI n else bs_sg n w))) : wX_fieldFits_31 post (nI x) (nI w) (nI f) (nI n) (nI B) (nI R) (nI p) b k1 k2 k3 k4 l v := by
  have e : nI f &&& 1 = nI (f % 2) := pk_andN (by omega) 1 (by decide)
  have ec : (nI x).toNatClampNeg = x := nI_clamp (by omega)
  by_cases h : f % 2 = 0
  · rw [if_pos h] at H
    exact br_t (by rw [e, h]; rfl) ⟨vp_in_nI hx (by omega), nm_r (by rw [ec]) H⟩
  · rw [if_neg h] at H
    refine br_f (by rw [e, show f % 2 = 1 from by omega]; decide) ?_
    exact nm_e ⟨vp_in_nI hx (by omega), nm_r (by rw [ec, bs_sgX hw hn]) H⟩
theorem bs_f2 : ∀ f, f < 4 → ((nI f &&& 2 = 0) ↔ f ≤ 1) := by decide +kernel
theorem bs_fieldX (hB : B ≤ 8) (hp : p ≤ 8 * B) {x w f : Nat} (hx : x < 4) (hw : w ≤ 32) (hf : f ≤ 3) (h8 : 2 ≤ f → ∃ m, 1 ≤ m ∧ w = 8 * m) {a2 a3 a4 : Int32} (e2 : a2 = nI x) (e3 : a3 = nI w) (e4 : a4 = nI f) (post : Int32 → SX → Prop)
    (c0 : 8 * B - p < w → post 0 (nI B, nI R, nI p, b, k1, k2, k3, k4, l, v)) (c1 : w ≤ 8 * B - p → post 1 (nI B, nI R, nI (p + w), b, k1, k2, k3, k4, l, upd v x (bs_fv b p w f))) : wpX_fieldFits post (nI B, nI R, nI p, b, k1, k2, k3, k4, l, v) a2 a3 a4 := by
  subst e2 e3 e4
  have hr := bs_raw_lt b (p := p) hw h8
  unfold bs_fv at c1
  unfold bs_raw at c1 hr
  unfold wpX_fieldFits
  refine bs_leftX b k1 k2 k3 k4 l v hp _ ?_
  refine (pk_le w (8 * B - p) (fun h => bs_takeX (nI B) (nI R) b k1 k2 k3 k4 l v _ (p := p) (w := w) (by omega) (by omega) ?_) c0)
  have c := c1 h
  by_cases hf1 : f ≤ 1
  · rw [if_pos hf1] at c hr
    exact br_t ((bs_f2 f (by omega)).mpr hf1) (bs_31X b k1 k2 k3 k4 l v hx hw hf hr post c)
  · obtain ⟨m, hm, rfl⟩ := h8 (by omega)
    rw [if_neg hf1, show 8 * m / 8 = m from by omega] at c hr
    exact br_f (fun z => hf1 ((bs_f2 f (by omega)).mp z)) (bs_revX b _ (by omega) (bs_31X b k1 k2 k3 k4 l v hx hw hf hr post c))
theorem bs_sizedX1 (hB : B ≤ 8) (hp : p ≤ 8 * B) {x y w : Nat} (hx : x < 4) (hy : y < 4) (hw : w ≤ 32) (hl : w ≤ 8 * B - p) {a2 a3 a4 : Int32} (e2 : a2 = nI x) (e3 : a3 = nI y) (e4 : v y * a4 = nI w) (post : Int32 → SX → Prop)
    (c1 : post 1 (nI B, nI R, nI (p + w), b, k1, k2, k3, k4, l, upd v x (nI (bs_nb b p w)))) : wpX_sizedFits post (nI B, nI R, nI p, b, k1, k2, k3, k4, l, v) a2 a3 a4 := by
  subst e2 e3
  have ec : (nI x).toNatClampNeg = x := nI_clamp (by omega)
  have ed : (nI y).toNatClampNeg = y := nI_clamp (by omega)
  refine ⟨vp_in_nI hy (by omega), nm_r (e' := nI w) (by rw [ed, e4]) (br_f (nI_pos (by omega)) (br_f (nI_nlt (a := 32) (b := w) hw (by omega)) ?_))⟩
  refine bs_leftX b k1 k2 k3 k4 l v hp _ (br_t (nI_le hl (by omega)) (bs_takeX (nI B) (nI R) b k1 k2 k3 k4 l v _ (p := p) (w := w) hw (by omega) ?_))
  exact ⟨vp_in_nI hx (by omega), nm_r (by rw [ec]) c1⟩
theorem bs_sizedX0 (hB : B ≤ 8) (hp : p ≤ 8 * B) {y : Nat} (hy : y < 4) {a2 a3 a4 : Int32} (e3 : a3 = nI y) (post : Int32 → SX → Prop)
    (hz : v y * a4 < 0 ∨ ∃ w, w < 2 ^ 31 ∧ v y * a4 = nI w ∧ (32 < w ∨ 8 * B - p < w)) (c0 : post 0 (nI B, nI R, nI p, b, k1, k2, k3, k4, l, v)) : wpX_sizedFits post (nI B, nI R, nI p, b, k1, k2, k3, k4, l, v) a2 a3 a4 := by
  subst e3
  have ed : (nI y).toNatClampNeg = y := nI_clamp (by omega)
  rcases hz with h | ⟨w, hw, e, h⟩
  · exact ⟨vp_in_nI hy (by omega), nm_r (by rw [ed]) (br_t h c0)⟩
  · refine ⟨vp_in_nI hy (by omega), nm_r (e' := nI w) (by rw [ed, e]) (br_f (nI_pos hw) (pk_lt 32 w (fun _ => c0) (fun h2 => ?_)))⟩
    exact bs_leftX b k1 k2 k3 k4 l v hp _ (br_f (nI_ge (by omega) hw) c0)
theorem bs_skipX1 (hB : B ≤ 8) (hp : p ≤ 8 * B) {y w : Nat} (hy : y < 4) (hl : w ≤ 8 * B - p) {a2 a3 : Int32} (e2 : a2 = nI y) (e3 : v y * a3 = nI w) (post : Int32 → SX → Prop)
    (c1 : post 1 (nI B, nI R, nI (p + w), b, k1, k2, k3, k4, l, v)) : wpX_skipFits post (nI B, nI R, nI p, b, k1, k2, k3, k4, l, v) a2 a3 := by
  subst e2
  have ed : (nI y).toNatClampNeg = y := nI_clamp (by omega)
  refine ⟨vp_in_nI hy (by omega), nm_r (e' := nI w) (by rw [ed, e3]) (br_f (nI_pos (by omega)) ?_)⟩
  exact bs_leftX b k1 k2 k3 k4 l v hp _ (br_t (nI_le hl (by omega)) (nm_r (nI_add p w) c1))
theorem bs_skipX0 (hB : B ≤ 8) (hp : p ≤ 8 * B) {y : Nat} (hy : y < 4) {a2 a3 : Int32} (e2 : a2 = nI y) (post : Int32 → SX → Prop)
    (hz : v y * a3 < 0 ∨ ∃ w, w < 2 ^ 31 ∧ v y * a3 = nI w ∧ 8 * B - p < w) (c0 : post 0 (nI B, nI R, nI p, b, k1, k2, k3, k4, l, v)) : wpX_skipFits post (nI B, nI R, nI p, b, k1, k2, k3, k4, l, v) a2 a3 := by
  subst e2
  have ed : (nI y).toNatClampNeg = y := nI_clamp (by omega)
  rcases hz with h | ⟨w, hw, e, h⟩
  · exact ⟨vp_in_nI hy (by omega), nm_r (by rw [ed]) (br_t h c0)⟩
  · refine ⟨vp_in_nI hy (by omega), nm_r (e' := nI w) (by rw [ed, e]) (br_f (nI_pos hw) ?_)⟩
    exact bs_leftX b k1 k2 k3 k4 l v hp _ (br_f (nI_ge h hw) c0)
theorem bs_restX (hp : p ≤ 8 * B) {x : Nat} (hx : x < 4) {a2 : Int32} (e2 : a2 = nI x) (post : Int32 → SX → Prop)
    (c1 : post 1 (nI B, nI R, nI (8 * B), b, k1, k2, k3, k4, l, upd v x (nI (8 * B - p)))) : wpX_restFits post (nI B, nI R, nI p, b, k1, k2, k3, k4, l, v) a2 := by
  subst e2
  have ec : (nI x).toNatClampNeg = x := nI_clamp (by omega)
  have e : nI B * 8 = nI (8 * B) := by
    rw [Nat.mul_comm]
    exact pk_mul B 8
  unfold wpX_restFits
  refine bs_leftX b k1 k2 k3 k4 l v hp _ ?_
  exact ⟨vp_in_nI hx (by omega), nm_r (by rw [ec]) (nm_r e c1)⟩
/-! the reference's pieces -/
theorem bs_159Y0 {q a1 x3 x4 z : Int32} (hq : vp_in q 42) (e1 : h1 q.toNatClampNeg = a1) (post : Int32 → SY → Prop)
    (hB : B ≤ 8) (hz : z < 0 ∨ ∃ w, w < 2 ^ 31 ∧ z = nI w ∧ (8 * B - p < w ∨ (a1 = 2 ∧ 32 < w))) (c0 : post 0 (nI R, nI B, nI p, h1, h2, h3, h4, l, b, v)) :
    wY_fitsSegment_159 post q (nI (8 * B - p)) x3 x4 z (nI R) (nI B) (nI p) h1 h2 h3 h4 l b v := by
  rcases hz with h | ⟨w, hw, rfl, h⟩
  · exact br_t h c0
  · refine br_f (nI_pos hw) (pk_lt (8 * B - p) w (fun _ => c0) (fun hl => ⟨hq, ?_⟩))
    have h2' : a1 = 2 ∧ 32 < w := by
      rcases h with h | h
      · omega
      · exact h
    exact br_t (by rw [e1]; exact h2'.1) (br_f (nI_ge (b := w) (a := 32) h2'.2 hw) c0)
theorem bs_159Y1 {q a1 x3 x4 z : Int32} (hq : vp_in q 42) (e1 : h1 q.toNatClampNeg = a1) (post : Int32 → SY → Prop)
    (hB : B ≤ 8) {w : Nat} (ez : z = nI w) (hl : w ≤ 8 * B - p) (h32 : a1 = 2 → w ≤ 32) (c : wY_fitsSegment_189 post q x3 x4 (nI w) (nI R) (nI B) (nI p) h1 h2 h3 h4 l b v) :
    wY_fitsSegment_159 post q (nI (8 * B - p)) x3 x4 z (nI R) (nI B) (nI p) h1 h2 h3 h4 l b v := by
  subst ez
  refine br_f (nI_pos (by omega)) (br_f (nI_nlt hl (by omega)) ⟨hq, ?_⟩)
  by_cases h2' : a1 = 2
  · exact br_t (by rw [e1]; exact h2') (br_t (nI_le (a := w) (b := 32) (h32 h2') (by omega)) c)
  · exact br_f (by rw [e1]; exact h2') c
theorem bs_274Y {x w f : Nat} (hx : x < 4) (hw : w ≤ 32) (hf : f ≤ 3) (h8 : 2 ≤ f → ∃ m, 1 ≤ m ∧ w = 8 * m) (hl : p + w ≤ 64) {z0 z4 at' : Int32} (e0 : z0 = nI f) (e4 : z4 = nI x) (post : Int32 → SY → Prop)
    (c : post 1 (nI R, nI B, at', h1, h2, h3, h4, l, b, upd v x (bs_fv b p w f))) : wY_fitsSegment_274 post z0 (nI w) (nI p) z4 (nI R) (nI B) at' h1 h2 h3 h4 l b v := by
  subst e0 e4
  have ec : (nI x).toNatClampNeg = x := nI_clamp (by omega)
  refine bs_fvY (nI R) (nI B) at' h1 h2 h3 h4 l b v _ hw hf h8 hl ?_
  exact ⟨vp_in_nI hx (by omega), nm_r (by rw [ec]) c⟩
end
end
section
/-! one segment, both sides -/
def bs_T (v : Nat → Int32) : Prop := ∀ j, 4 ≤ j → v j = 0
theorem bs_Tu {v : Nat → Int32} (h : bs_T v) {x : Nat} (hx : x < 4) (z : Int32) : bs_T (upd v x z) := fun j hj => (pk_un (by omega)).trans (h j hj)
def bs_Seg (B R p : Nat) (b k1 k2 k3 k4 h1 h2 h3 h4 l v : Nat → Int32) (q : Int32) : Prop := ∃ (r : Int32) (p' : Nat) (v' : Nat → Int32), p' ≤ 8 * B ∧ bs_T v' ∧ (∀ post : Int32 → SX → Prop, post r (nI B, nI R, nI p', b, k1, k2, k3, k4, l, v') → wpX_segmentFits post (nI B, nI R, nI p, b, k1, k2, k3, k4, l, v) q) ∧ (∀ post : Int32 → SY → Prop, post r (nI R, nI B, nI p', h1, h2, h3, h4, l, b, v') → wpY_fitsSegment post (nI R, nI B, nI p, h1, h2, h3, h4, l, b, v) q)
section
variable {B R p : Nat} (b k1 k2 k3 k4 h1 h2 h3 h4 l v : Nat → Int32) {q a2 a3 a4 : Int32}
theorem bs_seg0 (hB : B ≤ 8) (hp : p ≤ 8 * B) (hv : bs_T v) (hq : vp_in q 42) (x1 : k1 q.toNatClampNeg = 0) (x2 : k2 q.toNatClampNeg = a2) (x3 : k3 q.toNatClampNeg = a3) (y1 : h1 q.toNatClampNeg = 0) (y2 : h2 q.toNatClampNeg = a2) (y3 : h3 q.toNatClampNeg = a3)
    {w : Nat} (hw : w ≤ 16) (ew : a2 = nI w) : bs_Seg B R p b k1 k2 k3 k4 h1 h2 h3 h4 l v q := by
  by_cases hl : w ≤ 8 * B - p
  · by_cases he : nI (bs_nb b p w) = a3
    · refine ⟨1, p + w, v, by omega, hv, fun post H => ?_, fun post H => ?_⟩
      · exact ⟨hq, nm_r x1 (br_f (by decide) (br_f (by decide) (br_t rfl ⟨hq, hq, bs_litX b k1 k2 k3 k4 l v hB hp hw (x2.trans ew) _ (fun h => absurd h (by omega)) (fun _ _ => ⟨rfl, H⟩) (fun _ h => absurd (he.trans x3.symm) h)⟩)))⟩
      · refine nm_r (bs_bl' hp) ⟨hq, nm_r y2 ⟨hq, nm_r y3 ⟨hq, br_f (by rw [y1]; decide) ⟨hq, br_f (by rw [y1]; decide) ⟨hq, br_f (by rw [y1]; decide) ⟨hq, br_f (by rw [y1]; decide) ⟨hq, br_f (by rw [y1]; decide) ?_⟩⟩⟩⟩⟩⟩⟩
        refine bs_159Y1 b h1 h2 h3 h4 l v hq y1 post hB ew hl (fun z => absurd z (by decide)) ?_
        exact nm_r (nI_add p w) ⟨hq, br_t y1 (bs_numY (nI R) (nI B) (nI (p + w)) h1 h2 h3 h4 l b v _ rfl rfl (by omega) (by omega) (br_t he H))⟩
    · refine ⟨0, p + w, v, by omega, hv, fun post H => ?_, fun post H => ?_⟩
      · exact ⟨hq, nm_r x1 (br_f (by decide) (br_f (by decide) (br_t rfl ⟨hq, hq, bs_litX b k1 k2 k3 k4 l v hB hp hw (x2.trans ew) _ (fun h => absurd h (by omega)) (fun _ h => absurd (h.trans x3) he) (fun _ _ => ⟨rfl, H⟩)⟩)))⟩
      · refine nm_r (bs_bl' hp) ⟨hq, nm_r y2 ⟨hq, nm_r y3 ⟨hq, br_f (by rw [y1]; decide) ⟨hq, br_f (by rw [y1]; decide) ⟨hq, br_f (by rw [y1]; decide) ⟨hq, br_f (by rw [y1]; decide) ⟨hq, br_f (by rw [y1]; decide) ?_⟩⟩⟩⟩⟩⟩⟩
        refine bs_159Y1 b h1 h2 h3 h4 l v hq y1 post hB ew hl (fun z => absurd z (by decide)) ?_
        exact nm_r (nI_add p w) ⟨hq, br_t y1 (bs_numY (nI R) (nI B) (nI (p + w)) h1 h2 h3 h4 l b v _ rfl rfl (by omega) (by omega) (br_f he H))⟩
  · refine ⟨0, p, v, hp, hv, fun post H => ?_, fun post H => ?_⟩
    · exact ⟨hq, nm_r x1 (br_f (by decide) (br_f (by decide) (br_t rfl ⟨hq, hq, bs_litX b k1 k2 k3 k4 l v hB hp hw (x2.trans ew) _ (fun _ => ⟨rfl, H⟩) (fun h => absurd h hl) (fun h => absurd h hl)⟩)))⟩
    · refine nm_r (bs_bl' hp) ⟨hq, nm_r y2 ⟨hq, nm_r y3 ⟨hq, br_f (by rw [y1]; decide) ⟨hq, br_f (by rw [y1]; decide) ⟨hq, br_f (by rw [y1]; decide) ⟨hq, br_f (by rw [y1]; decide) ⟨hq, br_f (by rw [y1]; decide) ?_⟩⟩⟩⟩⟩⟩⟩
      exact bs_159Y0 b h1 h2 h3 h4 l v hq y1 post hB (Or.inr ⟨w, by omega, ew, Or.inl (by omega)⟩) H
theorem bs_seg1 (hB : B ≤ 8) (hp : p ≤ 8 * B) (hv : bs_T v) (hq : vp_in q 42) (x1 : k1 q.toNatClampNeg = 1) (x2 : k2 q.toNatClampNeg = a2) (x3 : k3 q.toNatClampNeg = a3) (x4 : k4 q.toNatClampNeg = a4) (y1 : h1 q.toNatClampNeg = 1) (y2 : h2 q.toNatClampNeg = a2) (y3 : h3 q.toNatClampNeg = a3) (y4 : h4 q.toNatClampNeg = a4)
    {x w f : Nat} (hx : x < 4) (hw : w ≤ 32) (hf : f ≤ 3) (h8 : 2 ≤ f → ∃ m, 1 ≤ m ∧ w = 8 * m) (e2 : a2 = nI x) (e3 : a3 = nI w) (e4 : a4 = nI f) : bs_Seg B R p b k1 k2 k3 k4 h1 h2 h3 h4 l v q := by
  by_cases hl : w ≤ 8 * B - p
  · refine ⟨1, p + w, upd v x (bs_fv b p w f), by omega, bs_Tu hv hx _, fun post H => ?_, fun post H => ?_⟩
    · exact ⟨hq, nm_r x1 (br_f (by decide) (br_f (by decide) (br_f (by decide) (br_t rfl ⟨hq, hq, hq, bs_fieldX b k1 k2 k3 k4 l v hB hp hx hw hf h8 (x2.trans e2) (x3.trans e3) (x4.trans e4) _ (fun h => absurd h (by omega)) (fun _ => ⟨rfl, H⟩)⟩))))⟩
    · refine nm_r (bs_bl' hp) ⟨hq, nm_r y2 ⟨hq, nm_r y3 ⟨hq, br_f (by rw [y1]; decide) ⟨hq, br_f (by rw [y1]; decide) ⟨hq, br_t y1 ?_⟩⟩⟩⟩⟩
      refine bs_159Y1 b h1 h2 h3 h4 l v hq y1 post hB e3 hl (fun z => absurd z (by decide)) ?_
      refine nm_r (nI_add p w) ⟨hq, br_f (by rw [y1]; decide) ⟨hq, br_f (by rw [y1]; decide) ⟨hq, br_t y1 ⟨hq, ?_⟩⟩⟩⟩
      exact bs_274Y b h1 h2 h3 h4 l v hx hw hf h8 (by omega) (y4.trans e4) e2 post H
  · refine ⟨0, p, v, hp, hv, fun post H => ?_, fun post H => ?_⟩
    · exact ⟨hq, nm_r x1 (br_f (by decide) (br_f (by decide) (br_f (by decide) (br_t rfl ⟨hq, hq, hq, bs_fieldX b k1 k2 k3 k4 l v hB hp hx hw hf h8 (x2.trans e2) (x3.trans e3) (x4.trans e4) _ (fun _ => ⟨rfl, H⟩) (fun h => absurd h hl)⟩))))⟩
    · refine nm_r (bs_bl' hp) ⟨hq, nm_r y2 ⟨hq, nm_r y3 ⟨hq, br_f (by rw [y1]; decide) ⟨hq, br_f (by rw [y1]; decide) ⟨hq, br_t y1 ?_⟩⟩⟩⟩⟩
      exact bs_159Y0 b h1 h2 h3 h4 l v hq y1 post hB (Or.inr ⟨w, by omega, e3, Or.inl (by omega)⟩) H
theorem bs_z (z : Int32) (m : Nat) : (z < 0 ∨ ∃ w, w < 2 ^ 31 ∧ z = nI w ∧ m < w) ∨ ∃ w, z = nI w ∧ w ≤ m := by
  by_cases h : z < 0
  · exact Or.inl (Or.inl h)
  · obtain ⟨w, hw, e⟩ := nI_of h
    by_cases h2 : w ≤ m
    · exact Or.inr ⟨w, e, h2⟩
    · exact Or.inl (Or.inr ⟨w, hw, e, by omega⟩)
theorem bs_seg2 (hB : B ≤ 8) (hp : p ≤ 8 * B) (hv : bs_T v) (hq : vp_in q 42) (x1 : k1 q.toNatClampNeg = 2) (x2 : k2 q.toNatClampNeg = a2) (x3 : k3 q.toNatClampNeg = a3) (x4 : k4 q.toNatClampNeg = a4) (y1 : h1 q.toNatClampNeg = 2) (y2 : h2 q.toNatClampNeg = a2) (y3 : h3 q.toNatClampNeg = a3) (y4 : h4 q.toNatClampNeg = a4)
    {x y : Nat} (hx : x < 4) (hy : y < 4) (e2 : a2 = nI x) (e3 : a3 = nI y) : bs_Seg B R p b k1 k2 k3 k4 h1 h2 h3 h4 l v q := by
  have i3 : vp_in a3 4 := by
    rw [e3]
    exact vp_in_nI hy (by omega)
  have ed : a3.toNatClampNeg = y := by
    rw [e3]
    exact nI_clamp (by omega)
  have ez : v a3.toNatClampNeg * h4 q.toNatClampNeg = v y * a4 := by rw [ed, y4]
  have hc : (v y * a4 < 0 ∨ ∃ w, w < 2 ^ 31 ∧ v y * a4 = nI w ∧ (32 < w ∨ 8 * B - p < w)) ∨ ∃ w, v y * a4 = nI w ∧ w ≤ 32 ∧ w ≤ 8 * B - p := by
    rcases bs_z (v y * a4) 32 with (h | ⟨w, hw, e, h⟩) | ⟨w, e, h⟩
    · exact Or.inl (Or.inl h)
    · exact Or.inl (Or.inr ⟨w, hw, e, Or.inl h⟩)
    · by_cases h2 : w ≤ 8 * B - p
      · exact Or.inr ⟨w, e, h, h2⟩
      · exact Or.inl (Or.inr ⟨w, by omega, e, Or.inr (by omega)⟩)
  rcases hc with hc | ⟨w, e, h32, hl⟩
  · refine ⟨0, p, v, hp, hv, fun post H => ?_, fun post H => ?_⟩
    · refine ⟨hq, nm_r x1 (br_f (by decide) (br_f (by decide) (br_f (by decide) (br_f (by decide) (br_t rfl ⟨hq, hq, hq, ?_⟩)))))⟩
      exact bs_sizedX0 b k1 k2 k3 k4 l v hB hp hy (x3.trans e3) _ (by rw [x4]; exact hc) ⟨rfl, H⟩
    · refine nm_r (bs_bl' hp) ⟨hq, nm_r y2 ⟨hq, nm_r y3 ⟨hq, br_f (by rw [y1]; decide) ⟨hq, br_f (by rw [y1]; decide) ⟨hq, br_f (by rw [y1]; decide) ⟨hq, br_t y1 ⟨i3, hq, nm_r ez ?_⟩⟩⟩⟩⟩⟩⟩
      refine bs_159Y0 b h1 h2 h3 h4 l v hq y1 post hB ?_ H
      rcases hc with h | ⟨w, hw, e, h⟩
      · exact Or.inl h
      · exact Or.inr ⟨w, hw, e, h.symm.imp id (fun z => ⟨rfl, z⟩)⟩
  · refine ⟨1, p + w, upd v x (nI (bs_nb b p w)), by omega, bs_Tu hv hx _, fun post H => ?_, fun post H => ?_⟩
    · refine ⟨hq, nm_r x1 (br_f (by decide) (br_f (by decide) (br_f (by decide) (br_f (by decide) (br_t rfl ⟨hq, hq, hq, ?_⟩)))))⟩
      exact bs_sizedX1 b k1 k2 k3 k4 l v hB hp hx hy h32 hl (x2.trans e2) (x3.trans e3) (by rw [x4]; exact e) _ ⟨rfl, H⟩
    · refine nm_r (bs_bl' hp) ⟨hq, nm_r y2 ⟨hq, nm_r y3 ⟨hq, br_f (by rw [y1]; decide) ⟨hq, br_f (by rw [y1]; decide) ⟨hq, br_f (by rw [y1]; decide) ⟨hq, br_t y1 ⟨i3, hq, nm_r ez ?_⟩⟩⟩⟩⟩⟩⟩
      refine bs_159Y1 b h1 h2 h3 h4 l v hq y1 post hB e hl (fun _ => h32) ?_
      refine nm_r (nI_add p w) ⟨hq, br_f (by rw [y1]; decide) ⟨hq, br_f (by rw [y1]; decide) ⟨hq, br_f (by rw [y1]; decide) ?_⟩⟩⟩
      exact bs_274Y (f := 0) b h1 h2 h3 h4 l v hx h32 (by omega) (fun h => absurd h (by omega)) (by omega) rfl e2 post H
theorem bs_seg3 (hB : B ≤ 8) (hp : p ≤ 8 * B) (hv : bs_T v) (hq : vp_in q 42) (x1 : k1 q.toNatClampNeg = 3) (x2 : k2 q.toNatClampNeg = a2) (x3 : k3 q.toNatClampNeg = a3) (y1 : h1 q.toNatClampNeg = 3) (y2 : h2 q.toNatClampNeg = a2) (y3 : h3 q.toNatClampNeg = a3)
    {y : Nat} (hy : y < 4) (e2 : a2 = nI y) : bs_Seg B R p b k1 k2 k3 k4 h1 h2 h3 h4 l v q := by
  have i2 : vp_in a2 4 := by
    rw [e2]
    exact vp_in_nI hy (by omega)
  have ed : a2.toNatClampNeg = y := by
    rw [e2]
    exact nI_clamp (by omega)
  have ez : v a2.toNatClampNeg * a3 = v y * a3 := by rw [ed]
  rcases bs_z (v y * a3) (8 * B - p) with hc | ⟨w, e, hl⟩
  · refine ⟨0, p, v, hp, hv, fun post H => ?_, fun post H => ?_⟩
    · refine ⟨hq, nm_r x1 (br_f (by decide) (br_f (by decide) (br_f (by decide) (br_f (by decide) (br_f (by decide) (br_t rfl ⟨hq, hq, ?_⟩))))))⟩
      exact bs_skipX0 b k1 k2 k3 k4 l v hB hp hy (x2.trans e2) _ (by rw [x3]; exact hc) ⟨rfl, H⟩
    · refine nm_r (bs_bl' hp) ⟨hq, nm_r y2 ⟨hq, nm_r y3 ⟨hq, br_f (by rw [y1]; decide) ⟨hq, br_f (by rw [y1]; decide) ⟨hq, br_f (by rw [y1]; decide) ⟨hq, br_f (by rw [y1]; decide) ⟨hq, br_t y1 ⟨i2, nm_r ez ?_⟩⟩⟩⟩⟩⟩⟩⟩
      refine bs_159Y0 b h1 h2 h3 h4 l v hq y1 post hB ?_ H
      rcases hc with h | ⟨w, hw, e, h⟩
      · exact Or.inl h
      · exact Or.inr ⟨w, hw, e, Or.inl h⟩
  · refine ⟨1, p + w, v, by omega, hv, fun post H => ?_, fun post H => ?_⟩
    · refine ⟨hq, nm_r x1 (br_f (by decide) (br_f (by decide) (br_f (by decide) (br_f (by decide) (br_f (by decide) (br_t rfl ⟨hq, hq, ?_⟩))))))⟩
      exact bs_skipX1 b k1 k2 k3 k4 l v hB hp hy hl (x2.trans e2) (by rw [x3]; exact e) _ ⟨rfl, H⟩
    · refine nm_r (bs_bl' hp) ⟨hq, nm_r y2 ⟨hq, nm_r y3 ⟨hq, br_f (by rw [y1]; decide) ⟨hq, br_f (by rw [y1]; decide) ⟨hq, br_f (by rw [y1]; decide) ⟨hq, br_f (by rw [y1]; decide) ⟨hq, br_t y1 ⟨i2, nm_r ez ?_⟩⟩⟩⟩⟩⟩⟩⟩
      refine bs_159Y1 b h1 h2 h3 h4 l v hq y1 post hB e hl (fun z => absurd z (by decide)) ?_
      exact nm_r (nI_add p w) ⟨hq, br_f (by rw [y1]; decide) ⟨hq, br_t (by rw [y1]; decide) H⟩⟩
theorem bs_seg4 (hp : p ≤ 8 * B) (hv : bs_T v) (hq : vp_in q 42) (x1 : k1 q.toNatClampNeg = 4) (x2 : k2 q.toNatClampNeg = a2) (x3 : k3 q.toNatClampNeg = a3) (y1 : h1 q.toNatClampNeg = 4) (y2 : h2 q.toNatClampNeg = a2) (y3 : h3 q.toNatClampNeg = a3)
    (i2 : vp_in a2 4) (i3 : vp_in a3 4) : bs_Seg B R p b k1 k2 k3 k4 h1 h2 h3 h4 l v q := by
  have i2' : vp_in (k2 q.toNatClampNeg) 4 := by rw [x2]; exact i2
  have i3' : vp_in (k3 q.toNatClampNeg) 4 := by rw [x3]; exact i3
  by_cases he : v a2.toNatClampNeg = v a3.toNatClampNeg
  · refine ⟨1, p, v, hp, hv, fun post H => ?_, fun post H => ?_⟩
    · exact ⟨hq, nm_r x1 (br_f (by decide) (br_f (by decide) (br_f (by decide) (br_f (by decide) (br_f (by decide) (br_f (by decide) (br_t rfl ⟨hq, i2', hq, i3', br_t (by rw [x2, x3]; exact he) H⟩)))))))⟩
    · exact nm_r (bs_bl' hp) ⟨hq, nm_r y2 ⟨hq, nm_r y3 ⟨hq, br_t y1 ⟨i2, i3, br_t he H⟩⟩⟩⟩
  · refine ⟨0, p, v, hp, hv, fun post H => ?_, fun post H => ?_⟩
    · exact ⟨hq, nm_r x1 (br_f (by decide) (br_f (by decide) (br_f (by decide) (br_f (by decide) (br_f (by decide) (br_f (by decide) (br_t rfl ⟨hq, i2', hq, i3', br_f (by rw [x2, x3]; exact he) H⟩)))))))⟩
    · exact nm_r (bs_bl' hp) ⟨hq, nm_r y2 ⟨hq, nm_r y3 ⟨hq, br_t y1 ⟨i2, i3, br_f he H⟩⟩⟩⟩
theorem bs_seg5 (hp : p ≤ 8 * B) (hv : bs_T v) (hq : vp_in q 42) (x1 : k1 q.toNatClampNeg = 5) (x2 : k2 q.toNatClampNeg = a2) (x3 : k3 q.toNatClampNeg = a3) (y1 : h1 q.toNatClampNeg = 5) (y2 : h2 q.toNatClampNeg = a2) (y3 : h3 q.toNatClampNeg = a3)
    {x : Nat} (hx : x < 4) (e2 : a2 = nI x) : bs_Seg B R p b k1 k2 k3 k4 h1 h2 h3 h4 l v q := by
  have i2 : vp_in a2 4 := by
    rw [e2]
    exact vp_in_nI hx (by omega)
  have ed : a2.toNatClampNeg = x := by
    rw [e2]
    exact nI_clamp (by omega)
  have ea : nI p + nI (8 * B - p) = nI (8 * B) := by
    rw [nI_add]
    exact congrArg nI (by omega)
  refine ⟨1, 8 * B, upd v x (nI (8 * B - p)), Nat.le_refl _, bs_Tu hv hx _, fun post H => ?_, fun post H => ?_⟩
  · exact ⟨hq, nm_r x1 (br_f (by decide) (br_t (by decide) ⟨hq, bs_restX b k1 k2 k3 k4 l v hp hx (x2.trans e2) _ ⟨rfl, H⟩⟩))⟩
  · exact nm_r (bs_bl' hp) ⟨hq, nm_r y2 ⟨hq, nm_r y3 ⟨hq, br_f (by rw [y1]; decide) ⟨hq, br_t y1 ⟨i2, nm_r (by rw [ed]) (nm_r ea H)⟩⟩⟩⟩⟩
theorem bs_seg {a1 : Int32} (ok : bs_ok a1 a2 a3 a4) (hB : B ≤ 8) (hp : p ≤ 8 * B) (hv : bs_T v) (hq : vp_in q 42) (x1 : k1 q.toNatClampNeg = a1) (x2 : k2 q.toNatClampNeg = a2) (x3 : k3 q.toNatClampNeg = a3) (x4 : k4 q.toNatClampNeg = a4) (y1 : h1 q.toNatClampNeg = a1) (y2 : h2 q.toNatClampNeg = a2) (y3 : h3 q.toNatClampNeg = a3) (y4 : h4 q.toNatClampNeg = a4) : bs_Seg B R p b k1 k2 k3 k4 h1 h2 h3 h4 l v q := by
  rcases ok with ⟨rfl, w, hw, e⟩ | ⟨rfl, x, w, f, hx, hw, hf, h8, e2, e3, e4⟩ | ⟨rfl, x, y, hx, hy, e2, e3⟩ | ⟨rfl, y, hy, e2⟩ | ⟨rfl, x, y, hx, hy, e2, e3⟩ | ⟨rfl, x, hx, e2⟩
  · exact bs_seg0 b k1 k2 k3 k4 h1 h2 h3 h4 l v hB hp hv hq x1 x2 x3 y1 y2 y3 hw e
  · exact bs_seg1 b k1 k2 k3 k4 h1 h2 h3 h4 l v hB hp hv hq x1 x2 x3 x4 y1 y2 y3 y4 hx hw hf h8 e2 e3 e4
  · exact bs_seg2 b k1 k2 k3 k4 h1 h2 h3 h4 l v hB hp hv hq x1 x2 x3 x4 y1 y2 y3 y4 hx hy e2 e3
  · exact bs_seg3 b k1 k2 k3 k4 h1 h2 h3 h4 l v hB hp hv hq x1 x2 x3 y1 y2 y3 hy e2
  · exact bs_seg4 b k1 k2 k3 k4 h1 h2 h3 h4 l v hp hv hq x1 x2 x3 y1 y2 y3 (by rw [e2]; exact vp_in_nI hx (by omega)) (by rw [e3]; exact vp_in_nI hy (by omega))
  · exact bs_seg5 b k1 k2 k3 k4 h1 h2 h3 h4 l v hp hv hq x1 x2 x3 y1 y2 y3 hx e2
end
end
section
/-! one rule, and the loops over the rules -/
def bs_Ag (k1 k2 k3 k4 h1 h2 h3 h4 : Nat → Int32) (n : Nat) : Prop := k1 n = h1 n ∧ k2 n = h2 n ∧ k3 n = h3 n ∧ k4 n = h4 n ∧ bs_ok (h1 n) (h2 n) (h3 n) (h4 n)
def bs_sum (s : Nat → Nat) : Nat → Nat
  | 0 => 0
  | n + 1 => bs_sum s n + s n
def bs_Inv (B R : Nat) (s : Nat → Nat) (k1 k2 k3 k4 h1 h2 h3 h4 l : Nat → Int32) : Prop :=
  B ≤ 8 ∧ R ≤ 6 ∧ (∀ j, j ≤ 6 → l j = nI (s j) ∧ s j ≤ 6) ∧ bs_sum s R + s 6 ≤ 30 ∧ (∀ j, j ≤ 6 → ∀ i, i < s j → bs_Ag k1 k2 k3 k4 h1 h2 h3 h4 (6 * j + i))
theorem bs_clr {v : Nat → Int32} (h : bs_T v) : upd (upd (upd (upd v (0 : Int32).toNatClampNeg 0) (1 : Int32).toNatClampNeg 0) (2 : Int32).toNatClampNeg 0) (3 : Int32).toNatClampNeg 0 = fun _ => 0 := by
  have c0 : (0 : Int32).toNatClampNeg = 0 := by decide
  have c1 : (1 : Int32).toNatClampNeg = 1 := by decide
  have c2 : (2 : Int32).toNatClampNeg = 2 := by decide
  have c3 : (3 : Int32).toNatClampNeg = 3 := by decide
  rw [c0, c1, c2, c3]
  funext j
  rcases (by omega : j = 0 ∨ j = 1 ∨ j = 2 ∨ j = 3 ∨ 4 ≤ j) with rfl | rfl | rfl | rfl | hj
  · rfl
  · rfl
  · rfl
  · rfl
  · rw [pk_un (by omega), pk_un (by omega), pk_un (by omega), pk_un (by omega)]
    exact h j hj
section
variable {B R : Nat} {s : Nat → Nat} (b k1 k2 k3 k4 h1 h2 h3 h4 l : Nat → Int32)
theorem bs_rule_go (I : bs_Inv B R s k1 k2 k3 k4 h1 h2 h3 h4 l) {j : Nat} (hj : j ≤ 6) : ∀ (d i p : Nat) (v : Nat → Int32), i + d = s j → p ≤ 8 * B → bs_T v →
    ∃ (r : Int32) (p' : Nat) (v' : Nat → Int32), bs_T v' ∧ (∀ (post : Int32 → SX → Prop) (n : Nat), d < n → post r (nI B, nI R, nI p', b, k1, k2, k3, k4, l, v') → wX_ruleFits_32 post (nI j) (nI (6 * j)) n (nI i) (nI B) (nI R) (nI p) b k1 k2 k3 k4 l v) ∧
      (∀ (post : Int32 → SY → Prop) (n : Nat), d < n → post r (nI R, nI B, nI p', h1, h2, h3, h4, l, b, v') → wY_fits_27 post (nI j) n (nI i) (nI R) (nI B) (nI p) h1 h2 h3 h4 l b v) := by
  obtain ⟨hB, hR, hl, hs, ha⟩ := I
  have hi7 : vp_in (nI j) 7 := vp_in_nI (by omega) (by omega)
  have el : l (nI j).toNatClampNeg = nI (s j) := by
    rw [nI_clamp (by omega)]
    exact (hl j hj).1
  have hsj := (hl j hj).2
  intro d
  induction d with
  | zero =>
    intro i p v hi hp hv
    have e8 : 8 * nI B = nI (8 * B) := pk_mul 8 B
    have hle : l (nI j).toNatClampNeg ≤ nI i := by
      rw [el]
      exact nI_le (by omega) (by omega)
    by_cases h : 8 * B - p = 0
    · refine ⟨1, p, v, hv, fun post n hn H => ?_, fun post n hn H => ?_⟩
      · obtain ⟨m, rfl⟩ : ∃ m, n = m + 1 := ⟨n - 1, by omega⟩
        refine ⟨hi7, br_t hle (bs_leftX b k1 k2 k3 k4 l v hp _ ?_)⟩
        exact br_t (by rw [h]; rfl) H
      · obtain ⟨m, rfl⟩ : ∃ m, n = m + 1 := ⟨n - 1, by omega⟩
        refine ⟨hi7, br_t hle (br_t ?_ H)⟩
        rw [e8, show p = 8 * B from by omega]
    · refine ⟨0, p, v, hv, fun post n hn H => ?_, fun post n hn H => ?_⟩
      · obtain ⟨m, rfl⟩ : ∃ m, n = m + 1 := ⟨n - 1, by omega⟩
        refine ⟨hi7, br_t hle (bs_leftX b k1 k2 k3 k4 l v hp _ ?_)⟩
        exact br_f (nI_ne0 (by omega) (by omega)) H
      · obtain ⟨m, rfl⟩ : ∃ m, n = m + 1 := ⟨n - 1, by omega⟩
        refine ⟨hi7, br_t hle (br_f ?_ H)⟩
        rw [e8, nI_eq (by omega) (by omega)]
        omega
  | succ d ih =>
    intro i p v hi hp hv
    have hle : ¬ l (nI j).toNatClampNeg ≤ nI i := by
      rw [el]
      exact nI_ge (by omega) (by omega)
    obtain ⟨g1, g2, g3, g4, gk⟩ := ha j hj i (by omega)
    have ec : (nI (6 * j + i)).toNatClampNeg = 6 * j + i := nI_clamp (by omega)
    have eX : nI (6 * j) + nI i = nI (6 * j + i) := nI_add _ _
    have eY : 6 * nI j + nI i = nI (6 * j + i) := by
      rw [← nI_add, ← pk_mul]
      rfl
    obtain ⟨r, p1, v1, hp1, hv1, hX, hY⟩ := bs_seg (B := B) (R := R) (p := p) b k1 k2 k3 k4 h1 h2 h3 h4 l v (q := nI (6 * j + i)) gk hB hp hv (vp_in_nI (by omega) (by omega)) (by rw [ec]; exact g1) (by rw [ec]; exact g2) (by rw [ec]; exact g3) (by rw [ec]; exact g4) (by rw [ec]) (by rw [ec]) (by rw [ec]) (by rw [ec])
    by_cases hr : r = 0
    · refine ⟨0, p1, v1, hv1, fun post n hn H => ?_, fun post n hn H => ?_⟩
      · obtain ⟨m, rfl⟩ : ∃ m, n = m + 1 := ⟨n - 1, by omega⟩
        refine ⟨hi7, br_f hle ?_⟩
        rw [eX]
        exact hX _ (br_t hr H)
      · obtain ⟨m, rfl⟩ : ∃ m, n = m + 1 := ⟨n - 1, by omega⟩
        refine ⟨hi7, br_f hle ?_⟩
        rw [eY]
        exact hY _ (br_t hr H)
    · obtain ⟨r2, p2, v2, hv2, iX, iY⟩ := ih (i + 1) p1 v1 (by omega) hp1 hv1
      refine ⟨r2, p2, v2, hv2, fun post n hn H => ?_, fun post n hn H => ?_⟩
      · obtain ⟨m, rfl⟩ : ∃ m, n = m + 1 := ⟨n - 1, by omega⟩
        refine ⟨hi7, br_f hle ?_⟩
        rw [eX]
        exact hX _ (br_f hr (nm_r (nI_1 i) (iX post m (by omega) H)))
      · obtain ⟨m, rfl⟩ : ∃ m, n = m + 1 := ⟨n - 1, by omega⟩
        refine ⟨hi7, br_f hle ?_⟩
        rw [eY]
        exact hY _ (br_f hr (nm_r (nI_1 i) (iY post m (by omega) H)))
end
/-- rule j answers r and leaves p, v, whatever stood there before -/
def bs_Fit (B R : Nat) (b k1 k2 k3 k4 h1 h2 h3 h4 l : Nat → Int32) (j : Nat) (r : Int32) (p : Nat) (v : Nat → Int32) : Prop :=
  (∀ (post : Int32 → SX → Prop) (ps : Int32) (w : Nat → Int32), bs_T w → post r (nI B, nI R, nI p, b, k1, k2, k3, k4, l, v) → wpX_ruleFits post (nI B, nI R, ps, b, k1, k2, k3, k4, l, w) (nI j)) ∧ (∀ (post : Int32 → SY → Prop) (ps : Int32) (w : Nat → Int32), bs_T w → post r (nI R, nI B, nI p, h1, h2, h3, h4, l, b, v) → wpY_fits post (nI R, nI B, ps, h1, h2, h3, h4, l, b, w) (nI j))
section
variable {B R : Nat} {s : Nat → Nat} (b k1 k2 k3 k4 h1 h2 h3 h4 l : Nat → Int32)
theorem bs_rule (I : bs_Inv B R s k1 k2 k3 k4 h1 h2 h3 h4 l) {j : Nat} (hj : j ≤ 6) : ∃ (r : Int32) (p : Nat) (v : Nat → Int32), bs_T v ∧ bs_Fit B R b k1 k2 k3 k4 h1 h2 h3 h4 l j r p v := by
  obtain ⟨r, p, v, hv, hX, hY⟩ := bs_rule_go b k1 k2 k3 k4 h1 h2 h3 h4 l I hj (s j) 0 0 (fun _ => 0) (by omega) (by omega) (fun _ _ => rfl)
  have e6 : nI j * 6 = nI (6 * j) := by
    rw [Nat.mul_comm]
    exact pk_mul j 6
  have i0 : vp_in (0 : Int32) 4 := vp_in_iff.mpr (by decide)
  have i1 : vp_in (1 : Int32) 4 := vp_in_iff.mpr (by decide)
  have i2 : vp_in (2 : Int32) 4 := vp_in_iff.mpr (by decide)
  have i3 : vp_in (3 : Int32) 4 := vp_in_iff.mpr (by decide)
  refine ⟨r, p, v, hv, fun post ps w hw H => ⟨5, ?_⟩, fun post ps w hw H => ⟨5, ?_⟩⟩
  · exact br_f (by decide) ⟨i0, nm_e (nm_r (e' := (1 : Int32)) (by decide) (br_f (by decide) ⟨i1, nm_e (nm_r (e' := (2 : Int32)) (by decide) (br_f (by decide) ⟨i2, nm_e (nm_r (e' := (3 : Int32)) (by decide) (br_f (by decide) ⟨i3, nm_r (bs_clr hw) (nm_r (e' := (4 : Int32)) (by decide) (br_t (by decide) (nm_r e6 ⟨s j + 1, hX post (s j + 1) (by omega) H⟩)))⟩))⟩))⟩))⟩
  · exact br_f (by decide) ⟨i0, nm_e (nm_r (e' := (1 : Int32)) (by decide) (br_f (by decide) ⟨i1, nm_e (nm_r (e' := (2 : Int32)) (by decide) (br_f (by decide) ⟨i2, nm_e (nm_r (e' := (3 : Int32)) (by decide) (br_f (by decide) ⟨i3, nm_r (bs_clr hw) (nm_r (e' := (4 : Int32)) (by decide) (br_t (by decide) ⟨s j + 1, hY post (s j + 1) (by omega) H⟩))⟩))⟩))⟩))⟩
theorem bs_first (I : bs_Inv B R s k1 k2 k3 k4 h1 h2 h3 h4 l) : ∀ d i : Nat, R ≤ i + d → i < 2 ^ 31 →
    ((∀ (post : Int32 → SX → Prop) (n : Nat) (ps : Int32) (w : Nat → Int32), d < n → bs_T w → (∀ ps' w', bs_T w' → post (-4) (nI B, nI R, ps', b, k1, k2, k3, k4, l, w')) → wX_firstFitting_2 post n (nI i) (nI B) (nI R) ps b k1 k2 k3 k4 l w) ∧
     (∀ (post : Int32 → SY → Prop) (n : Nat) (ps : Int32) (w : Nat → Int32), d < n → bs_T w → (∀ ps' w', bs_T w' → post (-4) (nI R, nI B, ps', h1, h2, h3, h4, l, b, w')) → wY_matchFrom_8 post n (nI i) (nI R) (nI B) ps h1 h2 h3 h4 l b w)) ∨
    (∃ (j : Nat) (r : Int32) (p : Nat) (v : Nat → Int32), j < R ∧ ¬ r = 0 ∧ bs_T v ∧ bs_Fit B R b k1 k2 k3 k4 h1 h2 h3 h4 l j r p v ∧
     (∀ (post : Int32 → SX → Prop) (n : Nat) (ps : Int32) (w : Nat → Int32), d < n → bs_T w → post (nI j) (nI B, nI R, nI p, b, k1, k2, k3, k4, l, v) → wX_firstFitting_2 post n (nI i) (nI B) (nI R) ps b k1 k2 k3 k4 l w) ∧
     (∀ (post : Int32 → SY → Prop) (n : Nat) (ps : Int32) (w : Nat → Int32), d < n → bs_T w → post (nI j) (nI R, nI B, nI p, h1, h2, h3, h4, l, b, v) → wY_matchFrom_8 post n (nI i) (nI R) (nI B) ps h1 h2 h3 h4 l b w)) := by
  intro d
  induction d with
  | zero =>
    intro i hi h31
    refine Or.inl ⟨fun post n ps w hn hw H => ?_, fun post n ps w hn hw H => ?_⟩
    · obtain ⟨m, rfl⟩ : ∃ m, n = m + 1 := ⟨n - 1, by omega⟩
      exact br_t (nI_le (by omega) h31) (H _ _ hw)
    · obtain ⟨m, rfl⟩ : ∃ m, n = m + 1 := ⟨n - 1, by omega⟩
      exact br_t (nI_le (by omega) h31) (H _ _ hw)
  | succ d ih =>
    intro i hi h31
    have hR : R ≤ 6 := I.2.1
    by_cases hR' : R ≤ i
    · refine Or.inl ⟨fun post n ps w hn hw H => ?_, fun post n ps w hn hw H => ?_⟩
      · obtain ⟨m, rfl⟩ : ∃ m, n = m + 1 := ⟨n - 1, by omega⟩
        exact br_t (nI_le (by omega) h31) (H _ _ hw)
      · obtain ⟨m, rfl⟩ : ∃ m, n = m + 1 := ⟨n - 1, by omega⟩
        exact br_t (nI_le (by omega) h31) (H _ _ hw)
    · have hlt : ¬ nI R ≤ nI i := nI_ge (by omega) (by omega)
      obtain ⟨r, p, v, hv, hX, hY⟩ := bs_rule b k1 k2 k3 k4 h1 h2 h3 h4 l I (j := i) (by omega)
      by_cases hr : r = 0
      · rcases ih (i + 1) (by omega) (by omega) with ⟨iX, iY⟩ | ⟨j, r2, p2, v2, hj, hr2, hv2, hF, iX, iY⟩
        · refine Or.inl ⟨fun post n ps w hn hw H => ?_, fun post n ps w hn hw H => ?_⟩
          · obtain ⟨m, rfl⟩ : ∃ m, n = m + 1 := ⟨n - 1, by omega⟩
            exact br_f hlt (hX _ ps w hw (br_t hr (nm_r (nI_1 i) (iX post m _ _ (by omega) hv H))))
          · obtain ⟨m, rfl⟩ : ∃ m, n = m + 1 := ⟨n - 1, by omega⟩
            exact br_f hlt (hY _ ps w hw (br_t hr (nm_r (nI_1 i) (iY post m _ _ (by omega) hv H))))
        · refine Or.inr ⟨j, r2, p2, v2, hj, hr2, hv2, hF, fun post n ps w hn hw H => ?_, fun post n ps w hn hw H => ?_⟩
          · obtain ⟨m, rfl⟩ : ∃ m, n = m + 1 := ⟨n - 1, by omega⟩
            exact br_f hlt (hX _ ps w hw (br_t hr (nm_r (nI_1 i) (iX post m _ _ (by omega) hv H))))
          · obtain ⟨m, rfl⟩ : ∃ m, n = m + 1 := ⟨n - 1, by omega⟩
            exact br_f hlt (hY _ ps w hw (br_t hr (nm_r (nI_1 i) (iY post m _ _ (by omega) hv H))))
      · refine Or.inr ⟨i, r, p, v, by omega, hr, hv, ⟨hX, hY⟩, fun post n ps w hn hw H => ?_, fun post n ps w hn hw H => ?_⟩
        · obtain ⟨m, rfl⟩ : ∃ m, n = m + 1 := ⟨n - 1, by omega⟩
          exact br_f hlt (hX _ ps w hw (br_f hr H))
        · obtain ⟨m, rfl⟩ : ∃ m, n = m + 1 := ⟨n - 1, by omega⟩
          exact br_f hlt (hY _ ps w hw (br_f hr H))
theorem bs_fitting (I : bs_Inv B R s k1 k2 k3 k4 h1 h2 h3 h4 l) : ∀ (d i : Nat) (c : Int32), i + d = R → ∃ a : Int32,
    (∀ (post : Int32 → SX → Prop) (n : Nat) (ps : Int32) (w : Nat → Int32), d < n → bs_T w → (∀ ps' w', bs_T w' → post a (nI B, nI R, ps', b, k1, k2, k3, k4, l, w')) → wX_fitting_4 post n c (nI i) (nI B) (nI R) ps b k1 k2 k3 k4 l w) ∧
    (∀ (post : Int32 → SY → Prop) (n : Nat) (ps : Int32) (w : Nat → Int32), d < n → bs_T w → (∀ ps' w', bs_T w' → post a (nI R, nI B, ps', h1, h2, h3, h4, l, b, w')) → wY_fitting_4 post n c (nI i) (nI R) (nI B) ps h1 h2 h3 h4 l b w) := by
  intro d
  have hR : R ≤ 6 := I.2.1
  induction d with
  | zero =>
    intro i c hi
    refine ⟨c, fun post n ps w hn hw H => ?_, fun post n ps w hn hw H => ?_⟩
    · obtain ⟨m, rfl⟩ : ∃ m, n = m + 1 := ⟨n - 1, by omega⟩
      exact br_t (nI_le (by omega) (by omega)) (H _ _ hw)
    · obtain ⟨m, rfl⟩ : ∃ m, n = m + 1 := ⟨n - 1, by omega⟩
      exact br_t (nI_le (by omega) (by omega)) (H _ _ hw)
  | succ d ih =>
    intro i c hi
    have hlt : ¬ nI R ≤ nI i := nI_ge (by omega) (by omega)
    obtain ⟨r, p, v, hv, hX, hY⟩ := bs_rule b k1 k2 k3 k4 h1 h2 h3 h4 l I (j := i) (by omega)
    by_cases hr : r = 0
    · obtain ⟨a, iX, iY⟩ := ih (i + 1) c (by omega)
      refine ⟨a, fun post n ps w hn hw H => ?_, fun post n ps w hn hw H => ?_⟩
      · obtain ⟨m, rfl⟩ : ∃ m, n = m + 1 := ⟨n - 1, by omega⟩
        exact br_f hlt (hX _ ps w hw (br_t hr (nm_r (nI_1 i) (iX post m _ _ (by omega) hv H))))
      · obtain ⟨m, rfl⟩ : ∃ m, n = m + 1 := ⟨n - 1, by omega⟩
        exact br_f hlt (hY _ ps w hw (br_t hr (nm_r (nI_1 i) (iY post m _ _ (by omega) hv H))))
    · obtain ⟨a, iX, iY⟩ := ih (i + 1) (c + ((1 : Int32) <<< (nI i &&& 31))) (by omega)
      refine ⟨a, fun post n ps w hn hw H => ?_, fun post n ps w hn hw H => ?_⟩
      · obtain ⟨m, rfl⟩ : ∃ m, n = m + 1 := ⟨n - 1, by omega⟩
        exact br_f hlt (hX _ ps w hw (br_f hr (nm_e (nm_r (nI_1 i) (iX post m _ _ (by omega) hv H)))))
      · obtain ⟨m, rfl⟩ : ∃ m, n = m + 1 := ⟨n - 1, by omega⟩
        exact br_f hlt (hY _ ps w hw (br_f hr (nm_e (nm_r (nI_1 i) (iY post m _ _ (by omega) hv H)))))
end
end
section
/-! the relation; append; the tests of arguments -/
def bs_R (u : SX) (v : SY) : Prop := ∃ (B R : Nat) (s : Nat → Nat) (ps at' : Int32) (b k1 k2 k3 k4 h1 h2 h3 h4 l va vb : Nat → Int32), u = (nI B, nI R, ps, b, k1, k2, k3, k4, l, va) ∧ v = (nI R, nI B, at', h1, h2, h3, h4, l, b, vb) ∧ bs_Inv B R s k1 k2 k3 k4 h1 h2 h3 h4 l ∧ bs_T va ∧ bs_T vb
theorem bs_fin {WX : (Int32 → SX → Prop) → Prop} {WY : (Int32 → SY → Prop) → Prop} (h : ∃ (r : Int32) (u' : SX) (v' : SY), bs_R u' v' ∧ (∀ post : Int32 → SX → Prop, post r u' → WX post) ∧ (∀ post : Int32 → SY → Prop, post r v' → WY post)) : WX (fun r u' => WY (fun r' v' => r' = r ∧ bs_R u' v')) := by
  obtain ⟨r, u', v', hR, hX, hY⟩ := h
  exact hX _ (hY _ ⟨rfl, hR⟩)
section
variable {B R : Nat} {s : Nat → Nat} (b k1 k2 k3 k4 h1 h2 h3 h4 l v : Nat → Int32) (ps : Int32)
theorem bs_sumX (hR : R ≤ 6) (hl : ∀ j, j ≤ 6 → l j = nI (s j) ∧ s j ≤ 6) (post : Int32 → Prop) (H : post (nI (s 6 + bs_sum s R))) : ∀ d n i : Nat, i + d = R → d < n → wX_segmentsInAll_10 post (nI B) (nI R) ps b k1 k2 k3 k4 l v n (nI (s 6 + bs_sum s i)) (nI i) := by
  intro d
  induction d with
  | zero =>
    intro n i hi hn
    obtain ⟨m, rfl⟩ : ∃ m, n = m + 1 := ⟨n - 1, by omega⟩
    obtain rfl : i = R := by omega
    exact br_t (nI_le (Nat.le_refl _) (by omega)) H
  | succ d ih =>
    intro n i hi hn
    obtain ⟨m, rfl⟩ : ∃ m, n = m + 1 := ⟨n - 1, by omega⟩
    have e : nI (s 6 + bs_sum s i) + l (nI i).toNatClampNeg = nI (s 6 + bs_sum s (i + 1)) := by
      rw [nI_clamp (by omega), (hl i (by omega)).1, nI_add, Nat.add_assoc]
      rfl
    exact br_f (nI_ge (by omega) (by omega)) ⟨vp_in_nI (by omega) (by omega), nm_r e (nm_r (nI_1 i) (ih m (i + 1) (by omega) (by omega)))⟩
theorem bs_sumY (hR : R ≤ 6) (hl : ∀ j, j ≤ 6 → l j = nI (s j) ∧ s j ≤ 6) (post : Int32 → SY → Prop) {a1 a2 a3 a4 : Int32} (H : ∀ m, wY_append_12 post a1 a2 a3 a4 (nI R) (nI B) ps h1 h2 h3 h4 l b v (m + 1) (nI (s 6 + bs_sum s R)) (nI R)) : ∀ d n i : Nat, i + d = R → d < n → wY_append_12 post a1 a2 a3 a4 (nI R) (nI B) ps h1 h2 h3 h4 l b v n (nI (s 6 + bs_sum s i)) (nI i) := by
  intro d
  induction d with
  | zero =>
    intro n i hi hn
    obtain ⟨m, rfl⟩ : ∃ m, n = m + 1 := ⟨n - 1, by omega⟩
    obtain rfl : i = R := by omega
    exact H m
  | succ d ih =>
    intro n i hi hn
    obtain ⟨m, rfl⟩ : ∃ m, n = m + 1 := ⟨n - 1, by omega⟩
    have e : nI (s 6 + bs_sum s i) + l (nI i).toNatClampNeg = nI (s 6 + bs_sum s (i + 1)) := by
      rw [nI_clamp (by omega), (hl i (by omega)).1, nI_add, Nat.add_assoc]
      rfl
    exact br_f (nI_ge (by omega) (by omega)) ⟨vp_in_nI (by omega) (by omega), nm_r e (nm_r (nI_1 i) (ih m (i + 1) (by omega) (by omega)))⟩
theorem bs_sum_up {s s' : Nat → Nat} : ∀ n, (∀ j, j < n → s' j = s j) → bs_sum s' n = bs_sum s n := by
  intro n
  induction n with
  | zero => exact fun _ => rfl
  | succ n ih =>
    intro h
    show bs_sum s' n + s' n = bs_sum s n + s n
    rw [ih (fun j hj => h j (by omega)), h n (by omega)]
/-- what append does to the invariant -/
theorem bs_inv_app (I : bs_Inv B R s k1 k2 k3 k4 h1 h2 h3 h4 l) (h6 : s 6 < 6) (h30 : s 6 + bs_sum s R < 30) {a1 a2 a3 a4 : Int32} (ok : bs_ok a1 a2 a3 a4) :
    bs_Inv B R (fun j => if j = 6 then s 6 + 1 else s j) (upd k1 (36 + s 6) a1) (upd k2 (36 + s 6) a2) (upd k3 (36 + s 6) a3) (upd k4 (36 + s 6) a4) (upd h1 (36 + s 6) a1) (upd h2 (36 + s 6) a2) (upd h3 (36 + s 6) a3) (upd h4 (36 + s 6) a4) (upd l 6 (nI (s 6 + 1))) := by
  obtain ⟨hB, hR, hl, hs, ha⟩ := I
  refine ⟨hB, hR, fun j hj => ?_, ?_, fun j hj i hi => ?_⟩
  · by_cases h : j = 6
    · subst h
      exact ⟨pk_us, h6⟩
    · rw [pk_un h]
      show _ = nI (if j = 6 then _ else _) ∧ (if j = 6 then _ else _) ≤ 6
      rw [if_neg h]
      exact hl j hj
  · rw [bs_sum_up (s := s) R (fun j hj => if_neg (by omega))]
    show bs_sum s R + (s 6 + 1) ≤ 30
    omega
  · by_cases h : 6 * j + i = 36 + s 6
    · rw [h]
      unfold bs_Ag
      rw [pk_us, pk_us, pk_us, pk_us, pk_us, pk_us, pk_us, pk_us]
      exact ⟨rfl, rfl, rfl, rfl, ok⟩
    · unfold bs_Ag
      rw [pk_un h, pk_un h, pk_un h, pk_un h, pk_un h, pk_un h, pk_un h, pk_un h]
      have hi' : i < if j = 6 then s 6 + 1 else s j := hi
      by_cases h2 : j = 6
      · subst h2
        rw [if_pos rfl] at hi'
        exact ha 6 (by omega) i (by omega)
      · rw [if_neg h2] at hi'
        exact ha j hj i hi'
theorem bs_append (I : bs_Inv B R s k1 k2 k3 k4 h1 h2 h3 h4 l) {a1 a2 a3 a4 : Int32} (ok : bs_ok a1 a2 a3 a4) {va vb : Nat → Int32} {at' : Int32} (hva : bs_T va) (hvb : bs_T vb) :
    ∃ (r : Int32) (c1 c2 c3 c4 d1 d2 d3 d4 l' : Nat → Int32), bs_R (nI B, nI R, ps, b, c1, c2, c3, c4, l', va) (nI R, nI B, at', d1, d2, d3, d4, l', b, vb) ∧
    (∀ post : Int32 → SX → Prop, post r (nI B, nI R, ps, b, c1, c2, c3, c4, l', va) → wpX_append post (nI B, nI R, ps, b, k1, k2, k3, k4, l, va) a1 a2 a3 a4) ∧
    (∀ post : Int32 → SY → Prop, post r (nI R, nI B, at', d1, d2, d3, d4, l', b, vb) → wpY_append post (nI R, nI B, at', h1, h2, h3, h4, l, b, vb) a1 a2 a3 a4) := by
  have I' := I
  obtain ⟨hB, hR, hl, hs, ha⟩ := I
  have el := (hl 6 (by omega)).1
  have h6 := (hl 6 (by omega)).2
  have h0 : bs_sum s 0 = 0 := rfl
  have hX0 : ∀ post : Int32 → SX → Prop, (s 6 = 6 → post (-2) (nI B, nI R, ps, b, k1, k2, k3, k4, l, va)) → (s 6 < 6 → (30 ≤ s 6 + bs_sum s R → post (-2) (nI B, nI R, ps, b, k1, k2, k3, k4, l, va)) ∧ (s 6 + bs_sum s R < 30 → post (nI (s 6 + 1)) (nI B, nI R, ps, b, upd k1 (36 + s 6) a1, upd k2 (36 + s 6) a2, upd k3 (36 + s 6) a3, upd k4 (36 + s 6) a4, upd l 6 (nI (s 6 + 1)), va))) → wpX_append post (nI B, nI R, ps, b, k1, k2, k3, k4, l, va) a1 a2 a3 a4 := by
    intro post f g
    refine nm_r el (pk_le 6 (s 6) (fun h => f (by omega)) (fun h => ?_))
    refine nm_r el ⟨R + 1, bs_sumX b k1 k2 k3 k4 l va ps hR hl _ ?_ R (R + 1) 0 (by omega) (by omega)⟩
    refine pk_lt (s 6 + bs_sum s R) 30 (fun h30 => ?_) (fun h30 => (g h).1 h30)
    have ep : (36 : Int32) + nI (s 6) = nI (36 + s 6) := nI_add 36 (s 6)
    have ec : (nI (36 + s 6)).toNatClampNeg = 36 + s 6 := nI_clamp (by omega)
    have i42 : vp_in (nI (36 + s 6)) 42 := vp_in_nI (by omega) (by omega)
    have e1 := nI_1 (s 6)
    refine nm_r ep ⟨i42, nm_r (by rw [ec]) ⟨i42, nm_r (by rw [ec]) ⟨i42, nm_r (by rw [ec]) ⟨i42, nm_r (by rw [ec]) (nm_r (by rw [e1]) ?_)⟩⟩⟩⟩
    rw [e1]
    exact (g h).2 h30
  have hY0 : ∀ post : Int32 → SY → Prop, (s 6 = 6 → post (-2) (nI R, nI B, at', h1, h2, h3, h4, l, b, vb)) → (s 6 < 6 → (30 ≤ s 6 + bs_sum s R → post (-2) (nI R, nI B, at', h1, h2, h3, h4, l, b, vb)) ∧ (s 6 + bs_sum s R < 30 → post (nI (s 6 + 1)) (nI R, nI B, at', upd h1 (36 + s 6) a1, upd h2 (36 + s 6) a2, upd h3 (36 + s 6) a3, upd h4 (36 + s 6) a4, upd l 6 (nI (s 6 + 1)), b, vb))) → wpY_append post (nI R, nI B, at', h1, h2, h3, h4, l, b, vb) a1 a2 a3 a4 := by
    intro post f g
    refine nm_r el ⟨R + 1, bs_sumY b h1 h2 h3 h4 l vb at' hR hl _ (fun m => ?_) R (R + 1) 0 (by omega) (by omega)⟩
    refine br_t (nI_le (Nat.le_refl _) (by omega)) ?_
    rw [el]
    refine pk_eq (s 6) 6 f (fun h => ?_)
    have h' : s 6 < 6 := by omega
    refine pk_eq (s 6 + bs_sum s R) 30 (fun h30 => (g h').1 (by omega)) (fun h30 => ?_)
    have ep : (36 : Int32) + nI (s 6) = nI (36 + s 6) := nI_add 36 (s 6)
    have ec : (nI (36 + s 6)).toNatClampNeg = 36 + s 6 := nI_clamp (by omega)
    have i42 : vp_in (nI (36 + s 6)) 42 := vp_in_nI (by omega) (by omega)
    have e1 := nI_1 (s 6)
    refine nm_r ep ⟨i42, nm_r (by rw [ec]) ⟨i42, nm_r (by rw [ec]) ⟨i42, nm_r (by rw [ec]) ⟨i42, nm_r (by rw [ec]) (nm_r (by rw [e1]) ?_)⟩⟩⟩⟩
    rw [pk_us]
    exact (g h').2 (by omega)
  by_cases c : s 6 < 6 ∧ s 6 + bs_sum s R < 30
  · refine ⟨nI (s 6 + 1), _, _, _, _, _, _, _, _, _, ⟨B, R, _, ps, at', b, _, _, _, _, _, _, _, _, _, va, vb, rfl, rfl, bs_inv_app k1 k2 k3 k4 h1 h2 h3 h4 l I' c.1 c.2 ok, hva, hvb⟩, fun post H => ?_, fun post H => ?_⟩
    · exact hX0 post (fun h => absurd h (by omega)) (fun _ => ⟨fun h => absurd h (by omega), fun _ => H⟩)
    · exact hY0 post (fun h => absurd h (by omega)) (fun _ => ⟨fun h => absurd h (by omega), fun _ => H⟩)
  · refine ⟨-2, _, _, _, _, _, _, _, _, _, ⟨B, R, s, ps, at', b, _, _, _, _, _, _, _, _, _, va, vb, rfl, rfl, I', hva, hvb⟩, fun post H => ?_, fun post H => ?_⟩
    · exact hX0 post (fun _ => H) (fun _ => ⟨fun _ => H, fun h => absurd h (by omega)⟩)
    · exact hY0 post (fun _ => H) (fun _ => ⟨fun _ => H, fun h => absurd h (by omega)⟩)
end
/-- the test of a variable, both sides -/
theorem bs_var (x : Int32) : ∃ r : Int32, (r = 0 ∨ (r = 1 ∧ ∃ j, j < 4 ∧ x = nI j)) ∧ (∀ post : Int32 → Prop, post r → wpX_isVariable post x) ∧ (∀ (post : Int32 → Prop) (a1 a2 a3 : Int32) (b1 b2 b3 b4 b5 b6 b7 : Nat → Int32), post r → wpY_isVariable post (a1, a2, a3, b1, b2, b3, b4, b5, b6, b7) x) := by
  rcases pk_ix x (n := 4) (by omega) with h | h | ⟨j, hj, rfl⟩
  · exact ⟨0, Or.inl rfl, fun _ H => br_t h H, fun _ _ _ _ _ _ _ _ _ _ _ H => br_t h H⟩
  · have h0 : ¬ x < 0 := Int32.not_lt.mpr (Int32.le_trans (by decide) h)
    have h3 : (3 : Int32) < x := Int32.lt_of_lt_of_le (by decide) h
    exact ⟨0, Or.inl rfl, fun _ H => br_f h0 (br_t h H), fun _ _ _ _ _ _ _ _ _ _ _ H => br_f h0 (br_t h3 H)⟩
  · have h0 : ¬ nI j < 0 := nI_pos (by omega)
    have h4 : ¬ (4 : Int32) ≤ nI j := nI_ge (b := 4) hj (by omega)
    have h3 : ¬ (3 : Int32) < nI j := nI_nlt (a := 3) (by omega) (by omega)
    exact ⟨1, Or.inr ⟨rfl, j, hj, rfl⟩, fun _ H => br_f h0 (br_f h4 H), fun _ _ _ _ _ _ _ _ _ _ _ H => br_f h0 (br_f h3 H)⟩
end
section
/-! end: the copies -/
def bs_cp (a : Nat → Int32) (t : Nat) : Nat → (Nat → Int32)
  | 0 => a
  | n + 1 => upd (bs_cp a t n) (t + n) (bs_cp a t n (36 + n))
theorem bs_cp_at (a : Nat → Int32) {t : Nat} (ht : t ≤ 30) : ∀ n, n ≤ 6 → ∀ x, bs_cp a t n x = if t ≤ x ∧ x < t + n then a (36 + (x - t)) else a x := by
  intro n
  induction n with
  | zero =>
    intro _ x
    rw [if_neg (by omega)]
    rfl
  | succ n ih =>
    intro hn x
    show upd (bs_cp a t n) (t + n) (bs_cp a t n (36 + n)) x = _
    by_cases h : x = t + n
    · subst h
      rw [pk_us, ih (by omega), if_neg (by omega), if_pos (by omega)]
      exact congrArg a (by omega)
    · rw [pk_un h, ih (by omega)]
      by_cases h2 : t ≤ x ∧ x < t + n
      · rw [if_pos h2, if_pos (by omega)]
      · rw [if_neg h2, if_neg (by omega)]
section
variable {B R : Nat} {s : Nat → Nat} (b k1 k2 k3 k4 h1 h2 h3 h4 l v : Nat → Int32) (ps : Int32)
theorem bs_copyX_go (hR : R < 6) (post : SX → Prop) (H : post (nI B, nI R, ps, b, bs_cp k1 (6 * R) 6, bs_cp k2 (6 * R) 6, bs_cp k3 (6 * R) 6, bs_cp k4 (6 * R) 6, upd l R (l 6), v)) : ∀ d n i : Nat, i + d = 6 → d < n → wX_copyMadeRuleTo_11 post (nI R) 36 (nI (6 * R)) (nI B) (nI R) ps n (nI i) b (bs_cp k1 (6 * R) i) (bs_cp k2 (6 * R) i) (bs_cp k3 (6 * R) i) (bs_cp k4 (6 * R) i) l v := by
  intro d
  induction d with
  | zero =>
    intro n i hi hn
    obtain ⟨m, rfl⟩ : ∃ m, n = m + 1 := ⟨n - 1, by omega⟩
    obtain rfl : i = 6 := by omega
    exact br_t (by decide) ⟨vp_in_nI (by omega) (by omega), nm_r (by rw [nI_clamp (by omega)]) H⟩
  | succ d ih =>
    intro n i hi hn
    obtain ⟨m, rfl⟩ : ∃ m, n = m + 1 := ⟨n - 1, by omega⟩
    have ea : (36 : Int32) + nI i = nI (36 + i) := nI_add 36 i
    have et : nI (6 * R) + nI i = nI (6 * R + i) := nI_add _ _
    have ca : ((36 : Int32) + nI i).toNatClampNeg = 36 + i := by rw [ea, nI_clamp (by omega)]
    have ct : (nI (6 * R) + nI i).toNatClampNeg = 6 * R + i := by rw [et, nI_clamp (by omega)]
    have ia : vp_in ((36 : Int32) + nI i) 42 := by
      rw [ea]
      exact vp_in_nI (by omega) (by omega)
    have it : vp_in (nI (6 * R) + nI i) 42 := by
      rw [et]
      exact vp_in_nI (by omega) (by omega)
    have hu : ∀ a : Nat → Int32, upd (bs_cp a (6 * R) i) (nI (6 * R) + nI i).toNatClampNeg (bs_cp a (6 * R) i ((36 : Int32) + nI i).toNatClampNeg) = bs_cp a (6 * R) (i + 1) := by
      intro a
      rw [ca, ct]
      rfl
    exact br_f (nI_ge (b := 6) (by omega) (by omega)) ⟨ia, it, nm_r (hu k1) ⟨ia, it, nm_r (hu k2) ⟨ia, it, nm_r (hu k3) ⟨ia, it, nm_r (hu k4) (nm_r (nI_1 i) (ih m (i + 1) (by omega) (by omega)))⟩⟩⟩⟩
theorem bs_endX (hR : R < 6) (post : Int32 → SX → Prop) (H : post (nI R) (nI B, nI (R + 1), ps, b, bs_cp k1 (6 * R) 6, bs_cp k2 (6 * R) 6, bs_cp k3 (6 * R) 6, bs_cp k4 (6 * R) 6, upd (upd l R (l 6)) 6 0, v)) : wpX_end post (nI B, nI R, ps, b, k1, k2, k3, k4, l, v) := by
  have e6 : nI R * 6 = nI (6 * R) := by
    rw [Nat.mul_comm]
    exact pk_mul R 6
  refine br_t (nI_lt (b := 6) hR (by omega)) (nm_r e6 ⟨7, bs_copyX_go b k1 k2 k3 k4 l v ps hR _ ?_ 6 7 0 (by omega) (by omega)⟩)
  exact nm_e (nm_r (nI_1 R) H)
theorem bs_copyY_go (hR : R < 6) (hs : s 6 ≤ 6) (el : l 6 = nI (s 6)) (post : Int32 → SY → Prop) (H : post (nI R) (nI (R + 1), nI B, ps, bs_cp h1 (6 * R) (s 6), bs_cp h2 (6 * R) (s 6), bs_cp h3 (6 * R) (s 6), bs_cp h4 (6 * R) (s 6), upd (upd l R (l 6)) 6 0, b, v)) : ∀ d n i : Nat, i + d = s 6 → d < n → wY_end_14 post (nI R) (nI B) ps n (nI i) (bs_cp h1 (6 * R) i) (bs_cp h2 (6 * R) i) (bs_cp h3 (6 * R) i) (bs_cp h4 (6 * R) i) l b v := by
  intro d
  induction d with
  | zero =>
    intro n i hi hn
    obtain ⟨m, rfl⟩ : ∃ m, n = m + 1 := ⟨n - 1, by omega⟩
    obtain rfl : i = s 6 := by omega
    have hle : l 6 ≤ nI (s 6) := by
      rw [el]
      exact nI_le (Nat.le_refl _) (by omega)
    refine br_t hle ⟨vp_in_nI (by omega) (by omega), nm_r (by rw [nI_clamp (by omega)]) (nm_e (nm_r (nI_1 R) ?_))⟩
    rw [nI_pred]
    exact H
  | succ d ih =>
    intro n i hi hn
    obtain ⟨m, rfl⟩ : ∃ m, n = m + 1 := ⟨n - 1, by omega⟩
    have hle : ¬ l 6 ≤ nI i := by
      rw [el]
      exact nI_ge (by omega) (by omega)
    have ea : (36 : Int32) + nI i = nI (36 + i) := nI_add 36 i
    have et : 6 * nI R + nI i = nI (6 * R + i) := by
      rw [← nI_add, ← pk_mul]
      rfl
    have ca : ((36 : Int32) + nI i).toNatClampNeg = 36 + i := by rw [ea, nI_clamp (by omega)]
    have ct : (6 * nI R + nI i).toNatClampNeg = 6 * R + i := by rw [et, nI_clamp (by omega)]
    have ia : vp_in ((36 : Int32) + nI i) 42 := by
      rw [ea]
      exact vp_in_nI (by omega) (by omega)
    have it : vp_in (6 * nI R + nI i) 42 := by
      rw [et]
      exact vp_in_nI (by omega) (by omega)
    have hu : ∀ a : Nat → Int32, upd (bs_cp a (6 * R) i) (6 * nI R + nI i).toNatClampNeg (bs_cp a (6 * R) i ((36 : Int32) + nI i).toNatClampNeg) = bs_cp a (6 * R) (i + 1) := by
      intro a
      rw [ca, ct]
      rfl
    exact br_f hle ⟨ia, it, nm_r (hu h1) ⟨ia, it, nm_r (hu h2) ⟨ia, it, nm_r (hu h3) ⟨ia, it, nm_r (hu h4) (nm_r (nI_1 i) (ih m (i + 1) (by omega) (by omega)))⟩⟩⟩⟩
theorem bs_endY (hR : R < 6) (hs : s 6 ≤ 6) (el : l 6 = nI (s 6)) (post : Int32 → SY → Prop) (H : post (nI R) (nI (R + 1), nI B, ps, bs_cp h1 (6 * R) (s 6), bs_cp h2 (6 * R) (s 6), bs_cp h3 (6 * R) (s 6), bs_cp h4 (6 * R) (s 6), upd (upd l R (l 6)) 6 0, b, v)) : wpY_end post (nI R, nI B, ps, h1, h2, h3, h4, l, b, v) := by
  have hne : ¬ nI R = 6 := by
    intro h
    have := (nI_eq (a := R) (b := 6) (by omega) (by omega)).mp h
    omega
  exact br_f hne ⟨s 6 + 1, bs_copyY_go b h1 h2 h3 h4 l v ps hR hs el post H (s 6) (s 6 + 1) 0 (by omega) (by omega)⟩
theorem bs_inv_end (I : bs_Inv B R s k1 k2 k3 k4 h1 h2 h3 h4 l) (hR : R < 6) :
    bs_Inv B (R + 1) (fun j => if j = R then s 6 else if j = 6 then 0 else s j) (bs_cp k1 (6 * R) 6) (bs_cp k2 (6 * R) 6) (bs_cp k3 (6 * R) 6) (bs_cp k4 (6 * R) 6) (bs_cp h1 (6 * R) (s 6)) (bs_cp h2 (6 * R) (s 6)) (bs_cp h3 (6 * R) (s 6)) (bs_cp h4 (6 * R) (s 6)) (upd (upd l R (l 6)) 6 0) := by
  obtain ⟨hB, _, hl, hs, ha⟩ := I
  have h6 := (hl 6 (by omega)).2
  have el := (hl 6 (by omega)).1
  refine ⟨hB, by omega, fun j hj => ?_, ?_, fun j hj i hi => ?_⟩
  · show _ = nI (if j = R then s 6 else if j = 6 then 0 else s j) ∧ (if j = R then s 6 else if j = 6 then 0 else s j) ≤ 6
    by_cases h : j = R
    · subst h
      rw [if_pos rfl, pk_un (by omega), pk_us]
      exact ⟨el, h6⟩
    · by_cases h2 : j = 6
      · subst h2
        rw [if_neg h, if_pos rfl, pk_us]
        exact ⟨rfl, by omega⟩
      · rw [if_neg h, if_neg h2, pk_un h2, pk_un h]
        exact hl j hj
  · show bs_sum _ R + (if R = R then s 6 else if R = 6 then 0 else s R) + (if 6 = R then s 6 else if 6 = 6 then 0 else s 6) ≤ 30
    rw [bs_sum_up (s := s) R (fun j hj => by
      show (if j = R then s 6 else if j = 6 then 0 else s j) = s j
      rw [if_neg (by omega), if_neg (by omega)]), if_pos rfl, if_neg (by omega), if_pos rfl]
    omega
  · have hi' : i < if j = R then s 6 else if j = 6 then 0 else s j := hi
    unfold bs_Ag
    rw [bs_cp_at k1 (by omega) 6 (by omega), bs_cp_at k2 (by omega) 6 (by omega), bs_cp_at k3 (by omega) 6 (by omega), bs_cp_at k4 (by omega) 6 (by omega), bs_cp_at h1 (by omega) (s 6) h6, bs_cp_at h2 (by omega) (s 6) h6, bs_cp_at h3 (by omega) (s 6) h6, bs_cp_at h4 (by omega) (s 6) h6]
    by_cases h : j = R
    · subst h
      rw [if_pos rfl] at hi'
      have c1 : 6 * j ≤ 6 * j + i ∧ 6 * j + i < 6 * j + 6 := by omega
      have c2 : 6 * j ≤ 6 * j + i ∧ 6 * j + i < 6 * j + s 6 := by omega
      rw [if_pos c1, if_pos c1, if_pos c1, if_pos c1, if_pos c2, if_pos c2, if_pos c2, if_pos c2, show 36 + (6 * j + i - 6 * j) = 6 * 6 + i from by omega]
      exact ha 6 (by omega) i hi'
    · rw [if_neg h] at hi'
      by_cases h2 : j = 6
      · rw [if_pos h2] at hi'
        omega
      · rw [if_neg h2] at hi'
        have hsj := (hl j hj).2
        have c1 : ¬ (6 * R ≤ 6 * j + i ∧ 6 * j + i < 6 * R + 6) := by omega
        have c2 : ¬ (6 * R ≤ 6 * j + i ∧ 6 * j + i < 6 * R + s 6) := by omega
        rw [if_neg c1, if_neg c1, if_neg c1, if_neg c1, if_neg c2, if_neg c2, if_neg c2, if_neg c2]
        exact ha j hj i hi'
end
end
section
/-! what is owed -/
def i_Rel (k : Nat) (u : SX) (v : SY) : Prop := bs_R u v
theorem i_up {k : Nat} {u : SX} {v : SY} (h : i_Rel k u v) : i_Rel (k + 4) u v := h
theorem i_vc0 : wpX_init (fun u => wpY_init (fun v => i_Rel 0 u v)) := ⟨0, 0, fun _ => 0, 0, 0, fun _ => 0, fun _ => 0, fun _ => 0, fun _ => 0, fun _ => 0, fun _ => 0, fun _ => 0, fun _ => 0, fun _ => 0, fun _ => 0, fun _ => 0, fun _ => 0, rfl, rfl, ⟨by omega, by omega, fun _ _ => ⟨rfl, Nat.zero_le _⟩, by decide, fun _ _ _ hi => absurd hi (Nat.not_lt_zero _)⟩, fun _ _ => rfl, fun _ _ => rfl⟩
theorem i_vc_literal {k : Nat} {u : SX} {v : SY} (I : i_Rel k u v) (hk : k + 4 ≤ 2048) (v1 : Int32) (v2 : Int32) : wpX_literal (fun r u' => wpY_literal (fun r' v' => r' = r ∧ i_Rel (k + 4) u' v') v v1 v2) u v1 v2 := by
  have rel : bs_R u v := I
  obtain ⟨B, R, s, ps, at', b, k1, k2, k3, k4, h1, h2, h3, h4, l, va, vb, rfl, rfl, J, hva, hvb⟩ := I
  refine bs_fin (WX := fun post => wpX_literal post (nI B, nI R, ps, b, k1, k2, k3, k4, l, va) v1 v2) (WY := fun post => wpY_literal post (nI R, nI B, at', h1, h2, h3, h4, l, b, vb) v1 v2) ?_
  by_cases c1 : v1 < 0
  · exact ⟨-1, _, _, rel, fun _ H => br_t c1 H, fun _ H => br_t c1 H⟩
  by_cases c2 : 16 < v1
  · exact ⟨-1, _, _, rel, fun _ H => br_f c1 (br_t c2 H), fun _ H => br_f c1 (br_t c2 H)⟩
  by_cases c3 : v2 < 0
  · exact ⟨-1, _, _, rel, fun _ H => br_f c1 (br_f c2 (br_t c3 H)), fun _ H => br_f c1 (br_f c2 (br_t c3 H))⟩
  by_cases c4 : v2 < ((1 : Int32) <<< (v1 &&& 31))
  · obtain ⟨w, hw, ew⟩ := nI_of2 (M := 16) (n := 16) (by decide) c1 (Int32.not_lt.mp c2)
    obtain ⟨r, g1, g2, g3, g4, d1, d2, d3, d4, l', hR, hX, hY⟩ := bs_append b k1 k2 k3 k4 h1 h2 h3 h4 l ps (at' := at') J (a1 := 0) (a2 := v1) (a3 := v2) (a4 := 0) (Or.inl ⟨rfl, w, hw, ew⟩) hva hvb
    exact ⟨r, _, _, hR, fun _ H => br_f c1 (br_f c2 (br_f c3 (br_t c4 (hX _ H)))), fun _ H => br_f c1 (br_f c2 (br_f c3 (br_t c4 (hY _ H))))⟩
  · exact ⟨-1, _, _, rel, fun _ H => br_f c1 (br_f c2 (br_f c3 (br_f c4 H))), fun _ H => br_f c1 (br_f c2 (br_f c3 (br_f c4 H)))⟩
theorem i_vc_field {k : Nat} {u : SX} {v : SY} (I : i_Rel k u v) (hk : k + 4 ≤ 2048) (v1 : Int32) (v2 : Int32) (v3 : Int32) : wpX_field (fun r u' => wpY_field (fun r' v' => r' = r ∧ i_Rel (k + 4) u' v') v v1 v2 v3) u v1 v2 v3 := by
  have rel : bs_R u v := I
  obtain ⟨B, R, s, ps, at', b, k1, k2, k3, k4, h1, h2, h3, h4, l, va, vb, rfl, rfl, J, hva, hvb⟩ := I
  refine bs_fin (WX := fun post => wpX_field post (nI B, nI R, ps, b, k1, k2, k3, k4, l, va) v1 v2 v3) (WY := fun post => wpY_field post (nI R, nI B, at', h1, h2, h3, h4, l, b, vb) v1 v2 v3) ?_
  unfold wpX_field wpY_field
  obtain ⟨r1, hr1, vX, vY⟩ := bs_var v1
  rcases hr1 with rfl | ⟨rfl, x, hx, ex⟩
  · exact ⟨-1, _, _, rel, fun _ H => vX _ (br_t rfl H), fun _ H => vY _ _ _ _ _ _ _ _ _ _ _ (br_t rfl H)⟩
  have n1 : ¬ (1 : Int32) = 0 := by decide
  by_cases c2 : v2 < 0
  · exact ⟨-1, _, _, rel, fun _ H => vX _ (br_f n1 (br_t c2 H)), fun _ H => vY _ _ _ _ _ _ _ _ _ _ _ (br_f n1 (br_t c2 H))⟩
  by_cases c3 : 32 < v2
  · exact ⟨-1, _, _, rel, fun _ H => vX _ (br_f n1 (br_f c2 (br_t c3 H))), fun _ H => vY _ _ _ _ _ _ _ _ _ _ _ (br_f n1 (br_f c2 (br_t c3 H)))⟩
  by_cases c4 : v3 < 0
  · exact ⟨-1, _, _, rel, fun _ H => vX _ (br_f n1 (br_f c2 (br_f c3 (br_t c4 H)))), fun _ H => vY _ _ _ _ _ _ _ _ _ _ _ (br_f n1 (br_f c2 (br_f c3 (br_t c4 H))))⟩
  by_cases c5 : v3 ≤ 3
  case neg => exact ⟨-1, _, _, rel, fun _ H => vX _ (br_f n1 (br_f c2 (br_f c3 (br_f c4 (br_f c5 H))))), fun _ H => vY _ _ _ _ _ _ _ _ _ _ _ (br_f n1 (br_f c2 (br_f c3 (br_f c4 (br_f c5 H)))))⟩
  obtain ⟨w, hw, ew⟩ := nI_of2 (M := 32) (n := 32) (by decide) c2 (Int32.not_lt.mp c3)
  obtain ⟨f, hf, ef⟩ := nI_of2 (M := 3) (n := 3) (by decide) c4 c5
  have go : (2 ≤ f → ∃ m, 1 ≤ m ∧ w = 8 * m) → ∃ (r : Int32) (g1 g2 g3 g4 d1 d2 d3 d4 l' : Nat → Int32), bs_R (nI B, nI R, ps, b, g1, g2, g3, g4, l', va) (nI R, nI B, at', d1, d2, d3, d4, l', b, vb) ∧
      (∀ post : Int32 → SX → Prop, post r (nI B, nI R, ps, b, g1, g2, g3, g4, l', va) → wpX_append post (nI B, nI R, ps, b, k1, k2, k3, k4, l, va) 1 v1 v2 v3) ∧
      (∀ post : Int32 → SY → Prop, post r (nI R, nI B, at', d1, d2, d3, d4, l', b, vb) → wpY_append post (nI R, nI B, at', h1, h2, h3, h4, l, b, vb) 1 v1 v2 v3) :=
    fun h8 => bs_append b k1 k2 k3 k4 h1 h2 h3 h4 l ps (at' := at') J (Or.inr (Or.inl ⟨rfl, x, w, f, hx, hw, hf, h8, ex, ew, ef⟩)) hva hvb
  have iX : v3 &&& 2 = 0 ↔ f ≤ 1 := by
    rw [ef]
    exact bs_f2 f (by omega)
  have iY : v3 ≤ 1 ↔ f ≤ 1 := by
    rw [ef]
    exact nI_leI (a := f) (b := 1) (by omega) (by omega)
  by_cases cf : f ≤ 1
  · obtain ⟨r, g1, g2, g3, g4, d1, d2, d3, d4, l', hR, hX, hY⟩ := go (fun h => absurd h (by omega))
    exact ⟨r, _, _, hR, fun _ H => vX _ (br_f n1 (br_f c2 (br_f c3 (br_f c4 (br_t c5 (br_t (iX.mpr cf) (hX _ H))))))), fun _ H => vY _ _ _ _ _ _ _ _ _ _ _ (br_f n1 (br_f c2 (br_f c3 (br_f c4 (br_t c5 (br_t (iY.mpr cf) (hY _ H)))))))⟩
  have fX : ¬ v3 &&& 2 = 0 := fun z => cf (iX.mp z)
  have fY : ¬ v3 ≤ 1 := fun z => cf (iY.mp z)
  have n8 : ¬ (8 : Int32) = 0 := by decide
  by_cases cz : v2 = 0
  · exact ⟨-1, _, _, rel, fun _ H => vX _ (br_f n1 (br_f c2 (br_f c3 (br_f c4 (br_t c5 (br_f fX (br_t cz H))))))), fun _ H => vY _ _ _ _ _ _ _ _ _ _ _ (br_f n1 (br_f c2 (br_f c3 (br_f c4 (br_t c5 (br_f fY (br_t cz H)))))))⟩
  by_cases cr : (v2 - v2 / 8 * 8) = 0
  · have hm : ∃ m, 1 ≤ m ∧ w = 8 * m := by
      rw [ew] at cr cz
      have er := pk_rem (a := w) (d := 8) (by omega) (by omega) (by omega)
      have e0 : nI (w % 8) = nI 0 := er.symm.trans cr
      have e1 := (nI_eq (by omega) (by omega)).mp e0
      have e2 : w ≠ 0 := fun z => cz (by rw [z]; rfl)
      exact ⟨w / 8, by omega, by omega⟩
    obtain ⟨r, g1, g2, g3, g4, d1, d2, d3, d4, l', hR, hX, hY⟩ := go (fun _ => hm)
    exact ⟨r, _, _, hR, fun _ H => vX _ (br_f n1 (br_f c2 (br_f c3 (br_f c4 (br_t c5 (br_f fX (br_f cz ⟨n8, br_t cr (hX _ H)⟩))))))), fun _ H => vY _ _ _ _ _ _ _ _ _ _ _ (br_f n1 (br_f c2 (br_f c3 (br_f c4 (br_t c5 (br_f fY (br_f cz ⟨n8, br_t cr (hY _ H)⟩)))))))⟩
  · exact ⟨-1, _, _, rel, fun _ H => vX _ (br_f n1 (br_f c2 (br_f c3 (br_f c4 (br_t c5 (br_f fX (br_f cz ⟨n8, br_f cr H⟩))))))), fun _ H => vY _ _ _ _ _ _ _ _ _ _ _ (br_f n1 (br_f c2 (br_f c3 (br_f c4 (br_t c5 (br_f fY (br_f cz ⟨n8, br_f cr H⟩)))))))⟩
theorem i_vc_sized {k : Nat} {u : SX} {v : SY} (I : i_Rel k u v) (hk : k + 4 ≤ 2048) (v1 : Int32) (v2 : Int32) (v3 : Int32) : wpX_sized (fun r u' => wpY_sized (fun r' v' => r' = r ∧ i_Rel (k + 4) u' v') v v1 v2 v3) u v1 v2 v3 := by
  have rel : bs_R u v := I
  obtain ⟨B, R, s, ps, at', b, k1, k2, k3, k4, h1, h2, h3, h4, l, va, vb, rfl, rfl, J, hva, hvb⟩ := I
  refine bs_fin (WX := fun post => wpX_sized post (nI B, nI R, ps, b, k1, k2, k3, k4, l, va) v1 v2 v3) (WY := fun post => wpY_sized post (nI R, nI B, at', h1, h2, h3, h4, l, b, vb) v1 v2 v3) ?_
  unfold wpX_sized wpY_sized
  have n1 : ¬ (1 : Int32) = 0 := by decide
  obtain ⟨r1, hr1, vX, vY⟩ := bs_var v1
  obtain ⟨r2, hr2, wX, wY⟩ := bs_var v2
  rcases hr1 with rfl | ⟨rfl, x, hx, ex⟩
  · exact ⟨-1, _, _, rel, fun _ H => vX _ (br_t rfl H), fun _ H => vY _ _ _ _ _ _ _ _ _ _ _ (br_t rfl H)⟩
  rcases hr2 with rfl | ⟨rfl, y, hy, ey⟩
  · exact ⟨-1, _, _, rel, fun _ H => vX _ (br_f n1 (wX _ (br_t rfl H))), fun _ H => vY _ _ _ _ _ _ _ _ _ _ _ (br_f n1 (wY _ _ _ _ _ _ _ _ _ _ _ (br_t rfl H)))⟩
  by_cases c1 : v3 < 1
  · refine ⟨-1, _, _, rel, fun _ H => vX _ (br_f n1 (wX _ (br_f n1 ?_))), fun _ H => vY _ _ _ _ _ _ _ _ _ _ _ (br_f n1 (wY _ _ _ _ _ _ _ _ _ _ _ (br_f n1 (br_t c1 H))))⟩
    unfold wpX_isUnit
    exact br_t c1 (br_t rfl H)
  by_cases c2 : v3 ≤ 8
  · obtain ⟨r, g1, g2, g3, g4, d1, d2, d3, d4, l', hR, hX, hY⟩ := bs_append b k1 k2 k3 k4 h1 h2 h3 h4 l ps (at' := at') J (a1 := 2) (a2 := v1) (a3 := v2) (a4 := v3) (Or.inr (Or.inr (Or.inl ⟨rfl, x, y, hx, hy, ex, ey⟩))) hva hvb
    refine ⟨r, _, _, hR, fun _ H => vX _ (br_f n1 (wX _ (br_f n1 ?_))), fun _ H => vY _ _ _ _ _ _ _ _ _ _ _ (br_f n1 (wY _ _ _ _ _ _ _ _ _ _ _ (br_f n1 (br_f c1 (br_t c2 (hY _ H))))))⟩
    unfold wpX_isUnit
    exact br_f c1 (br_f (Int32.not_lt.mpr c2) (br_f n1 (hX _ H)))
  · refine ⟨-1, _, _, rel, fun _ H => vX _ (br_f n1 (wX _ (br_f n1 ?_))), fun _ H => vY _ _ _ _ _ _ _ _ _ _ _ (br_f n1 (wY _ _ _ _ _ _ _ _ _ _ _ (br_f n1 (br_f c1 (br_f c2 H)))))⟩
    unfold wpX_isUnit
    exact br_f c1 (br_t (Int32.not_le.mp c2) (br_t rfl H))
theorem i_vc_skip {k : Nat} {u : SX} {v : SY} (I : i_Rel k u v) (hk : k + 4 ≤ 2048) (v1 : Int32) (v2 : Int32) : wpX_skip (fun r u' => wpY_skip (fun r' v' => r' = r ∧ i_Rel (k + 4) u' v') v v1 v2) u v1 v2 := by
  have rel : bs_R u v := I
  obtain ⟨B, R, s, ps, at', b, k1, k2, k3, k4, h1, h2, h3, h4, l, va, vb, rfl, rfl, J, hva, hvb⟩ := I
  refine bs_fin (WX := fun post => wpX_skip post (nI B, nI R, ps, b, k1, k2, k3, k4, l, va) v1 v2) (WY := fun post => wpY_skip post (nI R, nI B, at', h1, h2, h3, h4, l, b, vb) v1 v2) ?_
  unfold wpX_skip wpY_skip
  have n1 : ¬ (1 : Int32) = 0 := by decide
  obtain ⟨r1, hr1, vX, vY⟩ := bs_var v1
  rcases hr1 with rfl | ⟨rfl, x, hx, ex⟩
  · exact ⟨-1, _, _, rel, fun _ H => vX _ (br_t rfl H), fun _ H => vY _ _ _ _ _ _ _ _ _ _ _ (br_t rfl H)⟩
  by_cases c1 : v2 < 1
  · refine ⟨-1, _, _, rel, fun _ H => vX _ (br_f n1 ?_), fun _ H => vY _ _ _ _ _ _ _ _ _ _ _ (br_f n1 (br_t c1 H))⟩
    unfold wpX_isUnit
    exact br_t c1 (br_t rfl H)
  by_cases c2 : v2 ≤ 8
  · obtain ⟨r, g1, g2, g3, g4, d1, d2, d3, d4, l', hR, hX, hY⟩ := bs_append b k1 k2 k3 k4 h1 h2 h3 h4 l ps (at' := at') J (a1 := 3) (a2 := v1) (a3 := v2) (a4 := 0) (Or.inr (Or.inr (Or.inr (Or.inl ⟨rfl, x, hx, ex⟩)))) hva hvb
    refine ⟨r, _, _, hR, fun _ H => vX _ (br_f n1 ?_), fun _ H => vY _ _ _ _ _ _ _ _ _ _ _ (br_f n1 (br_f c1 (br_t c2 (hY _ H))))⟩
    unfold wpX_isUnit
    exact br_f c1 (br_f (Int32.not_lt.mpr c2) (br_f n1 (hX _ H)))
  · refine ⟨-1, _, _, rel, fun _ H => vX _ (br_f n1 ?_), fun _ H => vY _ _ _ _ _ _ _ _ _ _ _ (br_f n1 (br_f c1 (br_f c2 H)))⟩
    unfold wpX_isUnit
    exact br_f c1 (br_t (Int32.not_le.mp c2) (br_t rfl H))
theorem i_vc_same {k : Nat} {u : SX} {v : SY} (I : i_Rel k u v) (hk : k + 4 ≤ 2048) (v1 : Int32) (v2 : Int32) : wpX_same (fun r u' => wpY_same (fun r' v' => r' = r ∧ i_Rel (k + 4) u' v') v v1 v2) u v1 v2 := by
  have rel : bs_R u v := I
  obtain ⟨B, R, s, ps, at', b, k1, k2, k3, k4, h1, h2, h3, h4, l, va, vb, rfl, rfl, J, hva, hvb⟩ := I
  refine bs_fin (WX := fun post => wpX_same post (nI B, nI R, ps, b, k1, k2, k3, k4, l, va) v1 v2) (WY := fun post => wpY_same post (nI R, nI B, at', h1, h2, h3, h4, l, b, vb) v1 v2) ?_
  unfold wpX_same wpY_same
  have n1 : ¬ (1 : Int32) = 0 := by decide
  obtain ⟨r1, hr1, vX, vY⟩ := bs_var v1
  obtain ⟨r2, hr2, wX, wY⟩ := bs_var v2
  rcases hr1 with rfl | ⟨rfl, x, hx, ex⟩
  · exact ⟨-1, _, _, rel, fun _ H => vX _ (br_t rfl H), fun _ H => vY _ _ _ _ _ _ _ _ _ _ _ (br_t rfl H)⟩
  rcases hr2 with rfl | ⟨rfl, y, hy, ey⟩
  · exact ⟨-1, _, _, rel, fun _ H => vX _ (br_f n1 (wX _ (br_t rfl H))), fun _ H => vY _ _ _ _ _ _ _ _ _ _ _ (br_f n1 (wY _ _ _ _ _ _ _ _ _ _ _ (br_t rfl H)))⟩
  obtain ⟨r, g1, g2, g3, g4, d1, d2, d3, d4, l', hR, hX, hY⟩ := bs_append b k1 k2 k3 k4 h1 h2 h3 h4 l ps (at' := at') J (a1 := 4) (a2 := v1) (a3 := v2) (a4 := 0) (Or.inr (Or.inr (Or.inr (Or.inr (Or.inl ⟨rfl, x, y, hx, hy, ex, ey⟩))))) hva hvb
  exact ⟨r, _, _, hR, fun _ H => vX _ (br_f n1 (wX _ (br_f n1 (hX _ H)))), fun _ H => vY _ _ _ _ _ _ _ _ _ _ _ (br_f n1 (wY _ _ _ _ _ _ _ _ _ _ _ (br_f n1 (hY _ H))))⟩
theorem i_vc_rest {k : Nat} {u : SX} {v : SY} (I : i_Rel k u v) (hk : k + 4 ≤ 2048) (v1 : Int32) : wpX_rest (fun r u' => wpY_rest (fun r' v' => r' = r ∧ i_Rel (k + 4) u' v') v v1) u v1 := by
  have rel : bs_R u v := I
  obtain ⟨B, R, s, ps, at', b, k1, k2, k3, k4, h1, h2, h3, h4, l, va, vb, rfl, rfl, J, hva, hvb⟩ := I
  refine bs_fin (WX := fun post => wpX_rest post (nI B, nI R, ps, b, k1, k2, k3, k4, l, va) v1) (WY := fun post => wpY_rest post (nI R, nI B, at', h1, h2, h3, h4, l, b, vb) v1) ?_
  unfold wpX_rest wpY_rest
  have n1 : ¬ (1 : Int32) = 0 := by decide
  obtain ⟨r1, hr1, vX, vY⟩ := bs_var v1
  rcases hr1 with rfl | ⟨rfl, x, hx, ex⟩
  · exact ⟨-1, _, _, rel, fun _ H => vX _ (br_t rfl H), fun _ H => vY _ _ _ _ _ _ _ _ _ _ _ (br_t rfl H)⟩
  obtain ⟨r, g1, g2, g3, g4, d1, d2, d3, d4, l', hR, hX, hY⟩ := bs_append b k1 k2 k3 k4 h1 h2 h3 h4 l ps (at' := at') J (a1 := 5) (a2 := v1) (a3 := 0) (a4 := 0) (Or.inr (Or.inr (Or.inr (Or.inr (Or.inr ⟨rfl, x, hx, ex⟩))))) hva hvb
  exact ⟨r, _, _, hR, fun _ H => vX _ (br_f n1 (hX _ H)), fun _ H => vY _ _ _ _ _ _ _ _ _ _ _ (br_f n1 (hY _ H))⟩
theorem i_vc_segments {k : Nat} {u : SX} {v : SY} (I : i_Rel k u v) (hk : k + 4 ≤ 2048) : wpX_segments (fun r => wpY_segments (fun r' => r' = r ∧ i_Rel (k + 4) u v) v) u := by
  have rel : bs_R u v := I
  obtain ⟨B, R, s, ps, at', b, k1, k2, k3, k4, h1, h2, h3, h4, l, va, vb, rfl, rfl, J, hva, hvb⟩ := I
  exact ⟨rfl, rel⟩
theorem i_vc_scrap {k : Nat} {u : SX} {v : SY} (I : i_Rel k u v) (hk : k + 4 ≤ 2048) : wpX_scrap (fun u' => wpY_scrap (fun v' => i_Rel (k + 4) u' v') v) u := by
  obtain ⟨B, R, s, ps, at', b, k1, k2, k3, k4, h1, h2, h3, h4, l, va, vb, rfl, rfl, J, hva, hvb⟩ := I
  obtain ⟨hB, hR, hl, hs, ha⟩ := J
  refine nm_e (nm_e ⟨B, R, (fun j => if j = 6 then 0 else s j), ps, at', b, k1, k2, k3, k4, h1, h2, h3, h4, upd l 6 0, va, vb, rfl, rfl, ⟨hB, hR, fun j hj => ?_, ?_, fun j hj i hi => ?_⟩, hva, hvb⟩)
  · show _ = nI (if j = 6 then 0 else s j) ∧ (if j = 6 then 0 else s j) ≤ 6
    by_cases h : j = 6
    · subst h
      exact ⟨pk_us, Nat.zero_le _⟩
    · rw [pk_un h, if_neg h]
      exact hl j hj
  · rw [bs_sum_up (s := s) R (fun j hj => if_neg (by omega))]
    show bs_sum s R + 0 ≤ 30
    omega
  · have hi' : i < if j = 6 then 0 else s j := hi
    by_cases h : j = 6
    · rw [if_pos h] at hi'
      omega
    · rw [if_neg h] at hi'
      exact ha j hj i hi'
theorem i_vc_end {k : Nat} {u : SX} {v : SY} (I : i_Rel k u v) (hk : k + 4 ≤ 2048) : wpX_end (fun r u' => wpY_end (fun r' v' => r' = r ∧ i_Rel (k + 4) u' v') v) u := by
  have rel : bs_R u v := I
  obtain ⟨B, R, s, ps, at', b, k1, k2, k3, k4, h1, h2, h3, h4, l, va, vb, rfl, rfl, J, hva, hvb⟩ := I
  refine bs_fin (WX := fun post => wpX_end post (nI B, nI R, ps, b, k1, k2, k3, k4, l, va)) (WY := fun post => wpY_end post (nI R, nI B, at', h1, h2, h3, h4, l, b, vb)) ?_
  have hR6 : R ≤ 6 := J.2.1
  have h6 := J.2.2.1 6 (by omega)
  by_cases c : R < 6
  · exact ⟨nI R, _, _, ⟨B, R + 1, _, ps, at', b, _, _, _, _, _, _, _, _, _, va, vb, rfl, rfl, bs_inv_end k1 k2 k3 k4 h1 h2 h3 h4 l J c, hva, hvb⟩, fun post H => bs_endX b k1 k2 k3 k4 l va ps c post H, fun post H => bs_endY b h1 h2 h3 h4 l vb at' c h6.2 h6.1 post H⟩
  · obtain rfl : R = 6 := by omega
    exact ⟨-2, _, _, rel, fun _ H => br_f (by decide) H, fun _ H => br_t (by decide) H⟩
theorem i_vc_unend {k : Nat} {u : SX} {v : SY} (I : i_Rel k u v) (hk : k + 4 ≤ 2048) : wpX_unend (fun r u' => wpY_unend (fun r' v' => r' = r ∧ i_Rel (k + 4) u' v') v) u := by
  have rel : bs_R u v := I
  obtain ⟨B, R, s, ps, at', b, k1, k2, k3, k4, h1, h2, h3, h4, l, va, vb, rfl, rfl, J, hva, hvb⟩ := I
  refine bs_fin (WX := fun post => wpX_unend post (nI B, nI R, ps, b, k1, k2, k3, k4, l, va)) (WY := fun post => wpY_unend post (nI R, nI B, at', h1, h2, h3, h4, l, b, vb)) ?_
  rcases Nat.eq_zero_or_pos R with rfl | c
  · exact ⟨-4, _, _, rel, fun _ H => br_f (by decide) H, fun _ H => br_t (by decide) H⟩
  · obtain ⟨q, rfl⟩ : ∃ q, R = q + 1 := ⟨R - 1, by omega⟩
    obtain ⟨hB, hR, hl, hs, ha⟩ := J
    have hs' : bs_sum s q + s q + s 6 ≤ 30 := hs
    exact ⟨nI q, _, _, ⟨B, q, s, ps, at', b, k1, k2, k3, k4, h1, h2, h3, h4, l, va, vb, rfl, rfl, ⟨hB, by omega, hl, by omega, ha⟩, hva, hvb⟩, fun _ H => br_t (nI_lt (a := 0) (by omega) (by omega)) (nm_r (nI_pred q) H), fun _ H => br_f (nI_ne0 (by omega) (by omega)) (nm_r (nI_pred q) H)⟩
theorem i_vc_rules {k : Nat} {u : SX} {v : SY} (I : i_Rel k u v) (hk : k + 4 ≤ 2048) : wpX_rules (fun r => wpY_rules (fun r' => r' = r ∧ i_Rel (k + 4) u v) v) u := by
  have rel : bs_R u v := I
  obtain ⟨B, R, s, ps, at', b, k1, k2, k3, k4, h1, h2, h3, h4, l, va, vb, rfl, rfl, J, hva, hvb⟩ := I
  exact ⟨rfl, rel⟩
theorem i_vc_feed {k : Nat} {u : SX} {v : SY} (I : i_Rel k u v) (hk : k + 4 ≤ 2048) (v1 : Int32) : wpX_feed (fun r u' => wpY_feed (fun r' v' => r' = r ∧ i_Rel (k + 4) u' v') v v1) u v1 := by
  have rel : bs_R u v := I
  obtain ⟨B, R, s, ps, at', b, k1, k2, k3, k4, h1, h2, h3, h4, l, va, vb, rfl, rfl, J, hva, hvb⟩ := I
  refine bs_fin (WX := fun post => wpX_feed post (nI B, nI R, ps, b, k1, k2, k3, k4, l, va) v1) (WY := fun post => wpY_feed post (nI R, nI B, at', h1, h2, h3, h4, l, b, vb) v1) ?_
  unfold wpX_feed wpX_isByte
  have n1 : ¬ (1 : Int32) = 0 := by decide
  obtain ⟨hB, hR, hl, hs, ha⟩ := J
  by_cases c1 : v1 < 0
  · exact ⟨-1, _, _, rel, fun _ H => br_t c1 (br_t rfl H), fun _ H => br_t c1 H⟩
  by_cases c2 : v1 ≤ 255
  case neg => exact ⟨-1, _, _, rel, fun _ H => br_f c1 (br_t (Int32.not_le.mp c2) (br_t rfl H)), fun _ H => br_f c1 (br_f c2 H)⟩
  have c2' := Int32.not_lt.mpr c2
  by_cases c : B = 8
  · subst c
    exact ⟨-2, _, _, rel, fun _ H => br_f c1 (br_f c2' (br_f n1 (br_f (by decide) H))), fun _ H => br_f c1 (br_t c2 (br_t (by decide) H))⟩
  · have hc : (nI B).toNatClampNeg = B := nI_clamp (by omega)
    have hi : vp_in (nI B) 8 := vp_in_nI (by omega) (by omega)
    have hne : ¬ nI B = 8 := fun z => c ((nI_eq (a := B) (b := 8) (by omega) (by omega)).mp z)
    exact ⟨nI (B + 1), _, _, ⟨B + 1, R, s, ps, at', upd b B v1, k1, k2, k3, k4, h1, h2, h3, h4, l, va, vb, rfl, rfl, ⟨by omega, hR, hl, hs, ha⟩, hva, hvb⟩, fun _ H => br_f c1 (br_f c2' (br_f n1 (br_t (nI_lt (b := 8) (by omega) (by omega)) ⟨hi, nm_r (by rw [hc]) (nm_r (nI_1 B) H)⟩))), fun _ H => br_f c1 (br_t c2 (br_f hne ⟨hi, nm_r (by rw [hc]) (nm_r (nI_1 B) H)⟩))⟩
theorem i_vc_put {k : Nat} {u : SX} {v : SY} (I : i_Rel k u v) (hk : k + 4 ≤ 2048) (v1 : Int32) (v2 : Int32) : wpX_put (fun r u' => wpY_put (fun r' v' => r' = r ∧ i_Rel (k + 4) u' v') v v1 v2) u v1 v2 := by
  have rel : bs_R u v := I
  obtain ⟨B, R, s, ps, at', b, k1, k2, k3, k4, h1, h2, h3, h4, l, va, vb, rfl, rfl, J, hva, hvb⟩ := I
  refine bs_fin (WX := fun post => wpX_put post (nI B, nI R, ps, b, k1, k2, k3, k4, l, va) v1 v2) (WY := fun post => wpY_put post (nI R, nI B, at', h1, h2, h3, h4, l, b, vb) v1 v2) ?_
  unfold wpX_put wpX_isByte
  have n1 : ¬ (1 : Int32) = 0 := by decide
  by_cases c1 : v1 < 0
  · exact ⟨-1, _, _, rel, fun _ H => br_t c1 H, fun _ H => br_t c1 H⟩
  by_cases c2 : nI B ≤ v1
  · exact ⟨-1, _, _, rel, fun _ H => br_f c1 (br_t c2 H), fun _ H => br_f c1 (br_t c2 H)⟩
  by_cases c3 : v2 < 0
  · exact ⟨-1, _, _, rel, fun _ H => br_f c1 (br_f c2 (br_t c3 (br_t rfl H))), fun _ H => br_f c1 (br_f c2 (br_t c3 H))⟩
  by_cases c4 : v2 ≤ 255
  case neg => exact ⟨-1, _, _, rel, fun _ H => br_f c1 (br_f c2 (br_f c3 (br_t (Int32.not_le.mp c4) (br_t rfl H)))), fun _ H => br_f c1 (br_f c2 (br_f c3 (br_f c4 H)))⟩
  have c4' := Int32.not_lt.mpr c4
  have hB : B ≤ 8 := J.1
  obtain ⟨i, hi31, rfl⟩ := nI_of c1
  have hiB : i < B := by
    rw [nI_leI (by omega) hi31] at c2
    omega
  have hi : vp_in (nI i) 8 := vp_in_nI (by omega) (by omega)
  exact ⟨b (nI i).toNatClampNeg, _, _, ⟨B, R, s, ps, at', upd b (nI i).toNatClampNeg v2, k1, k2, k3, k4, h1, h2, h3, h4, l, va, vb, rfl, rfl, J, hva, hvb⟩, fun _ H => br_f c1 (br_f c2 (br_f c3 (br_f c4' (br_f n1 ⟨hi, nm_e ⟨hi, nm_e H⟩⟩)))), fun _ H => br_f c1 (br_f c2 (br_f c3 (br_t c4 ⟨hi, nm_e ⟨hi, nm_e H⟩⟩)))⟩
theorem i_vc_empty {k : Nat} {u : SX} {v : SY} (I : i_Rel k u v) (hk : k + 4 ≤ 2048) : wpX_empty (fun u' => wpY_empty (fun v' => i_Rel (k + 4) u' v') v) u := by
  obtain ⟨B, R, s, ps, at', b, k1, k2, k3, k4, h1, h2, h3, h4, l, va, vb, rfl, rfl, J, hva, hvb⟩ := I
  exact ⟨0, R, s, ps, at', b, k1, k2, k3, k4, h1, h2, h3, h4, l, va, vb, rfl, rfl, ⟨by omega, J.2⟩, hva, hvb⟩
theorem i_vc_match {k : Nat} {u : SX} {v : SY} (I : i_Rel k u v) (hk : k + 4 ≤ 2048) : wpX_match (fun r u' => wpY_match (fun r' v' => r' = r ∧ i_Rel (k + 4) u' v') v) u := by
  obtain ⟨B, R, s, ps, at', b, k1, k2, k3, k4, h1, h2, h3, h4, l, va, vb, rfl, rfl, J, hva, hvb⟩ := I
  have mk : ∀ (p1 p2 : Int32) (w1 w2 : Nat → Int32), bs_T w1 → bs_T w2 → bs_R (nI B, nI R, p1, b, k1, k2, k3, k4, l, w1) (nI R, nI B, p2, h1, h2, h3, h4, l, b, w2) := fun p1 p2 w1 w2 t1 t2 => ⟨B, R, s, p1, p2, b, k1, k2, k3, k4, h1, h2, h3, h4, l, w1, w2, rfl, rfl, J, t1, t2⟩
  unfold wpX_match
  rcases bs_first b k1 k2 k3 k4 h1 h2 h3 h4 l J R 0 (by omega) (by omega) with ⟨hX, hY⟩ | ⟨j, r, p, v, hj, hr, hv, hF, hX, hY⟩
  · refine ⟨R + 1, hX _ (R + 1) ps va (by omega) hva (fun p1 w1 t1 => ?_)⟩
    exact br_t (by decide) ⟨R + 1, hY _ (R + 1) at' vb (by omega) hvb (fun p2 w2 t2 => ⟨rfl, mk _ _ _ _ t1 t2⟩)⟩
  · refine ⟨R + 1, hX _ (R + 1) ps va (by omega) hva ?_⟩
    exact br_t (by decide) ⟨R + 1, hY _ (R + 1) at' vb (by omega) hvb ⟨rfl, mk _ _ _ _ hv hv⟩⟩
theorem i_vc_matchFrom {k : Nat} {u : SX} {v : SY} (I : i_Rel k u v) (hk : k + 4 ≤ 2048) (v1 : Int32) : wpX_matchFrom (fun r u' => wpY_matchFrom (fun r' v' => r' = r ∧ i_Rel (k + 4) u' v') v v1) u v1 := by
  have rel : bs_R u v := I
  obtain ⟨B, R, s, ps, at', b, k1, k2, k3, k4, h1, h2, h3, h4, l, va, vb, rfl, rfl, J, hva, hvb⟩ := I
  have mk : ∀ (p1 p2 : Int32) (w1 w2 : Nat → Int32), bs_T w1 → bs_T w2 → bs_R (nI B, nI R, p1, b, k1, k2, k3, k4, l, w1) (nI R, nI B, p2, h1, h2, h3, h4, l, b, w2) := fun p1 p2 w1 w2 t1 t2 => ⟨B, R, s, p1, p2, b, k1, k2, k3, k4, h1, h2, h3, h4, l, w1, w2, rfl, rfl, J, t1, t2⟩
  by_cases c : 0 ≤ v1
  case neg => exact br_f c (br_f c ⟨rfl, rel⟩)
  obtain ⟨i, hi, rfl⟩ := nI_of (Int32.not_lt.mpr c)
  rcases bs_first b k1 k2 k3 k4 h1 h2 h3 h4 l J R i (by omega) hi with ⟨hX, hY⟩ | ⟨j, r, p, v, hj, hr, hv, hF, hX, hY⟩
  · refine br_t c ⟨R + 1, hX _ (R + 1) ps va (by omega) hva (fun p1 w1 t1 => ?_)⟩
    exact br_t c ⟨R + 1, hY _ (R + 1) at' vb (by omega) hvb (fun p2 w2 t2 => ⟨rfl, mk _ _ _ _ t1 t2⟩)⟩
  · refine br_t c ⟨R + 1, hX _ (R + 1) ps va (by omega) hva ?_⟩
    exact br_t c ⟨R + 1, hY _ (R + 1) at' vb (by omega) hvb ⟨rfl, mk _ _ _ _ hv hv⟩⟩
theorem i_vc_bound {k : Nat} {u : SX} {v : SY} (I : i_Rel k u v) (hk : k + 4 ≤ 2048) (v1 : Int32) : wpX_bound (fun r u' => wpY_bound (fun r' v' => r' = r ∧ i_Rel (k + 4) u' v') v v1) u v1 := by
  have rel : bs_R u v := I
  obtain ⟨B, R, s, ps, at', b, k1, k2, k3, k4, h1, h2, h3, h4, l, va, vb, rfl, rfl, J, hva, hvb⟩ := I
  have mk : ∀ (p1 p2 : Int32) (w1 w2 : Nat → Int32), bs_T w1 → bs_T w2 → bs_R (nI B, nI R, p1, b, k1, k2, k3, k4, l, w1) (nI R, nI B, p2, h1, h2, h3, h4, l, b, w2) := fun p1 p2 w1 w2 t1 t2 => ⟨B, R, s, p1, p2, b, k1, k2, k3, k4, h1, h2, h3, h4, l, w1, w2, rfl, rfl, J, t1, t2⟩
  have hR : R ≤ 6 := J.2.1
  have n1 : ¬ (1 : Int32) = 0 := by decide
  obtain ⟨r1, hr1, vX, vY⟩ := bs_var v1
  unfold wpX_bound
  rcases bs_first b k1 k2 k3 k4 h1 h2 h3 h4 l J R 0 (by omega) (by omega) with ⟨hX, hY⟩ | ⟨j, r, p, v, hj, hr, hv, hF, hX, hY⟩
  · have yy : ∀ (p1 : Int32) (w1 : Nat → Int32), bs_T w1 → wpY_bound (fun r' v' => r' = 0 ∧ bs_R (nI B, nI R, p1, b, k1, k2, k3, k4, l, w1) v') (nI R, nI B, at', h1, h2, h3, h4, l, b, vb) v1 := by
      intro p1 w1 t1
      exact br_t (by decide) ⟨R + 1, hY _ (R + 1) at' vb (by omega) hvb (fun p2 w2 t2 => br_t (by decide) ⟨rfl, mk _ _ _ _ t1 t2⟩)⟩
    rcases hr1 with rfl | ⟨rfl, x, hx, rfl⟩
    · exact vX _ (br_t rfl (yy _ _ hva))
    · exact vX _ (br_f n1 ⟨R + 1, hX _ (R + 1) ps va (by omega) hva (fun p1 w1 t1 => br_t rfl (yy _ _ t1))⟩)
  · have j0 : ¬ nI j < 0 := nI_pos (by omega)
    have jR : ¬ nI R ≤ nI j := nI_ge hj (by omega)
    rcases hr1 with rfl | ⟨rfl, x, hx, rfl⟩
    · refine vX _ (br_t rfl ?_)
      exact br_t (by decide) ⟨R + 1, hY _ (R + 1) at' vb (by omega) hvb (br_f j0 (br_f jR (vY _ _ _ _ _ _ _ _ _ _ _ (br_t rfl ⟨rfl, mk _ _ _ _ hva hv⟩))))⟩
    · have hi : vp_in (nI x) 4 := vp_in_nI hx (by omega)
      have j4 : ¬ nI j = -4 := fun z => j0 (by rw [z]; decide)
      refine vX _ (br_f n1 ⟨R + 1, hX _ (R + 1) ps va (by omega) hva (br_f j4 ⟨hi, ?_⟩)⟩)
      exact br_t (by decide) ⟨R + 1, hY _ (R + 1) at' vb (by omega) hvb (br_f j0 (br_f jR (vY _ _ _ _ _ _ _ _ _ _ _ (br_f n1 (hF.2 _ _ _ hv (br_f hr ⟨hi, rfl, mk _ _ _ _ hv hv⟩))))))⟩
theorem i_vc_boundBy {k : Nat} {u : SX} {v : SY} (I : i_Rel k u v) (hk : k + 4 ≤ 2048) (v1 : Int32) (v2 : Int32) : wpX_boundBy (fun r u' => wpY_boundBy (fun r' v' => r' = r ∧ i_Rel (k + 4) u' v') v v1 v2) u v1 v2 := by
  have rel : bs_R u v := I
  obtain ⟨B, R, s, ps, at', b, k1, k2, k3, k4, h1, h2, h3, h4, l, va, vb, rfl, rfl, J, hva, hvb⟩ := I
  have mk : ∀ (p1 p2 : Int32) (w1 w2 : Nat → Int32), bs_T w1 → bs_T w2 → bs_R (nI B, nI R, p1, b, k1, k2, k3, k4, l, w1) (nI R, nI B, p2, h1, h2, h3, h4, l, b, w2) := fun p1 p2 w1 w2 t1 t2 => ⟨B, R, s, p1, p2, b, k1, k2, k3, k4, h1, h2, h3, h4, l, w1, w2, rfl, rfl, J, t1, t2⟩
  have hR : R ≤ 6 := J.2.1
  have n1 : ¬ (1 : Int32) = 0 := by decide
  by_cases c1 : v1 < 0
  · exact br_t c1 (br_t c1 ⟨rfl, rel⟩)
  by_cases c2 : nI R ≤ v1
  · exact br_f c1 (br_t c2 (br_f c1 (br_t c2 ⟨rfl, rel⟩)))
  obtain ⟨r1, hr1, vX, vY⟩ := bs_var v2
  rcases hr1 with rfl | ⟨rfl, x, hx, rfl⟩
  · exact br_f c1 (br_f c2 (vX _ (br_t rfl (br_f c1 (br_f c2 (vY _ _ _ _ _ _ _ _ _ _ _ (br_t rfl ⟨rfl, rel⟩)))))))
  obtain ⟨j, hj31, rfl⟩ := nI_of c1
  have hj : j < R := by
    rw [nI_leI (by omega) hj31] at c2
    omega
  have hi : vp_in (nI x) 4 := vp_in_nI hx (by omega)
  obtain ⟨r, p, v, hv, hX, hY⟩ := bs_rule b k1 k2 k3 k4 h1 h2 h3 h4 l J (j := j) (by omega)
  by_cases hr : r = 0
  · refine br_f c1 (br_f c2 (vX _ (br_f n1 (hX _ _ _ hva (br_t hr ?_)))))
    exact br_f c1 (br_f c2 (vY _ _ _ _ _ _ _ _ _ _ _ (br_f n1 (hY _ _ _ hvb (br_t hr ⟨rfl, mk _ _ _ _ hv hv⟩)))))
  · refine br_f c1 (br_f c2 (vX _ (br_f n1 (hX _ _ _ hva (br_f hr ⟨hi, ?_⟩)))))
    exact br_f c1 (br_f c2 (vY _ _ _ _ _ _ _ _ _ _ _ (br_f n1 (hY _ _ _ hvb (br_f hr ⟨hi, rfl, mk _ _ _ _ hv hv⟩)))))
theorem i_vc_fitting {k : Nat} {u : SX} {v : SY} (I : i_Rel k u v) (hk : k + 4 ≤ 2048) : wpX_fitting (fun r u' => wpY_fitting (fun r' v' => r' = r ∧ i_Rel (k + 4) u' v') v) u := by
  obtain ⟨B, R, s, ps, at', b, k1, k2, k3, k4, h1, h2, h3, h4, l, va, vb, rfl, rfl, J, hva, hvb⟩ := I
  obtain ⟨a, hX, hY⟩ := bs_fitting b k1 k2 k3 k4 h1 h2 h3 h4 l J R 0 0 (by omega)
  refine ⟨R + 1, hX _ (R + 1) ps va (by omega) hva (fun p1 w1 t1 => ?_)⟩
  exact ⟨R + 1, hY _ (R + 1) at' vb (by omega) hvb (fun p2 w2 t2 => ⟨rfl, ⟨B, R, s, p1, p2, b, k1, k2, k3, k4, h1, h2, h3, h4, l, w1, w2, rfl, rfl, J, t1, t2⟩⟩)⟩
end
