/-! the bits of the buffer, the numbers read from them -/
theorem bs_or (a b : Nat) : nI a ||| nI b = nI (a ||| b) := by
  apply Int32.toBitVec_inj.1
  show BitVec.ofNat 32 a ||| BitVec.ofNat 32 b = BitVec.ofNat 32 (a ||| b)
  apply BitVec.eq_of_getLsbD_eq
  intro i hi
  simp [hi]
def bs_b (b : Nat → Int32) (p : Nat) : Nat := (b (p / 8) >>> ((7 - nI (p % 8)) &&& 31)).toBitVec.toNat % 2
theorem bs_b_lt (b : Nat → Int32) (p : Nat) : bs_b b p < 2 := Nat.mod_lt _ (by decide)
theorem bs_bit (b : Nat → Int32) {p : Nat} (h : p < 64) : ((b (nI p >>> ((3 : Int32) &&& 31)).toNatClampNeg) >>> ((7 - (nI p &&& 7)) &&& 31)) &&& 1 = nI (bs_b b p) := by
  rw [pk_shrN (by omega) _ 3 (by decide), pk_andN (by omega) 3 (by decide), nI_clamp (by omega), pk_and _ 1 (by decide)]
  rfl
theorem bs_bit_in {p : Nat} (h : p < 64) : vp_in (nI p >>> ((3 : Int32) &&& 31)) 8 := by
  rw [pk_shrN (by omega) _ 3 (by decide)]
  exact vp_in_nI (by omega) (by omega)
def bs_nb (b : Nat → Int32) (p : Nat) : Nat → Nat
  | 0 => 0
  | w + 1 => bs_nb b p w * 2 + bs_b b (p + w)
theorem bs_nb_lt (b : Nat → Int32) (p w : Nat) : bs_nb b p w < 2 ^ w := by
  induction w with
  | zero => exact Nat.one_pos
  | succ w ih =>
    have := bs_b_lt b (p + w)
    rw [Nat.pow_succ]
    show bs_nb b p w * 2 + bs_b b (p + w) < _
    omega
theorem bs_nb_add (b : Nat → Int32) (p a c : Nat) : bs_nb b p (a + c) = bs_nb b p a * 2 ^ c + bs_nb b (p + a) c := by
  induction c with
  | zero => exact (Nat.mul_one _).symm
  | succ c ih =>
    show bs_nb b p (a + c) * 2 + bs_b b (p + (a + c)) = _ + (bs_nb b (p + a) c * 2 + bs_b b (p + a + c))
    rw [ih, Nat.pow_succ, Nat.add_mul, ← Nat.mul_assoc, Nat.add_assoc p a c, Nat.add_assoc]
theorem bs_pow_lt {a c : Nat} (h : a ≤ c) : 2 ^ a ≤ 2 ^ c := Nat.pow_le_pow_right (by decide) h
theorem bs_or1 {a c : Nat} (ha : a < 2 ^ 31) (hc : c < 2) : (nI a <<< ((1 : Int32) &&& 31)) ||| nI c = nI (a * 2 + c) := by
  rw [pk_shlN _ 1 (by decide) (by omega), bs_or]
  have := Nat.two_pow_add_eq_or_of_lt (i := 1) hc a
  rw [Nat.mul_comm a (2 ^ 1), ← this, Nat.mul_comm (2 ^ 1) a]
theorem bs_or8 {a c : Nat} (ha : a < 2 ^ 24) (hc : c < 256) : (nI a <<< ((8 : Int32) &&& 31)) ||| nI c = nI (a * 256 + c) := by
  rw [pk_shlN _ 8 (by decide) (by omega), bs_or]
  have := Nat.two_pow_add_eq_or_of_lt (i := 8) hc a
  rw [Nat.mul_comm a (2 ^ 8), ← this, Nat.mul_comm (2 ^ 8) a]
theorem bs_m2 (a c : Nat) : nI a * 2 + nI c = nI (a * 2 + c) := by
  rw [← nI_add, ← pk_mul]; rfl
theorem bs_m256 (a c : Nat) : nI a * 256 + nI c = nI (a * 256 + c) := by
  rw [← nI_add, ← pk_mul]; rfl
/-- the bytes turned: after i of m bytes -/
def bs_rv (b : Nat → Int32) (p m : Nat) : Nat → Nat
  | 0 => 0
  | i + 1 => bs_rv b p m i * 256 + bs_nb b (p + 8 * (m - 1 - i)) 8
theorem bs_rv_lt (b : Nat → Int32) (p m i : Nat) : bs_rv b p m i < 2 ^ (8 * i) := by
  induction i with
  | zero => exact Nat.one_pos
  | succ i ih =>
    have h1 := bs_nb_lt b (p + 8 * (m - 1 - i)) 8
    rw [Nat.mul_succ, Nat.pow_add]
    show bs_rv b p m i * 256 + bs_nb b (p + 8 * (m - 1 - i)) 8 < _
    generalize 2 ^ (8 * i) = z at *
    omega
theorem bs_byte (b : Nat → Int32) (p : Nat) {m i : Nat} (h : i < m) : bs_nb b p (8 * m) / 2 ^ (8 * i) % 256 = bs_nb b (p + 8 * (m - 1 - i)) 8 := by
  obtain ⟨q, rfl⟩ : ∃ q, m = (q + 1) + i := ⟨m - 1 - i, by omega⟩
  have e1 : bs_nb b p (8 * ((q + 1) + i)) = bs_nb b p (8 * q + 8) * 2 ^ (8 * i) + bs_nb b (p + (8 * q + 8)) (8 * i) := by
    rw [← bs_nb_add]
    exact congrArg _ (by omega)
  have e2 : bs_nb b p (8 * q + 8) = bs_nb b p (8 * q) * 2 ^ 8 + bs_nb b (p + 8 * q) 8 := bs_nb_add b p (8 * q) 8
  have h1 := bs_nb_lt b (p + (8 * q + 8)) (8 * i)
  have h2 := bs_nb_lt b (p + 8 * q) 8
  rw [e1, Nat.mul_comm _ (2 ^ (8 * i)), Nat.mul_add_div (Nat.two_pow_pos _), Nat.div_eq_of_lt h1, e2, show q + 1 + i - 1 - i = q from by omega]
  omega
theorem bs_ushr {n j : Nat} (hn : n < 2 ^ 32) (hj : j < 32) : (((nI n).toUInt32 >>> ((nI j).toUInt32 &&& Int32.toUInt32 31)).toInt32) &&& 255 = nI (n / 2 ^ j % 256) := by
  rw [pk_ushrN hn _ j (s_u j hj), pk_andN (Nat.lt_of_le_of_lt (Nat.div_le_self _ _) hn) 8 (by decide)]
/-! the sign -/
theorem bs_ti {m : Nat} (h : m < 2 ^ 32) : (nI m).toInt = if m < 2 ^ 31 then (m : Int) else (m : Int) - 2 ^ 32 := by
  have e : (nI m).toInt = (nI m).toBitVec.toInt := rfl
  rw [e, BitVec.toInt_eq_toNat_cond, pk_tn h]
  by_cases h2 : m < 2 ^ 31
  · rw [if_pos h2, if_pos (by omega)]
  · rw [if_neg h2, if_neg (by omega)]
    rfl
def bs_sg (n w : Nat) : Int32 := if 0 < w ∧ w < 32 ∧ n / 2 ^ (w - 1) % 2 = 1 then nI n - ((1 : Int32) <<< (nI w &&& 31)) else nI n
theorem bs_sgX {n w : Nat} (hw : w ≤ 32) (hn : n < 2 ^ w) : (nI n <<< ((32 - nI w) &&& 31)) >>> ((32 - nI w) &&& 31) = bs_sg n w := by
  have e0 : (32 : Int32) - nI w = nI (32 - w) := pk_sub (a := 32) hw
  rw [e0]
  unfold bs_sg
  rcases Nat.eq_zero_or_pos w with rfl | h0
  · have : n = 0 := by omega
    subst this
    decide
  rcases Nat.eq_or_lt_of_le hw with rfl | h32
  · rw [if_neg (by omega)]
    exact (sb_shr0 _).trans (sb_shl0 _)
  have hs := s_l (32 - w) (by omega)
  have hpw : 2 ^ w = 2 ^ (w - 1) * 2 := by
    rw [← Nat.pow_succ]; exact congrArg _ (by omega)
  have hp32 : 2 ^ w * 2 ^ (32 - w) = 2 ^ 32 := by
    rw [← Nat.pow_add]; exact congrArg _ (by omega)
  have hp31 : 2 ^ (w - 1) * 2 ^ (32 - w) = 2 ^ 31 := by
    rw [← Nat.pow_add]; exact congrArg _ (by omega)
  have hd : 0 < 2 ^ (32 - w) := Nat.two_pow_pos _
  have hm : n * 2 ^ (32 - w) < 2 ^ 32 := by
    rw [← hp32]; exact Nat.mul_lt_mul_of_pos_right hn hd
  have hw31 : 2 ^ w ≤ 2 ^ 31 := bs_pow_lt (by omega)
  rw [pk_shlN _ _ hs hm]
  by_cases hb : n < 2 ^ (w - 1)
  · have hq : n / 2 ^ (w - 1) = 0 := Nat.div_eq_of_lt hb
    rw [if_neg (by rw [hq]; omega), pk_shrN (by rw [← hp31]; exact Nat.mul_lt_mul_of_pos_right hb hd) _ _ hs, Nat.mul_div_cancel _ hd]
  · have hq : n / 2 ^ (w - 1) = 1 := by
      have : n = 2 ^ (w - 1) * 1 + (n - 2 ^ (w - 1)) := by omega
      rw [this, Nat.mul_add_div (Nat.two_pow_pos _), Nat.div_eq_of_lt (by omega)]
    rw [if_pos ⟨h0, h32, by rw [hq]⟩]
    have hs2 := s_l w h32
    have e1 : (1 : Int32) <<< (nI w &&& 31) = nI (2 ^ w) := by
      have := pk_shlN (n := 1) (nI w &&& 31) w hs2 (by omega)
      rw [Nat.one_mul] at this
      exact this
    rw [e1]
    apply Int32.toInt_inj.mp
    have hge : ¬ n * 2 ^ (32 - w) < 2 ^ 31 := by
      rw [← hp31]
      exact Nat.not_lt.mpr (Nat.mul_le_mul_right _ (by omega))
    rw [pk_shr _ _ _ hs, bs_ti hm, if_neg hge, Int32.toInt_sub, nI_toInt (n := n) (by omega)]
    have e2 : ((n * 2 ^ (32 - w) : Nat) : Int) - 2 ^ 32 = ((n : Int) - ((2 ^ w : Nat) : Int)) * ((2 ^ (32 - w) : Nat) : Int) := by
      rw [Int.sub_mul, ← Int.natCast_mul, ← Int.natCast_mul, hp32]
      rfl
    rw [e2, Int.shiftRight_eq_div_pow, Int.mul_ediv_cancel _ (by omega)]
    have e3 : (nI (2 ^ w)).toInt = ((2 ^ w : Nat) : Int).bmod (2 ^ 32) := by
      have e : (nI (2 ^ w)).toInt = (nI (2 ^ w)).toBitVec.toInt := rfl
      rw [e, BitVec.toInt_eq_toNat_bmod, pk_tn (by omega)]
    rw [e3, Int.sub_bmod_bmod]
    exact (Int.bmod_eq_of_le (by omega) (by omega)).symm
/-- what a field reads -/
def bs_raw (b : Nat → Int32) (p w f : Nat) : Nat := if f ≤ 1 then bs_nb b p w else bs_rv b p (w / 8) (w / 8)
def bs_fv (b : Nat → Int32) (p w f : Nat) : Int32 := if f % 2 = 0 then nI (bs_raw b p w f) else bs_sg (bs_raw b p w f) w
