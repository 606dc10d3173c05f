/-! ===== Int32 by its bits: bt x i ===== -/
def bt (x : Int32) (i : Nat) : Bool := x.toBitVec.getLsbD i
theorem b_ext {x y : Int32} (h : ∀ i, i < 32 → bt x i = bt y i) : x = y := Int32.toBitVec_inj.mp (BitVec.eq_of_getLsbD_eq (fun i hi => h i hi))
theorem b_or (x y : Int32) (i : Nat) : bt (x ||| y) i = (bt x i || bt y i) := by unfold bt; rw [Int32.toBitVec_or, BitVec.getLsbD_or]
theorem b_and (x y : Int32) (i : Nat) : bt (x &&& y) i = (bt x i && bt y i) := by unfold bt; rw [Int32.toBitVec_and, BitVec.getLsbD_and]
theorem b_xor (x y : Int32) (i : Nat) : bt (x ^^^ y) i = (bt x i ^^ bt y i) := by unfold bt; rw [Int32.toBitVec_xor, BitVec.getLsbD_xor]
theorem b_big {x : Int32} {i : Nat} (h : 32 ≤ i) : bt x i = false := BitVec.getLsbD_of_ge _ _ h
theorem b_255 (i : Nat) : bt 255 i = decide (i < 8) := by
  rcases Nat.lt_or_ge i 32 with h | h
  · exact (by decide +kernel : ∀ i, i < 32 → bt 255 i = decide (i < 8)) i h
  · rw [b_big h, decide_eq_false (by omega)]
theorem b_65535 (i : Nat) : bt 65535 i = decide (i < 16) := by
  rcases Nat.lt_or_ge i 32 with h | h
  · exact (by decide +kernel : ∀ i, i < 32 → bt 65535 i = decide (i < 16)) i h
  · rw [b_big h, decide_eq_false (by omega)]
theorem b_m1 : ∀ i, i < 32 → bt (-1) i = true := by decide +kernel
theorem b_0 (i : Nat) : bt 0 i = false := BitVec.getLsbD_zero
theorem s_l : ∀ n, n < 32 → ((nI n &&& 31).toBitVec.smod 32).toNat = n := by decide +kernel
theorem s_u : ∀ n, n < 32 → (((nI n).toUInt32 &&& Int32.toUInt32 31).toBitVec % 32).toNat = n := by decide +kernel
theorem b_shl (n : Nat) (hn : n < 32) (x : Int32) {i : Nat} (hi : i < 32) : bt (x <<< (nI n &&& 31)) i = (decide (n ≤ i) && bt x (i - n)) := by
  unfold bt
  rw [Int32.toBitVec_shiftLeft]
  show (x.toBitVec <<< ((nI n &&& 31).toBitVec.smod 32).toNat).getLsbD i = _
  rw [s_l n hn, BitVec.getLsbD_shiftLeft]
  rcases Nat.lt_or_ge i n with h | h
  · simp [h, Nat.not_le.mpr h]
  · simp [hi, h, Nat.not_lt.mpr h]
theorem b_ushr (n : Nat) (hn : n < 32) (x : Int32) (i : Nat) : bt ((x.toUInt32 >>> ((nI n).toUInt32 &&& Int32.toUInt32 31)).toInt32) i = bt x (n + i) := by
  show (x.toUInt32 >>> ((nI n).toUInt32 &&& Int32.toUInt32 31)).toBitVec.getLsbD i = x.toUInt32.toBitVec.getLsbD (n + i)
  rw [UInt32.toBitVec_shiftRight]
  show (x.toUInt32.toBitVec >>> (((nI n).toUInt32 &&& Int32.toUInt32 31).toBitVec % 32).toNat).getLsbD i = _
  rw [s_u n hn, BitVec.getLsbD_ushiftRight]
theorem b_sshr (n : Nat) (hn : n < 32) (x : Int32) {i : Nat} (hi : i < 32) : bt (x >>> (nI n &&& 31)) i = if n + i < 32 then bt x (n + i) else bt x 31 := by
  unfold bt
  rw [Int32.toBitVec_shiftRight]
  show (x.toBitVec.sshiftRight ((nI n &&& 31).toBitVec.smod 32).toNat).getLsbD i = _
  rw [s_l n hn, BitVec.getLsbD_sshiftRight, BitVec.msb_eq_getLsbD_last]
  simp [hi]
/-! numbers, truth values, masks of players -/
def bI (b : Bool) : Int32 := if b then nI 1 else nI 0
theorem bI_t : bI true = nI 1 := rfl
theorem bI_f : bI false = nI 0 := rfl
theorem bI_0 {b : Bool} : bI b = nI 0 ↔ b = false := by cases b <;> decide
theorem bI_n0 {b : Bool} : ¬ bI b = nI 0 ↔ b = true := by cases b <;> decide
theorem bI_inj {a b : Bool} : bI a = bI b ↔ a = b := by cases a <;> cases b <;> decide
theorem bI_nar (b : Bool) : narrow .boolean (.int (bI b)) = .int (bI b) := by cases b <;> rfl
theorem nn_neg {a : Nat} (h : a < 2 ^ 31) : ¬ nI a < nI 0 := by rw [nI_ltI h (by decide)]; omega
theorem bt_n (s i : Nat) (hi : i < 32) : bt (nI s) i = s.testBit i := by
  unfold bt
  show (BitVec.ofNat 32 s).getLsbD i = _
  rw [BitVec.getLsbD_ofNat]
  simp [hi]
theorem nn_and (a b : Nat) : nI a &&& nI b = nI (a &&& b) := b_ext fun i hi => by rw [b_and, bt_n _ _ hi, bt_n _ _ hi, bt_n _ _ hi, Nat.testBit_and]
theorem nn_or (a b : Nat) : nI a ||| nI b = nI (a ||| b) := b_ext fun i hi => by rw [b_or, bt_n _ _ hi, bt_n _ _ hi, bt_n _ _ hi, Nat.testBit_or]
theorem nn_xor (a b : Nat) : nI a ^^^ nI b = nI (a ^^^ b) := b_ext fun i hi => by rw [b_xor, bt_n _ _ hi, bt_n _ _ hi, bt_n _ _ hi, Nat.testBit_xor]
/-- the set s without the set m -/
def mdf (s m : Nat) : Nat := s ^^^ (s &&& m)
theorem mdf_t (s m i : Nat) : (mdf s m).testBit i = (s.testBit i && !m.testBit i) := by
  unfold mdf
  rw [Nat.testBit_xor, Nat.testBit_and]
  cases s.testBit i <;> cases m.testBit i <;> rfl
theorem nn_dif (s m : Nat) : nI s &&& (nI m ^^^ (-1)) = nI (mdf s m) := b_ext fun i hi => by
  rw [b_and, b_xor, bt_n _ _ hi, bt_n _ _ hi, bt_n _ _ hi, b_m1 i hi, mdf_t]
  cases m.testBit i <;> rfl
theorem nn_shl1 : ∀ p, p < 31 → nI 1 <<< (nI p &&& 31) = nI (2 ^ p) := by decide +kernel
theorem nn_shl2 : ∀ p, p < 30 → nI 2 <<< (nI p &&& 31) = nI (2 ^ (p + 1)) := by decide +kernel
theorem nn_bit {s p : Nat} (hp : p < 31) : (nI s >>> (nI p &&& 31)) &&& nI 1 = bI (s.testBit p) := b_ext fun i hi => by
  rw [b_and, b_sshr p (by omega) _ hi, bt_n _ _ hi]
  by_cases h0 : i = 0
  · subst h0
    rw [if_pos (by omega), Nat.add_zero, bt_n _ _ (by omega)]
    cases h : s.testBit p <;> decide
  · have h1 : (1 : Nat).testBit i = false := by
      cases h : (1 : Nat).testBit i with
      | false => rfl
      | true => exact absurd (Nat.testBit_one_eq_true_iff_self_eq_zero.mp h) h0
    rw [h1, Bool.and_false]
    cases h : s.testBit p
    · show false = bt (nI 0) i
      rw [bt_n _ _ hi, Nat.zero_testBit]
    · show false = bt (nI 1) i
      rw [bt_n _ _ hi, h1]
theorem nn_sub {a b : Nat} (h : b ≤ a) : nI a - nI b = nI (a - b) := by
  have h1 : nI a = nI (a - b) + nI b := by rw [nI_add, Nat.sub_add_cancel h]
  rw [h1, Int32.add_sub_cancel]
theorem nn_mul (a b : Nat) : nI a * nI b = nI (a * b) := (Int32.ofNat_mul a b).symm
def onl (p : Nat) : Nat := if p < 10 then 2 ^ p else 0
theorem onl_t (p i : Nat) : (onl p).testBit i = (decide (p < 10) && decide (p = i)) := by
  unfold onl
  by_cases h : p < 10
  · rw [if_pos h, Nat.testBit_two_pow]; simp [h]
  · rw [if_neg h, Nat.zero_testBit]; simp [h]
/-- how many of ten places a set holds; the first of them, or 32 -/
def cnt (s : Nat) : Nat := (List.range 10).countP fun i => s.testBit i
def lowb (s : Nat) : Nat := ((List.range 10).find? fun i => s.testBit i).getD 32
def bitc (v0 : Int32) : Int32 :=
  let x1 := v0 - ((v0.toUInt32 >>> ((nI 1).toUInt32 &&& Int32.toUInt32 31)).toInt32 &&& 1431655765)
  let x2 := (x1 &&& 858993459) + ((x1.toUInt32 >>> ((nI 2).toUInt32 &&& Int32.toUInt32 31)).toInt32 &&& 858993459)
  let x3 := (x2 + (x2.toUInt32 >>> ((nI 4).toUInt32 &&& Int32.toUInt32 31)).toInt32) &&& 252645135
  let x4 := x3 + (x3.toUInt32 >>> ((nI 8).toUInt32 &&& Int32.toUInt32 31)).toInt32
  let x5 := x4 + (x4.toUInt32 >>> ((nI 16).toUInt32 &&& Int32.toUInt32 31)).toInt32
  x5 &&& nI 63
theorem bitc_cnt : ∀ s, s < 1024 → bitc (nI s) = nI (cnt s) := by decide +kernel
theorem bitc_low : ∀ s, s < 1024 → bitc ((nI s &&& (-(nI s))) - nI 1) = nI (lowb s) := by decide +kernel
theorem c_bitc {lay : List am_L} {d : Nat} {D : am_D} (x : Int32) : am_MetP lay d mJ6_bitCount_0f7a4 [.int x] D (bitc x) := by
  refine eJ6_bitCount_0f7a4 ?_
  rintro x1 rfl x2 rfl x3 rfl x4 rfl x5 rfl
  exact ⟨rfl, rfl⟩
theorem c_cnt {lay : List am_L} {d : Nat} {D : am_D} {s : Nat} (h : s < 1024) : am_MetP lay d mJ6_bitCount_0f7a4 [.int (nI s)] D (nI (cnt s)) := by
  rw [← bitc_cnt s h]; exact c_bitc _
theorem c_lowestOf {lay : List am_L} {d : Nat} {D : am_D} {s : Nat} (h : s < 1024) : am_MetP lay (d + 1) mX10_lowestOf [.int (nI s)] D (nI (lowb s)) := by
  refine eX10_lowestOf ⟨_, c_bitc _, ?_⟩
  rw [bitc_low s h]; exact ⟨rfl, rfl⟩
theorem c_holds {lay : List am_L} {d : Nat} {D : am_D} {s p : Nat} (hp : p < 2 ^ 31) : am_MetP lay d mX10_holds [.int (nI s), .int (nI p)] D (bI (decide (p < 10) && s.testBit p)) := by
  refine eX10_holds ⟨fun h => absurd h (nn_neg hp), fun _ => ⟨fun h => ?_, fun h => ?_⟩⟩
  · rw [nI_leI (by decide) hp] at h
    rw [decide_eq_false (by omega)]; exact ⟨rfl, rfl⟩
  · rw [nI_leI (by decide) hp] at h
    rw [decide_eq_true (by omega), nn_bit (by omega), Bool.true_and]
    exact ⟨fun h2 => by rw [h2]; exact ⟨rfl, rfl⟩, fun h2 => by rw [bI_n0.mp h2]; exact ⟨rfl, rfl⟩⟩
theorem c_only {lay : List am_L} {d : Nat} {D : am_D} {p : Nat} (hp : p < 2 ^ 31) : am_MetP lay d mX10_only [.int (nI p)] D (nI (onl p)) := by
  refine eX10_only ⟨fun h => absurd h (nn_neg hp), fun _ => ⟨fun h => ?_, fun h => ?_⟩⟩
  · rw [nI_leI (by decide) hp] at h
    unfold onl; rw [if_neg (by omega)]; exact ⟨rfl, rfl⟩
  · rw [nI_leI (by decide) hp] at h
    unfold onl; rw [if_pos (by omega), nn_shl1 p (by omega)]; exact ⟨rfl, rfl⟩
theorem c_without {lay : List am_L} {d : Nat} {D : am_D} {s p : Nat} (hp : p < 2 ^ 31) : am_MetP lay (d + 1) mX10_without [.int (nI s), .int (nI p)] D (nI (mdf s (onl p))) := by
  refine eX10_without ⟨_, c_only hp, ?_⟩
  rw [nn_dif]; exact ⟨rfl, rfl⟩
theorem nn_div {a b : Nat} (ha : a < 2 ^ 31) (hb : b < 2 ^ 31) : nI a / nI b = nI (a / b) := by
  apply Int32.toInt_inj.mp
  rw [Int32.toInt_div, nI_toInt ha, nI_toInt hb, nI_toInt (Nat.lt_of_le_of_lt (Nat.div_le_self a b) ha), ← Int.ofNat_tdiv]
  have h3 := Nat.div_le_self a b
  generalize a / b = q at h3 ⊢
  rw [Int.bmod_eq_of_le] <;> omega
theorem nn_mod {a b : Nat} (ha : a < 2 ^ 31) (hb : b < 2 ^ 31) : nI a - nI a / nI b * nI b = nI (a % b) := by
  rw [nn_div ha hb, nn_mul, nn_sub (Nat.div_mul_le_self a b)]
  congr 1
  have := Nat.div_add_mod a b
  rw [Nat.mul_comm] at this
  omega
theorem c_mod8 {lay : List am_L} {d : Nat} {D : am_D} {a : Nat} (h : a < 2 ^ 31) : am_MetP lay d mJ9_floorMod_7cf53 [.int (nI a), .int (nI 8)] D (nI (a % 8)) := by
  refine eJ9_floorMod_7cf53 ⟨by decide, fun _ => by rw [nn_mod h (by decide)]; exact ⟨rfl, rfl⟩, fun h2 => ?_⟩
  exfalso
  apply h2
  rw [nn_xor]
  have : a ^^^ 8 < 2 ^ 31 := Nat.xor_lt_two_pow h (by decide)
  exact (nI_leI (by decide) this).mpr (Nat.zero_le _)
