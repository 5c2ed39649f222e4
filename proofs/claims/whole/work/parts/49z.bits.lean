/-! PURE: sets of words, a bit each -/
def cnt (S : Nat → Bool) : Nat → Nat
  | 0 => 0
  | n + 1 => cnt S n + (if S n then 1 else 0)
theorem bs_lt (S : Nat → Bool) : ∀ n, bs S n < 2 ^ n := by
  intro n
  induction n with
  | zero => exact Nat.one_pos
  | succ n ih =>
    unfold bs
    rw [Nat.pow_succ]
    split <;> omega
theorem bs_bit (S : Nat → Bool) : ∀ n i, (bs S n).testBit i = (decide (i < n) && S i) := by
  intro n
  induction n with
  | zero => intro i; unfold bs; simp
  | succ n ih =>
    intro i
    have hl := bs_lt S (n + 1)
    rcases Nat.lt_or_ge n i with h | h
    · have e : (bs S (n + 1)).testBit i = false := Nat.testBit_lt_two_pow (Nat.lt_of_lt_of_le hl (Nat.pow_le_pow_right (by decide) h))
      rw [e, show decide (i < n + 1) = false from decide_eq_false (by omega)]
      rfl
    · unfold bs
      rcases Nat.lt_or_ge i n with h2 | h2
      · rw [show decide (i < n + 1) = true from decide_eq_true (by omega), Bool.true_and]
        have e2 := ih i
        rw [decide_eq_true h2, Bool.true_and] at e2
        split
        · rw [Nat.add_comm, Nat.testBit_two_pow_add_gt h2, e2]
        · rw [Nat.add_zero, e2]
      · have e : i = n := by omega
        subst e
        rw [show decide (i < i + 1) = true from decide_eq_true (by omega), Bool.true_and]
        have e2 := ih i
        rw [show decide (i < i) = false from decide_eq_false (by omega), Bool.false_and] at e2
        cases hs : S i
        · rw [if_neg (by decide), Nat.add_zero, e2]
        · rw [if_pos rfl, Nat.add_comm, Nat.testBit_two_pow_add_eq, e2]
          rfl
theorem bs_ext {S : Nat → Bool} {n B : Nat} (hB : B < 2 ^ n) (h : ∀ i, i < n → B.testBit i = S i) : B = bs S n := by
  apply Nat.eq_of_testBit_eq
  intro i
  rw [bs_bit]
  rcases Nat.lt_or_ge i n with q | q
  · rw [decide_eq_true q, Bool.true_and, h i q]
  · rw [show decide (i < n) = false from decide_eq_false (by omega), Bool.false_and]
    exact Nat.testBit_lt_two_pow (Nat.lt_of_lt_of_le hB (Nat.pow_le_pow_right (by decide) q))
theorem bs_congr {S T : Nat → Bool} : ∀ n, (∀ i, i < n → S i = T i) → bs S n = bs T n := by
  intro n
  induction n with
  | zero => intro _; rfl
  | succ n ih =>
    intro h
    unfold bs
    rw [ih (fun i hi => h i (by omega)), h n (by omega)]
theorem cnt_congr {S T : Nat → Bool} : ∀ n, (∀ i, i < n → S i = T i) → cnt S n = cnt T n := by
  intro n
  induction n with
  | zero => intro _; rfl
  | succ n ih =>
    intro h
    unfold cnt
    rw [ih (fun i hi => h i (by omega)), h n (by omega)]
theorem cnt_le (S : Nat → Bool) : ∀ n, cnt S n ≤ n := by
  intro n
  induction n with
  | zero => exact Nat.le_refl _
  | succ n ih =>
    unfold cnt
    split <;> omega
theorem cnt_add {S T : Nat → Bool} {r : Nat} (hr : S r = false) (ht : T r = true) : ∀ n, (∀ i, i < n → i ≠ r → T i = S i) → cnt T n = cnt S n + (if r < n then 1 else 0) := by
  intro n
  induction n with
  | zero => intro _; rfl
  | succ n ih =>
    intro h
    unfold cnt
    rw [ih (fun i a b => h i (by omega) b)]
    by_cases e : n = r
    · subst e
      rw [hr, ht, if_neg (Nat.lt_irrefl _), if_pos (show n < n + 1 by omega)]
      simp
    · rw [h n (by omega) e]
      by_cases q : r < n
      · rw [if_pos q, if_pos (show r < n + 1 by omega)]; omega
      · rw [if_neg q, if_neg (show ¬ r < n + 1 by omega)]; omega
theorem zI_bv (n : Nat) : (zI (n : Int)).toBitVec = BitVec.ofNat 32 n := by
  rw [zI, Int32.ofInt_eq_ofNat]
  rfl
theorem bv_toInt32 {b : BitVec 32} (h : b.toNat < 2 ^ 31) : b.toInt = (b.toNat : Int) := BitVec.toInt_eq_toNat_of_lt (by omega)
theorem bvn32 {n : Nat} (h : n < 2 ^ 31) : (BitVec.ofNat 32 n).toNat = n := by
  rw [BitVec.toNat_ofNat]
  exact Nat.mod_eq_of_lt (by omega)
theorem I_or {n m : Nat} (hn : n < 2 ^ 31) (hm : m < 2 ^ 31) : zor (n : Int) (m : Int) = ((n ||| m : Nat) : Int) := by
  show ((zI (n : Int)).toBitVec ||| (zI (m : Int)).toBitVec).toInt = _
  have e : ((zI (n : Int)).toBitVec ||| (zI (m : Int)).toBitVec).toNat = n ||| m := by rw [BitVec.toNat_or, zI_bv, zI_bv, bvn32 hn, bvn32 hm]
  rw [bv_toInt32 (by rw [e]; exact Nat.or_lt_two_pow hn hm), e]
theorem I_and {n m : Nat} (hn : n < 2 ^ 31) (hm : m < 2 ^ 31) : zand (n : Int) (m : Int) = ((n &&& m : Nat) : Int) := by
  show ((zI (n : Int)).toBitVec &&& (zI (m : Int)).toBitVec).toInt = _
  have e : ((zI (n : Int)).toBitVec &&& (zI (m : Int)).toBitVec).toNat = n &&& m := by rw [BitVec.toNat_and, zI_bv, zI_bv, bvn32 hn, bvn32 hm]
  rw [bv_toInt32 (by rw [e]; exact Nat.and_lt_two_pow n hm), e]
theorem shl16 : ∀ r : Nat, r < 16 → zishl 1 (r : Int) = ((2 ^ r : Nat) : Int) := by decide +kernel
theorem sh31 : ∀ k : Nat, k < 32 → ((zI (k : Int) &&& 31).toBitVec.smod 32).toNat = k := by decide +kernel
theorem I_shr {n k : Nat} (hk : k < 32) (h : n < 2 ^ 31) : zishr (n : Int) (k : Int) = ((n / 2 ^ k : Nat) : Int) := by
  show ((zI (n : Int)).toBitVec.sshiftRight ((zI (k : Int) &&& 31).toBitVec.smod 32).toNat).toInt = _
  rw [sh31 k hk, BitVec.toInt_sshiftRight, zI_bv, bv_toInt32 (by rw [bvn32 h]; exact h), bvn32 h, Int.shiftRight_eq_div_pow]
  rfl
theorem lt16 {B : Nat} (h : B < 2 ^ 16) : B < 2 ^ 31 := by omega
/-- one more word -/
theorem bs_or {S T : Nat → Bool} {r : Nat} (hr : r < 16) (h : ∀ i, i < 16 → T i = (S i || decide (i = r))) : zor ((bs S 16 : Nat) : Int) (zishl 1 (r : Int)) = ((bs T 16 : Nat) : Int) := by
  have p : 2 ^ r < 2 ^ 16 := Nat.pow_lt_pow_right (by decide) hr
  have l := bs_lt S 16
  rw [shl16 r hr, I_or (lt16 l) (lt16 p)]
  congr 1
  refine bs_ext (Nat.or_lt_two_pow l p) (fun i hi => ?_)
  rw [Nat.testBit_or, bs_bit, decide_eq_true hi, Bool.true_and, h i hi, Nat.testBit_two_pow]
  congr 1
  exact decide_eq_decide.mpr ⟨fun e => e.symm, fun e => e.symm⟩
theorem bs_or2 {S T U : Nat → Bool} (h : ∀ i, i < 16 → U i = (S i || T i)) : zor ((bs S 16 : Nat) : Int) ((bs T 16 : Nat) : Int) = ((bs U 16 : Nat) : Int) := by
  have l := bs_lt S 16
  have p := bs_lt T 16
  rw [I_or (lt16 l) (lt16 p)]
  congr 1
  refine bs_ext (Nat.or_lt_two_pow l p) (fun i hi => ?_)
  rw [Nat.testBit_or, bs_bit, bs_bit, decide_eq_true hi, Bool.true_and, Bool.true_and, h i hi]
theorem s_hasBit {S : Nat → Bool} {w : Nat} {P : Int → Sto → Prop} {σ : Sto} (hw : w < 16) (h : P (b2i (S w)) σ) : vX6_hasBit ((bs S 16 : Nat) : Int) (w : Int) P σ := by
  have l := bs_lt S 16
  have e : zand (zishr ((bs S 16 : Nat) : Int) (w : Int)) 1 = b2i (S w) := by
    rw [I_shr (by omega) (lt16 l)]
    have q : bs S 16 / 2 ^ w < 2 ^ 31 := Nat.lt_of_le_of_lt (Nat.div_le_self _ _) (lt16 l)
    have := I_and (n := bs S 16 / 2 ^ w) (m := 1) q (by decide)
    rw [show ((1 : Nat) : Int) = 1 from rfl] at this
    rw [this, Nat.and_one_is_mod]
    have t := bs_bit S 16 w
    rw [decide_eq_true hw, Bool.true_and, Nat.testBit_eq_decide_div_mod_eq] at t
    rw [← t]
    have : bs S 16 / 2 ^ w % 2 < 2 := Nat.mod_lt _ (by decide)
    by_cases c : bs S 16 / 2 ^ w % 2 = 1
    · rw [decide_eq_true c, c]; rfl
    · rw [decide_eq_false c, show bs S 16 / 2 ^ w % 2 = 0 by omega]; rfl
  unfold vX6_hasBit vX6_hasBit_14
  rw [e]
  refine ⟨b2i_R _, fun z => ⟨Or.inl rfl, ?_⟩, fun z => ⟨Or.inr rfl, ?_⟩⟩
  · cases hs : S w
    · rw [hs] at h; exact h
    · exact absurd (by rw [hs]; rfl) z
  · cases hs : S w
    · rw [hs] at z; exact absurd z (by decide)
    · rw [hs] at h; exact h
/-- the number of bits -/
def q1 (x : Int) : Int := x - (zand (zushr x 1) 1431655765)
def q2 (x : Int) : Int := (zand x 858993459) + (zand (zushr x 2) 858993459)
def q3 (x : Int) : Int := zand (x + (zushr x 4)) 252645135
def q4 (x : Int) : Int := x + (zushr x 8)
def q5 (x : Int) : Int := zand (x + (zushr x 16)) 63
theorem s_bitCountX {x : Int} {P : Int → Sto → Prop} {σ : Sto} (h : P (q5 (q4 (q3 (q2 (q1 x))))) σ) : vJ6_bitCount_0f7a4 x P σ := h
def n1 (n : Nat) : Nat := n - ((n / 2) &&& 1431655765)
def n2 (n : Nat) : Nat := (n &&& 858993459) + ((n / 4) &&& 858993459)
def n3 (n : Nat) : Nat := (n + n / 16) &&& 252645135
def n4 (n : Nat) : Nat := n + n / 256
def n5 (n : Nat) : Nat := (n + n / 65536) &&& 63
theorem shU : ∀ k : Nat, k < 32 → (UInt32.mod ((zI (k : Int)).toUInt32 &&& Int32.toUInt32 31) 32).toBitVec.toNat = k := by decide +kernel
theorem I_ushr {n k : Nat} (hk : k < 32) (h : n < 2 ^ 31) : zushr (n : Int) (k : Int) = ((n / 2 ^ k : Nat) : Int) := by
  show ((zI (n : Int)).toBitVec >>> (UInt32.mod ((zI (k : Int)).toUInt32 &&& Int32.toUInt32 31) 32).toBitVec).toInt = _
  have e : ((zI (n : Int)).toBitVec >>> (UInt32.mod ((zI (k : Int)).toUInt32 &&& Int32.toUInt32 31) 32).toBitVec).toNat = n / 2 ^ k := by
    rw [BitVec.ushiftRight_eq', BitVec.toNat_ushiftRight, shU k hk, zI_bv, bvn32 h, Nat.shiftRight_eq_div_pow]
  rw [bv_toInt32 (by rw [e]; exact Nat.lt_of_le_of_lt (Nat.div_le_self _ _) h), e]
theorem q1_n {n : Nat} (h : n < 65536) : q1 (n : Int) = ((n1 n : Nat) : Int) := by
  unfold q1 n1
  have e := I_ushr (n := n) (k := 1) (by decide) (by omega)
  rw [show ((1 : Nat) : Int) = 1 from rfl, show 2 ^ 1 = 2 from rfl] at e
  have a := I_and (n := n / 2) (m := 1431655765) (by omega) (by decide)
  rw [show ((1431655765 : Nat) : Int) = 1431655765 from rfl] at a
  have l : (n / 2) &&& 1431655765 ≤ n / 2 := Nat.and_le_left
  rw [e, a]
  omega
theorem q2_n {n : Nat} (h : n < 65536) : q2 (n : Int) = ((n2 n : Nat) : Int) := by
  unfold q2 n2
  have e := I_ushr (n := n) (k := 2) (by decide) (by omega)
  rw [show ((2 : Nat) : Int) = 2 from rfl, show 2 ^ 2 = 4 from rfl] at e
  have a := I_and (n := n) (m := 858993459) (by omega) (by decide)
  have b := I_and (n := n / 4) (m := 858993459) (by omega) (by decide)
  rw [show ((858993459 : Nat) : Int) = 858993459 from rfl] at a b
  rw [e, a, b]
  rfl
theorem q3_n {n : Nat} (h : n < 262144) : q3 (n : Int) = ((n3 n : Nat) : Int) := by
  unfold q3 n3
  have e := I_ushr (n := n) (k := 4) (by decide) (by omega)
  rw [show ((4 : Nat) : Int) = 4 from rfl, show 2 ^ 4 = 16 from rfl] at e
  have a := I_and (n := n + n / 16) (m := 252645135) (by omega) (by decide)
  rw [show ((252645135 : Nat) : Int) = 252645135 from rfl, Int.natCast_add] at a
  rw [e, a]
theorem q4_n {n : Nat} (h : n < 2000000) : q4 (n : Int) = ((n4 n : Nat) : Int) := by
  unfold q4 n4
  have e := I_ushr (n := n) (k := 8) (by decide) (by omega)
  rw [show ((8 : Nat) : Int) = 8 from rfl, show 2 ^ 8 = 256 from rfl] at e
  rw [e]
  rfl
theorem q5_n {n : Nat} (h : n < 4000000) : q5 (n : Int) = ((n5 n : Nat) : Int) := by
  unfold q5 n5
  have e := I_ushr (n := n) (k := 16) (by decide) (by omega)
  rw [show ((16 : Nat) : Int) = 16 from rfl, show 2 ^ 16 = 65536 from rfl] at e
  have a := I_and (n := n + n / 65536) (m := 63) (by omega) (by decide)
  rw [show ((63 : Nat) : Int) = 63 from rfl, Int.natCast_add] at a
  rw [e, a]
def pc (n : Nat) : Nat := n / 1 % 2 + n / 2 % 2 + n / 4 % 2 + n / 8 % 2 + n / 16 % 2 + n / 32 % 2 + n / 64 % 2 + n / 128 % 2 + n / 256 % 2 + n / 512 % 2 + n / 1024 % 2 + n / 2048 % 2 + n / 4096 % 2 + n / 8192 % 2 + n / 16384 % 2 + n / 32768 % 2
def bcN (n : Nat) : Nat := n5 (n4 (n3 (n2 (n1 n))))
def allB (q : Nat → Bool) (n : Nat) : Bool := Nat.rec true (fun b r => (q b).and r) n
theorem allB_at {q : Nat → Bool} : ∀ {n : Nat}, allB q n = true → ∀ b, b < n → q b = true := by
  intro n
  induction n with
  | zero => intro _ b hb; omega
  | succ n ih =>
    intro h b hb
    have h2 : (q n).and (allB q n) = true := h
    rw [Bool.and_eq_true] at h2
    by_cases e : b = n
    · subst e; exact h2.1
    · exact ih h2.2 b (by omega)
def bkA (j : Nat) : Bool := allB (fun a => allB (fun b => Nat.beq (bcN (4096 * j + 256 * a + b)) (pc (4096 * j + 256 * a + b))) 256) 16
theorem bk_0 : bkA 0 = true := by decide +kernel
theorem bk_1 : bkA 1 = true := by decide +kernel
theorem bk_2 : bkA 2 = true := by decide +kernel
theorem bk_3 : bkA 3 = true := by decide +kernel
theorem bk_4 : bkA 4 = true := by decide +kernel
theorem bk_5 : bkA 5 = true := by decide +kernel
theorem bk_6 : bkA 6 = true := by decide +kernel
theorem bk_7 : bkA 7 = true := by decide +kernel
theorem bk_8 : bkA 8 = true := by decide +kernel
theorem bk_9 : bkA 9 = true := by decide +kernel
theorem bk_10 : bkA 10 = true := by decide +kernel
theorem bk_11 : bkA 11 = true := by decide +kernel
theorem bk_12 : bkA 12 = true := by decide +kernel
theorem bk_13 : bkA 13 = true := by decide +kernel
theorem bk_14 : bkA 14 = true := by decide +kernel
theorem bk_15 : bkA 15 = true := by decide +kernel
theorem bk_all : ∀ j, j < 16 → bkA j = true
  | 0, _ => bk_0
  | 1, _ => bk_1
  | 2, _ => bk_2
  | 3, _ => bk_3
  | 4, _ => bk_4
  | 5, _ => bk_5
  | 6, _ => bk_6
  | 7, _ => bk_7
  | 8, _ => bk_8
  | 9, _ => bk_9
  | 10, _ => bk_10
  | 11, _ => bk_11
  | 12, _ => bk_12
  | 13, _ => bk_13
  | 14, _ => bk_14
  | 15, _ => bk_15
  | n + 16, h => by omega
theorem bc16 {n : Nat} (h : n < 65536) : bcN n = pc n := by
  have := allB_at (allB_at (bk_all (n / 4096) (by omega)) (n / 256 % 16) (by omega)) (n % 256) (by omega)
  rw [show 4096 * (n / 4096) + 256 * (n / 256 % 16) + n % 256 = n by omega] at this
  exact Nat.eq_of_beq_eq_true this
theorem tb_mod (n i : Nat) : (if n.testBit i then 1 else 0) = n / 2 ^ i % 2 := by
  rw [Nat.testBit_eq_decide_div_mod_eq]
  by_cases c : n / 2 ^ i % 2 = 1
  · rw [decide_eq_true c, c]; rfl
  · rw [decide_eq_false c, show n / 2 ^ i % 2 = 0 by omega]; rfl
theorem pc_cnt (n : Nat) : cnt (fun i => n.testBit i) 16 = pc n := by
  unfold pc
  simp only [cnt, tb_mod]
  simp only [Nat.zero_add]
theorem s_bitCount {S : Nat → Bool} {P : Int → Sto → Prop} {σ : Sto} (h : P ((cnt S 16 : Nat) : Int) σ) : vJ6_bitCount_0f7a4 ((bs S 16 : Nat) : Int) P σ := by
  refine s_bitCountX ?_
  have l : bs S 16 < 65536 := bs_lt S 16
  have b1 : n1 (bs S 16) < 65536 := Nat.lt_of_le_of_lt (Nat.sub_le _ _) l
  have b2 : n2 (n1 (bs S 16)) < 262144 := by
    unfold n2
    have h1 : n1 (bs S 16) &&& 858993459 ≤ n1 (bs S 16) := Nat.and_le_left
    have h2 : (n1 (bs S 16) / 4) &&& 858993459 ≤ n1 (bs S 16) / 4 := Nat.and_le_left
    omega
  have b3 : n3 (n2 (n1 (bs S 16))) < 2000000 := by
    unfold n3
    have h1 : (n2 (n1 (bs S 16)) + n2 (n1 (bs S 16)) / 16) &&& 252645135 ≤ n2 (n1 (bs S 16)) + n2 (n1 (bs S 16)) / 16 := Nat.and_le_left
    omega
  have b4 : n4 (n3 (n2 (n1 (bs S 16)))) < 4000000 := by
    unfold n4
    omega
  rw [q1_n l, q2_n b1, q3_n b2, q4_n b3, q5_n b4]
  have e : n5 (n4 (n3 (n2 (n1 (bs S 16))))) = pc (bs S 16) := bc16 l
  rw [e, ← pc_cnt, cnt_congr (T := S) 16 (fun i hi => by rw [bs_bit, decide_eq_true hi, Bool.true_and])]
  exact h
/-- what is in E and not in B -/
theorem zI_ones : (zI (-1)).toBitVec = BitVec.allOnes 32 := by decide +kernel
theorem zI_xor (B : Nat) : (zI (zxor (B : Int) (-1))).toBitVec = ~~~ BitVec.ofNat 32 B := by
  unfold zxor
  rw [show zI ((zI (B : Int) ^^^ zI (-1)).toInt) = zI (B : Int) ^^^ zI (-1) from Int32.ofInt_toInt _]
  show (zI (B : Int)).toBitVec ^^^ (zI (-1)).toBitVec = _
  rw [zI_ones, zI_bv, BitVec.xor_allOnes]
theorem bs_diff {S T U : Nat → Bool} (h : ∀ i, i < 16 → U i = (S i && !T i)) : zand ((bs S 16 : Nat) : Int) (zxor ((bs T 16 : Nat) : Int) (-1)) = ((bs U 16 : Nat) : Int) := by
  have l := bs_lt S 16
  have p := bs_lt T 16
  show ((zI ((bs S 16 : Nat) : Int)).toBitVec &&& (zI (zxor ((bs T 16 : Nat) : Int) (-1))).toBitVec).toInt = _
  rw [zI_xor, zI_bv]
  have e : (BitVec.ofNat 32 (bs S 16) &&& ~~~ BitVec.ofNat 32 (bs T 16)).toNat = bs U 16 := by
    refine bs_ext ?_ (fun i hi => ?_)
    · rw [BitVec.toNat_and, bvn32 (lt16 l)]
      exact Nat.lt_of_le_of_lt Nat.and_le_left l
    · rw [← BitVec.getLsbD, BitVec.getLsbD_and, BitVec.getLsbD_not, BitVec.getLsbD, bvn32 (lt16 l), BitVec.getLsbD, bvn32 (lt16 p), bs_bit, bs_bit, decide_eq_true hi, h i hi]
      have : decide (i < 32) = true := decide_eq_true (by omega)
      rw [this, Bool.true_and, Bool.true_and, Bool.true_and]
  rw [bv_toInt32 (by rw [e]; exact lt16 (bs_lt U 16)), e]
theorem bs_notor {S T U : Nat → Bool} (h : ∀ i, i < 16 → U i = (S i || T i)) : zand (zxor ((bs S 16 : Nat) : Int) (-1)) (zxor ((bs T 16 : Nat) : Int) (-1)) = zxor ((bs U 16 : Nat) : Int) (-1) := by
  have l := bs_lt S 16
  have p := bs_lt T 16
  have e : bs U 16 = bs S 16 ||| bs T 16 := (bs_ext (Nat.or_lt_two_pow l p) (fun i hi => by rw [Nat.testBit_or, bs_bit, bs_bit, decide_eq_true hi, Bool.true_and, Bool.true_and, h i hi])).symm
  have key : zI (zxor ((bs S 16 : Nat) : Int) (-1)) &&& zI (zxor ((bs T 16 : Nat) : Int) (-1)) = zI ((bs U 16 : Nat) : Int) ^^^ zI (-1) := by
    apply Int32.toBitVec_inj.mp
    show (zI (zxor ((bs S 16 : Nat) : Int) (-1))).toBitVec &&& (zI (zxor ((bs T 16 : Nat) : Int) (-1))).toBitVec = (zI ((bs U 16 : Nat) : Int)).toBitVec ^^^ (zI (-1)).toBitVec
    rw [zI_xor, zI_xor, zI_ones, zI_bv, BitVec.xor_allOnes, e, BitVec.ofNat_or, BitVec.not_or]
  unfold zand
  rw [key]
  rfl
