/-! PURE: a hypothesis in one number -/
theorem bv_toInt {b : BitVec 64} (h : b.toNat < 2 ^ 63) : b.toInt = (b.toNat : Int) := BitVec.toInt_eq_toNat_of_lt (by omega)
theorem zJ_bv (n : Nat) : (zJ (n : Int)).toBitVec = BitVec.ofNat 64 n := by
  rw [zJ, Int64.ofInt_eq_ofNat]
  rfl
theorem bvn {n : Nat} (h : n < 2 ^ 63) : (BitVec.ofNat 64 n).toNat = n := by
  rw [BitVec.toNat_ofNat]
  exact Nat.mod_eq_of_lt (by omega)
theorem sh63 : ∀ k : Nat, k < 64 → (((zI (k : Int)).toInt64 &&& 63).toBitVec.smod 64).toNat = k := by decide +kernel
theorem J_shl {n k : Nat} (hk : k < 64) (h : n * 2 ^ k < 2 ^ 63) : zJshl (n : Int) (k : Int) = ((n * 2 ^ k : Nat) : Int) := by
  show ((zJ (n : Int)).toBitVec <<< (((zI (k : Int)).toInt64 &&& 63).toBitVec.smod 64)).toInt = _
  have hn : n < 2 ^ 63 := Nat.lt_of_le_of_lt (Nat.le_mul_of_pos_right n (Nat.two_pow_pos k)) h
  have e : ((zJ (n : Int)).toBitVec <<< (((zI (k : Int)).toInt64 &&& 63).toBitVec.smod 64)).toNat = n * 2 ^ k := by
    rw [BitVec.shiftLeft_eq', BitVec.toNat_shiftLeft, sh63 k hk, zJ_bv, bvn hn, Nat.shiftLeft_eq]
    exact Nat.mod_eq_of_lt (by omega)
  rw [bv_toInt (by rw [e]; exact h), e]
theorem J_shr {n k : Nat} (hk : k < 64) (h : n < 2 ^ 63) : zJshr (n : Int) (k : Int) = ((n / 2 ^ k : Nat) : Int) := by
  show ((zJ (n : Int)).toBitVec.sshiftRight (((zI (k : Int)).toInt64 &&& 63).toBitVec.smod 64).toNat).toInt = _
  rw [sh63 k hk, BitVec.toInt_sshiftRight, zJ_bv, bv_toInt (by rw [bvn h]; exact h), bvn h, Int.shiftRight_eq_div_pow]
  rfl
theorem J_or {n m : Nat} (hn : n < 2 ^ 63) (hm : m < 2 ^ 63) : zJor (n : Int) (m : Int) = ((n ||| m : Nat) : Int) := by
  show ((zJ (n : Int)).toBitVec ||| (zJ (m : Int)).toBitVec).toInt = _
  have e : ((zJ (n : Int)).toBitVec ||| (zJ (m : Int)).toBitVec).toNat = n ||| m := by rw [BitVec.toNat_or, zJ_bv, zJ_bv, bvn hn, bvn hm]
  rw [bv_toInt (by rw [e]; exact Nat.or_lt_two_pow hn hm), e]
theorem J_and {n k : Nat} (hn : n < 2 ^ 63) (hk : k ≤ 62) : zJand (n : Int) ((2 ^ k - 1 : Nat) : Int) = ((n % 2 ^ k : Nat) : Int) := by
  show ((zJ (n : Int)).toBitVec &&& (zJ ((2 ^ k - 1 : Nat) : Int)).toBitVec).toInt = _
  have hm : 2 ^ k - 1 < 2 ^ 63 := Nat.lt_of_le_of_lt (Nat.sub_le _ _) (Nat.pow_lt_pow_right (by decide) (by omega))
  have e : ((zJ (n : Int)).toBitVec &&& (zJ ((2 ^ k - 1 : Nat) : Int)).toBitVec).toNat = n % 2 ^ k := by rw [BitVec.toNat_and, zJ_bv, zJ_bv, bvn hn, bvn hm, Nat.and_two_pow_sub_one_eq_mod]
  rw [bv_toInt (by rw [e]; exact Nat.lt_of_le_of_lt (Nat.mod_le _ _) hn), e]
theorem J_orD {a b i : Nat} (hb : b < 2 ^ i) (h : 2 ^ i * a + b < 2 ^ 63) : zJor ((2 ^ i * a : Nat) : Int) (b : Int) = ((2 ^ i * a + b : Nat) : Int) := by
  rw [J_or (by omega) (by omega), ← Nat.two_pow_add_eq_or_of_lt hb]
theorem J_or4 {a u c p L : Nat} (ha : a ≤ 6) (hu : u < 8) (hc : c < 16) (hp : p < 8) (hL : L < 2 ^ 50) : zJor (zJor (zJor (zJor ((2 ^ 60 * a : Nat) : Int) ((2 ^ 57 * u : Nat) : Int)) ((2 ^ 53 * c : Nat) : Int)) ((2 ^ 50 * p : Nat) : Int)) (L : Int) = (((a * 8 + u) * 2 ^ 57 + (c * 2 ^ 53 + p * 2 ^ 50 + L) : Nat) : Int) := by
  have e1 : 2 ^ 60 * a + 2 ^ 57 * u = 2 ^ 57 * (8 * a + u) := by omega
  have e2 : 2 ^ 57 * (8 * a + u) + 2 ^ 53 * c = 2 ^ 53 * (16 * (8 * a + u) + c) := by omega
  have e3 : 2 ^ 53 * (16 * (8 * a + u) + c) + 2 ^ 50 * p = 2 ^ 50 * (8 * (16 * (8 * a + u) + c) + p) := by omega
  have e4 : 2 ^ 50 * (8 * (16 * (8 * a + u) + c) + p) + L = (a * 8 + u) * 2 ^ 57 + (c * 2 ^ 53 + p * 2 ^ 50 + L) := by omega
  rw [J_orD (i := 60) (by omega) (by omega), e1, J_orD (i := 57) (by omega) (by omega), e2, J_orD (i := 53) (by omega) (by omega), e3, J_orD (i := 50) hL (by omega), e4]
/-- the number of the letters -/
def lnum (l : List Int) : Nat := l.foldl (fun n x => n * 32 + (x - 97).toNat) 0
theorem lnum_snoc (l : List Int) (x : Int) : lnum (l ++ [x]) = lnum l * 32 + (x - 97).toNat := by simp [lnum]
theorem lnum_lt : ∀ (n : Nat) (l : List Int), l.length = n → ab l → lnum l < 32 ^ n := by
  intro n
  induction n with
  | zero => intro l hl _; rw [List.length_eq_zero_iff.mp hl]; decide
  | succ n ih =>
    intro l hl ha
    rcases List.eq_nil_or_concat l with rfl | ⟨l, x, rfl⟩
    · simp at hl
    · rw [List.concat_eq_append] at *
      have h1 := ih l (by simp at hl; exact hl) (fun y hy => ha y (by simp [hy]))
      have h2 := ha x (by simp)
      rw [lnum_snoc, Nat.pow_succ]
      have : (x - 97).toNat < 32 := by omega
      omega
theorem lnum_50 {l : List Int} (hl : l.length ≤ 10) (ha : ab l) : lnum l < 2 ^ 50 := by
  have h1 := lnum_lt l.length l rfl ha
  have h2 : 32 ^ l.length ≤ 32 ^ 10 := Nat.pow_le_pow_right (by decide) hl
  have h3 : (32 : Nat) ^ 10 = 2 ^ 50 := by decide
  omega
theorem lnum_app : ∀ (n : Nat) (l m : List Int), m.length = n → lnum (l ++ m) = lnum l * 32 ^ n + lnum m := by
  intro n
  induction n with
  | zero => intro l m hm; rw [List.length_eq_zero_iff.mp hm]; simp [lnum]
  | succ n ih =>
    intro l m hm
    rcases List.eq_nil_or_concat m with rfl | ⟨m, x, rfl⟩
    · simp at hm
    · rw [List.concat_eq_append] at *
      rw [← List.append_assoc, lnum_snoc, ih l m (by simpa using hm), lnum_snoc, Nat.pow_succ, Nat.add_mul, Nat.mul_assoc]
      omega
theorem lnum_dig {l : List Int} (ha : ab l) {i : Nat} (hi : i < l.length) : lnum l / 32 ^ (l.length - 1 - i) % 32 = (l[i] - 97).toNat := by
  have e : l = (l.take i ++ [l[i]]) ++ l.drop (i + 1) := by simp
  have hd : (l.drop (i + 1)).length = l.length - 1 - i := by rw [List.length_drop]; omega
  have had : ab (l.drop (i + 1)) := fun y hy => ha y (List.mem_of_mem_drop hy)
  have hl : lnum l = (lnum (l.take i) * 32 + (l[i] - 97).toNat) * 32 ^ (l.length - 1 - i) + lnum (l.drop (i + 1)) := by
    rw [← lnum_snoc, ← lnum_app _ _ _ hd, ← e]
  have hlt := lnum_lt _ _ hd had
  have hx := ha l[i] (List.getElem_mem hi)
  rw [hl, Nat.add_comm, Nat.add_mul_div_right _ _ (Nat.pow_pos (by decide)), Nat.div_eq_of_lt hlt]
  omega
/-- paradigm and stem in a number -/
def pairN (p : Nat) (l : List Int) : Nat := (10 - l.length) * 2 ^ 53 + p * 2 ^ 50 + lnum l
/-- .. with the number of explained words and of missing forms -/
def keyN (e u p : Nat) (l : List Int) : Nat := ((6 - e) * 8 + u) * 2 ^ 57 + pairN p l
theorem pairN_lt {p : Nat} {l : List Int} (hp : p < 8) (hl : l.length ≤ 10) (ha : ab l) : pairN p l < 2 ^ 57 := by
  have := lnum_50 hl ha
  unfold pairN
  omega
theorem keyN_lt {e u p : Nat} {l : List Int} (hu : u < 8) (hp : p < 8) (hl : l.length ≤ 10) (ha : ab l) : keyN e u p l < 2 ^ 63 := by
  have := pairN_lt hp hl ha
  unfold keyN
  omega
theorem s_of_6 {k n0 p e u : Nat} {P : Int → Sto → Prop} {σ : Sto} (hk : wok σ k n0) (hn : n0 ≤ 10) (hp : p < 8) (he : e ≤ 6) (hu : u < 8) (h : P ((keyN e u p (wl σ k) : Nat) : Int) σ) : ∀ (n m : Nat), (m : Int) ≤ σ k 1 → σ k 1 - m < n → vX2_of_6 k P n (p : Int) (e : Int) (u : Int) ((lnum (seg (σ (k + 1)) 0 m) : Nat) : Int) (m : Int) σ := by
  intro n
  induction n with
  | zero => intro m h1 h2; omega
  | succ n ih =>
    intro m h1 h2
    obtain ⟨hz, h0, hb, h18, hab⟩ := id hk
    have hl := wl_len hk
    have habm : ab (seg (σ (k + 1)) 0 m) := seg_mem.mpr (fun i hi => by rw [Nat.zero_add]; exact hk.at (by omega))
    have hlm := lnum_lt m _ seg_len habm
    refine ⟨zR_s (by omega) (by omega), zR_s (by omega) (by omega), fun z => ?_, fun z => ⟨by omega, by rw [wn hz]; omega, ?_⟩⟩
    · have em : m = (σ k 1).toNat := by omega
      have ew : seg (σ (k + 1)) 0 m = wl σ k := by rw [em]; rfl
      rw [ew] at habm ⊢
      have hl50 := lnum_50 (l := wl σ k) (by omega) habm
      refine ⟨zR_s (by omega) (by omega), zR_s (by omega) (by omega), zR_s (by omega) (by omega), zR_s (by omega) (by omega), ?_⟩
      have c1 : (6 - (e : Int)) = ((6 - e : Nat) : Int) := by omega
      have c2 : (10 - σ k 1) = ((10 - (wl σ k).length : Nat) : Int) := by omega
      have s1 : zJshl (6 - (e : Int)) 60 = ((2 ^ 60 * (6 - e) : Nat) : Int) := by rw [c1]; have := J_shl (n := 6 - e) (k := 60) (by decide) (by omega); rw [Nat.mul_comm]; exact_mod_cast this
      have s2 : zJshl (u : Int) 57 = ((2 ^ 57 * u : Nat) : Int) := by have := J_shl (n := u) (k := 57) (by decide) (by omega); rw [Nat.mul_comm]; exact_mod_cast this
      have s3 : zJshl (10 - σ k 1) 53 = ((2 ^ 53 * (10 - (wl σ k).length) : Nat) : Int) := by rw [c2]; have := J_shl (n := 10 - (wl σ k).length) (k := 53) (by decide) (by omega); rw [Nat.mul_comm]; exact_mod_cast this
      have s4 : zJshl (p : Int) 50 = ((2 ^ 50 * p : Nat) : Int) := by have := J_shl (n := p) (k := 50) (by decide) (by omega); rw [Nat.mul_comm]; exact_mod_cast this
      rw [s1, s2, s3, s4, J_or4 (by omega) hu (by omega) hp hl50]
      exact h
    · simp only [Int.toNat_natCast]
      have hat := hk.at (i := m) (by omega)
      refine ⟨zR_s (by omega) (by omega), ?_⟩
      have hp32 : 32 ^ m ≤ 32 ^ 9 := Nat.pow_le_pow_right (by decide) (by omega)
      have e9 : (32 : Nat) ^ 9 = 2 ^ 45 := by decide
      have s1 : zJshl ((lnum (seg (σ (k + 1)) 0 m) : Nat) : Int) 5 = ((2 ^ 5 * lnum (seg (σ (k + 1)) 0 m) : Nat) : Int) := by have := J_shl (n := lnum (seg (σ (k + 1)) 0 m)) (k := 5) (by decide) (by omega); rw [Nat.mul_comm]; exact_mod_cast this
      have s2 : σ (k + 1) m - 97 = (((σ (k + 1) m - 97).toNat : Nat) : Int) := by omega
      rw [s1, s2, J_orD (by omega) (by omega)]
      have := ih (m + 1) (by omega) (by omega)
      rw [seg_succ, lnum_snoc, Nat.zero_add, Nat.mul_comm] at this
      exact_mod_cast this
theorem s_of {k n0 p e u : Nat} {P : Int → Sto → Prop} {σ : Sto} (hk : wok σ k n0) (hn : n0 ≤ 10) (hp : p < 8) (he : e ≤ 6) (hu : u < 8) (h : P ((keyN e u p (wl σ k) : Nat) : Int) σ) : vX2_of (p : Int) k (e : Int) (u : Int) P σ :=
  ⟨(σ k 1).toNat + 1, by
    have := s_of_6 hk hn hp he hu h ((σ k 1).toNat + 1) 0 (by have := hk.2.1; omega) (by have := hk.2.1; omega)
    exact_mod_cast this⟩
/-- a number whose lower bits are a pair -/
theorem s_pair {x p : Nat} {l : List Int} {P : Int → Sto → Prop} {σ : Sto} (hp : p < 8) (hl : l.length ≤ 10) (ha : ab l) (hx : x < 64) (h : P ((pairN p l : Nat) : Int) σ) : vX2_pair ((x * 2 ^ 57 + pairN p l : Nat) : Int) P σ := by
  have hlt := pairN_lt hp hl ha
  unfold vX2_pair
  have := J_and (n := x * 2 ^ 57 + pairN p l) (k := 57) (by omega) (by decide)
  rw [show ((2 ^ 57 - 1 : Nat) : Int) = 144115188075855871 by decide] at this
  rw [this, Nat.mul_comm, Nat.mul_add_mod, Nat.mod_eq_of_lt hlt]
  exact h
theorem k_shr {x p k c : Nat} {l : List Int} (hp : p < 8) (hl : l.length ≤ 10) (ha : ab l) (hx : x < 64) (hk : k < 64) (hc : c ≤ 62) : zJand (zJshr ((x * 2 ^ 57 + pairN p l : Nat) : Int) (k : Int)) ((2 ^ c - 1 : Nat) : Int) = (((x * 2 ^ 57 + pairN p l) / 2 ^ k % 2 ^ c : Nat) : Int) := by
  have hlt := pairN_lt hp hl ha
  rw [J_shr hk (by omega), J_and (Nat.lt_of_le_of_lt (Nat.div_le_self _ _) (by omega)) hc]
theorem s_stemLength {x p : Nat} {l : List Int} {P : Int → Sto → Prop} {σ : Sto} (hp : p < 8) (hl : l.length ≤ 10) (ha : ab l) (hx : x < 64) (h : P (l.length : Int) σ) : vX2_stemLength ((x * 2 ^ 57 + pairN p l : Nat) : Int) P σ := by
  have h50 := lnum_50 hl ha
  unfold vX2_stemLength
  have := k_shr (k := 53) (c := 4) hp hl ha hx (by decide) (by decide)
  rw [show ((2 ^ 4 - 1 : Nat) : Int) = 15 by decide, show ((53 : Nat) : Int) = 53 by rfl] at this
  rw [this, show (x * 2 ^ 57 + pairN p l) / 2 ^ 53 % 2 ^ 4 = 10 - l.length by unfold pairN; omega]
  rw [show (10 : Int) - ((10 - l.length : Nat) : Int) = (l.length : Int) by omega]
  exact h
theorem s_paradigm {x p : Nat} {l : List Int} {P : Int → Sto → Prop} {σ : Sto} (hp : p < 8) (hl : l.length ≤ 10) (ha : ab l) (hx : x < 64) (h : P (p : Int) σ) : vX2_paradigm ((x * 2 ^ 57 + pairN p l : Nat) : Int) P σ := by
  have h50 := lnum_50 hl ha
  unfold vX2_paradigm
  have := k_shr (k := 50) (c := 3) hp hl ha hx (by decide) (by decide)
  rw [show ((2 ^ 3 - 1 : Nat) : Int) = 7 by decide, show ((50 : Nat) : Int) = 50 by rfl] at this
  rw [this, show (x * 2 ^ 57 + pairN p l) / 2 ^ 50 % 2 ^ 3 = p by unfold pairN; omega]
  exact h
theorem s_explained {e u p : Nat} {l : List Int} {P : Int → Sto → Prop} {σ : Sto} (he : e ≤ 6) (hu : u < 8) (hp : p < 8) (hl : l.length ≤ 10) (ha : ab l) (h : P (e : Int) σ) : vX2_explained ((keyN e u p l : Nat) : Int) P σ := by
  have hlt := pairN_lt hp hl ha
  unfold vX2_explained keyN
  have := k_shr (x := (6 - e) * 8 + u) (k := 60) (c := 3) hp hl ha (by omega) (by decide) (by decide)
  rw [show ((2 ^ 3 - 1 : Nat) : Int) = 7 by decide, show ((60 : Nat) : Int) = 60 by rfl] at this
  rw [this, show (((6 - e) * 8 + u) * 2 ^ 57 + pairN p l) / 2 ^ 60 % 2 ^ 3 = 6 - e by omega]
  rw [show (6 : Int) - ((6 - e : Nat) : Int) = (e : Int) by omega]
  exact h
theorem s_unattested {e u p : Nat} {l : List Int} {P : Int → Sto → Prop} {σ : Sto} (he : e ≤ 6) (hu : u < 8) (hp : p < 8) (hl : l.length ≤ 10) (ha : ab l) (h : P (u : Int) σ) : vX2_unattested ((keyN e u p l : Nat) : Int) P σ := by
  have hlt := pairN_lt hp hl ha
  unfold vX2_unattested keyN
  have := k_shr (x := (6 - e) * 8 + u) (k := 57) (c := 3) hp hl ha (by omega) (by decide) (by decide)
  rw [show ((2 ^ 3 - 1 : Nat) : Int) = 7 by decide, show ((57 : Nat) : Int) = 57 by rfl] at this
  rw [this, show (((6 - e) * 8 + u) * 2 ^ 57 + pairN p l) / 2 ^ 57 % 2 ^ 3 = u by omega]
  exact h
theorem s_letterOfStem {x p i : Nat} {l : List Int} {P : Int → Sto → Prop} {σ : Sto} (hp : p < 8) (hl : l.length ≤ 10) (ha : ab l) (hx : x < 64) (hi : i < l.length) (h : P l[i] σ) : vX2_letterOfStem ((x * 2 ^ 57 + pairN p l : Nat) : Int) (i : Int) P σ := by
  have h50 := lnum_50 hl ha
  refine s_stemLength hp hl ha hx ?_
  have es : ((l.length : Int) - 1 - (i : Int)) * 5 = (((l.length - 1 - i) * 5 : Nat) : Int) := by omega
  have hxi := ha l[i] (List.getElem_mem hi)
  have e : zJand (zJshr ((x * 2 ^ 57 + pairN p l : Nat) : Int) (((l.length : Int) - 1 - (i : Int)) * 5)) 31 = (((l[i] - 97).toNat : Nat) : Int) := by
    have := k_shr (k := (l.length - 1 - i) * 5) (c := 5) hp hl ha hx (by omega) (by decide)
    rw [show ((2 ^ 5 - 1 : Nat) : Int) = 31 by decide] at this
    rw [es, this]
    congr 1
    have hd := lnum_dig ha hi
    rw [show (32 : Nat) = 2 ^ 5 by decide, ← Nat.pow_mul, Nat.mul_comm 5] at hd
    rw [← hd]
    have hs : (l.length - 1 - i) * 5 + 5 ≤ 50 := by omega
    obtain ⟨r, hr⟩ : ∃ r, 50 = (l.length - 1 - i) * 5 + 5 + r := ⟨50 - ((l.length - 1 - i) * 5 + 5), by omega⟩
    have hx2 : x * 2 ^ 57 + pairN p l = 2 ^ ((l.length - 1 - i) * 5) * (2 ^ 5 * (2 ^ r * (x * 2 ^ 7 + (10 - l.length) * 2 ^ 3 + p))) + lnum l := by
      have : 2 ^ ((l.length - 1 - i) * 5) * (2 ^ 5 * (2 ^ r * (x * 2 ^ 7 + (10 - l.length) * 2 ^ 3 + p))) = 2 ^ 50 * (x * 2 ^ 7 + (10 - l.length) * 2 ^ 3 + p) := by
        rw [← Nat.mul_assoc, ← Nat.mul_assoc, ← Nat.pow_add, ← Nat.pow_add, ← hr]
      rw [this]
      unfold pairN
      omega
    rw [hx2, Nat.mul_add_div (Nat.two_pow_pos _), Nat.mul_add_mod]
  rw [e]
  have e2 : zi2c (97 + (((l[i] - 97).toNat : Nat) : Int)) = l[i] := by unfold zi2c; omega
  rw [e2]
  exact ⟨by omega, by omega, h⟩
