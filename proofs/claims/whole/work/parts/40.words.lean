/-! PURE: words as lists of numbers; the predicates of Word and WordTable -/
def seg (g : Nat → Int) (b n : Nat) : List Int := (List.range n).map (fun i => g (b + i))
theorem seg_len {g : Nat → Int} {b n : Nat} : (seg g b n).length = n := by simp [seg]
theorem seg_get {g : Nat → Int} {b n i : Nat} (h : i < n) : (seg g b n)[i]? = some (g (b + i)) := by simp [seg, h]
theorem seg_zero {g : Nat → Int} {b : Nat} : seg g b 0 = [] := rfl
theorem seg_succ {g : Nat → Int} {b n : Nat} : seg g b (n + 1) = seg g b n ++ [g (b + n)] := by simp [seg, List.range_succ]
theorem seg_ext {g g' : Nat → Int} {b b' n : Nat} (h : ∀ i, i < n → g (b + i) = g' (b' + i)) : seg g b n = seg g' b' n := by
  unfold seg
  apply List.map_congr_left
  intro i hi
  exact h i (List.mem_range.mp hi)
theorem seg_inj {g g' : Nat → Int} {b b' n : Nat} (h : seg g b n = seg g' b' n) : ∀ i, i < n → g (b + i) = g' (b' + i) := by
  intro i hi
  have h1 : (seg g b n)[i]? = (seg g' b' n)[i]? := by rw [h]
  rw [seg_get hi, seg_get hi] at h1
  exact Option.some.inj h1
theorem seg_app {g : Nat → Int} {b n m : Nat} : seg g b (n + m) = seg g b n ++ seg g (b + n) m := by
  induction m with
  | zero => simp [seg_zero]
  | succ m ih => rw [← Nat.add_assoc, seg_succ, ih, seg_succ, List.append_assoc, Nat.add_assoc b n m]
theorem seg_suf {g g' : Nat → Int} {b b' n m : Nat} : seg g' b' m <:+ seg g b n ↔ m ≤ n ∧ ∀ i, i < m → g (b + (n - m) + i) = g' (b' + i) := by
  constructor
  · intro h
    have hl := h.length_le
    rw [seg_len, seg_len] at hl
    refine ⟨hl, ?_⟩
    have e : seg g b n = seg g b (n - m) ++ seg g (b + (n - m)) m := by rw [← seg_app]; congr 1; omega
    rw [e] at h
    obtain ⟨t, ht⟩ := h
    have := List.append_inj' ht (by rw [seg_len, seg_len])
    exact seg_inj this.2.symm
  · rintro ⟨hl, h⟩
    have e : seg g b n = seg g b (n - m) ++ seg g (b + (n - m)) m := by rw [← seg_app]; congr 1; omega
    rw [e]
    exact ⟨seg g b (n - m), by rw [seg_ext (fun i hi => (h i hi).symm)]⟩
theorem seg_mem {g : Nat → Int} {b n : Nat} {Q : Int → Prop} : (∀ x ∈ seg g b n, Q x) ↔ ∀ i, i < n → Q (g (b + i)) := by
  unfold seg
  simp
def isv (x : Int) : Bool := x == 97 || x == 101 || x == 105 || x == 111 || x == 117
/-- letters -/
def ab (l : List Int) : Prop := ∀ x ∈ l, 97 ≤ x ∧ x ≤ 122
def b2i (b : Bool) : Int := if b then 1 else 0
theorem b2i_01 (b : Bool) : b2i b = 0 ∨ b2i b = 1 := by cases b <;> simp [b2i]
theorem b2i_R (b : Bool) : zR (b2i b) := by cases b <;> simp [b2i, zR]
theorem b2i_0 {b : Bool} : b2i b = 0 ↔ b = false := by cases b <;> simp [b2i]
theorem s_isVowel {x : Int} {P : Int → Sto → Prop} {σ : Sto} (hx : zR x) (h : P (b2i (isv x)) σ) : vX6_isVowel x P σ := by
  have k1 : isv x = true → vX6_isVowel_30 P σ := fun z => ⟨Or.inr rfl, by rw [z] at h; exact h⟩
  have k0 : isv x = false → vX6_isVowel_35 P 0 σ := fun z => ⟨Or.inl rfl, by rw [z] at h; exact h⟩
  refine ⟨hx, fun z => k1 (by simp [isv, z]), fun z1 => ⟨hx, fun z => k1 (by simp [isv, z]), fun z2 => ⟨hx, fun z => k1 (by simp [isv, z]), fun z3 => ⟨hx, fun z => k1 (by simp [isv, z]), fun z4 => ⟨hx, fun z => k0 (by simp [isv, z1, z2, z3, z4, z]), fun z => k1 (by simp [isv, z])⟩⟩⟩⟩⟩
/-- a Word: the cell k, its row k + 1; what it holds -/
def wl (σ : Sto) (k : Nat) : List Int := seg (σ (k + 1)) 0 (σ k 1).toNat
/-- .. and is well made: n letters at most -/
def wok (σ : Sto) (k : Nat) (n : Nat) : Prop := zk k = 3 ∧ 0 ≤ σ k 1 ∧ σ k 1 ≤ n ∧ n ≤ 18 ∧ ab (wl σ k)
theorem wn {k : Nat} (h : zk k = 3) : zn (k + 1) = 18 := zk_all (P := fun k => zk k = 3 → zn (k + 1) = 18) (by decide +kernel) h (by decide) h
theorem wok.at {σ : Sto} {k n : Nat} (h : wok σ k n) {i : Nat} (hi : (i : Int) < σ k 1) : 97 ≤ σ (k + 1) i ∧ σ (k + 1) i ≤ 122 := by
  have := (seg_mem (Q := fun x => 97 ≤ x ∧ x ≤ 122)).mp h.2.2.2.2 i (by omega)
  rwa [Nat.zero_add] at this
theorem wl_len {σ : Sto} {k n : Nat} (h : wok σ k n) : ((wl σ k).length : Int) = σ k 1 := by
  unfold wl
  rw [seg_len]
  exact Int.toNat_of_nonneg h.2.1
theorem zR_s {x : Int} (h0 : -100000 ≤ x) (h1 : x ≤ 100000) : zR x := by unfold zR; omega
/-- the stores are the same but for the named cells -/
def fr (S : List Nat) (σ τ : Sto) : Prop := ∀ i, i ∉ S → τ i = σ i
theorem fr.refl {S : List Nat} {σ : Sto} : fr S σ σ := fun _ _ => rfl
theorem fr.trans {S : List Nat} {σ τ υ : Sto} (h : fr S σ τ) (h2 : fr S τ υ) : fr S σ υ := fun i hi => (h2 i hi).trans (h i hi)
theorem fr.mono {S T : List Nat} {σ τ : Sto} (h : fr S σ τ) (hs : ∀ i ∈ S, i ∈ T) : fr T σ τ := fun i hi => h i (fun z => hi (hs i z))
theorem fr_zu {S : List Nat} {σ : Sto} {k j : Nat} {x : Int} (h : k ∈ S) : fr S σ (zu σ k j x) := fun i hi => zu_ne (fun z => hi (z ▸ h))
theorem zu_eq {σ : Sto} {k j : Nat} {x : Int} : zu σ k j x k j = x := by simp [zu]
theorem zu_j {σ : Sto} {k j i : Nat} {x : Int} (h : i ≠ j) : zu σ k j x k i = σ k i := by simp [zu, h]
theorem s_isStem {k n : Nat} {P : Int → Sto → Prop} {σ : Sto} (hk : wok σ k n) (h : P (b2i (decide (2 ≤ (wl σ k).length ∧ (wl σ k).length ≤ 10))) σ) : vX4_isStem k P σ := by
  have hl := wl_len hk
  have hr : zR (σ k 1) := zR_s (by have := hk.2.1; omega) (by have := hk.2.2.1; have := hk.2.2.2.1; omega)
  refine ⟨hr, fun z => ⟨Or.inl rfl, ?_⟩, fun z => ⟨hr, fun z2 => ⟨Or.inl rfl, ?_⟩, fun z2 => ⟨Or.inr rfl, ?_⟩⟩⟩
  · rw [show decide (2 ≤ (wl σ k).length ∧ (wl σ k).length ≤ 10) = false from decide_eq_false (by omega)] at h; exact h
  · rw [show decide (2 ≤ (wl σ k).length ∧ (wl σ k).length ≤ 10) = false from decide_eq_false (by omega)] at h; exact h
  · rw [show decide (2 ≤ (wl σ k).length ∧ (wl σ k).length ≤ 10) = true from decide_eq_true (by omega)] at h; exact h
/-- the last letter is a vowel -/
def evow (l : List Int) : Bool := l.getLast?.any isv
theorem wl_last {σ : Sto} {k n : Nat} (h : wok σ k n) (h0 : 0 < σ k 1) : (wl σ k).getLast? = some (σ (k + 1) (σ k 1 - 1).toNat) := by
  unfold wl
  obtain ⟨m, hm⟩ : ∃ m : Nat, (σ k 1).toNat = m + 1 := ⟨(σ k 1).toNat - 1, by omega⟩
  rw [hm, seg_succ, show (σ k 1 - 1).toNat = 0 + m by omega]
  simp
theorem s_endsInVowel {k n : Nat} {P : Int → Sto → Prop} {σ : Sto} (hk : wok σ k n) (h : P (b2i (evow (wl σ k))) σ) : vX4_endsInVowel k P σ := by
  have hb := hk.2.2.1
  have hn := hk.2.2.2.1
  have hr : zR (σ k 1) := zR_s (by have := hk.2.1; omega) (by omega)
  refine ⟨hr, fun z => ⟨Or.inl rfl, ?_⟩, fun z => ⟨by omega, by rw [wn hk.1]; omega, s_isVowel ?_ ⟨b2i_R _, fun z2 => ⟨Or.inl rfl, ?_⟩, fun z2 => ⟨Or.inr rfl, ?_⟩⟩⟩⟩
  · have : wl σ k = [] := List.length_eq_zero_iff.mp (by have := wl_len hk; have := hk.2.1; omega)
    rw [this] at h; exact h
  · have := hk.at (i := (σ k 1 - 1).toNat) (by omega)
    exact zR_s (by omega) (by omega)
  · rw [evow, wl_last hk (by omega), Option.any_some] at h
    rw [b2i_0.mp z2] at h; exact h
  · rw [evow, wl_last hk (by omega), Option.any_some] at h
    rw [show isv (σ (k + 1) (σ k 1 - 1).toNat) = true from by
      cases hq : isv (σ (k + 1) (σ k 1 - 1).toNat)
      · exact absurd (by rw [hq]; rfl) z2
      · rfl] at h
    exact h
/-- the place of the last vowel, or -1 -/
def lvow (l : List Int) : Int := match l.reverse.findIdx? isv with
  | some i => (l.length : Int) - 1 - i
  | none => -1
theorem lvow_snoc {l : List Int} {x : Int} : lvow (l ++ [x]) = if isv x then (l.length : Int) else lvow l := by
  unfold lvow
  rw [List.reverse_append, List.reverse_singleton, List.singleton_append, List.findIdx?_cons]
  cases hx : isv x
  · simp only [Bool.false_eq_true, if_false]
    cases hf : l.reverse.findIdx? isv with
    | none => rfl
    | some i => simp; omega
  · simp
theorem lvow_nil : lvow [] = -1 := rfl
theorem lvow_b (l : List Int) : -1 ≤ lvow l ∧ lvow l < (l.length : Int) := by
  rcases List.eq_nil_or_concat l with rfl | ⟨l, x, rfl⟩
  · decide
  · rw [List.concat_eq_append, lvow_snoc, List.length_append]
    split
    · simp; omega
    · have := lvow_b l
      simp
      omega
termination_by l.length
decreasing_by simp_all
theorem s_lastVowel_7 {k n0 : Nat} {P : Int → Sto → Prop} {σ : Sto} (hk : wok σ k n0) : ∀ (n m : Nat), m ≤ (σ k 1).toNat → m < n → P (lvow (seg (σ (k + 1)) 0 m)) σ → vX4_lastVowel_7 k P n ((m : Int) - 1) σ := by
  intro n
  induction n with
  | zero => intro m _ h; omega
  | succ n ih =>
    intro m hm hmn h
    have hb := hk.2.2.1
    have hn := hk.2.2.2.1
    refine ⟨zR_s (by omega) (by omega), fun z => ?_, fun z => ⟨by omega, by rw [wn hk.1]; omega, ?_⟩⟩
    · have : m = 0 := by omega
      subst this
      exact h
    · obtain ⟨j, rfl⟩ : ∃ j, m = j + 1 := ⟨m - 1, by omega⟩
      have ej : (((j + 1 : Nat) : Int) - 1).toNat = j := by omega
      rw [ej]
      have hl := hk.at (i := j) (by omega)
      rw [seg_succ, lvow_snoc, Nat.zero_add, seg_len] at h
      refine s_isVowel (zR_s (by omega) (by omega)) ⟨b2i_R _, fun z2 => ?_, fun z2 => ?_⟩
      · rw [b2i_0.mp z2] at h
        have := ih j (by omega) (by omega) h
        rw [show ((j + 1 : Nat) : Int) - 1 + -1 = (j : Int) - 1 by omega]
        exact this
      · rw [show ((j + 1 : Nat) : Int) - 1 = (j : Int) by omega]
        rw [show isv (σ (k + 1) j) = true from by
          cases hq : isv (σ (k + 1) j)
          · exact absurd (by rw [hq]; rfl) z2
          · rfl] at h
        exact h
theorem s_lastVowel {k n : Nat} {P : Int → Sto → Prop} {σ : Sto} (hk : wok σ k n) (h : P (lvow (wl σ k)) σ) : vX4_lastVowel k P σ := by
  refine ⟨(σ k 1).toNat + 1, ?_⟩
  have := s_lastVowel_7 (P := P) hk ((σ k 1).toNat + 1) (σ k 1).toNat (Nat.le_refl _) (by omega) h
  rwa [Int.toNat_of_nonneg hk.2.1] at this
/-- a table: the cell t, its lengths t + 1, its letters t + 2; the word in slot j -/
def tl (σ : Sto) (t j : Nat) : List Int := seg (σ (t + 2)) ((zw t).toNat * j) (σ (t + 1) j).toNat
/-- slot j of the table t is there and well made -/
def tok (σ : Sto) (t j : Nat) : Prop := zk t = 4 ∧ j < zn (t + 1) ∧ 0 ≤ σ (t + 1) j ∧ σ (t + 1) j ≤ zw t ∧ ab (tl σ t j)
theorem tw {t : Nat} (h : zk t = 4) : 0 < zw t ∧ zw t ≤ 15 ∧ (zn (t + 2) : Int) = zn (t + 1) * zw t ∧ zn (t + 1) ≤ 60 := zk_all (P := fun t => zk t = 4 → 0 < zw t ∧ zw t ≤ 15 ∧ (zn (t + 2) : Int) = zn (t + 1) * zw t ∧ zn (t + 1) ≤ 60) (by decide +kernel) h (by decide) h
theorem tl_len {σ : Sto} {t j : Nat} (h : tok σ t j) : ((tl σ t j).length : Int) = σ (t + 1) j := by
  unfold tl
  rw [seg_len]
  exact Int.toNat_of_nonneg h.2.2.1
theorem tok.at {σ : Sto} {t j : Nat} (h : tok σ t j) {i : Nat} (hi : (i : Int) < σ (t + 1) j) : 97 ≤ σ (t + 2) ((zw t).toNat * j + i) ∧ σ (t + 2) ((zw t).toNat * j + i) ≤ 122 :=
  (seg_mem (Q := fun x => 97 ≤ x ∧ x ≤ 122)).mp h.2.2.2.2 i (by omega)
/-- a place in the letters' row -/
theorem tpos {t j i : Nat} (hz : zk t = 4) (hj : j < zn (t + 1)) (hi : (i : Int) < zw t) : 0 ≤ (j : Int) * zw t + i ∧ (j : Int) * zw t + i < (zn (t + 2) : Int) ∧ ((j : Int) * zw t + i).toNat = (zw t).toNat * j + i := by
  obtain ⟨h1, h2, h3, h4⟩ := tw hz
  obtain ⟨w, hw⟩ : ∃ w : Nat, zw t = w := ⟨(zw t).toNat, by omega⟩
  rw [hw] at h1 h2 h3 hi ⊢
  have e : (j : Int) * (w : Int) + i = ((w * j + i : Nat) : Int) := by
    rw [Int.natCast_add, Int.natCast_mul, Int.mul_comm]
  refine ⟨by rw [e]; omega, ?_, by rw [e]; rfl⟩
  rw [e, h3, ← Int.natCast_mul]
  have h5 : w * j + i < w * (j + 1) := by rw [Nat.mul_succ]; omega
  have h6 : w * (j + 1) ≤ w * zn (t + 1) := Nat.mul_le_mul_left w hj
  rw [Nat.mul_comm (zn (t + 1)) w]
  omega
theorem s_isEndOf_29 {t w j n0 : Nat} {P : Int → Sto → Prop} {σ : Sto} (ht : tok σ t j) (hw : wok σ w n0) (hle : σ (t + 1) j ≤ σ w 1) : ∀ (n m : Nat), (m : Int) ≤ σ (t + 1) j → σ (t + 1) j - m < n → (∀ i, i < m → σ (w + 1) ((σ w 1 - σ (t + 1) j).toNat + i) = σ (t + 2) ((zw t).toNat * j + i)) → P (b2i (decide (tl σ t j <:+ wl σ w))) σ → vX5_isEndOf_29 t w P n (j : Int) (σ w 1 - σ (t + 1) j) ((j : Int) * zw t) m σ := by
  intro n
  induction n with
  | zero => intro m h1 h2; omega
  | succ n ih =>
    intro m h1 h2 hm h
    obtain ⟨hz, hj, h0, hwd, hab⟩ := ht
    obtain ⟨hzw, hw0, hwn, hn18, hwa⟩ := id hw
    have ht : tok σ t j := ⟨hz, hj, h0, hwd, hab⟩
    have hsuf : tl σ t j <:+ wl σ w ↔ ∀ i, i < (σ (t + 1) j).toNat → σ (w + 1) ((σ w 1 - σ (t + 1) j).toNat + i) = σ (t + 2) ((zw t).toNat * j + i) := by
      unfold tl wl
      rw [seg_suf]
      have e : ∀ i, 0 + ((σ w 1).toNat - (σ (t + 1) j).toNat) + i = (σ w 1 - σ (t + 1) j).toNat + i := by intro i; omega
      constructor
      · intro q i hi; have := q.2 i hi; rwa [e] at this
      · intro q; exact ⟨by omega, fun i hi => by rw [e]; exact q i hi⟩
    obtain ⟨w1, w2, w3, w4⟩ := tw hz
    refine ⟨by omega, by exact_mod_cast hj, zR_s (by omega) (by omega), zR_s (by simp; omega) (by simp; omega), fun z => ?_, fun z => ?_⟩
    · simp only [Int.toNat_natCast] at z
      rw [show decide (tl σ t j <:+ wl σ w) = true from decide_eq_true (hsuf.mpr (fun i hi => hm i (by omega)))] at h
      exact h
    · simp only [Int.toNat_natCast] at z
      have hp := tpos (i := m) hz hj (by omega)
      have e2 : (σ w 1 - σ (t + 1) j + (m : Int)).toNat = (σ w 1 - σ (t + 1) j).toNat + m := by omega
      have l1 := hw.at (i := (σ w 1 - σ (t + 1) j).toNat + m) (by omega)
      have l2 := ht.at (i := m) (by omega)
      refine ⟨by omega, by rw [wn hzw]; omega, hp.1, hp.2.1, by rw [e2]; exact zR_s (by omega) (by omega), by rw [hp.2.2]; exact zR_s (by omega) (by omega), fun z2 => ?_, fun z2 => ?_⟩
      · rw [e2, hp.2.2] at z2
        have := ih (m + 1) (by omega) (by omega) (fun i hi => by
          rcases Nat.lt_or_ge i m with q | q
          · exact hm i q
          · have : i = m := by omega
            subst this; exact z2) h
        exact_mod_cast this
      · rw [e2, hp.2.2] at z2
        rw [show decide (tl σ t j <:+ wl σ w) = false from decide_eq_false (fun q => z2 (hsuf.mp q m (by omega)))] at h
        exact h
theorem s_isEndOf {t w j n0 : Nat} {P : Int → Sto → Prop} {σ : Sto} (ht : tok σ t j) (hw : wok σ w n0) (h : P (b2i (decide (tl σ t j <:+ wl σ w))) σ) : vX5_isEndOf t (j : Int) w P σ := by
  obtain ⟨hz, hj, h0, hwd, hab⟩ := id ht
  obtain ⟨hzw, hw0, hwn, hn18, hwa⟩ := id hw
  obtain ⟨w1, w2, w3, w4⟩ := tw hz
  unfold vX5_isEndOf
  simp only [Int.toNat_natCast]
  refine ⟨by omega, by exact_mod_cast hj, zR_s (by omega) (by omega), fun z => ⟨(σ (t + 1) j).toNat + 1, ?_⟩, fun z => ?_⟩
  · exact s_isEndOf_29 ht hw (by omega) _ 0 (by omega) (by omega) (fun i hi => by omega) h
  · rw [show decide (tl σ t j <:+ wl σ w) = false from decide_eq_false (fun q => by
      have := q.length_le
      have e1 := tl_len ht
      have e2 := wl_len hw
      omega)] at h
    exact h
