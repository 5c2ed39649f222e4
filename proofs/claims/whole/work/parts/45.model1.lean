/-! PURE: the reference's words: rows of numbers behind their lengths -/
def fl (f : Nat → Int) (q : Nat) : List Int := seg f (q + 1) (f q).toNat
/-- the word at q of the row k is well made: at most n letters -/
def fok (σ : Sto) (k q n : Nat) : Prop := zk k = 8 ∧ 0 ≤ σ k q ∧ σ k q ≤ n ∧ n ≤ 40 ∧ q + n < zn k ∧ ab (fl (σ k) q)
theorem fl_len {σ : Sto} {k q n : Nat} (h : fok σ k q n) : ((fl (σ k) q).length : Int) = σ k q := by
  unfold fl
  rw [seg_len]
  exact Int.toNat_of_nonneg h.2.1
theorem fok.at {σ : Sto} {k q n : Nat} (h : fok σ k q n) {i : Nat} (h1 : 1 ≤ i) (hi : (i : Int) ≤ σ k q) : 97 ≤ σ k (q + i) ∧ σ k (q + i) ≤ 122 := by
  have := (seg_mem (Q := fun x => 97 ≤ x ∧ x ≤ 122)).mp h.2.2.2.2.2 (i - 1) (by omega)
  rwa [show q + 1 + (i - 1) = q + i by omega] at this
theorem s7_in {x lo hi : Int} {P : Int → Sto → Prop} {σ : Sto} (hx : zQ x) (hl : zQ lo) (hh : zQ hi) (h : P (b2i (decide (lo ≤ x ∧ x ≤ hi))) σ) : vX7_in x lo hi P σ := by
  refine ⟨hx, hl, fun z => ⟨Or.inl rfl, ?_⟩, fun z => ⟨hx, hh, fun z2 => ⟨Or.inl rfl, ?_⟩, fun z2 => ⟨Or.inr rfl, ?_⟩⟩⟩
  · rw [decide_eq_false (by unfold zcmp at z; intro q; rw [if_neg (by omega)] at z; split at z <;> omega)] at h; exact h
  · rw [decide_eq_false (by unfold zcmp at z2; intro q; split at z2 <;> (try split at z2) <;> omega)] at h; exact h
  · rw [decide_eq_true (by
      unfold zcmp at z z2
      constructor
      · by_cases q : x < lo
        · rw [if_pos q] at z; omega
        · omega
      · by_cases q : x < hi
        · omega
        · rw [if_neg q] at z2
          by_cases q2 : x = hi
          · omega
          · rw [if_neg q2] at z2; omega)] at h
    exact h
theorem zQ_R {x : Int} (h : zR x) : zQ x := by have := h.1; have := h.2; unfold zQ; omega
theorem zQ_s {x : Int} (h0 : -100000 ≤ x) (h1 : x ≤ 100000) : zQ x := by unfold zQ; omega
theorem s7_isVowel {x : Int} {P : Int → Sto → Prop} {σ : Sto} (hx : zR x) (h : P (b2i (isv x)) σ) : vX7_isVowel x P σ := by
  have k1 : isv x = true → vX7_isVowel_30 P σ := fun z => ⟨Or.inr rfl, by rw [z] at h; exact h⟩
  have k0 : isv x = false → vX7_isVowel_35 P 0 σ := fun z => ⟨Or.inl rfl, by rw [z] at h; exact h⟩
  refine ⟨hx, fun z => k1 (by simp [isv, z]), fun z1 => ⟨hx, fun z => k1 (by simp [isv, z]), fun z2 => ⟨hx, fun z => k1 (by simp [isv, z]), fun z3 => ⟨hx, fun z => k1 (by simp [isv, z]), fun z4 => ⟨hx, fun z => k0 (by simp [isv, z1, z2, z3, z4, z]), fun z => k1 (by simp [isv, z])⟩⟩⟩⟩⟩
theorem s7_vowel {x : Int} {P : Int → Sto → Prop} {σ : Sto} (h0 : 0 ≤ x) (h4 : x ≤ 4) (h : P (zvo x.toNat) σ) : vX7_vowel x P σ := by
  have hr : zR x := zR_s (by omega) (by omega)
  refine ⟨hr, fun z0 => ⟨hr, fun z1 => ⟨hr, fun z2 => ⟨hr, fun z3 => ?_, fun z => ?_⟩, fun z => ?_⟩, fun z => ?_⟩, fun z => ?_⟩
  · have : x = 4 := by omega
    subst this; exact h
  all_goals (subst z; exact h)
theorem s7_areSame_19 {k k' q q' n n' : Nat} {P : Int → Sto → Prop} {σ : Sto} (ha : fok σ k q n) (hb : fok σ k' q' n') (h : P (b2i (decide (fl (σ k) q = fl (σ k') q'))) σ) : ∀ (m i : Nat) (are : Int), 1 ≤ i → (i : Int) ≤ 50 → 0 < m → ((are = 0 ∧ ¬ fl (σ k) q = fl (σ k') q') ∨ (are = 1 ∧ σ k q + 1 - i < m ∧ (i : Int) ≤ σ k q + 1 ∧ σ k q = σ k' q' ∧ ∀ j : Nat, 1 ≤ j → j < i → σ k (q + j) = σ k' (q' + j))) → vX7_areSame_19 k k' P m (q : Int) (q' : Int) are (i : Int) σ := by
  have key : fl (σ k) q = fl (σ k') q' ↔ (σ k q = σ k' q' ∧ ∀ j : Nat, 1 ≤ j → (j : Int) ≤ σ k q → σ k (q + j) = σ k' (q' + j)) := by
    constructor
    · intro e
      have el : σ k q = σ k' q' := by rw [← fl_len ha, ← fl_len hb, e]
      refine ⟨el, fun j h1 h2 => ?_⟩
      unfold fl at e
      rw [← el] at e
      have := seg_inj e (j - 1) (by omega)
      rwa [show q + 1 + (j - 1) = q + j by omega, show q' + 1 + (j - 1) = q' + j by omega] at this
    · rintro ⟨e, hj⟩
      unfold fl
      rw [← e]
      refine seg_ext (fun i hi => ?_)
      have := hj (i + 1) (by omega) (by omega)
      rwa [show q + (i + 1) = q + 1 + i by omega, show q' + (i + 1) = q' + 1 + i by omega] at this
  intro m
  induction m with
  | zero => intro i are h1 h2 h3; omega
  | succ m ih =>
    intro i are h1 h2 h3 hare
    obtain ⟨hz, h0, hn, h40, hzn, hab⟩ := id ha
    obtain ⟨hz', h0', hn', h40', hzn', hab'⟩ := id hb
    have n1 := zn_lt k
    have n2 := zn_lt k'
    unfold vX7_areSame_19 bX7_areSame_19
    simp only [Int.toNat_natCast]
    rcases hare with ⟨rfl, hne⟩ | ⟨rfl, hm, hi, hT⟩
    · rw [decide_eq_false hne] at h
      exact ⟨by omega, by omega, zR_s (by omega) (by omega), zR_s (by omega) (by omega), fun _ => ⟨Or.inl rfl, h⟩, fun _ => ⟨zR_s (by omega) (by omega), fun _ => ⟨Or.inl rfl, h⟩, fun z => absurd rfl z⟩⟩
    · refine ⟨by omega, by omega, zR_s (by omega) (by omega), zR_s (by omega) (by omega), fun z => ⟨Or.inr rfl, ?_⟩, fun z => ⟨zR_s (by omega) (by omega), fun z2 => absurd z2 (by decide), fun z2 => ?_⟩⟩
      · rw [decide_eq_true (key.mpr ⟨hT.1, fun j g1 g2 => hT.2 j g1 (by omega)⟩)] at h
        exact h
      · have e1 : ((q : Int) + (i : Int)).toNat = q + i := by omega
        have e2 : ((q' : Int) + (i : Int)).toNat = q' + i := by omega
        rw [e1, e2]
        have l1 := ha.at h1 (by omega)
        have l2 := hb.at (i := i) h1 (by omega)
        refine ⟨by omega, by omega, by omega, by omega, zR_s (by omega) (by omega), zR_s (by omega) (by omega), fun z3 => ?_, fun z3 => ?_⟩
        · have := ih (i + 1) 0 (by omega) (by omega) (by omega) (Or.inl ⟨rfl, fun w => z3 ((key.mp w).2 i h1 (by omega))⟩)
          exact_mod_cast this
        · have := ih (i + 1) 1 (by omega) (by omega) (by omega) (Or.inr ⟨rfl, by omega, by omega, hT.1, fun j g1 g2 => by
            rcases Nat.lt_or_ge j i with w | w
            · exact hT.2 j g1 w
            · have : j = i := by omega
              subst this; exact z3⟩)
          exact_mod_cast this
theorem s7_areSame {k k' q q' n n' : Nat} {P : Int → Sto → Prop} {σ : Sto} (ha : fok σ k q n) (hb : fok σ k' q' n') (h : P (b2i (decide (fl (σ k) q = fl (σ k') q'))) σ) : vX7_areSame k (q : Int) k' (q' : Int) P σ := by
  obtain ⟨hz, h0, hn, h40, hzn, hab⟩ := id ha
  obtain ⟨hz', h0', hn', h40', hzn', hab'⟩ := id hb
  have n1 := zn_lt k
  have n2 := zn_lt k'
  unfold vX7_areSame
  simp only [Int.toNat_natCast]
  refine ⟨by omega, by omega, by omega, by omega, zR_s (by omega) (by omega), zR_s (by omega) (by omega), fun z => ⟨1, ?_⟩, fun z => ⟨(σ k q).toNat + 2, ?_⟩⟩
  · have := s7_areSame_19 ha hb h 1 1 0 (by omega) (by omega) (by omega) (Or.inl ⟨rfl, fun w => z (by rw [← fl_len ha, ← fl_len hb, w])⟩)
    exact_mod_cast this
  · have := s7_areSame_19 ha hb h ((σ k q).toNat + 2) 1 1 (by omega) (by omega) (by omega) (Or.inr ⟨rfl, by omega, by omega, z, fun j g1 g2 => by omega⟩)
    exact_mod_cast this
theorem s7_endsIn_19 {k k' q q' n n' : Nat} {P : Int → Sto → Prop} {σ : Sto} (ha : fok σ k q n) (hb : fok σ k' q' n') (h : P (b2i (decide (fl (σ k') q' <:+ fl (σ k) q))) σ) : ∀ (m i : Nat) (are : Int), (i : Int) ≤ 50 → 0 < m → ((are = 0 ∧ ¬ fl (σ k') q' <:+ fl (σ k) q) ∨ (are = 1 ∧ σ k' q' - i < m ∧ (i : Int) ≤ σ k' q' ∧ σ k' q' ≤ σ k q ∧ ∀ j : Nat, j < i → σ k (q + (σ k q).toNat - j) = σ k' (q' + (σ k' q').toNat - j))) → vX7_endsIn_19 k k' P m (q : Int) (q' : Int) are (i : Int) σ := by
  have key : fl (σ k') q' <:+ fl (σ k) q ↔ (σ k' q' ≤ σ k q ∧ ∀ j : Nat, (j : Int) < σ k' q' → σ k (q + (σ k q).toNat - j) = σ k' (q' + (σ k' q').toNat - j)) := by
    have h0 := ha.2.1
    have h0' := hb.2.1
    unfold fl
    rw [seg_suf]
    constructor
    · rintro ⟨e, hj⟩
      refine ⟨by omega, fun j hj2 => ?_⟩
      have := hj ((σ k' q').toNat - 1 - j) (by omega)
      rwa [show q + 1 + ((σ k q).toNat - (σ k' q').toNat) + ((σ k' q').toNat - 1 - j) = q + (σ k q).toNat - j by omega, show q' + 1 + ((σ k' q').toNat - 1 - j) = q' + (σ k' q').toNat - j by omega] at this
    · rintro ⟨e, hj⟩
      refine ⟨by omega, fun i hi => ?_⟩
      have := hj ((σ k' q').toNat - 1 - i) (by omega)
      rwa [show q + (σ k q).toNat - ((σ k' q').toNat - 1 - i) = q + 1 + ((σ k q).toNat - (σ k' q').toNat) + i by omega, show q' + (σ k' q').toNat - ((σ k' q').toNat - 1 - i) = q' + 1 + i by omega] at this
  intro m
  induction m with
  | zero => intro i are h1 h2; omega
  | succ m ih =>
    intro i are hi50 h3 hare
    obtain ⟨hz, h0, hn, h40, hzn, hab⟩ := id ha
    obtain ⟨hz', h0', hn', h40', hzn', hab'⟩ := id hb
    have n1 := zn_lt k
    have n2 := zn_lt k'
    unfold vX7_endsIn_19 bX7_endsIn_19
    simp only [Int.toNat_natCast]
    rcases hare with ⟨rfl, hne⟩ | ⟨rfl, hm, hi, hT⟩
    · rw [decide_eq_false hne] at h
      exact ⟨by omega, by omega, zR_s (by omega) (by omega), zR_s (by omega) (by omega), fun _ => ⟨Or.inl rfl, h⟩, fun _ => ⟨zR_s (by omega) (by omega), fun _ => ⟨Or.inl rfl, h⟩, fun z => absurd rfl z⟩⟩
    · refine ⟨by omega, by omega, zR_s (by omega) (by omega), zR_s (by omega) (by omega), fun z => ⟨Or.inr rfl, ?_⟩, fun z => ⟨zR_s (by omega) (by omega), fun z2 => absurd z2 (by decide), fun z2 => ?_⟩⟩
      · rw [decide_eq_true (key.mpr ⟨hT.1, fun j g2 => hT.2 j (by omega)⟩)] at h
        exact h
      · have e1 : ((q : Int) + σ k q - (i : Int)).toNat = q + (σ k q).toNat - i := by omega
        have e2 : ((q' : Int) + σ k' q' - (i : Int)).toNat = q' + (σ k' q').toNat - i := by omega
        rw [e1, e2]
        have l1 := ha.at (i := (σ k q).toNat - i) (by omega) (by omega)
        have l2 := hb.at (i := (σ k' q').toNat - i) (by omega) (by omega)
        rw [show q + ((σ k q).toNat - i) = q + (σ k q).toNat - i by omega] at l1
        rw [show q' + ((σ k' q').toNat - i) = q' + (σ k' q').toNat - i by omega] at l2
        refine ⟨by omega, by omega, by omega, by omega, by omega, by omega, by omega, by omega, zR_s (by omega) (by omega), zR_s (by omega) (by omega), fun z3 => ?_, fun z3 => ?_⟩
        · have := ih (i + 1) 0 (by omega) (by omega) (Or.inl ⟨rfl, fun w => z3 ((key.mp w).2 i (by omega))⟩)
          exact_mod_cast this
        · have := ih (i + 1) 1 (by omega) (by omega) (Or.inr ⟨rfl, by omega, by omega, hT.1, fun j g2 => by
            rcases Nat.lt_or_ge j i with w | w
            · exact hT.2 j w
            · have : j = i := by omega
              subst this; exact z3⟩)
          exact_mod_cast this
theorem s7_endsIn {k k' q q' n n' : Nat} {P : Int → Sto → Prop} {σ : Sto} (ha : fok σ k q n) (hb : fok σ k' q' n') (h : P (b2i (decide (fl (σ k') q' <:+ fl (σ k) q))) σ) : vX7_endsIn k (q : Int) k' (q' : Int) P σ := by
  obtain ⟨hz, h0, hn, h40, hzn, hab⟩ := id ha
  obtain ⟨hz', h0', hn', h40', hzn', hab'⟩ := id hb
  have n1 := zn_lt k
  have n2 := zn_lt k'
  unfold vX7_endsIn
  simp only [Int.toNat_natCast]
  refine ⟨by omega, by omega, by omega, by omega, zR_s (by omega) (by omega), zR_s (by omega) (by omega), fun z => ⟨1, ?_⟩, fun z => ⟨(σ k' q').toNat + 2, ?_⟩⟩
  · have := s7_endsIn_19 ha hb h 1 0 0 (by omega) (by omega) (Or.inl ⟨rfl, fun w => by
      have := w.length_le
      have e1 := fl_len ha
      have e2 := fl_len hb
      omega⟩)
    exact_mod_cast this
  · have := s7_endsIn_19 ha hb h ((σ k' q').toNat + 2) 0 1 (by omega) (by omega) (Or.inr ⟨rfl, by omega, by omega, by omega, fun j g2 => by omega⟩)
    exact_mod_cast this
theorem zc_step {σ : Sto} {k q k' q' i : Nat} (hne : k ≠ k' ∨ q' + i < q + i ∨ q + i < q') : zu (zc σ k q k' q' i) k' (q' + i) (zc σ k q k' q' i k (q + i)) = zc σ k q k' q' (i + 1) := by
  funext a j
  by_cases ha : a = k'
  · subst ha
    by_cases hj : j = q' + i
    · subst hj
      rw [zu_eq, zc_fun]
      have e : zc σ k q a q' i k (q + i) = σ k (q + i) := by
        by_cases hk : k = a
        · subst hk
          rw [zc_fun]
          simp only
          rw [if_neg (by omega)]
        · rw [zc_ne hk]
      rw [e]
      simp only
      rw [if_pos (by omega)]
      congr 1
      omega
    · rw [zu_j hj, zc_fun, zc_fun]
      simp only
      by_cases hq : q' ≤ j ∧ j < q' + i
      · rw [if_pos hq, if_pos (by omega)]
      · rw [if_neg hq, if_neg (by omega)]
  · rw [zu_ne ha, zc_ne ha, zc_ne ha]
theorem zc_zero {σ : Sto} {k q k' q' : Nat} : zc σ k q k' q' 0 = σ := by
  funext a j
  simp only [zc]
  rw [if_neg (by omega)]
theorem s7_copy_3 {k k' q q' n : Nat} {P : Sto → Prop} {σ : Sto} (ha : fok σ k q n) (hk' : zk k' = 8) (hz' : q' + n < zn k') (hne : k ≠ k' ∨ q' + n < q ∨ q + n < q') (h : P (zc σ k q k' q' ((σ k q).toNat + 1))) : ∀ (m i : Nat), (i : Int) ≤ σ k q + 1 → σ k q + 1 - i < m → vX7_copy_3 k k' P m (q : Int) (q' : Int) (i : Int) (zc σ k q k' q' i) := by
  intro m
  induction m with
  | zero => intro i h1 h2; omega
  | succ m ih =>
    intro i h1 h2
    obtain ⟨hz, h0, hn, h40, hzn, hab⟩ := id ha
    have n1 := zn_lt k
    have n2 := zn_lt k'
    have el : zc σ k q k' q' i k q = σ k q := by
      by_cases e : k = k'
      · subst e
        rw [zc_fun]
        simp only
        rw [if_neg (by omega)]
      · rw [zc_ne e]
    unfold vX7_copy_3 bX7_copy_3
    simp only [Int.toNat_natCast]
    rw [el]
    refine ⟨by omega, by omega, zR_s (by omega) (by omega), zR_s (by omega) (by omega), fun z => ?_, fun z => ?_⟩
    · rw [show i = (σ k q).toNat + 1 by omega]
      exact h
    · have e1 : ((q : Int) + (i : Int)).toNat = q + i := by omega
      have e2 : ((q' : Int) + (i : Int)).toNat = q' + i := by omega
      rw [e1, e2]
      refine ⟨by omega, by omega, by omega, by omega, fun s1 q1 => ?_⟩
      rw [zc_step (by omega)] at q1
      subst q1
      have := ih (i + 1) (by omega) (by omega)
      exact_mod_cast this
theorem s7_copy {k k' q q' n : Nat} {P : Sto → Prop} {σ : Sto} (ha : fok σ k q n) (hk' : zk k' = 8) (hz' : q' + n < zn k') (hne : k ≠ k' ∨ q' + n < q ∨ q + n < q') (h : P (zc σ k q k' q' ((σ k q).toNat + 1))) : vX7_copy k (q : Int) k' (q' : Int) P σ :=
  ⟨(σ k q).toNat + 2, by
    have := s7_copy_3 ha hk' hz' hne h ((σ k q).toNat + 2) 0 (by have := ha.2.1; omega) (by have := ha.2.1; omega)
    rw [zc_zero] at this
    exact_mod_cast this⟩
theorem s7_lastVowel_4 {k q n : Nat} {P : Int → Sto → Prop} {σ : Sto} (ha : fok σ k q n) : ∀ (m i : Nat), (i : Int) ≤ σ k q → i < m → P (lvow (seg (σ k) (q + 1) i) + 1) σ → vX7_lastVowel_4 k P m (q : Int) (i : Int) σ := by
  intro m
  induction m with
  | zero => intro i h1 h2; omega
  | succ m ih =>
    intro i h1 h2 h
    obtain ⟨hz, h0, hn, h40, hzn, hab⟩ := id ha
    refine ⟨zR_s (by omega) (by omega), fun z => ?_, fun z => ⟨by omega, by omega, ?_⟩⟩
    · have : i = 0 := by omega
      subst this
      exact h
    · obtain ⟨j, rfl⟩ : ∃ j, i = j + 1 := ⟨i - 1, by omega⟩
      have hl := ha.at (i := j + 1) (by omega) (by omega)
      rw [show ((q : Int) + ((j + 1 : Nat) : Int)).toNat = q + (j + 1) by omega]
      rw [seg_succ, lvow_snoc, show q + 1 + j = q + (j + 1) by omega, seg_len] at h
      refine s7_isVowel (zR_s (by omega) (by omega)) ⟨b2i_R _, fun z2 => ?_, fun z2 => ?_⟩
      · rw [show isv (σ k (q + (j + 1))) = true from by
          cases hq : isv (σ k (q + (j + 1)))
          · exact absurd (by rw [hq]; rfl) z2
          · rfl] at h
        exact_mod_cast h
      · rw [b2i_0.mp z2] at h
        have := ih j (by omega) (by omega) h
        rw [show ((j + 1 : Nat) : Int) + -1 = (j : Int) by omega]
        exact this
theorem s7_lastVowel {k q n : Nat} {P : Int → Sto → Prop} {σ : Sto} (ha : fok σ k q n) (h : P (lvow (fl (σ k) q) + 1) σ) : vX7_lastVowel k (q : Int) P σ := by
  obtain ⟨hz, h0, hn, h40, hzn, hab⟩ := id ha
  refine ⟨by omega, by omega, (σ k q).toNat + 1, ?_⟩
  have := s7_lastVowel_4 ha ((σ k q).toNat + 1) (σ k q).toNat (by omega) (by omega) h
  rw [Int.toNat_of_nonneg h0] at this
  simpa using this
