/-! PURE: the reference: attested words, stems -/
theorem b2i_1 {b : Bool} : ¬ b2i b = 0 ↔ b = true := by cases b <;> simp [b2i]
theorem s7_attested_2 {k k1 q n0 nw : Nat} {P : Int → Sto → Prop} {σ : Sto} (hk : zk k = 6) (hnw : σ (k + 1) 1 = (nw : Int)) (h16 : nw ≤ 16) (hw : ∀ w, w < nw → fok σ (k + 1) (483 + 15 * w) 14) (ha : fok σ k1 q n0) : ∀ (m j : Nat), j ≤ nw → nw - j < m → P (fidx (fun w => fl (σ (k + 1)) (483 + 15 * w)) (fl (σ k1) q) (nw - j) j) σ → vX7_attested_2 k k1 P m (q : Int) (j : Int) σ := by
  intro m
  induction m with
  | zero => intro j h1 h2; omega
  | succ m ih =>
    intro j h1 h2 h
    have z := mz hk
    unfold vX7_attested_2 bX7_attested_2
    rw [show Int.toNat 1 = 1 from rfl, hnw]
    refine ⟨by rw [z.1]; decide, zR_s (by omega) (by omega), zR_s (by omega) (by omega), fun w => ?_, fun w => ?_⟩
    · rw [show nw - j = 0 by omega] at h
      exact h
    · have hj : j < nw := by omega
      rw [show nw - j = (nw - (j + 1)) + 1 by omega] at h
      unfold fidx at h
      unfold vX7_wordAt
      have := s7_areSame ha (hw j hj) (P := fun r2 s2 => zR r2 ∧ ((r2 = 0) → vX7_attested_2 k k1 P m (q : Int) ((j : Int) + 1) s2) ∧ ((¬ (r2 = 0)) → P (j : Int) s2)) (by
        refine ⟨b2i_R _, fun w2 => ?_, fun w2 => ?_⟩
        · have e := of_decide_eq_false (b2i_0.mp w2)
          rw [if_neg (fun z => e z.symm)] at h
          have := ih (j + 1) (by omega) (by omega) h
          exact_mod_cast this
        · have e := of_decide_eq_true (b2i_1.mp w2)
          rw [if_pos e.symm] at h
          exact h)
      have e : (483 : Int) + 15 * (j : Int) = ((483 + 15 * j : Nat) : Int) := by omega
      rw [e]
      exact this
theorem s7_attested {k k1 q n0 nw : Nat} {P : Int → Sto → Prop} {σ : Sto} (hk : zk k = 6) (hnw : σ (k + 1) 1 = (nw : Int)) (h16 : nw ≤ 16) (hw : ∀ w, w < nw → fok σ (k + 1) (483 + 15 * w) 14) (ha : fok σ k1 q n0) (h : P (fidx (fun w => fl (σ (k + 1)) (483 + 15 * w)) (fl (σ k1) q) nw 0) σ) : vX7_attested k k1 (q : Int) P σ :=
  ⟨nw + 1, by
    have := s7_attested_2 hk hnw h16 hw ha (nw + 1) 0 (by omega) (by omega) h
    exact_mod_cast this⟩
theorem s7_isStem {k p k2 q n : Nat} {P : Int → Sto → Prop} {σ : Sto} (hk : zk k = 6) (hp : p < 6) (ha : fok σ k2 q n) (hkd : 0 ≤ σ (k + 1) (3 + 80 * p + 1) ∧ σ (k + 1) (3 + 80 * p + 1) ≤ 4) (hpr : σ (k + 1) (3 + 80 * p + 1) = 3 → 0 ≤ σ (k + 1) (3 + 80 * p + 2) ∧ σ (k + 1) (3 + 80 * p + 2) ≤ 100) (hce : σ (k + 1) (3 + 80 * p + 1) = 4 → fok σ (k + 1) (3 + 80 * p + 3) 4)
    (h : P (b2i (alw (σ (k + 1) (3 + 80 * p + 1)) (σ (k + 1) (3 + 80 * p + 2)) (fl (σ (k + 1)) (3 + 80 * p + 3)) (fl (σ k2) q))) σ) : vX7_isStem k (p : Int) k2 (q : Int) P σ := by
  obtain ⟨hz, h0, hn, h40, hzn, hab⟩ := id ha
  have z := mz hk
  have hl := fl_len ha
  have n2 := zn_lt k2
  have c1 : (3 + 80 * (p : Int) + 1).toNat = 3 + 80 * p + 1 := by omega
  have c2 : (3 + 80 * (p : Int) + 2).toNat = 3 + 80 * p + 2 := by omega
  unfold vX7_isStem
  simp only [Int.toNat_natCast]
  refine ⟨by omega, by omega, zR_s (by omega) (by omega), s7_in (zQ_s (by omega) (by omega)) (zQ_s (by omega) (by omega)) (zQ_s (by omega) (by omega)) ⟨b2i_R _, fun w => ?_, fun w => ?_⟩⟩
  · have hs := of_decide_eq_true (b2i_1.mp w)
    have hsd : decide (2 ≤ (fl (σ k2) q).length ∧ (fl (σ k2) q).length ≤ 10) = true := decide_eq_true (by omega)
    rw [alw, hsd, Bool.true_and] at h
    unfold vX7_paradigmAt
    simp only
    have e1 : ((q : Int) + σ k2 q).toNat = q + (σ k2 q).toNat := by omega
    have hat := ha.at (i := (σ k2 q).toNat) (by omega) (by omega)
    have hev : evow (fl (σ k2) q) = isv (σ k2 (q + (σ k2 q).toNat)) := by
      unfold evow fl
      obtain ⟨j, hj⟩ : ∃ j, (σ k2 q).toNat = j + 1 := ⟨(σ k2 q).toNat - 1, by omega⟩
      rw [hj, seg_succ, show q + (j + 1) = q + 1 + j by omega]
      simp
    refine ⟨by omega, by omega, by omega, by omega, ?_⟩
    rw [e1]
    refine s7_isVowel (zR_s (by omega) (by omega)) ?_
    rw [c1, c2, ← hev]
    refine ⟨by omega, by rw [z.1]; omega, zR_s (by omega) (by omega), fun w1 => ?_, fun w1 => ?_, fun w1 => ?_, fun w1 => ?_, fun w1 => ?_⟩
    · rw [if_pos w1] at h
      exact ⟨b2i_01 _, h⟩
    · rw [if_neg (by omega), if_pos w1] at h
      refine ⟨b2i_R _, fun w2 => ⟨Or.inl rfl, ?_⟩, fun w2 => ⟨Or.inr rfl, ?_⟩⟩
      · rw [b2i_1.mp w2] at h; exact h
      · rw [b2i_0.mp w2] at h; exact h
    · rw [if_neg (by omega), if_neg (by omega), if_pos w1] at h
      have hp1 := hpr w1
      refine ⟨by omega, by omega, by omega, by rw [z.1]; omega, zR_s (by omega) (by omega), zR_s (by omega) (by omega), fun w2 => ⟨Or.inl rfl, ?_⟩, fun w2 => ⟨Or.inr rfl, ?_⟩⟩
      · rw [decide_eq_false (by omega)] at h; exact h
      · rw [decide_eq_true (by omega)] at h; exact h
    · rw [if_neg (by omega), if_neg (by omega), if_neg (by omega), if_pos w1] at h
      have := s7_endsIn ha (hce w1) (P := fun r4 s4 => (r4 = 0 ∨ r4 = 1) ∧ P r4 s4) ⟨b2i_01 _, h⟩
      have e : (3 : Int) + 80 * (p : Int) + 3 = ((3 + 80 * p + 3 : Nat) : Int) := by omega
      rw [e]
      exact this
    · rw [if_neg (by omega), if_neg (by omega), if_neg (by omega), if_neg (by omega)] at h
      exact h
  · have hs := of_decide_eq_false (b2i_0.mp w)
    have hsd : decide (2 ≤ (fl (σ k2) q).length ∧ (fl (σ k2) q).length ≤ 10) = false := decide_eq_false (by omega)
    rw [alw, hsd, Bool.false_and] at h
    exact h
