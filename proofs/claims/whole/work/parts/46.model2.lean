/-! PURE: the reference: building forms, conditions, the word list -/
theorem mz {k : Nat} (h : zk k = 6) : zn (k + 1) = 1743 ∧ zn (k + 2) = 17430 ∧ zn (k + 3) = 1743 ∧ zn (k + 4) = 17 ∧ zn (k + 5) = 17 ∧ zn (k + 6) = 2880 ∧ zn (k + 7) = 2880 ∧ zn (k + 8) = 2880 ∧ zn (k + 9) = 31680 ∧ zn (k + 10) = 2880 ∧ zn (k + 11) = 32 ∧ zn (k + 12) = 102 ∧ zn (k + 13) = 16 := zk_all (P := fun k => zk k = 6 → zn (k + 1) = 1743 ∧ zn (k + 2) = 17430 ∧ zn (k + 3) = 1743 ∧ zn (k + 4) = 17 ∧ zn (k + 5) = 17 ∧ zn (k + 6) = 2880 ∧ zn (k + 7) = 2880 ∧ zn (k + 8) = 2880 ∧ zn (k + 9) = 31680 ∧ zn (k + 10) = 2880 ∧ zn (k + 11) = 32 ∧ zn (k + 12) = 102 ∧ zn (k + 13) = 16) (by decide +kernel) h (by decide) h
/-- the word at q of the row k becomes l; outside of q .. q + N nothing changes -/
def setq (σ τ : Sto) (k q N : Nat) (l : List Int) : Prop := fr [k] σ τ ∧ τ k q = (l.length : Int) ∧ fl (τ k) q = l ∧ ∀ j, (j < q ∨ q + N < j) → τ k j = σ k j
theorem setq.ok {σ τ : Sto} {k q N n : Nat} {l : List Int} (h : setq σ τ k q N l) (hk : zk k = 8) (hl : l.length ≤ n) (hn : n ≤ 40) (hz : q + n < zn k) (ha : ab l) : fok τ k q n := ⟨hk, by rw [h.2.1]; omega, by rw [h.2.1]; omega, hn, hz, by rw [h.2.2.1]; exact ha⟩
theorem setq.trans {σ τ υ : Sto} {k q N : Nat} {l l' : List Int} (h : setq σ τ k q N l) (h2 : setq τ υ k q N l') : setq σ υ k q N l' := ⟨h.1.trans h2.1, h2.2.1, h2.2.2.1, fun j hj => (h2.2.2.2 j hj).trans (h.2.2.2 j hj)⟩
theorem setq.keep {σ τ : Sto} {k q N : Nat} {l : List Int} (h : setq σ τ k q N l) {i : Nat} (hi : i ≠ k) : τ i = σ i := h.1 i (by simp [hi])
theorem fok.fr {σ τ : Sto} {k q n : Nat} (h : fok σ k q n) (e : τ k = σ k) : fok τ k q n ∧ fl (τ k) q = fl (σ k) q := by
  obtain ⟨h1, h2, h3, h4, h5, h6⟩ := h
  exact ⟨⟨h1, by rw [e]; exact h2, by rw [e]; exact h3, h4, h5, by rw [e]; exact h6⟩, by rw [e]⟩
theorem zc_setq {σ : Sto} {k q k' q' n N : Nat} (ha : fok σ k q n) (hN : n ≤ N) (hne : k ≠ k' ∨ q' + n < q ∨ q + n < q') : setq σ (zc σ k q k' q' ((σ k q).toNat + 1)) k' q' N (fl (σ k) q) := by
  have h0 := ha.2.1
  have hn := ha.2.2.1
  refine ⟨fun i hi => zc_ne (fun z => hi (by simp [z])), ?_, ?_, fun j hj => ?_⟩
  · rw [zc_fun]
    try simp only
    rw [if_pos (by omega), fl_len ha]
    congr 1
    omega
  · unfold fl
    rw [zc_fun]
    try simp only
    rw [if_pos (by omega), show q + (q' - q') = q by omega]
    refine seg_ext (fun i hi => ?_)
    try simp only
    rw [if_pos (by omega)]
    congr 1
    omega
  · rw [zc_fun]
    try simp only
    rw [if_neg (by omega)]
theorem s7_put {k q n N : Nat} {x : Int} {P : Sto → Prop} {σ : Sto} (ha : fok σ k q n) (hlt : σ k q < N) (hzN : q + N < zn k) (h : ∀ τ, setq σ τ k q N (fl (σ k) q ++ [x]) → P τ) : vX7_put k (q : Int) x P σ := by
  obtain ⟨hz, h0, hn, h40, hzn, hab⟩ := id ha
  have n1 := zn_lt k
  unfold vX7_put
  simp only [Int.toNat_natCast]
  refine ⟨by omega, by omega, by omega, by omega, fun s1 e1 => ?_⟩
  subst e1
  rw [zu_eq]
  refine ⟨by omega, by omega, by omega, by omega, fun s2 e2 => ?_⟩
  subst e2
  rw [show ((q : Int) + (σ k q + 1)).toNat = q + 1 + (σ k q).toNat by omega]
  refine h _ ⟨(fr_zu (by simp)).trans (fr_zu (by simp)), ?_, ?_, fun j hj => ?_⟩
  · rw [zu_j (by omega), zu_eq, List.length_append, Int.natCast_add, fl_len ha]
    rfl
  · unfold fl
    rw [zu_j (by omega), zu_eq, show (σ k q + 1).toNat = (σ k q).toNat + 1 by omega, seg_succ, zu_eq]
    congr 1
    exact seg_ext (fun i hi => by rw [zu_j (by omega), zu_j (by omega)])
  · rw [zu_j (by omega), zu_j (by omega)]
/-- a letter of a row's word is replaced -/
theorem setq_set {σ τ : Sto} {k q N i : Nat} {x : Int} {l : List Int} (h : setq σ τ k q N l) (hi : i < l.length) (hN : l.length ≤ N) : setq σ (zu τ k (q + 1 + i) x) k q N (l.set i x) := by
  refine ⟨h.1.trans (fr_zu (by simp)), ?_, ?_, fun j hj => ?_⟩
  · rw [zu_j (by omega), h.2.1, List.length_set]
  · have e := h.2.2.1
    rw [← e]
    unfold fl
    rw [zu_j (by omega), h.2.1, Int.toNat_natCast]
    apply List.ext_getElem?
    intro j
    rcases Nat.lt_or_ge j l.length with w | w
    · rw [seg_get w]
      by_cases e2 : j = i
      · subst e2
        rw [zu_eq, List.getElem?_set_self (by rw [seg_len]; exact w)]
      · rw [zu_j (by omega), List.getElem?_set_ne (Ne.symm e2), seg_get w]
    · rw [List.getElem?_eq_none (by rw [seg_len]; exact w), List.getElem?_eq_none (by rw [List.length_set, seg_len]; exact w)]
  · rw [zu_j (by omega)]
    exact h.2.2.2 j hj
/-- a row's word loses letters at its end -/
theorem setq_drop {σ τ : Sto} {k q N : Nat} {c : Int} {l : List Int} (h : setq σ τ k q N l) (h0 : 0 ≤ c) (hc : c ≤ (l.length : Int)) : setq σ (zu τ k q (τ k q - c)) k q N (l.take (l.length - c.toNat)) := by
  refine ⟨h.1.trans (fr_zu (by simp)), ?_, ?_, fun j hj => ?_⟩
  · rw [zu_eq, h.2.1, List.length_take]
    omega
  · have e := h.2.2.1
    unfold fl at e ⊢
    rw [zu_eq, h.2.1] at *
    rw [Int.toNat_natCast] at e
    rw [show ((l.length : Int) - c).toNat = l.length - c.toNat by omega]
    apply List.ext_getElem?
    intro j
    rw [List.getElem?_take]
    split
    · next w =>
      rw [seg_get w, zu_j (by omega)]
      have : l[j]? = (seg (τ k) (q + 1) l.length)[j]? := by rw [e]
      rw [this, seg_get (by omega)]
    · next w => rw [List.getElem?_eq_none (by rw [seg_len]; omega)]
  · rw [zu_j (by omega)]
    exact h.2.2.2 j hj
theorem s7_builds_140 {k k3 ca : Nat} {P : Int → Sto → Prop} {σ : Sto} {l0 : List Int} (hk : zk k = 6) (hn : fok σ (k + 1) (ca + 7) 4) (hl : l0.length ≤ 11) (ha : ab l0) (h : ∀ τ, setq σ τ (k + 5) 0 16 (l0 ++ fl (σ (k + 1)) (ca + 7)) → P 1 τ) : ∀ (m i : Nat) (τ : Sto), 1 ≤ i → (i : Int) ≤ σ (k + 1) (ca + 7) + 1 → σ (k + 1) (ca + 7) + 1 - i < m → setq σ τ (k + 5) 0 16 (l0 ++ (fl (σ (k + 1)) (ca + 7)).take (i - 1)) → vX7_builds_140 k k3 P m (ca : Int) (i : Int) τ := by
  intro m
  induction m with
  | zero => intro i τ h1 h2 h3; omega
  | succ m ih =>
    intro i τ h1 h2 h3 hτ
    obtain ⟨hz, h0, hn4, h40, hzn, hab⟩ := id hn
    have z := mz hk
    have es : τ (k + 1) = σ (k + 1) := hτ.keep (by omega)
    have hlen := fl_len hn
    unfold vX7_builds_140 bX7_builds_140
    rw [es, show ((ca : Int) + 7).toNat = ca + 7 by omega]
    rw [z.1] at hzn
    refine ⟨by omega, by rw [z.1]; omega, zR_s (by omega) (by omega), zR_s (by omega) (by omega), fun w => ?_, fun w => ?_⟩
    · rw [List.take_of_length_le (by omega)] at hτ
      exact h τ hτ
    · rw [show ((ca : Int) + 7 + (i : Int)).toNat = ca + 7 + i by omega]
      have hi : i - 1 < (fl (σ (k + 1)) (ca + 7)).length := by omega
      have hat := hn.at (i := i) h1 (by omega)
      have hfo : fok τ (k + 5) 0 15 := hτ.ok (zf_6_form hk) (by rw [List.length_append, List.length_take]; omega) (by omega) (by rw [z.2.2.2.2.1]; omega) (ab_app ha (ab_take hab _))
      refine ⟨by omega, by rw [z.1]; omega, ?_⟩
      have := s7_put (P := fun s3 => vX7_builds_140 k k3 P m (ca : Int) ((i : Int) + 1) s3) (N := 16) (x := σ (k + 1) (ca + 7 + i)) hfo (by rw [hτ.2.1, List.length_append, List.length_take]; omega) (by rw [z.2.2.2.2.1]; omega) (fun υ hυ => by
        rw [hτ.2.2.1, List.append_assoc] at hυ
        have e : (fl (σ (k + 1)) (ca + 7)).take (i - 1) ++ [σ (k + 1) (ca + 7 + i)] = (fl (σ (k + 1)) (ca + 7)).take (i + 1 - 1) := by
          have e2 : (fl (σ (k + 1)) (ca + 7))[i - 1] = σ (k + 1) (ca + 7 + i) := by
            have g : (fl (σ (k + 1)) (ca + 7))[i - 1]? = some (σ (k + 1) (ca + 7 + i)) := by
              unfold fl
              rw [seg_get (by omega)]
              congr 2
              omega
            rw [List.getElem?_eq_getElem hi] at g
            exact Option.some.inj g
          rw [← e2, List.take_append_getElem hi]
          congr 1
          omega
        rw [e] at hυ
        have := ih (i + 1) υ (by omega) (by omega) (by omega) (hτ.trans hυ)
        exact_mod_cast this)
      exact_mod_cast this
theorem s7_builds {k p c k3 q : Nat} {P : Int → Sto → Prop} {σ : Sto} (hk : zk k = 6) (hp : p < 6) (hc : c < 6) (hst : fok σ k3 q 10) (hne : k3 ≠ k + 5)
    (ho : fok σ (k + 1) (3 + 80 * p + 8 + 12 * c + 2) 4) (hn : fok σ (k + 1) (3 + 80 * p + 8 + 12 * c + 7) 4) (hkd : 0 ≤ σ (k + 1) (3 + 80 * p + 8 + 12 * c) ∧ σ (k + 1) (3 + 80 * p + 8 + 12 * c) ≤ 3) (hpr : σ (k + 1) (3 + 80 * p + 8 + 12 * c) = 3 → 0 ≤ σ (k + 1) (3 + 80 * p + 8 + 12 * c + 1) ∧ σ (k + 1) (3 + 80 * p + 8 + 12 * c + 1) ≤ 4) (hl1 : 1 ≤ σ k3 q)
    (h0 : bld (σ (k + 1) (3 + 80 * p + 8 + 12 * c)) (σ (k + 1) (3 + 80 * p + 8 + 12 * c + 1)) (fl (σ (k + 1)) (3 + 80 * p + 8 + 12 * c + 2)) (fl (σ (k + 1)) (3 + 80 * p + 8 + 12 * c + 7)) (fl (σ k3) q) = none → ∀ τ, fr [k + 5] σ τ → P 0 τ)
    (h1 : ∀ l τ, bld (σ (k + 1) (3 + 80 * p + 8 + 12 * c)) (σ (k + 1) (3 + 80 * p + 8 + 12 * c + 1)) (fl (σ (k + 1)) (3 + 80 * p + 8 + 12 * c + 2)) (fl (σ (k + 1)) (3 + 80 * p + 8 + 12 * c + 7)) (fl (σ k3) q) = some l → setq σ τ (k + 5) 0 16 l → fok τ (k + 5) 0 15 → P 1 τ) : vX7_builds k (p : Int) (c : Int) k3 (q : Int) P σ := by
  have z := mz hk
  generalize hca : 3 + 80 * p + 8 + 12 * c = ca at *
  have hca2 : ca < 500 := by omega
  have eca : (3 + 80 * (p : Int) + 8) + 12 * (c : Int) = (ca : Int) := by omega
  have hf := zf_6_form hk
  have hlo := fl_len ho
  have hln := fl_len hn
  have hls := fl_len hst
  have hab := hst.2.2.2.2.2
  have hst10 := hst.2.2.1
  -- the suffix behind what stands in the form
  have tail : ∀ (l0 : List Int) (τ : Sto), setq σ τ (k + 5) 0 16 l0 → l0.length ≤ 11 → ab l0 → bld (σ (k + 1) ca) (σ (k + 1) (ca + 1)) (fl (σ (k + 1)) (ca + 2)) (fl (σ (k + 1)) (ca + 7)) (fl (σ k3) q) = some (l0 ++ fl (σ (k + 1)) (ca + 7)) → vX7_builds_137 k k3 P (ca : Int) τ := by
    intro l0 τ hτ hl ha hb
    have hn4 := hn.2.2.1
    have hn0 := hn.2.1
    refine ⟨(σ (k + 1) (ca + 7)).toNat + 2, ?_⟩
    have := s7_builds_140 (k3 := k3) (P := P) hk hn hl ha (fun υ hυ => h1 _ υ hb hυ (hυ.ok hf (by rw [List.length_append]; omega) (by omega) (by rw [z.2.2.2.2.1]; omega) (ab_app ha hn.2.2.2.2.2))) ((σ (k + 1) (ca + 7)).toNat + 2) 1 τ (by omega) (by omega) (by omega) (by rw [show (1 : Nat) - 1 = 0 from rfl, List.take_zero, List.append_nil]; exact hτ)
    exact_mod_cast this
  unfold vX7_builds vX7_cellAt vX7_paradigmAt
  try simp only
  rw [eca]
  simp only [Int.toNat_natCast]
  refine ⟨by omega, by rw [z.1]; omega, ?_⟩
  have hcp := zc_setq (k' := k + 5) (q' := 0) (N := 16) hst (by omega) (Or.inl hne)
  have key := s7_copy (q' := 0) hst hf (by rw [z.2.2.2.2.1]; omega) (Or.inl hne) (P := fun s2 => zR (σ (k + 1) ca) ∧ ((¬ σ (k + 1) ca = 1) → vX7_builds_70 k k3 P (ca : Int) (σ (k + 1) ca) s2) ∧ ((σ (k + 1) ca = 1) → vX7_endsIn k3 (q : Int) (k + 1) ((ca : Int) + 2) (fun r8 s8 => zR r8 ∧ ((¬ r8 = 0) → 0 < (zn (k + 5) : Int) ∧ (0 ≤ ((ca : Int) + 2) ∧ ((ca : Int) + 2) < (zn (k + 1) : Int) ∧ (0 < (zn (k + 5) : Int) ∧ (∀ s9 : Sto, s9 = zu s8 (k + 5) (Int.toNat 0) ((s8 (k + 5) (Int.toNat 0)) - (s8 (k + 1) (Int.toNat ((ca : Int) + 2)))) → (vX7_builds_70 k k3 P (ca : Int) (σ (k + 1) ca) s9))))) ∧ ((r8 = 0) → P 0 s8)) s2)) (σ := σ) (by
    generalize zc σ k3 q (k + 5) 0 ((σ k3 q).toNat + 1) = τ at hcp
    have e1 : τ (k + 1) = σ (k + 1) := hcp.keep (by omega)
    have e3 : τ k3 = σ k3 := hcp.keep hne
    refine ⟨zR_s (by omega) (by omega), fun w1 => ⟨zR_s (by omega) (by omega), fun w2 => ⟨zR_s (by omega) (by omega), fun w3 => ?_, fun w3 => ?_⟩, fun w2 => ?_⟩, fun w1 => ?_⟩
    · exact tail _ τ hcp (by omega) hab (by rw [bld, if_neg w1, if_neg w2, if_neg w3])
    · have hfo : fok τ (k + 5) 0 15 := hcp.ok hf (by omega) (by omega) (by rw [z.2.2.2.2.1]; omega) hab
      have hv := lvow_b (fl (σ k3) q)
      have hpz := hpr w3
      have := s7_lastVowel (q := 0) hfo (P := fun r4 s4 => zR r4 ∧ ((¬ r4 = 0) → 0 ≤ ((ca : Int) + 1) ∧ ((ca : Int) + 1) < (zn (k + 1) : Int) ∧ (vX7_vowel (s4 (k + 1) (Int.toNat ((ca : Int) + 1))) (fun r5 s5 => 0 ≤ r4 ∧ r4 < (zn (k + 5) : Int) ∧ (∀ s6 : Sto, s6 = zu s5 (k + 5) (Int.toNat r4) r5 → (vX7_builds_137 k k3 P (ca : Int) s6))) s4)) ∧ ((r4 = 0) → P 0 s4)) (by
        rw [hcp.2.2.1]
        refine ⟨zR_s (by omega) (by omega), fun w4 => ⟨by omega, by rw [z.1]; omega, ?_⟩, fun w4 => ?_⟩
        · rw [e1, show ((ca : Int) + 1).toNat = ca + 1 by omega]
          refine s7_vowel hpz.1 hpz.2 ⟨by omega, by rw [z.2.2.2.2.1]; omega, fun s6 e6 => ?_⟩
          rw [show (lvow (fl (σ k3) q) + 1).toNat = 0 + 1 + (lvow (fl (σ k3) q)).toNat by omega] at e6
          subst e6
          refine tail _ _ (setq_set hcp (by omega) (by omega)) (by rw [List.length_set]; omega) (ab_set hab (zvo_ab (by omega))) ?_
          rw [bld, if_neg w1, if_neg w2, if_pos w3, if_neg (by omega)]
        · exact h0 (by rw [bld, if_neg w1, if_neg w2, if_pos w3, if_pos (by omega)]) τ (hcp.1))
      exact_mod_cast this
    · have hfo : fok τ (k + 5) 0 15 := hcp.ok hf (by omega) (by omega) (by rw [z.2.2.2.2.1]; omega) hab
      have el : τ (k + 5) 0 = σ k3 q := by rw [hcp.2.1, hls]
      refine ⟨by rw [z.2.2.2.2.1]; decide, by rw [Int.toNat_zero, el]; omega, by rw [Int.toNat_zero, el, z.2.2.2.2.1]; omega, ?_⟩
      have hlast : [τ (k + 5) (Int.toNat (τ (k + 5) (Int.toNat 0)))] = (fl (σ k3) q).getLast?.toList := by
        have e := hcp.2.2.1
        rw [← e, Int.toNat_zero, el]
        unfold fl
        rw [el]
        obtain ⟨j, hj⟩ : ∃ j, (σ k3 q).toNat = j + 1 := ⟨(σ k3 q).toNat - 1, by omega⟩
        rw [hj, seg_succ]
        simp
        congr 1
        omega
      have := s7_put (q := 0) (N := 16) (x := τ (k + 5) (Int.toNat (τ (k + 5) (Int.toNat 0)))) (P := fun s7 => vX7_builds_95 k k3 P (ca : Int) (σ (k + 1) ca) s7) hfo (by rw [el]; omega) (by rw [z.2.2.2.2.1]; omega) (fun υ hυ => by
        rw [hcp.2.2.1, hlast] at hυ
        refine ⟨zR_s (by omega) (by omega), fun w3 => ?_, fun w3 => by omega⟩
        refine tail _ υ (hcp.trans hυ) ?_ (ab_app hab (fun x hx => hab x (last_mem hx))) (by rw [bld, if_neg w1, if_pos w2])
        rw [List.length_append]
        have := last_len (fl (σ k3) q)
        omega)
      exact_mod_cast this
    · obtain ⟨hst', es⟩ := hst.fr (τ := τ) e3
      obtain ⟨ho', eo⟩ := ho.fr (τ := τ) e1
      have := s7_endsIn hst' ho' (P := fun r8 s8 => zR r8 ∧ ((¬ r8 = 0) → 0 < (zn (k + 5) : Int) ∧ (0 ≤ ((ca : Int) + 2) ∧ ((ca : Int) + 2) < (zn (k + 1) : Int) ∧ (0 < (zn (k + 5) : Int) ∧ (∀ s9 : Sto, s9 = zu s8 (k + 5) (Int.toNat 0) ((s8 (k + 5) (Int.toNat 0)) - (s8 (k + 1) (Int.toNat ((ca : Int) + 2)))) → (vX7_builds_70 k k3 P (ca : Int) (σ (k + 1) ca) s9))))) ∧ ((r8 = 0) → P 0 s8)) (by
        rw [es, eo]
        refine ⟨b2i_R _, fun w2 => ⟨by rw [z.2.2.2.2.1]; decide, by omega, by rw [z.1]; omega, by rw [z.2.2.2.2.1]; decide, fun s9 e9 => ?_⟩, fun w2 => ?_⟩
        · have hs : fl (σ (k + 1)) (ca + 2) <:+ fl (σ k3) q := by
            by_cases g : fl (σ (k + 1)) (ca + 2) <:+ fl (σ k3) q
            · exact g
            · exact absurd (by rw [decide_eq_false g]; rfl) w2
          have hle := hs.length_le
          rw [Int.toNat_zero, e1, show ((ca : Int) + 2).toNat = ca + 2 by omega] at e9
          have hd := setq_drop hcp ho.2.1 (by omega)
          rw [← e9, show (σ (k + 1) (ca + 2)).toNat = (fl (σ (k + 1)) (ca + 2)).length by omega] at hd
          refine ⟨zR_s (by omega) (by omega), fun w3 => ⟨zR_s (by omega) (by omega), fun w4 => ?_, fun w4 => by omega⟩, fun w3 => by omega⟩
          refine tail _ s9 hd (by rw [List.length_take]; omega) (ab_take hab _) (by rw [bld, if_pos w1, if_pos hs])
        · have hs : ¬ fl (σ (k + 1)) (ca + 2) <:+ fl (σ k3) q := of_decide_eq_false (b2i_0.mp w2)
          exact h0 (by rw [bld, if_pos w1, if_neg hs]) τ hcp.1)
      exact_mod_cast this)
  exact_mod_cast key
