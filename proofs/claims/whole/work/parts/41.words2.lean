/-! PURE: finding, writing, joining words -/
/-- the first of the first n places where g is l, or -1 -/
def fidx (g : Nat → List Int) (l : List Int) : Nat → Nat → Int
  | 0, _ => -1
  | n + 1, j => if g j = l then (j : Int) else fidx g l n (j + 1)
theorem fidx_ge {g : Nat → List Int} {l : List Int} : ∀ (n j : Nat), fidx g l n j = -1 ∨ ((j : Int) ≤ fidx g l n j ∧ fidx g l n j < (j : Int) + n) := by
  intro n
  induction n with
  | zero => intro j; exact Or.inl rfl
  | succ n ih =>
    intro j
    unfold fidx
    split
    · right; omega
    · rcases ih (j + 1) with h | h
      · exact Or.inl h
      · right; omega
theorem s_find_2 {t w n0 c : Nat} {P : Int → Sto → Prop} {σ : Sto} (hc : c ≤ zn (t + 1)) (ht : ∀ j, j < c → tok σ t j) (hw : wok σ w n0) : ∀ (n j : Nat), j ≤ c → c - j < n → P (fidx (tl σ t) (wl σ w) (c - j) j) σ → vX5_find_2 t w P n (c : Int) (j : Int) σ := by
  intro n
  induction n with
  | zero => intro j h1 h2; omega
  | succ n ih =>
    intro j h1 h2 h
    have hc60 : c ≤ 100 := by
      rcases Nat.eq_zero_or_pos c with q | q
      · omega
      · have := tw (ht 0 q).1; omega
    refine ⟨zR_s (by omega) (by omega), zR_s (by omega) (by omega), fun z => ?_, fun z => ?_⟩
    · have : c - j = 0 := by omega
      rw [this] at h; exact h
    · have hj : j < c := by omega
      have htj := ht j hj
      obtain ⟨hz, hjn, h0, hwd, hab⟩ := id htj
      obtain ⟨hzw, hw0, hwn, hn18, hwa⟩ := id hw
      obtain ⟨w1, w2, w3, w4⟩ := tw hz
      have e : c - j = (c - (j + 1)) + 1 := by omega
      rw [e] at h
      unfold fidx at h
      simp only [Int.toNat_natCast]
      have next : (¬ tl σ t j = wl σ w) → vX5_find_31 t w P (vX5_find_2 t w P n) (c : Int) (j : Int) σ := fun q => by
        rw [if_neg q] at h
        have := ih (j + 1) (by omega) (by omega) h
        exact_mod_cast this
      refine ⟨by omega, by omega, zR_s (by omega) (by omega), zR_s (by omega) (by omega), fun z2 => next (fun q => z2 ?_), fun z2 => s_isEndOf htj hw ⟨b2i_R _, fun z3 => next (fun q => ?_), fun z3 => ?_⟩⟩
      · rw [← tl_len htj, ← wl_len hw, q]
      · have z4 := b2i_0.mp z3
        rw [q] at z4
        exact absurd List.suffix_rfl (of_decide_eq_false z4)
      · have hs : tl σ t j <:+ wl σ w := by
          by_cases q : tl σ t j <:+ wl σ w
          · exact q
          · exact absurd (by rw [decide_eq_false q]; rfl) z3
        have he : tl σ t j = wl σ w := hs.eq_of_length (by
          have e1 := tl_len htj
          have e2 := wl_len hw
          omega)
        rw [if_pos he] at h
        exact h
theorem s_find {t w n0 c : Nat} {P : Int → Sto → Prop} {σ : Sto} (hc : c ≤ zn (t + 1)) (ht : ∀ j, j < c → tok σ t j) (hw : wok σ w n0) (h : P (fidx (tl σ t) (wl σ w) c 0) σ) : vX5_find t w (c : Int) P σ :=
  ⟨c + 1, by exact_mod_cast s_find_2 hc ht hw (c + 1) 0 (by omega) (by omega) h⟩
/-- letters copied from one row to another, one by one -/
def cp (g f : Nat → Int) (d s n : Nat) : Nat → Int := fun j => if d ≤ j ∧ j < d + n then f (s + (j - d)) else g j
theorem seg_cp {g f : Nat → Int} {d s n : Nat} : seg (cp g f d s n) d n = seg f s n := seg_ext (fun i hi => by
  unfold cp
  rw [if_pos (by omega)]
  congr 1
  omega)
/-- the word of the cell k becomes l -/
def setw (σ τ : Sto) (k : Nat) (l : List Int) : Prop := fr [k, k + 1] σ τ ∧ wl τ k = l ∧ τ k 1 = (l.length : Int)
theorem setw.ok {σ τ : Sto} {k : Nat} {l : List Int} (h : setw σ τ k l) (hk : zk k = 3) {n : Nat} (hn : l.length ≤ n) (hn18 : n ≤ 18) (hl : ab l) : wok τ k n := ⟨hk, by rw [h.2.2]; omega, by rw [h.2.2]; omega, hn18, by rw [h.2.1]; exact hl⟩
theorem s_become_2 {k o n0 : Nat} {P : Sto → Prop} {σ : Sto} (hk : zk k = 3) (ho : wok σ o n0) (hne : k ≠ o) (h1 : k ≠ o + 1) (h2 : k + 1 ≠ o) (h : ∀ τ, setw σ τ k (wl σ o) → P τ) : ∀ (n m : Nat) (τ : Sto), (m : Int) ≤ σ o 1 → σ o 1 - m < n → fr [k + 1] σ τ → (∀ i, i < m → τ (k + 1) i = σ (o + 1) i) → vX4_become_2 k o P n (m : Int) τ := by
  intro n
  induction n with
  | zero => intro m τ a1 a2; omega
  | succ n ih =>
    intro m τ a1 a2 hf hm
    obtain ⟨hzw, hw0, hwn, hn18, hwa⟩ := id ho
    have eo : τ o = σ o := hf o (by simp; omega)
    have eo1 : τ (o + 1) = σ (o + 1) := hf (o + 1) (by simp; omega)
    unfold vX4_become_2 bX4_become_2
    rw [eo, eo1]
    refine ⟨zR_s (by omega) (by omega), zR_s (by omega) (by omega), fun z s1 e1 => ?_, fun z => ?_⟩
    · subst e1
      refine h _ ⟨fun i hi => ?_, ?_, ?_⟩
      · rw [zu_ne (fun q => hi (by simp [q]))]
        exact hf i (fun q => hi (by simp at q; simp [q]))
      · unfold wl
        rw [zu_eq, zu_ne (by omega : k + 1 ≠ k)]
        exact seg_ext (fun i hi => by rw [hm _ (by omega)])
      · rw [zu_eq, wl_len ho]
    · have hl := ho.at (i := m) (by omega)
      simp only [Int.toNat_natCast]
      refine ⟨by omega, by rw [wn hzw]; omega, by omega, by rw [wn hk]; omega, by omega, by omega, fun s2 e2 => ?_⟩
      subst e2
      have := ih (m + 1) (zu τ (k + 1) m (σ (o + 1) m)) (by omega) (by omega) (hf.trans (fr_zu (by simp))) (fun i hi => by
        rcases Nat.lt_or_ge i m with q | q
        · rw [zu_j (by omega)]; exact hm i q
        · have : i = m := by omega
          subst this
          rw [zu_eq])
      exact_mod_cast this
theorem s_become {k o n0 : Nat} {P : Sto → Prop} {σ : Sto} (hk : zk k = 3) (ho : wok σ o n0) (hne : k ≠ o) (h1 : k ≠ o + 1) (h2 : k + 1 ≠ o) (h : ∀ τ, setw σ τ k (wl σ o) → P τ) : vX4_become k o P σ :=
  ⟨(σ o 1).toNat + 1, by
    have := s_become_2 hk ho hne h1 h2 h ((σ o 1).toNat + 1) 0 σ (by have := ho.2.1; omega) (by have := ho.2.1; omega) fr.refl (fun i hi => by omega)
    exact_mod_cast this⟩
theorem s_clear {k : Nat} {P : Sto → Prop} {σ : Sto} (h : ∀ τ, setw σ τ k [] → P τ) : vX4_clear k P σ := fun s1 e1 => by
  subst e1
  refine h _ ⟨fr_zu (by simp), ?_, by rw [zu_eq]; rfl⟩
  unfold wl
  rw [zu_eq]
  rfl
theorem s_dropLast {k n : Nat} {c : Int} {P : Sto → Prop} {σ : Sto} (hk : wok σ k n) (hc0 : 0 ≤ c) (hc1 : c ≤ 100) (h : ∀ τ, setw σ τ k ((wl σ k).take ((wl σ k).length - c.toNat)) → P τ) : vX4_dropLast k c P σ := by
  obtain ⟨hzw, hw0, hwn, hn18, hwa⟩ := id hk
  refine ⟨zR_s (by omega) (by omega), fun s1 e1 => ?_⟩
  subst e1
  have hl := wl_len hk
  have ev : (if 0 < σ k 1 - c then σ k 1 - c else 0) = (((wl σ k).length - c.toNat : Nat) : Int) := by
    split <;> omega
  rw [ev]
  refine h _ ⟨fr_zu (by simp), ?_, ?_⟩
  · unfold wl
    rw [zu_eq, zu_ne (by omega : k + 1 ≠ k), Int.toNat_natCast, seg_len]
    apply List.ext_getElem?
    intro i
    rw [List.getElem?_take]
    split
    · next q => rw [seg_get (by omega), seg_get (by omega)]
    · next q => rw [List.getElem?_eq_none (by rw [seg_len]; omega)]
  · rw [zu_eq, List.length_take]
    omega
theorem s_add {k n : Nat} {x : Int} {P : Sto → Prop} {σ : Sto} (hk : wok σ k n) (hlt : σ k 1 < 18) (hx0 : 0 ≤ x) (hx1 : x ≤ 65535) (h : ∀ τ, setw σ τ k (wl σ k ++ [x]) → P τ) : vX4_add k x P σ := by
  obtain ⟨hzw, hw0, hwn, hn18, hwa⟩ := id hk
  refine ⟨zR_s (by omega) (by omega), fun z => by omega, fun z => ⟨hw0, by rw [wn hzw]; omega, hx0, hx1, fun s1 e1 s2 e2 => ?_⟩⟩
  subst e2
  subst e1
  refine h _ ⟨?_, ?_, ?_⟩
  · exact (fr_zu (by simp)).trans (fr_zu (by simp))
  · unfold wl
    rw [zu_eq, zu_ne (by omega : k + 1 ≠ k), zu_ne (by omega : k ≠ k + 1)]
    rw [show (σ k 1 + 1).toNat = (σ k 1).toNat + 1 by omega, seg_succ, Nat.zero_add, zu_eq]
    congr 1
    exact seg_ext (fun i hi => zu_j (by omega))
  · rw [zu_eq, zu_ne (by omega : k ≠ k + 1), List.length_append, Int.natCast_add, wl_len hk]
    rfl
theorem s_addTo_28 {t w j n0 : Nat} {P : Sto → Prop} {σ : Sto} (ht : tok σ t j) (hw : wok σ w n0) (hsum : σ w 1 + σ (t + 1) j ≤ 18) (hd : t + 2 ≠ w ∧ t + 2 ≠ w + 1) (h : ∀ τ, setw σ τ w (wl σ w ++ tl σ t j) → P τ) : ∀ (n m : Nat) (τ : Sto), (m : Int) ≤ σ (t + 1) j → σ (t + 1) j - m < n → fr [w + 1] σ τ → (∀ i, i < (σ w 1).toNat → τ (w + 1) i = σ (w + 1) i) → (∀ i, i < m → τ (w + 1) ((σ w 1).toNat + i) = σ (t + 2) ((zw t).toNat * j + i)) → vX5_addTo_28 t w P n ((j : Int) * zw t) (σ (t + 1) j) m τ := by
  intro n
  induction n with
  | zero => intro m τ a1 a2; omega
  | succ n ih =>
    intro m τ a1 a2 hf hm0 hm
    obtain ⟨hz, hj, h0, hwd, hab⟩ := id ht
    obtain ⟨hzw, hw0, hwn, hn18, hwa⟩ := id hw
    obtain ⟨w1, w2, w3, w4⟩ := tw hz
    have ew : τ w = σ w := hf w (by simp)
    have et : τ (t + 2) = σ (t + 2) := hf (t + 2) (by simp; omega)
    unfold vX5_addTo_28 bX5_addTo_28
    rw [ew, et]
    refine ⟨zR_s (by omega) (by omega), zR_s (by omega) (by omega), fun z s1 e1 => ?_, fun z => ?_⟩
    · subst e1
      refine h _ ⟨fun i hi => ?_, ?_, ?_⟩
      · rw [zu_ne (fun q => hi (by simp [q]))]
        exact hf i (fun q => hi (by simp at q; simp [q]))
      · unfold wl tl
        rw [zu_eq, zu_ne (by omega : w + 1 ≠ w)]
        rw [show (σ w 1 + σ (t + 1) j).toNat = (σ w 1).toNat + (σ (t + 1) j).toNat by omega, seg_app]
        congr 1
        · exact seg_ext (fun i hi => by rw [Nat.zero_add]; exact hm0 i hi)
        · exact seg_ext (fun i hi => by rw [Nat.zero_add]; exact hm i (by omega))
      · rw [zu_eq, List.length_append, Int.natCast_add, wl_len hw, tl_len ht]
    · have hp := tpos (i := m) hz hj (by omega)
      have hl := ht.at (i := m) (by omega)
      have e2 : (σ w 1 + (m : Int)).toNat = (σ w 1).toNat + m := by omega
      rw [hp.2.2, e2]
      refine ⟨hp.1, hp.2.1, by omega, by rw [wn hzw]; omega, by omega, by omega, fun s2 e2 => ?_⟩
      subst e2
      have := ih (m + 1) (zu τ (w + 1) ((σ w 1).toNat + m) (σ (t + 2) ((zw t).toNat * j + m))) (by omega) (by omega) (hf.trans (fr_zu (by simp))) (fun i hi => by rw [zu_j (by omega)]; exact hm0 i hi) (fun i hi => by
        rcases Nat.lt_or_ge i m with q | q
        · rw [zu_j (by omega)]; exact hm i q
        · have : i = m := by omega
          subst this
          rw [zu_eq])
      exact_mod_cast this
theorem s_addTo {t w j n0 : Nat} {P : Sto → Prop} {σ : Sto} (ht : tok σ t j) (hw : wok σ w n0) (hsum : σ w 1 + σ (t + 1) j ≤ 18) (hd : t + 2 ≠ w ∧ t + 2 ≠ w + 1) (h : ∀ τ, setw σ τ w (wl σ w ++ tl σ t j) → P τ) : vX5_addTo t (j : Int) w P σ := by
  obtain ⟨hz, hj, h0, hwd, hab⟩ := id ht
  obtain ⟨hzw, hw0, hwn, hn18, hwa⟩ := id hw
  obtain ⟨w1, w2, w3, w4⟩ := tw hz
  unfold vX5_addTo
  simp only [Int.toNat_natCast]
  rw [if_neg (by omega)]
  exact ⟨by omega, by omega, zR_s (by omega) (by omega), zR_s (by omega) (by omega), (σ (t + 1) j).toNat + 1, by
    have := s_addTo_28 ht hw hsum hd h ((σ (t + 1) j).toNat + 1) 0 σ (by omega) (by omega) fr.refl (fun _ _ => rfl) (fun i hi => by omega)
    exact_mod_cast this⟩
