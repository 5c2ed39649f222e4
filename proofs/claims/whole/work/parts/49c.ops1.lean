/-! PURE: frames of the two halves; small calls -/
def fX (σ τ : Sto) (k : Nat) : Prop := ∀ i, (i < k ∨ k + 282 < i) → τ i = σ i
def fM (σ τ : Sto) (m : Nat) : Prop := ∀ i, (i < m ∨ m + 13 < i) → τ i = σ i
theorem savX.fr {σ τ : Sto} {k : Nat} {sv : Option (Nat → Int)} (h : savX σ k sv) (e0 : τ k = σ k) (e : ∀ i, k + 25 ≤ i → i ≤ k + 46 → τ i = σ i) : savX τ k sv := by
  rcases h with ⟨h1, h2⟩ | ⟨g, h1, h2, h3, h4⟩
  · exact Or.inl ⟨h1, by rw [e0]; exact h2⟩
  · exact Or.inr ⟨g, h1, by rw [e0]; exact h2, h3.fr (fun i g1 g2 => e i g1 (by omega)), h4⟩
theorem histX.fr {σ τ : Sto} {k : Nat} {hs : List (Nat → Int)} (h : histX σ k hs) (e : ∀ i, k + 47 ≤ i → i ≤ k + 268 → τ i = σ i) : histX τ k hs := by
  obtain ⟨h1, h2, nx, h3, h4, h5⟩ := h
  have e47 := e (k + 47) (by omega) (by omega)
  exact ⟨by rw [e47]; exact h1, h2, nx, h3, by rw [e47]; exact h4, fun j hj => ⟨(h5 j hj).1.fr (fun i g1 g2 => e i (by unfold hsX at g1; omega) (by unfold hsX at g2; omega)), (h5 j hj).2⟩⟩
theorem rankX.fr {σ τ : Sto} {k : Nat} {f : Nat → Int} (h : rankX σ k f) (e2 : τ (k + 269) 2 = σ (k + 269) 2) (e : ∀ i, k + 270 ≤ i → i ≤ k + 271 → τ i = σ i) : rankX τ k f := by
  obtain ⟨H, h1, h2, h3, h4⟩ := h
  exact ⟨H, h1, h2, by rw [e2]; exact h3, fun i hi => by rw [e (k + 269 + 1) (by omega) (by omega), e (k + 269 + 2) (by omega) (by omega)]; exact h4 i hi⟩
theorem XI.fr {σ τ : Sto} {k : Nat} {f : Nat → Int} {sv : Option (Nat → Int)} {hs : List (Nat → Int)} {inp : List Int} (h : XI σ k f sv hs inp) (e : ∀ i, k ≤ i → i ≤ k + 271 → τ i = σ i) : XI τ k f sv hs inp := by
  obtain ⟨h0, ⟨h1, h2⟩, ⟨h3, h4⟩, h5, h6, h7, h8⟩ := h
  obtain ⟨w1, w2⟩ := h1.fr (τ := τ) (e _ (by omega) (by omega)) (e _ (by omega) (by omega))
  have e269 := e (k + 269) (by omega) (by omega)
  exact ⟨h0, ⟨w1, by rw [w2]; exact h2⟩, ⟨h3.fr (fun i g1 g2 => e i (by omega) (by omega)), h4⟩, h5.fr (e k (by omega) (by omega)) (fun i g1 g2 => e i (by omega) (by omega)), h6.fr (fun i g1 g2 => e i (by omega) (by omega)), by rw [e269]; exact h7, fun z => (h8 (by rw [← e269]; exact z)).fr (by rw [e269]) (fun i g1 g2 => e i (by omega) (by omega))⟩
theorem rankM.fr {σ τ : Sto} {m : Nat} {f : Nat → Int} (h : rankM σ m f) (e9 : τ m 9 = σ m 9) (e : ∀ i, m + 6 ≤ i → i ≤ m + 10 → τ i = σ i) : rankM τ m f := by
  obtain ⟨H, F, h1, h2, h3, h4, h5, h6⟩ := h
  have e10 := e (m + 10) (by omega) (by omega)
  refine ⟨H, F, h1, h2, h3, by rw [e9]; exact h4, by rw [e10]; exact h5, fun h q hq => ?_⟩
  unfold hypM
  rw [e (m + 6) (by omega) (by omega), e (m + 7) (by omega) (by omega), e (m + 8) (by omega) (by omega), e (m + 9) (by omega) (by omega)]
  exact h6 h q hq
theorem savM.fr {σ τ : Sto} {m : Nat} {sv : Option (Nat → Int)} (h : savM σ m sv) (e0 : τ m 4 = σ m 4) (e : τ (m + 3) = σ (m + 3)) : savM τ m sv := by
  rcases h with ⟨h1, h2⟩ | ⟨g, h1, h2, h3⟩
  · exact Or.inl ⟨h1, by rw [e0]; exact h2⟩
  · exact Or.inr ⟨g, h1, by rw [e0]; exact h2, by rw [e]; exact h3⟩
theorem histM.fr {σ τ : Sto} {m : Nat} {hs : List (Nat → Int)} (h : histM σ m hs) (e0 : τ m 2 = σ m 2) (e : τ (m + 2) = σ (m + 2)) : histM τ m hs := ⟨by rw [e0]; exact h.1, h.2.1, fun j hj => by rw [e]; exact h.2.2 j hj⟩
theorem MI.fr {σ τ : Sto} {m : Nat} {f : Nat → Int} {sv : Option (Nat → Int)} {hs : List (Nat → Int)} {inp : List Int} (h : MI σ m f sv hs inp) (e0 : ∀ j, j ≠ 7 → τ m j = σ m j) (e : ∀ i, m + 1 ≤ i → i ≤ m + 10 → i ≠ m + 5 → τ i = σ i) : MI τ m f sv hs inp := by
  obtain ⟨h0, ⟨h1, h2⟩, ⟨h3, h4⟩, h5, h6, h7, h8⟩ := h
  obtain ⟨w1, w2⟩ := h1.fr (τ := τ) (e _ (by omega) (by omega) (by omega))
  exact ⟨h0, ⟨w1, by rw [w2]; exact h2⟩, ⟨by rw [e (m + 1) (by omega) (by omega) (by omega)]; exact h3, h4⟩, h5.fr (e0 4 (by decide)) (e _ (by omega) (by omega) (by omega)), h6.fr (e0 2 (by decide)) (e _ (by omega) (by omega) (by omega)), by rw [e0 8 (by decide)]; exact h7, fun z => (h8 (by rw [← e0 8 (by decide)]; exact z)).fr (e0 9 (by decide)) (fun i g1 g2 => e i (by omega) (by omega) (by omega))⟩
theorem MI.thr {σ : Sto} {m : Nat} {f : Nat → Int} {sv : Option (Nat → Int)} {hs : List (Nat → Int)} {inp : List Int} (h : MI σ m f sv hs inp) (y : Int) : MI (zu σ m 7 y) m f sv hs inp := h.fr (fun j hj => zu_j hj) (fun i g1 _ _ => zu_ne (by omega))
theorem fM_thr {σ : Sto} {m : Nat} {y : Int} : fM σ (zu σ m 7 y) m := fun i hi => zu_ne (by omega)
theorem fM.trans {σ τ υ : Sto} {m : Nat} (h : fM σ τ m) (h2 : fM τ υ m) : fM σ υ m := fun i hi => (h2 i hi).trans (h i hi)
theorem fX.trans {σ τ υ : Sto} {k : Nat} (h : fX σ τ k) (h2 : fX τ υ k) : fX σ υ k := fun i hi => (h2 i hi).trans (h i hi)
theorem XI.input {σ τ : Sto} {k : Nat} {f : Nat → Int} {sv : Option (Nat → Int)} {hs : List (Nat → Int)} {inp l : List Int} (h : XI σ k f sv hs inp) (hs2 : setw σ τ (k + 1) l) (hl : l.length ≤ 14) (ha : ab l) : XI τ k f sv hs l ∧ fX σ τ k := by
  obtain ⟨h0, ⟨h1, h2⟩, ⟨h3, h4⟩, h5, h6, h7, h8⟩ := h
  have e : ∀ i, i ≠ k + 1 → i ≠ k + 1 + 1 → τ i = σ i := fun i g1 g2 => hs2.1 i (by simp [g1, g2])
  have e269 := e (k + 269) (by omega) (by omega)
  exact ⟨⟨h0, ⟨hs2.ok h1.1 hl (by decide) ha, hs2.2.1⟩, ⟨h3.fr (fun i g1 g2 => e i (by omega) (by omega)), h4⟩, h5.fr (e k (by omega) (by omega)) (fun i g1 g2 => e i (by omega) (by omega)), h6.fr (fun i g1 g2 => e i (by omega) (by omega)), by rw [e269]; exact h7, fun z => (h8 (by rw [← e269]; exact z)).fr (by rw [e269]) (fun i g1 g2 => e i (by omega) (by omega))⟩, fun i hi => e i (by omega) (by omega)⟩
theorem MI.input {σ τ : Sto} {m : Nat} {f : Nat → Int} {sv : Option (Nat → Int)} {hs : List (Nat → Int)} {inp l : List Int} (h : MI σ m f sv hs inp) (hs2 : setq σ τ (m + 4) 0 16 l) (hl : l.length ≤ 14) (ha : ab l) : MI τ m f sv hs l ∧ fM σ τ m := by
  obtain ⟨h0, ⟨h1, h2⟩, ⟨h3, h4⟩, h5, h6, h7, h8⟩ := h
  have e : ∀ i, i ≠ m + 4 → τ i = σ i := fun i g1 => hs2.keep g1
  have z := mz h0
  exact ⟨⟨h0, ⟨hs2.ok h1.1 hl (by decide) (by rw [z.2.2.2.1]; decide) ha, hs2.2.2.1⟩, ⟨by rw [e (m + 1) (by omega)]; exact h3, h4⟩, h5.fr (by rw [e m (by omega)]) (e _ (by omega)), h6.fr (by rw [e m (by omega)]) (e _ (by omega)), by rw [e m (by omega)]; exact h7, fun w => (h8 (by rw [← e m (by omega)]; exact w)).fr (by rw [e m (by omega)]) (fun i g1 g2 => e i (by omega))⟩, fun i hi => e i (by omega)⟩
theorem m_len {σ : Sto} {m : Nat} {f : Nat → Int} {sv : Option (Nat → Int)} {hs : List (Nat → Int)} {inp : List Int} (h : MI σ m f sv hs inp) : σ (m + 4) 0 = (inp.length : Int) ∧ inp.length ≤ 14 ∧ ab inp := by
  have h1 := h.2.1
  have hl := fl_len h1.1
  rw [h1.2] at hl
  exact ⟨hl.symm, by have := h1.1.2.2.1; omega, by rw [← h1.2]; exact h1.1.2.2.2.2.2⟩
theorem x_len {σ : Sto} {k : Nat} {f : Nat → Int} {sv : Option (Nat → Int)} {hs : List (Nat → Int)} {inp : List Int} (h : XI σ k f sv hs inp) : σ (k + 1) 1 = (inp.length : Int) ∧ inp.length ≤ 14 ∧ ab inp := by
  have h1 := h.2.1
  have hl := wl_len h1.1
  rw [h1.2] at hl
  exact ⟨hl.symm, by have := h1.1.2.2.1; omega, by rw [← h1.2]; exact h1.1.2.2.2.2⟩
/-! outcomes: what holds behind a call -/
def xU (σ : Sto) (k : Nat) (U : (Nat → Int) → Prop) (sv : Option (Nat → Int)) (hs : List (Nat → Int)) (inp : List Int) (Q : Sto → Prop) : Prop := ∀ τ, (∀ g, U g → XI τ k g sv hs inp) → fX σ τ k → Q τ
def mU (σ : Sto) (m : Nat) (U : (Nat → Int) → Prop) (sv : Option (Nat → Int)) (hs : List (Nat → Int)) (inp : List Int) (c : Int) (Q : Sto → Prop) : Prop := ∀ τ g, U g → MI τ m g sv hs inp → fM σ τ m → τ m 7 = c → Q τ
/-- the row stays -/
def eqF (f : Nat → Int) : (Nat → Int) → Prop := fun g => g = f
section
variable {σ : Sto} {k m : Nat} {f : Nat → Int} {sv : Option (Nat → Int)} {hs : List (Nat → Int)} {inp : List Int} {P : Int → Sto → Prop} {X : Nat → Sto → Prop} {Q : Sto → Prop}
theorem xU.same (h : XI σ k f sv hs inp) (q : xU σ k (eqF f) sv hs inp Q) : Q σ := q σ (fun g e => e ▸ h) (fun _ _ => rfl)
theorem mU.same {c : Int} (h : MI σ m f sv hs inp) (q : mU σ m (eqF f) sv hs inp c Q) : Q (zu σ m 7 c) := q _ f rfl (h.thr c) fM_thr zu_eq
theorem m_go0 {A B : Sto → Prop} (h : A (zu σ m 7 0)) : ∀ s : Sto, s = zu σ m 7 0 → (zR (s m 7) ∧ ((s m 7 ≤ 0) → A s) ∧ (¬ (s m 7 ≤ 0) → B s)) := by
  intro s e
  subst e
  rw [zu_eq]
  exact ⟨zR_0, fun _ => h, fun w => absurd (Int.le_refl 0) w⟩
theorem m_go1 {A B : Sto → Prop} {c : Int} (hc : 0 < c ∧ c ≤ 5) (h : B (zu σ m 7 c)) : ∀ s : Sto, s = zu σ m 7 c → (zR (s m 7) ∧ ((s m 7 ≤ 0) → A s) ∧ (¬ (s m 7 ≤ 0) → B s)) := by
  intro s e
  subst e
  rw [zu_eq]
  exact ⟨zR_s (by omega) (by omega), fun w => absurd hc.1 (by omega), fun _ => h⟩
/-- append -/
theorem x_append {x : Int} (h : XI σ k f sv hs inp) (hx : zR x)
    (h1 : ¬ (97 ≤ x ∧ x ≤ 122) → xU σ k (eqF f) sv hs inp (X 1)) (h2 : 97 ≤ x ∧ x ≤ 122 → inp.length = 14 → xU σ k (eqF f) sv hs inp (X 2)) (h3 : 97 ≤ x ∧ x ≤ 122 → inp.length < 14 → xU σ k (eqF f) sv hs (inp ++ [x]) (P ((inp.length : Int) + 1))) : vX6_append k x P X σ := by
  obtain ⟨l1, l2, l3⟩ := x_len h
  refine ⟨hx, fun z => xU.same h (h1 (by omega)), fun z => ⟨hx, fun z2 => ⟨by rw [l1]; exact zR_s (by omega) (by omega), fun z3 => ?_, fun z3 => xU.same h (h2 (by omega) (by omega))⟩, fun z2 => xU.same h (h1 (by omega))⟩⟩
  refine s_add h.2.1.1 (by omega) (by omega) (by omega) (fun τ hτ => ?_)
  rw [h.2.1.2] at hτ
  rw [hτ.2.2]
  have q := h.input hτ (by simp; omega) (ab_app l3 (fun y hy => by simp at hy; omega))
  have := h3 (by omega) (by omega) τ (fun g e => e ▸ q.1) q.2
  simpa using this
theorem m_append {x : Int} (h : MI σ m f sv hs inp) (hx : zR x)
    (h1 : ¬ (97 ≤ x ∧ x ≤ 122) → mU σ m (eqF f) sv hs inp 1 (P 0)) (h2 : 97 ≤ x ∧ x ≤ 122 → inp.length = 14 → mU σ m (eqF f) sv hs inp 2 (P 0)) (h3 : 97 ≤ x ∧ x ≤ 122 → inp.length < 14 → mU σ m (eqF f) sv hs (inp ++ [x]) 0 (P ((inp.length : Int) + 1))) : vX7_append m x P σ := by
  obtain ⟨l1, l2, l3⟩ := m_len h
  have z := mz h.1
  refine ⟨hx, s7_in (zQ_R hx) (zQ_s (by decide) (by decide)) (zQ_s (by decide) (by decide)) ⟨b2i_R _, fun w => ⟨by rw [z.2.2.2.1]; decide, ?_⟩, fun w => ?_⟩⟩
  · have hin := of_decide_eq_true (b2i_1.mp w)
    rw [show Int.toNat 0 = 0 from rfl, l1]
    refine ⟨zR_s (by omega) (by omega), fun w2 => m_go0 ?_, fun w2 => m_go1 (by decide) (mU.same h (h2 hin (by omega)))⟩
    have ht := h.thr 0
    have := s7_put (q := 0) (N := 16) (x := x) (P := fun s3 => 0 < (zn (m + 4) : Int) ∧ P (s3 (m + 4) (Int.toNat 0)) s3) ht.2.1.1 (by rw [(m_len ht).1]; omega) (by rw [z.2.2.2.1]; decide) (fun υ hυ => by
      rw [ht.2.1.2] at hυ
      refine ⟨by rw [z.2.2.2.1]; decide, ?_⟩
      rw [show Int.toNat 0 = 0 from rfl, hυ.2.1]
      have hm := ht.input hυ (by simp; omega) (ab_app l3 (fun y hy => by simp at hy; omega))
      have := h3 hin (by omega) υ f rfl hm.1 (fM_thr.trans hm.2) (by rw [hυ.keep (by omega), zu_eq])
      simpa using this)
    exact_mod_cast this
  · have hin := of_decide_eq_false (b2i_0.mp w)
    exact m_go1 (by decide) (mU.same h (h1 hin))
/-- clearInput -/
theorem x_clearInput (h : XI σ k f sv hs inp) (h1 : xU σ k (eqF f) sv hs [] (P (inp.length : Int))) : vX6_clearInput k P σ := by
  refine s_clear (fun τ hτ => ?_)
  rw [(x_len h).1]
  have := h.input hτ (by simp) ab_nil
  exact h1 τ (fun g e => e ▸ this.1) this.2
theorem zu_setq0 {σ : Sto} {k N : Nat} : setq σ (zu σ k 0 0) k 0 N [] := ⟨fr_zu (by simp), by rw [zu_eq]; rfl, by unfold fl; rw [zu_eq]; rfl, fun j hj => zu_j (by omega)⟩
theorem m_clearInput (h : MI σ m f sv hs inp) (h1 : mU σ m (eqF f) sv hs [] 0 (P (inp.length : Int))) : vX7_clearInput m P σ := by
  have z := mz h.1
  intro s1 e1
  subst e1
  have ht := h.thr 0
  refine ⟨by rw [z.2.2.2.1]; decide, by rw [z.2.2.2.1]; decide, fun s2 e2 => ?_⟩
  rw [show Int.toNat 0 = 0 from rfl] at *
  subst e2
  rw [(m_len ht).1]
  have := ht.input (zu_setq0 (k := m + 4) (N := 16)) (by simp) ab_nil
  exact h1 _ f rfl this.1 (fM_thr.trans this.2) (by rw [zu_ne (by omega : m ≠ m + 4), zu_eq])
/-- inputLetter -/
theorem x_inputLetter {x : Int} (h : XI σ k f sv hs inp) (hx : zR x) (h1 : ¬ (0 ≤ x ∧ x < inp.length) → xU σ k (eqF f) sv hs inp (X 0)) (h2 : (0 ≤ x ∧ x < inp.length) → xU σ k (eqF f) sv hs inp (P (inp.getD x.toNat 0))) : vX6_inputLetter k x P X σ := by
  obtain ⟨l1, l2, l3⟩ := x_len h
  refine ⟨hx, fun z => xU.same h (h1 (by omega)), fun z => ⟨hx, by rw [l1]; exact zR_s (by omega) (by omega), fun z2 => ?_, fun z2 => xU.same h (h1 (by omega))⟩⟩
  obtain ⟨i, rfl⟩ : ∃ i : Nat, x = (i : Int) := ⟨x.toNat, by omega⟩
  have hi : i < inp.length := by omega
  have hat := h.2.1.1.at (i := i) (by omega)
  have e : inp.getD i 0 = σ (k + 1 + 1) i := by
    have g : (wl σ (k + 1))[i]? = some (σ (k + 1 + 1) i) := by
      unfold wl
      rw [seg_get (by omega), Nat.zero_add]
    rw [h.2.1.2] at g
    rw [List.getD_eq_getElem?_getD, g]
    rfl
  rw [Int.toNat_natCast]
  have := xU.same h (h2 (by omega))
  rw [Int.toNat_natCast, e] at this
  exact ⟨by omega, by rw [wn h.2.1.1.1]; omega, by omega, by omega, this⟩
theorem getD_ab {l : List Int} {i : Nat} (h : ab l) (hi : i < l.length) : 97 ≤ l.getD i 0 ∧ l.getD i 0 ≤ 122 := by
  rw [List.getD_eq_getElem?_getD, List.getElem?_eq_getElem hi]
  exact h _ (List.getElem_mem hi)
theorem m_inputLetter {x : Int} (h : MI σ m f sv hs inp) (hx : zR x) (h1 : ¬ (0 ≤ x ∧ x < inp.length) → mU σ m (eqF f) sv hs inp 1 (P 0)) (h2 : (0 ≤ x ∧ x < inp.length) → mU σ m (eqF f) sv hs inp 0 (P (inp.getD x.toNat 0))) : vX7_inputLetter m x P σ := by
  obtain ⟨l1, l2, l3⟩ := m_len h
  have z := mz h.1
  unfold vX7_inputLetter
  rw [show Int.toNat 0 = 0 from rfl, l1]
  refine ⟨hx, by rw [z.2.2.2.1]; decide, zR_s (by omega) (by omega), s7_in (zQ_R hx) (zQ_s (by decide) (by decide)) (zQ_s (by omega) (by omega)) ⟨b2i_R _, fun w => ?_, fun w => ?_⟩⟩
  · have hin := of_decide_eq_false (b2i_0.mp w)
    exact m_go1 (by decide) ⟨by decide, by decide, mU.same h (h1 (by omega))⟩
  · have hin := of_decide_eq_true (b2i_1.mp w)
    refine m_go0 ?_
    obtain ⟨i, rfl⟩ : ∃ i : Nat, x = (i : Int) := ⟨x.toNat, by omega⟩
    have hi : i < inp.length := by omega
    have e : inp.getD i 0 = σ (m + 4) (1 + i) := by
      have g : (fl (σ (m + 4)) 0)[i]? = some (σ (m + 4) (0 + 1 + i)) := by
        unfold fl
        rw [seg_get (by omega)]
      rw [h.2.1.2] at g
      rw [List.getD_eq_getElem?_getD, g]
      rfl
    have hr := getD_ab l3 hi
    refine ⟨by omega, by rw [z.2.2.2.1]; omega, ?_⟩
    rw [zu_ne (by omega : m + 4 ≠ m), show (1 + (i : Int)).toNat = 1 + i by omega, ← e]
    have ec : zi2c (inp.getD i 0) = inp.getD i 0 := by unfold zi2c; omega
    rw [ec]
    exact ⟨by omega, by omega, mU.same h (h2 (by omega))⟩
end
