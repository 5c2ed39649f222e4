/-! PURE: calls that change the paradigms -/
/-- the word at q is l -/
def isWd (g : Nat → Int) (q : Nat) (l : List Int) : Prop := g q = (l.length : Int) ∧ fl g q = l
theorem isWd.wd {g : Nat → Int} {q : Nat} {l : List Int} {lo hi : Int} (h : isWd g q l) (h1 : lo ≤ (l.length : Int)) (h2 : (l.length : Int) ≤ hi) (ha : ab l) : wd g q lo hi := ⟨by rw [h.1]; exact h1, by rw [h.1]; exact h2, by rw [h.2]; exact ha⟩
theorem isWd_0 {g : Nat → Int} {q : Nat} (h : g q = 0) : isWd g q [] := ⟨h, by unfold fl; rw [h]; rfl⟩
theorem wd_0 {g : Nat → Int} {q : Nat} {hi : Int} (h : g q = 0) (hh : 0 ≤ hi) : wd g q 0 hi := (isWd_0 h).wd (by simp) (by simpa using hh) ab_nil
theorem tw1_0 {σ : Sto} {t j : Nat} {g : Nat → Int} {q : Nat} (h : σ (t + 1) j = 0) (h2 : g q = 0) : tw1 σ t j g q := ⟨by rw [h, h2], by unfold tl fl; rw [h, h2]; rfl⟩
theorem tw1_of {σ : Sto} {t j : Nat} {g : Nat → Int} {q : Nat} {l : List Int} (h1 : σ (t + 1) j = (l.length : Int)) (h2 : tl σ t j = l) (h : isWd g q l) : tw1 σ t j g q := ⟨by rw [h1, h.1], by rw [h2, h.2]⟩
section
variable {σ τ : Sto} {k m : Nat} {f g : Nat → Int} {sv : Option (Nat → Int)} {hs : List (Nat → Int)} {inp inp' : List Int} {P : Int → Sto → Prop} {X : Nat → Sto → Prop} {Q : Sto → Prop} {x y w : Int}
/-- the class, new: what is saved stays, the ranking is stale -/
theorem XI.new (h : XI σ k f sv hs inp) {hs' : List (Nat → Int)} (e : ∀ i, (i = k ∨ (k + 25 ≤ i ∧ i ≤ k + 46)) → τ i = σ i) (hin : wok τ (k + 1) 14 ∧ wl τ (k + 1) = inp') (hr : repS τ (k + 3) g) (hw : wfF g) (hh : histX τ k hs') (hst : τ (k + 269) 3 = 1) : XI τ k g sv hs' inp' :=
  ⟨h.1, hin, ⟨hr, hw⟩, h.2.2.2.1.fr (e k (Or.inl rfl)) (fun i g1 g2 => e i (Or.inr ⟨g1, g2⟩)), hh, Or.inr hst, fun z => by omega⟩
theorem x_push (h : XI σ k f sv hs inp) (h1 : ∀ τ, (∀ i, (i < k + 47 ∨ k + 268 < i) → i ≠ k + 269 → τ i = σ i) → τ (k + 269) 3 = 1 → histX τ k (pushH hs f) → Q τ) : vX0_push (k + 47) (k + 3) (fun s1 => ∀ s2 : Sto, s2 = zu s1 (k + 269) 3 1 → Q s2) σ := by
  refine s_push h.1 h.st h.wf h.2.2.2.2.1 (fun τ e hh s2 e2 => ?_)
  subst e2
  exact h1 _ (fun i g1 g2 => by rw [zu_ne g2]; exact e i g1) zu_eq (hh.fr (fun i g1 g2 => zu_ne (by omega)))
/-- the reference remembers -/
theorem MI.hist (h : MI σ m f sv hs inp) : histM σ m hs := h.2.2.2.2.1
/-- the reference, new: what is saved stays, nothing is found -/
theorem MI.new (h : MI σ m f sv hs inp) {hs' : List (Nat → Int)} (e : τ (m + 3) = σ (m + 3)) (e4 : τ m 4 = σ m 4) (hin : fok τ (m + 4) 0 14 ∧ fl (τ (m + 4)) 0 = inp') (hr : τ (m + 1) = g) (hw : wfF g) (hh : histM τ m hs') (hst : τ m 8 = 0) : MI τ m g sv hs' inp' :=
  ⟨h.1, hin, ⟨hr, hw⟩, h.2.2.2.1.fr e4 e, hh, Or.inl hst, fun z => by omega⟩
theorem m_rem (h : MI σ m f sv hs inp) (h1 : ∀ τ, (∀ i, i ≠ m → i ≠ m + 2 → τ i = σ i) → (∀ j, j ≠ 2 → j ≠ 8 → τ m j = σ m j) → τ m 8 = 0 → histM τ m (pushH hs f) → Q τ) : vX7_remember m Q σ := by
  refine s7_remember h.1 h.hist ?_
  rw [h.row]
  exact h1
/-! addParadigm -/
def uPar (f g : Nat → Int) : Prop := g 0 = f 0 + 1 ∧ (∀ i, i ≠ 0 → ¬ (pa (f 0).toNat ≤ i ∧ i < pa (f 0).toNat + 80) → g i = f i) ∧ ∀ i, pa (f 0).toNat ≤ i → i < pa (f 0).toNat + 80 → g i = 0
theorem uPar.wf (hw : wfF f) (h6 : f 0 < 6) (u : uPar f g) : wfF g := by
  have h0 := hw.1
  obtain ⟨u1, u2, u3⟩ := u
  have hpa : ∀ p : Nat, (p : Int) < f 0 → pa p + 80 ≤ pa (f 0).toNat := fun p hp => by unfold pa; omega
  have hpl : pa (f 0).toNat + 80 ≤ 483 := by unfold pa; omega
  have hp3 : 3 ≤ pa (f 0).toNat := by unfold pa; omega
  refine wf_par hw ⟨by omega, by omega⟩ ⟨u2 1 (by decide) (by omega), u2 2 (by decide) (by omega)⟩ (fun p hp => ?_) (fun i a b => (u2 i (by omega) (by omega)).symm)
  by_cases q : (p : Int) < f 0
  · exact (hw.2.2.2.1 p q).on (fun i a b => (u2 i (by have : 3 ≤ pa p := by unfold pa; omega
                                                      omega) (by have := hpa p q; omega)).symm)
  · have e : p = (f 0).toNat := by omega
    subst e
    have z0 := u3 (pa (f 0).toNat) (by omega) (by omega)
    have z1 := u3 (pa (f 0).toNat + 1) (by omega) (by omega)
    exact ⟨by omega, by omega, fun z => by omega, fun z => by omega, fun c hc => by omega⟩
theorem uPar.rep {b : Nat} (hw : wfF f) (h6 : f 0 < 6) (hr : repS σ b f) (u : uPar f g) (e0 : τ b 0 = σ b 0 + 1) (e9 : τ b 9 = σ b 9) (e11 : τ b 11 = σ b 11) (e : ∀ i, b + 1 ≤ i → i ≤ b + 21 → τ i = σ i) : repS τ b g := by
  have h0 := hw.1
  obtain ⟨u1, u2, u3⟩ := u
  have hpa : ∀ p : Nat, (p : Int) < f 0 → pa p + 80 ≤ pa (f 0).toNat := fun p hp => by unfold pa; omega
  have hpl : pa (f 0).toNat + 80 ≤ 483 := by unfold pa; omega
  have hp3 : ∀ p, 3 ≤ pa p := fun p => by unfold pa; omega
  have hp0 := hp3 (f 0).toNat
  refine rep_par hw hr ⟨u2 1 (by decide) (by omega), u2 2 (by decide) (by omega)⟩ (fun i a c => (u2 i (by omega) (by omega)).symm) e9 e11 (fun i a c => e i (by omega) c) (by rw [e0, u1, hr.1.1]) (fun p hp => ⟨fun hp2 => ?_, fun hp2 => ?_⟩)
  · rw [u1] at hp2
    by_cases q : (p : Int) < f 0
    · have r := (hr.2.1 p hp).1 q
      refine (repP.on (g := g) (fun i a c => (u2 i (by have := hp3 p; omega) (by have := hpa p q; omega)).symm) (hw.2.2.2.1 p q) r).fr (by rw [e (b + 1) (by omega) (by omega)]) (by rw [e (b + 2) (by omega) (by omega)]) (by rw [e (b + 3) (by omega) (by omega)]) (fun _ t => t.fr (e _ (by omega) (by omega)) (e _ (by omega) (by omega))) (fun c _ t => ⟨by rw [e (b + 7) (by omega) (by omega)]; exact t.1, by rw [e (b + 8) (by omega) (by omega)]; exact t.2.1, t.2.2.1.fr (e _ (by omega) (by omega)) (e _ (by omega) (by omega)), t.2.2.2.fr (e _ (by omega) (by omega)) (e _ (by omega) (by omega))⟩)
    · have ep : p = (f 0).toNat := by omega
      obtain ⟨r1, r2, r3⟩ := (hr.2.1 p hp).2 (by omega)
      subst ep
      have z0 := u3 (pa (f 0).toNat) (by omega) (by omega)
      have z1 := u3 (pa (f 0).toNat + 1) (by omega) (by omega)
      have z2 := u3 (pa (f 0).toNat + 2) (by omega) (by omega)
      exact ⟨by rw [e (b + 1) (by omega) (by omega), r1, z0], by rw [e (b + 2) (by omega) (by omega), r2, z1], by rw [e (b + 3) (by omega) (by omega), r3, z2], fun z => by omega, fun c hc => by omega⟩
  · rw [u1] at hp2
    rw [e (b + 1) (by omega) (by omega), e (b + 2) (by omega) (by omega), e (b + 3) (by omega) (by omega)]
    exact (hr.2.1 p hp).2 (by omega)
theorem x_addParadigm (h : XI σ k f sv hs inp) (h1 : ¬ f 0 < 6 → xU σ k (eqF f) sv hs inp (X 2)) (h2 : f 0 < 6 → xU σ k (uPar f) sv (pushH hs f) inp (P (f 0))) : vX6_addParadigm k P X σ := by
  have e0 := h.st.1.1
  have w0 := h.wf.1
  unfold vX6_addParadigm
  rw [e0]
  refine ⟨zR_s (by omega) (by omega), fun z => x_push h (fun τ e hst hh => ?_), fun z => xU.same h (h1 z)⟩
  intro s3 q3
  have e3 : τ (k + 3) = σ (k + 3) := e _ (by omega) (by omega)
  have ne : ∀ i, i ≠ k + 3 → s3 i = τ i := fun i hi => by rw [q3, zu_ne hi]
  have v0 : s3 (k + 3) 0 = f 0 + 1 := by rw [q3, zu_eq, e3, e0]
  have r := h2 z s3 (fun g u => h.new (fun i hi => by rw [ne i (by omega), e i (by omega) (by omega)]) (by
    obtain ⟨a, b⟩ := h.2.1.1.fr (τ := s3) (by rw [ne _ (by omega), e _ (by omega) (by omega)]) (by rw [ne _ (by omega), e _ (by omega) (by omega)])
    exact ⟨a, by rw [b]; exact h.2.1.2⟩) (u.rep h.wf z h.st (by rw [v0, e0]) (by rw [q3, zu_j (by decide), e3]) (by rw [q3, zu_j (by decide), e3]) (fun i g1 g2 => by rw [ne i (by omega), e i (by omega) (by omega)])) (u.wf h.wf z) (hh.fr (fun i g1 g2 => ne i (by omega))) (by rw [ne _ (by omega)]; exact hst)) (fun i hi => by rw [ne i (by omega), e i (by omega) (by omega)])
  rw [v0, show f 0 + 1 - 1 = f 0 by omega]
  exact r
theorem m_addParadigm_45 {n0 : Nat} (hm : zk m = 6) (hn : n0 + 80 ≤ 1743) (h0 : 0 < n0) (h1 : ∀ τ, (∀ i, i ≠ m + 1 → τ i = σ i) → (∀ i, n0 ≤ i → i < n0 + 80 → τ (m + 1) i = 0) → τ (m + 1) 0 = σ (m + 1) 0 + 1 → (∀ i, i ≠ 0 → ¬ (n0 ≤ i ∧ i < n0 + 80) → τ (m + 1) i = σ (m + 1) i) → P (τ (m + 1) 0 - 1) τ) : ∀ (n j : Nat) (τ : Sto), j ≤ 80 → 80 - j < n → (∀ i, i ≠ m + 1 → τ i = σ i) → (∀ i, n0 ≤ i → i < n0 + j → τ (m + 1) i = 0) → (∀ i, ¬ (n0 ≤ i ∧ i < n0 + j) → τ (m + 1) i = σ (m + 1) i) → vX7_addParadigm_45 m P n (n0 : Int) (j : Int) τ := by
  intro n
  induction n with
  | zero => intro j τ a b; omega
  | succ n ih =>
    intro j τ hj hn2 ef ez eo
    have z := mz hm
    refine ⟨zR_s (by omega) (by omega), fun w => ⟨by rw [z.1]; decide, by rw [z.1]; decide, fun s4 e4 => ⟨by rw [z.1]; decide, ?_⟩⟩, fun w => ⟨by omega, by rw [z.1]; omega, fun s5 e5 => ?_⟩⟩
    · have ej : j = 80 := by omega
      subst ej
      rw [show Int.toNat 0 = 0 from rfl] at *
      subst e4
      exact h1 _ (fun i hi => by rw [zu_ne hi]; exact ef i hi) (fun i a b => by rw [zu_j (by omega)]; exact ez i a b) (by rw [zu_eq, eo 0 (by omega)]) (fun i hi hi2 => by rw [zu_j hi]; exact eo i hi2)
    · rw [show ((n0 : Int) + (j : Int)).toNat = n0 + j by omega] at e5
      subst e5
      have := ih (j + 1) (zu τ (m + 1) (n0 + j) 0) (by omega) (by omega) (fun i hi => by rw [zu_ne hi]; exact ef i hi) (fun i a b => by
        by_cases q : i = n0 + j
        · subst q; rw [zu_eq]
        · rw [zu_j q]; exact ez i a (by omega)) (fun i hi => by rw [zu_j (by omega)]; exact eo i (by omega))
      exact_mod_cast this
theorem m_addParadigm (h : MI σ m f sv hs inp) (h1 : ¬ f 0 < 6 → mU σ m (eqF f) sv hs inp 1 (P 0)) (h2 : f 0 < 6 → mU σ m (uPar f) sv (pushH hs f) inp 0 (P (f 0))) : vX7_addParadigm m P σ := by
  have z := mz h.1
  have w0 := h.wf.1
  unfold vX7_addParadigm
  rw [h.row, show Int.toNat 0 = 0 from rfl]
  refine ⟨by rw [z.1]; decide, zR_s (by omega) (by omega), fun q => m_go0 ?_, fun q => m_go1 (by decide) (mU.same h (h1 (by omega)))⟩
  have ht := h.thr 0
  refine m_rem ht (fun τ e em e8 hh => ⟨by rw [z.1]; decide, ?_⟩)
  have er : τ (m + 1) = f := by rw [e _ (by omega) (by omega)]; exact ht.row
  unfold vX7_paradigmAt
  try dsimp only
  rw [show Int.toNat 0 = 0 from rfl, er, show ((3 : Int) + 80 * f 0) = ((pa (f 0).toNat : Nat) : Int) by unfold pa; omega]
  refine ⟨81, ?_⟩
  have := m_addParadigm_45 (P := P) (σ := τ) (n0 := pa (f 0).toNat) h.1 (by unfold pa; omega) (by unfold pa; omega) (fun υ a1 a2 a3 a4 => by
    rw [er] at a3 a4
    rw [a3, show f 0 + 1 - 1 = f 0 by omega]
    have u : uPar f (υ (m + 1)) := ⟨a3, a4, a2⟩
    refine h2 (by omega) υ _ u (ht.new (by rw [a1 _ (by omega), e _ (by omega) (by omega)]) (by rw [a1 _ (by omega), em 4 (by decide) (by decide)]) (by
      obtain ⟨a, b⟩ := ht.2.1.1.fr (τ := υ) (by rw [a1 _ (by omega), e _ (by omega) (by omega)])
      exact ⟨a, by rw [b]; exact ht.2.1.2⟩) rfl (u.wf h.wf (by omega)) (hh.fr (by rw [a1 _ (by omega)]) (a1 _ (by omega))) (by rw [a1 _ (by omega)]; exact e8)) (fun i hi => by rw [a1 i (by omega), e i (by omega) (by omega), zu_ne (by omega)]) (by rw [a1 _ (by omega), em 7 (by decide) (by decide), zu_eq])) 81 0 τ (by decide) (by decide) (fun _ _ => rfl) (fun i a b => by omega) (fun _ _ => rfl)
  exact_mod_cast this
end
