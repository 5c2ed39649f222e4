/-! PURE: rows that agree in a piece -/
theorem fl_on {f g : Nat → Int} {q n : Nat} (h : ∀ i, q ≤ i → i ≤ q + n → f i = g i) (hl : (f q).toNat ≤ n) : fl g q = fl f q := by
  unfold fl
  rw [← h q (Nat.le_refl _) (by omega)]
  exact seg_ext (fun i hi => (h _ (by omega) (by omega)).symm)
theorem wd.on {f g : Nat → Int} {q n : Nat} {lo : Int} (h : ∀ i, q ≤ i → i ≤ q + n → f i = g i) (hw : wd f q lo n) : wd g q lo n ∧ fl g q = fl f q := by
  obtain ⟨h1, h2, h3⟩ := hw
  have e := h q (Nat.le_refl _) (by omega)
  have e2 := fl_on h (by omega)
  exact ⟨⟨by rw [← e]; exact h1, by rw [← e]; exact h2, by rw [e2]; exact h3⟩, e2⟩
theorem tw1.on {σ : Sto} {t j : Nat} {f g : Nat → Int} {q n : Nat} {lo : Int} (h : ∀ i, q ≤ i → i ≤ q + n → f i = g i) (hw : wd f q lo n) (ht : tw1 σ t j f q) : tw1 σ t j g q := ⟨by rw [← h q (Nat.le_refl _) (by omega)]; exact ht.1, by rw [(hw.on h).2]; exact ht.2⟩
theorem wfC.on {f g : Nat → Int} {p c : Nat} (h : ∀ i, ca p c ≤ i → i < ca p c + 12 → f i = g i) (hw : wfC f p c) : wfC g p c := by
  obtain ⟨h1, h2, h3, h4, h5⟩ := hw
  have e0 := h (ca p c) (by omega) (by omega)
  have e1 := h (ca p c + 1) (by omega) (by omega)
  exact ⟨by rw [← e0]; exact h1, by rw [← e0, ← e1]; exact h2, (wd.on (n := 4) (fun i a b => h i (by omega) (by omega)) h3).1, (wd.on (n := 4) (fun i a b => h i (by omega) (by omega)) h4).1, by rw [← e1]; exact h5⟩
theorem repC.on {σ : Sto} {b : Nat} {f g : Nat → Int} {p c : Nat} (h : ∀ i, ca p c ≤ i → i < ca p c + 12 → f i = g i) (hw : wfC f p c) (hr : repC σ b f p c) : repC σ b g p c := by
  obtain ⟨h1, h2, h3, h4, h5⟩ := hw
  exact ⟨by rw [← h (ca p c) (by omega) (by omega)]; exact hr.1, by rw [← h (ca p c + 1) (by omega) (by omega)]; exact hr.2.1, tw1.on (n := 4) (fun i a b => h i (by omega) (by omega)) h3 hr.2.2.1, tw1.on (n := 4) (fun i a b => h i (by omega) (by omega)) h4 hr.2.2.2⟩
theorem ca_in {p c : Nat} (hc : c < 6) : pa p + 8 ≤ ca p c ∧ ca p c + 12 ≤ pa p + 80 := by unfold ca pa; omega
theorem wfP.on {f g : Nat → Int} {p : Nat} (h : ∀ i, pa p ≤ i → i < pa p + 80 → f i = g i) (hw : wfP f p) : wfP g p := by
  obtain ⟨h1, h2, h3, h4, h5⟩ := hw
  have e0 := h (pa p) (by omega) (by omega)
  have e1 := h (pa p + 1) (by omega) (by omega)
  have e2 := h (pa p + 2) (by omega) (by omega)
  refine ⟨by rw [← e0]; exact h1, by rw [← e1]; exact h2, by rw [← e1, ← e2]; exact h3, by rw [← e1]; exact fun z => (wd.on (n := 4) (fun i a b => h i (by omega) (by omega)) (h4 z)).1, fun c hc => ?_⟩
  rw [← e0] at hc
  have := ca_in (p := p) (c := c) (by omega)
  exact (h5 c hc).on (fun i a b => h i (by omega) (by omega))
theorem repP.on {σ : Sto} {b : Nat} {f g : Nat → Int} {p : Nat} (h : ∀ i, pa p ≤ i → i < pa p + 80 → f i = g i) (hw : wfP f p) (hr : repP σ b f p) : repP σ b g p := by
  obtain ⟨h1, h2, h3, h4, h5⟩ := hw
  obtain ⟨q1, q2, q3, q4, q5⟩ := hr
  have e0 := h (pa p) (by omega) (by omega)
  have e1 := h (pa p + 1) (by omega) (by omega)
  have e2 := h (pa p + 2) (by omega) (by omega)
  refine ⟨by rw [← e0]; exact q1, by rw [← e1]; exact q2, by rw [← e2]; exact q3, by rw [← e1]; exact fun z => tw1.on (n := 4) (fun i a b => h i (by omega) (by omega)) (h4 z) (q4 z), fun c hc => ?_⟩
  rw [← e0] at hc
  have := ca_in (p := p) (c := c) (by omega)
  exact (q5 c hc).on (fun i a b => h i (by omega) (by omega)) (h5 c hc)
theorem ea_in {k c : Nat} (hc : c < 6) : la k + 12 ≤ ea k c ∧ ea k c + 15 ≤ la k + 102 := by unfold ea la; omega
theorem wfL.on {f g : Nat → Int} {k : Nat} (h : ∀ i, la k ≤ i → i < la k + 102 → f i = g i) (h0 : f 0 ≤ g 0) (hw : wfL f k) : wfL g k := by
  obtain ⟨h1, h2, h3⟩ := hw
  have e0 := h (la k) (by omega) (by omega)
  refine ⟨⟨by rw [← e0]; exact h1.1, by rw [← e0]; have := h1.2; omega⟩, (wd.on (n := 10) (fun i a b => h i (by omega) (by omega)) h2).1, fun c hc => ?_⟩
  have := ea_in (k := k) hc
  exact (wd.on (n := 14) (fun i a b => h i (by omega) (by omega)) (h3 c hc)).1
theorem repL.on {σ : Sto} {b : Nat} {f g : Nat → Int} {k : Nat} (h : ∀ i, la k ≤ i → i < la k + 102 → f i = g i) (hw : wfL f k) (hr : repL σ b f k) : repL σ b g k := by
  obtain ⟨h1, h2, h3⟩ := hw
  have e0 := h (la k) (by omega) (by omega)
  refine ⟨by rw [← e0, (wd.on (n := 10) (fun i a b => h i (by omega) (by omega)) h2).2]; exact hr.1, fun c hc => ?_⟩
  have := ea_in (k := k) hc
  exact tw1.on (n := 14) (fun i a b => h i (by omega) (by omega)) (h3 c hc) (hr.2 c hc)
/-- the words' part agrees -/
theorem wfW.on {f g : Nat → Int} {w : Nat} (h : ∀ i, wa w ≤ i → i < wa w + 15 → f i = g i) (hw : wd f (wa w) 2 14) : wd g (wa w) 2 14 ∧ fl g (wa w) = fl f (wa w) := wd.on (n := 14) (fun i a b => h i (by omega) (by omega)) hw
/-- a row that differs from f in the paradigms' part alone -/
theorem wf_par {f g : Nat → Int} (hw : wfF f) (h0 : f 0 ≤ g 0 ∧ g 0 ≤ 6) (h1 : g 1 = f 1 ∧ g 2 = f 2) (hp : ∀ p : Nat, (p : Int) < g 0 → wfP g p) (hr : ∀ i, 483 ≤ i → i < 1743 → f i = g i) : wfF g := by
  obtain ⟨w1, w2, w3, w4, w5, w6, w7⟩ := hw
  have ww : ∀ w : Nat, (w : Int) < f 1 → wd g (wa w) 2 14 ∧ fl g (wa w) = fl f (wa w) := fun w hw => wfW.on (fun i a b => hr i (by unfold wa at a; omega) (by unfold wa at b; omega)) (w5 w hw)
  refine ⟨⟨by omega, h0.2⟩, by rw [h1.1]; exact w2, by rw [h1.2]; exact w3, hp, fun w hw => (ww w (by rw [← h1.1]; exact hw)).1, fun w v hw hv e => ?_, fun k hk => ?_⟩
  · rw [h1.1] at hw hv
    rw [(ww w hw).2, (ww v hv).2] at e
    exact w6 w v hw hv e
  · rw [h1.2] at hk
    exact (w7 k hk).on (fun i a b => hr i (by unfold la at a; omega) (by unfold la at b; omega)) h0.1
theorem rep_par {σ τ : Sto} {b : Nat} {f g : Nat → Int} (hw : wfF f) (hr : repS σ b f) (h1 : g 1 = f 1 ∧ g 2 = f 2) (hrow : ∀ i, 483 ≤ i → i < 1743 → f i = g i) (e9 : τ b 9 = σ b 9) (e11 : τ b 11 = σ b 11) (e : ∀ i, b + 15 ≤ i → i ≤ b + 21 → τ i = σ i) (h0 : τ b 0 = g 0)
    (hp : ∀ p : Nat, p < 6 → ((p : Int) < g 0 → repP τ b g p) ∧ (g 0 ≤ (p : Int) → τ (b + 1) p = 0 ∧ τ (b + 2) p = 0 ∧ τ (b + 3) p = 0)) : repS τ b g := by
  obtain ⟨w1, w2, w3, w4, w5, w6, w7⟩ := hw
  obtain ⟨r1, r2, r3, r4⟩ := hr
  have e20 := e (b + 20) (by omega) (by omega)
  refine ⟨⟨h0, by rw [e9, h1.1]; exact r1.2.1, by rw [e11, h1.2]; exact r1.2.2⟩, hp, fun w hw => ?_, fun k hk => ⟨fun hk2 => ?_, fun hk2 c hc => by rw [e20]; exact (r4 k hk).2 (by rw [← h1.2]; exact hk2) c hc⟩⟩
  · rw [h1.1] at hw
    exact tw1.on (n := 14) (fun i a c => hrow i (by unfold wa at a; omega) (by unfold wa at c; omega)) (w5 w hw) ((r3 w hw).fr (e _ (by omega) (by omega)) (e _ (by omega) (by omega)))
  · rw [h1.2] at hk2
    have q := (r4 k hk).1 hk2
    have q' : repL τ b f k := ⟨by rw [e (b + 18) (by omega) (by omega)]; exact q.1, fun c hc => (q.2 c hc).fr (e _ (by omega) (by omega)) (e _ (by omega) (by omega))⟩
    exact q'.on (fun i a c => hrow i (by unfold la at a; omega) (by unfold la at c; omega)) (w7 k hk2)
/-- a paradigm's cells stay -/
theorem repP.fr {σ τ : Sto} {b : Nat} {f : Nat → Int} {p : Nat} (hr : repP σ b f p) (e1 : τ (b + 1) p = σ (b + 1) p) (e2 : τ (b + 2) p = σ (b + 2) p) (e3 : τ (b + 3) p = σ (b + 3) p) (e4 : f (pa p + 1) = 4 → tw1 σ (b + 4) p f (pa p + 3) → tw1 τ (b + 4) p f (pa p + 3)) (e : ∀ c : Nat, (c : Int) < f (pa p) → repC σ b f p c → repC τ b f p c) : repP τ b f p := by
  obtain ⟨q1, q2, q3, q4, q5⟩ := hr
  exact ⟨by rw [e1]; exact q1, by rw [e2]; exact q2, by rw [e3]; exact q3, fun z => e4 z (q4 z), fun c hc => e c hc (q5 c hc)⟩
