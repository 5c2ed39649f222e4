/-! PURE: one paradigm changes -/
/-- a word that slot j of the table t holds in σ it holds in τ -/
def tkeep (σ τ : Sto) (t j : Nat) : Prop := ∀ (f : Nat → Int) (q : Nat), f q ≤ zw t → tw1 σ t j f q → tw1 τ t j f q
theorem tkeep_fr {σ τ : Sto} {t j : Nat} (e1 : τ (t + 1) = σ (t + 1)) (e2 : τ (t + 2) = σ (t + 2)) : tkeep σ τ t j := fun _ _ _ h => h.fr e1 e2
theorem tkeep_sett {σ τ : Sto} {t j i : Nat} {l : List Int} (h : sett σ τ t j l) (hi : i ≠ j) : tkeep σ τ t i := fun f q hl ht => ⟨by rw [h.2.2.2.1 i hi]; exact ht.1, by rw [h.other hi (by rw [ht.1]; omega)]; exact ht.2⟩
theorem tkeep.trans {σ τ υ : Sto} {t j : Nat} (h : tkeep σ τ t j) (h2 : tkeep τ υ t j) : tkeep σ υ t j := fun f q a b => h2 f q a (h f q a b)
theorem upd1_wf {f g : Nat → Int} {p : Nat} (hw : wfF f) (hp : (p : Int) < f 0) (e : ∀ i, ¬ (pa p ≤ i ∧ i < pa p + 80) → g i = f i) (h : wfP g p) : wfF g := by
  have h0 := hw.1
  have hp3 : ∀ q, 3 ≤ pa q := fun q => by unfold pa; omega
  have p3 := hp3 p
  have hpl : pa p + 80 ≤ 483 := by unfold pa; omega
  have e0 := e 0 (by omega)
  refine wf_par hw ⟨by omega, by omega⟩ ⟨e 1 (by omega), e 2 (by omega)⟩ (fun q hq => ?_) (fun i a b => (e i (by omega)).symm)
  by_cases c : q = p
  · subst c; exact h
  · exact (hw.2.2.2.1 q (by omega)).on (fun i a b => (e i (by unfold pa at *; omega)).symm)
def pkeep (σ τ : Sto) (b q : Nat) : Prop := (τ (b + 1) q = σ (b + 1) q ∧ τ (b + 2) q = σ (b + 2) q ∧ τ (b + 3) q = σ (b + 3) q) ∧ tkeep σ τ (b + 4) q ∧ ∀ c, c < 6 → τ (b + 7) (6 * q + c) = σ (b + 7) (6 * q + c) ∧ τ (b + 8) (6 * q + c) = σ (b + 8) (6 * q + c) ∧ tkeep σ τ (b + 9) (6 * q + c) ∧ tkeep σ τ (b + 12) (6 * q + c)
theorem upd1_rep {σ τ : Sto} {b : Nat} {f g : Nat → Int} {p : Nat} (hb : zk b = 2) (hw : wfF f) (hr : repS σ b f) (hp : (p : Int) < f 0) (e : ∀ i, ¬ (pa p ≤ i ∧ i < pa p + 80) → g i = f i) (h : repP τ b g p) (eb : τ b = σ b) (eo : ∀ i, b + 15 ≤ i → i ≤ b + 21 → τ i = σ i) (ot : ∀ q, q < 6 → q ≠ p → pkeep σ τ b q) : repS τ b g := by
  have h0 := hw.1
  have s := st_w hb
  have hp3 : ∀ q, 3 ≤ pa q := fun q => by unfold pa; omega
  have p3 := hp3 p
  have hpl : pa p + 80 ≤ 483 := by unfold pa; omega
  have e0 := e 0 (by omega)
  refine rep_par hw hr ⟨e 1 (by omega), e 2 (by omega)⟩ (fun i a c => (e i (by omega)).symm) (by rw [eb]) (by rw [eb]) eo (by rw [eb, e0]; exact hr.1.1) (fun q hq => ⟨fun hq2 => ?_, fun hq2 => ?_⟩)
  · by_cases c : q = p
    · subst c; exact h
    · rw [e0] at hq2
      obtain ⟨⟨k1, k2, k3⟩, k4, k5⟩ := ot q hq c
      have r := (hr.2.1 q hq).1 hq2
      have wq := hw.2.2.2.1 q hq2
      have r2 : repP τ b f q := r.fr k1 k2 k3 (fun z t => k4 _ _ (by rw [s.2.1]; have := (wq.2.2.2.1 z).2.1; omega) t) (fun c hc t => by
        have c6 : c < 6 := by have := wq.1; omega
        obtain ⟨d1, d2, d3, d4⟩ := k5 c c6
        have wc := wq.2.2.2.2 c hc
        exact ⟨by rw [d1]; exact t.1, by rw [d2]; exact t.2.1, d3 _ _ (by rw [s.2.2.1]; have := wc.2.2.1.2.1; omega) t.2.2.1, d4 _ _ (by rw [s.2.2.2.1]; have := wc.2.2.2.1.2.1; omega) t.2.2.2⟩)
      exact r2.on (fun i a b => (e i (by unfold pa at *; omega)).symm) wq
  · rw [e0] at hq2
    have c : q ≠ p := by omega
    obtain ⟨⟨k1, k2, k3⟩, -, -⟩ := ot q hq c
    rw [k1, k2, k3]
    exact (hr.2.1 q hq).2 hq2
section
variable {σ τ : Sto} {k m : Nat} {f g : Nat → Int} {sv : Option (Nat → Int)} {hs : List (Nat → Int)} {inp inp' : List Int} {P : Int → Sto → Prop} {X : Nat → Sto → Prop} {Q : Sto → Prop} {x y w : Int}
/-! removeLastCell -/
def uRlc (f : Nat → Int) (p : Nat) (g : Nat → Int) : Prop := g (pa p) = f (pa p) - 1 ∧ ∀ i, i ≠ pa p → g i = f i
theorem uRlc.wp {p : Nat} (hw : wfP f p) (h1 : f (pa p) ≠ 0) (u : uRlc f p g) : wfP g p := by
  obtain ⟨u1, u2⟩ := u
  obtain ⟨a1, a2, a3, a4, a5⟩ := hw
  have e1 := u2 (pa p + 1) (by omega)
  have e2 := u2 (pa p + 2) (by omega)
  refine ⟨by omega, by omega, by rw [e1, e2]; exact a3, fun z => (wd.on (n := 4) (fun i a b => (u2 i (by omega)).symm) (a4 (by rw [← e1]; exact z))).1, fun c hc => ?_⟩
  have := ca_in (p := p) (c := c) (by omega)
  exact (a5 c (by omega)).on (fun i a b => (u2 i (by omega)).symm)
theorem uRlc.rp {b p : Nat} (hw : wfP f p) (h1 : f (pa p) ≠ 0) (u : uRlc f p g) (hr : repP σ b f p) (e1 : τ (b + 1) p = σ (b + 1) p - 1) (e : ∀ i, b + 2 ≤ i → i ≤ b + 14 → τ i = σ i) : repP τ b g p := by
  obtain ⟨u1, u2⟩ := u
  obtain ⟨a1, a2, a3, a4, a5⟩ := hw
  obtain ⟨q1, q2, q3, q4, q5⟩ := hr
  have f1 := u2 (pa p + 1) (by omega)
  have f2 := u2 (pa p + 2) (by omega)
  refine ⟨by rw [e1, u1, q1], by rw [f1, e _ (by omega) (by omega)]; exact q2, by rw [f2, e _ (by omega) (by omega)]; exact q3, fun z => ?_, fun c hc => ?_⟩
  · rw [f1] at z
    exact tw1.on (n := 4) (fun i a b => (u2 i (by omega)).symm) (a4 z) ((q4 z).fr (e _ (by omega) (by omega)) (e _ (by omega) (by omega)))
  · have ci := ca_in (p := p) (c := c) (by omega)
    have t := q5 c (by omega)
    have t2 : repC τ b f p c := ⟨by rw [e (b + 7) (by omega) (by omega)]; exact t.1, by rw [e (b + 8) (by omega) (by omega)]; exact t.2.1, t.2.2.1.fr (e _ (by omega) (by omega)) (e _ (by omega) (by omega)), t.2.2.2.fr (e _ (by omega) (by omega)) (e _ (by omega) (by omega))⟩
    exact t2.on (fun i a b => (u2 i (by omega)).symm) (a5 c (by omega))
theorem x_removeLastCell (h : XI σ k f sv hs inp) (hx : zR x) (h1 : ¬ isP f x → xU σ k (eqF f) sv hs inp (X 0)) (h2 : isP f x → f (pa x.toNat) = 0 → xU σ k (eqF f) sv hs inp (X 3)) (h3 : isP f x → f (pa x.toNat) ≠ 0 → xU σ k (uRlc f x.toNat) sv (pushH hs f) inp (P (f (pa x.toNat) - 1))) : vX6_removeLastCell k x P X σ := by
  refine x_checkParadigm h hx (fun q => xU.same h (h1 q)) (fun q => ?_)
  obtain ⟨p, rfl⟩ := isP_toNat q
  obtain ⟨p6, rp, wp⟩ := h.par q.2
  have n := xn h.1
  simp only [Int.toNat_natCast] at *
  have w1 := wp.1
  refine ⟨by omega, by omega, by rw [rp.1]; exact zR_s (by omega) (by omega), fun z => ?_, fun z => xU.same h (h2 q (by rw [← rp.1]; exact z))⟩
  rw [rp.1] at z
  refine x_push h (fun τ e hst hh => ⟨by omega, by omega, by omega, by omega, fun s4 q4 => ⟨by omega, by omega, ?_⟩⟩)
  have e4 : τ (k + 3 + 1) = σ (k + 3 + 1) := e _ (by omega) (by omega)
  have ne : ∀ i, i ≠ k + 3 + 1 → s4 i = τ i := fun i hi => by rw [q4, zu_ne hi]
  have v0 : s4 (k + 3 + 1) p = f (pa p) - 1 := by rw [q4, zu_eq, e4, rp.1]
  have ee : ∀ i, (i < k + 47 ∨ k + 268 < i) → i ≠ k + 269 → i ≠ k + 3 + 1 → s4 i = σ i := fun i a b c => by rw [ne i c]; exact e i a b
  have r := h3 q z s4 (fun g u => h.new (fun i hi => ee i (by omega) (by omega) (by omega)) (by
    obtain ⟨a, b⟩ := h.2.1.1.fr (τ := s4) (ee _ (by omega) (by omega) (by omega)) (ee _ (by omega) (by omega) (by omega))
    exact ⟨a, by rw [b]; exact h.2.1.2⟩) (upd1_rep (zf_5_state h.1) h.wf h.st q.2 (fun i hi => u.2 i (by omega)) (u.rp wp z rp (by rw [v0, rp.1]) (fun i g1 g2 => ee i (by omega) (by omega) (by omega))) (ee _ (by omega) (by omega) (by omega)) (fun i g1 g2 => ee i (by omega) (by omega) (by omega)) (fun j hj hne => ⟨⟨by rw [q4, zu_j hne, e4], by rw [ee _ (by omega) (by omega) (by omega)], by rw [ee _ (by omega) (by omega) (by omega)]⟩, tkeep_fr (ee _ (by omega) (by omega) (by omega)) (ee _ (by omega) (by omega) (by omega)), fun c hc => ⟨by rw [ee _ (by omega) (by omega) (by omega)], by rw [ee _ (by omega) (by omega) (by omega)], tkeep_fr (ee _ (by omega) (by omega) (by omega)) (ee _ (by omega) (by omega) (by omega)), tkeep_fr (ee _ (by omega) (by omega) (by omega)) (ee _ (by omega) (by omega) (by omega))⟩⟩)) (upd1_wf h.wf q.2 (fun i hi => u.2 i (by omega)) (u.wp wp z)) (hh.fr (fun i g1 g2 => ne i (by omega))) (by rw [ne _ (by omega)]; exact hst)) (fun i hi => ee i (by omega) (by omega) (by omega))
  rw [v0]
  exact r
/-- a changed row of the reference, behind remember -/
theorem MI.chg {τ υ : Sto} {g : Nat → Int} {c : Int} {U : (Nat → Int) → Prop} (h : MI σ m f sv hs inp) (e : ∀ i, i ≠ m → i ≠ m + 2 → τ i = zu σ m 7 c i) (em : ∀ j, j ≠ 2 → j ≠ 8 → τ m j = zu σ m 7 c m j) (e8 : τ m 8 = 0) (hh : histM τ m (pushH hs f)) (eu : ∀ i, i ≠ m + 1 → υ i = τ i) (hg : υ (m + 1) = g) (hu : U g) (hw : wfF g) (q : mU σ m U sv (pushH hs f) inp c Q) : Q υ := by
  have ht := h.thr c
  refine q υ g hu (ht.new (by rw [eu _ (by omega), e _ (by omega) (by omega)]) (by rw [eu _ (by omega), em 4 (by decide) (by decide)]) (by
    obtain ⟨a, b⟩ := ht.2.1.1.fr (τ := υ) (by rw [eu _ (by omega), e _ (by omega) (by omega)])
    exact ⟨a, by rw [b]; exact ht.2.1.2⟩) hg hw (hh.fr (by rw [eu _ (by omega)]) (eu _ (by omega))) (by rw [eu _ (by omega)]; exact e8)) (fun i hi => by rw [eu i (by omega), e i (by omega) (by omega), zu_ne (by omega)]) (by rw [eu _ (by omega), em 7 (by decide) (by decide), zu_eq])
theorem m_removeLastCell (h : MI σ m f sv hs inp) (hx : zR x) (h1 : ¬ isP f x → mU σ m (eqF f) sv hs inp 1 (P 0)) (h2 : isP f x → f (pa x.toNat) = 0 → mU σ m (eqF f) sv hs inp 2 (P 0)) (h3 : isP f x → f (pa x.toNat) ≠ 0 → mU σ m (uRlc f x.toNat) sv (pushH hs f) inp 0 (P (f (pa x.toNat) - 1))) : vX7_removeLastCell m x P σ := by
  refine m_isParadigm h hx ⟨b2i_R _, fun q => ?_, fun q => m_go1 (by decide) (mU.same h (h1 (of_decide_eq_false (b2i_0.mp q))))⟩
  have q := of_decide_eq_true (b2i_1.mp q)
  obtain ⟨p, rfl⟩ := isP_toNat q
  have z := mz h.1
  have w0 := h.wf.1
  have wp := h.wf.2.2.2.1 p q.2
  have w1 := wp.1
  simp only [Int.toNat_natCast] at *
  refine m_cellMany h.1 h.row (by omega) ⟨zR_s (by omega) (by omega), fun c => m_go0 ?_, fun c => m_go1 (by decide) (mU.same h (h2 q c))⟩
  refine m_rem (h.thr 0) (fun τ e em e8 hh => ?_)
  have er : τ (m + 1) = f := by rw [e _ (by omega) (by omega)]; exact (h.thr 0).row
  have hpa : pa p < 500 := by unfold pa; omega
  unfold vX7_paradigmAt
  try dsimp only
  rw [show ((3 : Int) + 80 * (p : Int)) = ((pa p : Nat) : Int) by unfold pa; omega, Int.toNat_natCast]
  refine ⟨by omega, by rw [z.1]; omega, by omega, by rw [z.1]; omega, fun s6 e6 => ?_⟩
  have g0 : s6 (m + 1) (pa p) = f (pa p) - 1 := by rw [e6, zu_eq, er]
  have u : uRlc f p (s6 (m + 1)) := ⟨g0, fun i hi => by rw [e6, zu_j hi, er]⟩
  refine m_cellMany (f := s6 (m + 1)) h.1 rfl (by omega) ?_
  rw [g0]
  exact MI.chg h e em e8 hh (fun i hi => by rw [e6, zu_ne hi]) rfl u (upd1_wf h.wf q.2 (fun i hi => u.2 i (by omega)) (u.wp wp c)) (h3 q c)
end
