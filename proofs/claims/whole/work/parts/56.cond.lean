/-! PURE: setCondition, inflect -/
def goodK (inp : List Int) (kd pr : Int) : Prop := (0 ≤ kd ∧ kd ≤ 4) ∧ ((kd = 3 ∧ 2 ≤ pr ∧ pr ≤ 10) ∨ (kd ≠ 3 ∧ pr = 0)) ∧ (kd = 4 → 1 ≤ inp.length ∧ inp.length ≤ 4)
def uCon (f : Nat → Int) (p : Nat) (kd pr : Int) (inp : List Int) (g : Nat → Int) : Prop := (g (pa p + 1) = kd ∧ g (pa p + 2) = pr) ∧ (kd = 4 → isWd g (pa p + 3) inp) ∧ ∀ i, ¬ (pa p + 1 ≤ i ∧ i < pa p + 8) → g i = f i
/-- the input behind it -/
def inK (kd : Int) (inp : List Int) : List Int := if kd = 4 then [] else inp
section
variable {σ τ : Sto} {k m : Nat} {f g : Nat → Int} {sv : Option (Nat → Int)} {hs : List (Nat → Int)} {inp inp' : List Int} {P : Int → Sto → Prop} {X : Nat → Sto → Prop} {Q : Sto → Prop} {x y w kd pr : Int}
theorem uCon.wp {p : Nat} (hw : wfP f p) (hg : goodK inp kd pr) (ha : ab inp) (u : uCon f p kd pr inp g) : wfP g p := by
  obtain ⟨⟨u1, u2⟩, u3, u4⟩ := u
  obtain ⟨a1, a2, a3, a4, a5⟩ := hw
  obtain ⟨g1, g2, g3⟩ := hg
  have e0 := u4 (pa p) (by omega)
  refine ⟨by omega, by omega, by omega, fun z => (u3 (by omega)).wd (by omega) (by have := g3 (by omega); omega) ha, fun c hc => ?_⟩
  have ci := ca_in (p := p) (c := c) (by omega)
  exact (a5 c (by omega)).on (fun i a b => (u4 i (by omega)).symm)
theorem uCon.rp {b p : Nat} (hw : wfP f p) (u : uCon f p kd pr inp g) (hr : repP σ b f p) (e1 : τ (b + 1) = σ (b + 1)) (e2 : τ (b + 2) p = kd) (e3 : τ (b + 3) p = pr) (e4 : kd = 4 → τ (b + 4 + 1) p = (inp.length : Int) ∧ tl τ (b + 4) p = inp) (e : ∀ i, b + 7 ≤ i → i ≤ b + 14 → τ i = σ i) : repP τ b g p := by
  obtain ⟨⟨u1, u2⟩, u3, u4⟩ := u
  obtain ⟨a1, a2, a3, a4, a5⟩ := hw
  obtain ⟨q1, q2, q3, q4, q5⟩ := hr
  have f0 := u4 (pa p) (by omega)
  refine ⟨by rw [e1, f0]; exact q1, by rw [e2, u1], by rw [e3, u2], fun z => ?_, fun c hc => ?_⟩
  · have z4 : kd = 4 := by omega
    exact tw1_of (e4 z4).1 (e4 z4).2 (u3 z4)
  · have ci := ca_in (p := p) (c := c) (by omega)
    have t := q5 c (by omega)
    have t2 : repC τ b f p c := ⟨by rw [e (b + 7) (by omega) (by omega)]; exact t.1, by rw [e (b + 8) (by omega) (by omega)]; exact t.2.1, t.2.2.1.fr (e _ (by omega) (by omega)) (e _ (by omega) (by omega)), t.2.2.2.fr (e _ (by omega) (by omega)) (e _ (by omega) (by omega))⟩
    exact t2.on (fun i a b => (u4 i (by omega)).symm) (a5 c (by omega))
theorem x_setCondition_59 {p : Nat} (h : XI σ k f sv hs inp) (hp : (p : Int) < f 0) (hkd : zR kd) (hg : goodK inp kd pr) (h3 : xU σ k (uCon f p kd pr inp) sv (pushH hs f) (inK kd inp) (P (f (pa p + 1)))) : vX6_setCondition_59 k P X (p : Int) kd pr σ := by
  obtain ⟨p6, rp, wp⟩ := h.par hp
  obtain ⟨l1, l2, l3⟩ := x_len h
  have n := xn h.1
  have hb := zf_5_state h.1
  have sw := st_w hb
  refine x_push h (fun τ e hst hh => ⟨by omega, by omega, by omega, by omega, fun s5 q5 => ⟨by omega, by omega, fun s6 q6 => ?_⟩⟩)
  rw [Int.toNat_natCast] at *
  have e5 : τ (k + 3 + 2) = σ (k + 3 + 2) := e _ (by omega) (by omega)
  rw [e5, rp.2.1]
  have ne : ∀ i, i ≠ k + 3 + 2 → i ≠ k + 3 + 3 → s6 i = τ i := fun i a b => by rw [q6, zu_ne b, q5, zu_ne a]
  have v2 : ∀ j, s6 (k + 3 + 2) j = if j = p then kd else σ (k + 3 + 2) j := fun j => by
    rw [q6, zu_ne (by omega), q5]
    by_cases a : j = p
    · subst a; rw [zu_eq, if_pos rfl]
    · rw [zu_j a, if_neg a, e5]
  have v3 : ∀ j, s6 (k + 3 + 3) j = if j = p then pr else σ (k + 3 + 3) j := fun j => by
    rw [q6]
    by_cases a : j = p
    · subst a; rw [zu_eq, if_pos rfl]
    · rw [zu_j a, if_neg a, q5, zu_ne (by omega), e _ (by omega) (by omega)]
  have ee6 : ∀ i, (i < k + 47 ∨ k + 268 < i) → i ≠ k + 269 → i ≠ k + 3 + 2 → i ≠ k + 3 + 3 → s6 i = σ i := fun i a b c d => by rw [ne i c d]; exact e i a b
  -- the end, wherever the input went
  have fin : ∀ (s8 : Sto), (∀ i, i ≠ k + 1 → i ≠ k + 1 + 1 → i ≠ k + 3 + 4 + 1 → i ≠ k + 3 + 4 + 2 → s8 i = s6 i) → (wok s8 (k + 1) 14 ∧ wl s8 (k + 1) = inK kd inp) → (kd = 4 → s8 (k + 3 + 4 + 1) p = (inp.length : Int) ∧ tl s8 (k + 3 + 4) p = inp) → (∀ j, j ≠ p → tkeep s6 s8 (k + 3 + 4) j) → P (f (pa p + 1)) s8 := by
    intro s8 ne8 hin ht hk
    have ee : ∀ i, (i < k + 47 ∨ k + 268 < i) → i ≠ k + 269 → i ≠ k + 3 + 2 → i ≠ k + 3 + 3 → i ≠ k + 1 → i ≠ k + 1 + 1 → i ≠ k + 3 + 4 + 1 → i ≠ k + 3 + 4 + 2 → s8 i = σ i := fun i a b c d a1 a2 a3 a4 => by rw [ne8 i a1 a2 a3 a4]; exact ee6 i a b c d
    have w2 : s8 (k + 3 + 2) = s6 (k + 3 + 2) := ne8 _ (by omega) (by omega) (by omega) (by omega)
    have w3 : s8 (k + 3 + 3) = s6 (k + 3 + 3) := ne8 _ (by omega) (by omega) (by omega) (by omega)
    have kp : ∀ j, tkeep σ s6 (k + 3 + 4) j := fun j => tkeep_fr (ee6 _ (by omega) (by omega) (by omega) (by omega)) (ee6 _ (by omega) (by omega) (by omega) (by omega))
    refine h3 s8 (fun g u => h.new (fun i hi => ee i (by omega) (by omega) (by omega) (by omega) (by omega) (by omega) (by omega) (by omega)) hin (upd1_rep hb h.wf h.st hp (fun i hi => u.2.2 i (by omega)) (u.rp wp rp (ee _ (by omega) (by omega) (by omega) (by omega) (by omega) (by omega) (by omega) (by omega)) (by rw [w2, v2, if_pos rfl]) (by rw [w3, v3, if_pos rfl]) ht (fun i g1 g2 => ee i (by omega) (by omega) (by omega) (by omega) (by omega) (by omega) (by omega) (by omega))) (ee _ (by omega) (by omega) (by omega) (by omega) (by omega) (by omega) (by omega) (by omega)) (fun i g1 g2 => ee i (by omega) (by omega) (by omega) (by omega) (by omega) (by omega) (by omega) (by omega)) (fun j hj hne => ⟨⟨by rw [ee _ (by omega) (by omega) (by omega) (by omega) (by omega) (by omega) (by omega) (by omega)], by rw [w2, v2, if_neg hne], by rw [w3, v3, if_neg hne]⟩, (kp j).trans (hk j hne), fun d hd => ⟨by rw [ee _ (by omega) (by omega) (by omega) (by omega) (by omega) (by omega) (by omega) (by omega)], by rw [ee _ (by omega) (by omega) (by omega) (by omega) (by omega) (by omega) (by omega) (by omega)], tkeep_fr (ee _ (by omega) (by omega) (by omega) (by omega) (by omega) (by omega) (by omega) (by omega)) (ee _ (by omega) (by omega) (by omega) (by omega) (by omega) (by omega) (by omega) (by omega)), tkeep_fr (ee _ (by omega) (by omega) (by omega) (by omega) (by omega) (by omega) (by omega) (by omega)) (ee _ (by omega) (by omega) (by omega) (by omega) (by omega) (by omega) (by omega) (by omega))⟩⟩)) (upd1_wf h.wf hp (fun i hi => u.2.2 i (by omega)) (u.wp wp hg l3)) (hh.fr (fun i g1 g2 => by rw [ne8 i (by omega) (by omega) (by omega) (by omega), ne i (by omega) (by omega)])) (by rw [ne8 _ (by omega) (by omega) (by omega) (by omega), ne _ (by omega) (by omega)]; exact hst)) (fun i hi => ee i (by omega) (by omega) (by omega) (by omega) (by omega) (by omega) (by omega) (by omega))
  have in6 : wok s6 (k + 1) 14 ∧ wl s6 (k + 1) = inp := by
    obtain ⟨a, b⟩ := h.2.1.1.fr (τ := s6) (ee6 _ (by omega) (by omega) (by omega) (by omega)) (ee6 _ (by omega) (by omega) (by omega) (by omega))
    exact ⟨a, by rw [b]; exact h.2.1.2⟩
  have len6 : s6 (k + 1) 1 = (inp.length : Int) := by rw [← wl_len in6.1, in6.2]
  refine ⟨hkd, fun z => ?_, fun z => ?_⟩
  · exact fin s6 (fun _ _ _ _ _ => rfl) (by unfold inK; rw [if_neg z]; exact in6) (fun a => absurd a z) (fun j _ => tkeep_fr rfl rfl)
  · have g4 := hg.2.2 z
    rw [len6]
    have := s_put (t := k + 3 + 4) (j := p) (w := k + 1) (fm := 0) (to := inp.length) (σ := s6) (P := fun s7 => vX4_clear (k + 1) (fun s8 => vX6_setCondition_144 k P X (f (pa p + 1)) s8) s7) sw.1.1 (by rw [Nat.add_assoc, st_n hb 5 (by decide)]; exact p6) in6.1 (by omega) (by rw [len6]; omega) (by rw [sw.2.1]; omega) ⟨by omega, by omega, by omega, by omega⟩ (fun s7 h7 => s_clear (fun s8 h8 => by
      rw [in6.2, List.drop_zero, Nat.sub_zero, List.take_length] at h7
      have e8 : ∀ i, i ≠ k + 1 → i ≠ k + 1 + 1 → s8 i = s7 i := fun i a b => h8.1 i (by simp <;> omega)
      refine fin s8 (fun i a b c d => by rw [e8 i a b, h7.1 i (by simp <;> omega)]) ⟨h8.ok h.2.1.1.1 (by simp) (by decide) ab_nil, by unfold inK; rw [if_pos z]; exact h8.2.1⟩ (fun _ => ⟨by rw [e8 _ (by omega) (by omega)]; exact h7.2.1, ?_⟩) (fun j hj => (tkeep_sett h7 hj).trans (tkeep_fr (e8 _ (by omega) (by omega)) (e8 _ (by omega) (by omega))))
      unfold tl
      rw [e8 _ (by omega) (by omega), e8 _ (by omega) (by omega)]
      exact h7.2.2.1))
    exact_mod_cast this
theorem x_setCondition (h : XI σ k f sv hs inp) (hx : zR x) (hk : zR kd) (hq : zR pr) (h1 : ¬ isP f x → xU σ k (eqF f) sv hs inp (X 0)) (h2 : isP f x → ¬ goodK inp kd pr → xU σ k (eqF f) sv hs inp (X 1)) (h3 : isP f x → goodK inp kd pr → xU σ k (uCon f x.toNat kd pr inp) sv (pushH hs f) (inK kd inp) (P (f (pa x.toNat + 1)))) : vX6_setCondition k x kd pr P X σ := by
  refine x_checkParadigm h hx (fun q => xU.same h (h1 q)) (fun q => ?_)
  obtain ⟨p, rfl⟩ := isP_toNat q
  obtain ⟨l1, l2, l3⟩ := x_len h
  simp only [Int.toNat_natCast] at *
  have bad : ¬ goodK inp kd pr → X 1 σ := fun b => xU.same h (h2 q b)
  have zero : ¬ goodK inp kd pr → zR 0 ∧ ((¬ (0 : Int) = 0) → zR kd ∧ ((¬ kd = 4) → vX6_setCondition_59 k P X (p : Int) kd pr σ) ∧ ((kd = 4) → zR (σ (k + 1) 1) ∧ (((σ (k + 1) 1) = 0) → vX6_setCondition_49 k P X σ) ∧ ((¬ ((σ (k + 1) 1) = 0)) → zR (σ (k + 1) 1) ∧ (((σ (k + 1) 1) ≤ 4) → vX6_setCondition_59 k P X (p : Int) kd pr σ) ∧ ((¬ ((σ (k + 1) 1) ≤ 4)) → vX6_setCondition_49 k P X σ)))) ∧ (((0 : Int) = 0) → X 1 σ) := fun b => ⟨zR_0, fun z => absurd rfl z, fun _ => bad b⟩
  have one : ((0 ≤ kd ∧ kd ≤ 4) ∧ ((kd = 3 ∧ 2 ≤ pr ∧ pr ≤ 10) ∨ (kd ≠ 3 ∧ pr = 0))) → zR 1 ∧ ((¬ (1 : Int) = 0) → zR kd ∧ ((¬ kd = 4) → vX6_setCondition_59 k P X (p : Int) kd pr σ) ∧ ((kd = 4) → zR (σ (k + 1) 1) ∧ (((σ (k + 1) 1) = 0) → vX6_setCondition_49 k P X σ) ∧ ((¬ ((σ (k + 1) 1) = 0)) → zR (σ (k + 1) 1) ∧ (((σ (k + 1) 1) ≤ 4) → vX6_setCondition_59 k P X (p : Int) kd pr σ) ∧ ((¬ ((σ (k + 1) 1) ≤ 4)) → vX6_setCondition_49 k P X σ)))) ∧ (((1 : Int) = 0) → X 1 σ) := fun c => by
    have gd : (kd = 4 → 1 ≤ inp.length ∧ inp.length ≤ 4) → vX6_setCondition_59 k P X (p : Int) kd pr σ := fun d => x_setCondition_59 h q.2 hk ⟨c.1, c.2, d⟩ (h3 q ⟨c.1, c.2, d⟩)
    rw [l1]
    refine ⟨zRl rfl, fun _ => ⟨hk, fun z => gd (fun a => absurd a z), fun z => ⟨zR_s (by omega) (by omega), fun z2 => bad (fun g => by have := g.2.2 z; omega), fun z2 => ⟨zR_s (by omega) (by omega), fun z3 => gd (fun _ => by omega), fun z3 => bad (fun g => by have := g.2.2 z; omega)⟩⟩⟩, fun z => absurd z (by decide)⟩
  refine ⟨hk, fun z => zero (fun g => by have := g.1; omega), fun z => ⟨hk, fun z2 => ⟨hk, fun z3 => ⟨hq, fun z4 => ⟨Or.inl rfl, zero (fun g => by have := g.2.1; omega)⟩, fun z4 => ⟨Or.inr rfl, one ⟨by omega, by omega⟩⟩⟩, fun z3 => ⟨hq, fun z4 => ⟨Or.inl rfl, zero (fun g => by have := g.2.1; omega)⟩, fun z4 => ⟨hq, fun z5 => ⟨Or.inl rfl, zero (fun g => by have := g.2.1; omega)⟩, fun z5 => ⟨Or.inr rfl, one ⟨by omega, by omega⟩⟩⟩⟩⟩, fun z2 => zero (fun g => by have := g.1; omega)⟩⟩
theorem m_setCondition_90 {p : Nat} (h : MI σ m f sv hs inp) (hp : (p : Int) < f 0) (hkd : zR kd) (hg : goodK inp kd pr) (h3 : mU σ m (uCon f p kd pr inp) sv (pushH hs f) (inK kd inp) 0 (P (f (pa p + 1)))) : vX7_setCondition_90 m P (p : Int) kd pr 0 σ := by
  have z := mz h.1
  have w0 := h.wf.1
  have wp := h.wf.2.2.2.1 p hp
  obtain ⟨l1, l2, l3⟩ := m_len h
  refine m_go0 (m_rem (h.thr 0) (fun τ e em e8 hh => ?_))
  have er : τ (m + 1) = f := by rw [e _ (by omega) (by omega)]; exact (h.thr 0).row
  have hpl : pa p + 80 ≤ 483 := by unfold pa; omega
  have hp3 : 3 ≤ pa p := by unfold pa; omega
  unfold vX7_paradigmAt
  try dsimp only
  rw [show ((3 : Int) + 80 * (p : Int)) = ((pa p : Nat) : Int) by unfold pa; omega, show (((pa p : Nat) : Int) + 1).toNat = pa p + 1 by omega, show (((pa p : Nat) : Int) + 2).toNat = pa p + 2 by omega, show (((pa p : Nat) : Int) + 3).toNat = pa p + 3 by omega, er]
  refine ⟨by omega, by rw [z.1]; omega, by omega, by rw [z.1]; omega, fun s6 q6 => ⟨by omega, by rw [z.1]; omega, fun s7 q7 => ⟨by omega, by rw [z.1]; omega, fun s8 q8 => ⟨hkd, fun a => ?_, fun a => ?_⟩⟩⟩⟩
  · have ne : ∀ i, i ≠ m + 1 → s8 i = τ i := fun i hi => by rw [q8, zu_ne hi, q7, zu_ne hi, q6, zu_ne hi]
    have u : uCon f p kd pr inp (s8 (m + 1)) := ⟨⟨by rw [q8, zu_j (by omega), q7, zu_j (by omega), q6, zu_eq], by rw [q8, zu_j (by omega), q7, zu_eq]⟩, fun b => absurd b a, fun i hi => by rw [q8, zu_j (by omega), q7, zu_j (by omega), q6, zu_j (by omega), er]⟩
    have hi : inK kd inp = inp := by unfold inK; rw [if_neg a]
    rw [hi] at h3
    exact MI.chg h e em e8 hh ne rfl u (upd1_wf h.wf hp (fun i hi => u.2.2 i (by omega)) (u.wp wp hg l3)) h3
  · have g4 := hg.2.2 a
    have ne8 : ∀ i, i ≠ m + 1 → s8 i = τ i := fun i hi => by rw [q8, zu_ne hi, q7, zu_ne hi, q6, zu_ne hi]
    have ein : s8 (m + 4) = σ (m + 4) := by rw [ne8 _ (by omega), e _ (by omega) (by omega), zu_ne (by omega)]
    obtain ⟨fk, fe⟩ := h.2.1.1.fr (τ := s8) ein
    have fk4 : fok s8 (m + 4) 0 4 := ⟨fk.1, fk.2.1, by rw [ein, l1]; omega, by decide, by rw [z.2.2.2.1]; decide, fk.2.2.2.2.2⟩
    have := s7_copy (q' := pa p + 3) (P := fun s9 => 0 < (zn (m + 4) : Int) ∧ (∀ s10 : Sto, s10 = zu s9 (m + 4) (Int.toNat 0) 0 → (vX7_setCondition_181 m P (f (pa p + 1)) s10))) fk4 (zf_6_s h.1) (by rw [z.1]; omega) (Or.inl (by omega)) (by
      refine ⟨by rw [z.2.2.2.1]; decide, fun s10 q10 => ?_⟩
      have sq := zc_setq (k' := m + 1) (q' := pa p + 3) (N := 4) fk4 (by omega) (Or.inl (by omega))
      rw [fe, h.2.1.2] at sq
      generalize zc s8 (m + 4) 0 (m + 1) (pa p + 3) ((s8 (m + 4) 0).toNat + 1) = s9 at sq q10
      rw [show Int.toNat 0 = 0 from rfl] at q10
      have eg : s10 (m + 1) = s9 (m + 1) := by rw [q10, zu_ne (by omega)]
      have o : ∀ i, ¬ (pa p + 3 ≤ i ∧ i ≤ pa p + 3 + 4) → s10 (m + 1) i = s8 (m + 1) i := fun i hi => by rw [eg]; exact sq.2.2.2 i (by omega)
      have u : uCon f p kd pr inp (s10 (m + 1)) := ⟨⟨by rw [o _ (by omega), q8, zu_j (by omega), q7, zu_j (by omega), q6, zu_eq], by rw [o _ (by omega), q8, zu_j (by omega), q7, zu_eq]⟩, fun b => by rw [eg]; exact isWd_setq sq, fun i hi => by rw [o _ (by omega), q8, zu_j (by omega), q7, zu_j (by omega), q6, zu_j (by omega), er]⟩
      have hi : inK kd inp = [] := by unfold inK; rw [if_pos a]
      rw [hi] at h3
      exact MI.chgI h e em e8 hh (fun i b1 b2 => by rw [q10, zu_ne b2, sq.keep b1, ne8 i b1]) (by rw [q10, zu_eq]) rfl u (upd1_wf h.wf hp (fun i hi => u.2.2 i (by omega)) (u.wp wp hg l3)) h3)
    exact_mod_cast this
theorem m_setCondition (h : MI σ m f sv hs inp) (hx : zR x) (hk : zR kd) (hq : zR pr) (h1 : ¬ isP f x → mU σ m (eqF f) sv hs inp 1 (P 0)) (h2 : isP f x → ¬ goodK inp kd pr → mU σ m (eqF f) sv hs inp 2 (P 0)) (h3 : isP f x → goodK inp kd pr → mU σ m (uCon f x.toNat kd pr inp) sv (pushH hs f) (inK kd inp) 0 (P (f (pa x.toNat + 1)))) : vX7_setCondition m x kd pr P σ := by
  obtain ⟨l1, l2, l3⟩ := m_len h
  have z := mz h.1
  have bad : ¬ goodK inp kd pr → vX7_setCondition_65 m P x kd pr 0 σ := fun b => by
    refine m_isParadigm h hx ⟨b2i_R _, fun q => ⟨zR_0, fun a => absurd rfl a, fun _ => m_go1 (by decide) (mU.same h (h2 (of_decide_eq_true (b2i_1.mp q)) b))⟩, fun q => m_go1 (by decide) (mU.same h (h1 (of_decide_eq_false (b2i_0.mp q))))⟩
  have gd : goodK inp kd pr → vX7_setCondition_65 m P x kd pr 1 σ := fun g => by
    refine m_isParadigm h hx ⟨b2i_R _, fun q => ⟨zRl rfl, fun _ => ?_, fun a => absurd a (by decide)⟩, fun q => m_go1 (by decide) (mU.same h (h1 (of_decide_eq_false (b2i_0.mp q))))⟩
    have q := of_decide_eq_true (b2i_1.mp q)
    obtain ⟨p, rfl⟩ := isP_toNat q
    have r := h3 q g
    rw [Int.toNat_natCast] at r
    exact m_setCondition_90 h q.2 hk g r
  have k38 : (0 ≤ kd ∧ kd ≤ 4) → ((kd = 3 ∧ 2 ≤ pr ∧ pr ≤ 10) ∨ (kd ≠ 3 ∧ pr = 0)) → vX7_setCondition_38 m P x kd pr σ := fun a b => by
    unfold vX7_setCondition_38
    rw [show Int.toNat 0 = 0 from rfl, l1]
    refine ⟨hk, fun c => gd ⟨a, b, fun d => absurd d c⟩, fun c => ⟨by rw [z.2.2.2.1]; decide, zR_s (by omega) (by omega), s7_in (zQ_s (by omega) (by omega)) (zQ_s (by decide) (by decide)) (zQ_s (by decide) (by decide)) ⟨b2i_R _, fun d => bad (fun g => (of_decide_eq_false (b2i_0.mp d)) (by have := g.2.2 c; omega)), fun d => gd ⟨a, b, fun _ => by have := of_decide_eq_true (b2i_1.mp d); omega⟩⟩⟩⟩
  refine ⟨hk, s7_in (zQ_R hk) (zQ_s (by decide) (by decide)) (zQ_s (by decide) (by decide)) ⟨b2i_R _, fun a => bad (fun g => (of_decide_eq_false (b2i_0.mp a)) g.1), fun a => ⟨hk, fun b => ⟨hq, fun c => bad (fun g => by have := g.2.1; omega), fun c => k38 (of_decide_eq_true (b2i_1.mp a)) (Or.inr ⟨b, c⟩)⟩, fun b => ⟨hq, s7_in (zQ_R hq) (zQ_s (by decide) (by decide)) (zQ_s (by decide) (by decide)) ⟨b2i_R _, fun c => bad (fun g => (of_decide_eq_false (b2i_0.mp c)) (by have := g.2.1; omega)), fun c => k38 (of_decide_eq_true (b2i_1.mp a)) (Or.inl ⟨b, of_decide_eq_true (b2i_1.mp c)⟩)⟩⟩⟩⟩⟩
/-! inflect -/
/-- the input becomes the form that was built -/
theorem x_takeBuilt {l : List Int} (h : XI σ k f sv hs inp) (hok : wok σ (k + 281) 15) (hl : wl σ (k + 281) = l) (h1 : ¬ l.length ≤ 14 → X 3 σ) (h2 : l.length ≤ 14 → xU σ k (eqF f) sv hs l (P (l.length : Int))) : vX6_takeBuiltForm k 1 P X σ := by
  have e := wl_len hok
  rw [hl] at e
  refine ⟨zRl rfl, fun a => absurd a (by decide), fun _ => ⟨by rw [← e]; exact zR_s (by omega) (by have := hok.2.2.1; omega), fun a => ?_, fun a => h1 (by omega)⟩⟩
  refine s_become h.2.1.1.1 hok (by omega) (by omega) (by omega) (fun τ hτ => ?_)
  rw [hl] at hτ
  have q := h.input hτ (by omega) (by rw [← hl]; exact hok.2.2.2.2)
  rw [hτ.2.2]
  exact h2 (by omega) τ (fun g e => e ▸ q.1) q.2
theorem x_takeBuilt0 (h1 : X 3 σ) : vX6_takeBuiltForm k 0 P X σ := ⟨zR_0, fun _ => h1, fun a => absurd rfl a⟩
theorem x_inflect (h : XI σ k f sv hs inp) (hx : zR x) (hy : zR y) (h1 : ¬ isC f x y → xU σ k (eqF f) sv hs inp (X 0)) (h2 : isC f x y → ¬ (2 ≤ inp.length ∧ inp.length ≤ 10) → xU σ k (eqF f) sv hs inp (X 2)) (h3 : isC f x y → (2 ≤ inp.length ∧ inp.length ≤ 10) → bldF f x.toNat y.toNat inp = none → xU σ k (eqF f) sv hs inp (X 3)) (h4 : ∀ l, isC f x y → (2 ≤ inp.length ∧ inp.length ≤ 10) → bldF f x.toNat y.toNat inp = some l → ¬ l.length ≤ 14 → xU σ k (eqF f) sv hs inp (X 3)) (h5 : ∀ l, isC f x y → (2 ≤ inp.length ∧ inp.length ≤ 10) → bldF f x.toNat y.toNat inp = some l → l.length ≤ 14 → xU σ k (eqF f) sv hs l (P (l.length : Int))) : vX6_inflect k x y P X σ := by
  refine x_checkCell h hx hy (fun q => xU.same h (h1 q)) (fun q => ?_)
  obtain ⟨p, rfl⟩ := isP_toNat q.1
  obtain ⟨c, rfl⟩ : ∃ c : Nat, y = (c : Int) := ⟨y.toNat, by omega⟩
  simp only [Int.toNat_natCast] at *
  refine s_isStem h.2.1.1 ?_
  rw [h.2.1.2]
  refine ⟨b2i_R _, fun a => ?_, fun a => xU.same h (h2 q (of_decide_eq_false (b2i_0.mp a)))⟩
  have a := of_decide_eq_true (b2i_1.mp a)
  unfold vX6_cellSlot
  try dsimp only
  have es : (p : Int) * 6 + (c : Int) = ((6 * p + c : Nat) : Int) := by omega
  rw [es]
  have hc := q.2.2
  rw [Int.toNat_natCast] at hc
  have i10 : wok σ (k + 1) 10 := ⟨h.2.1.1.1, h.2.1.1.2.1, by rw [(x_len h).1]; omega, by decide, h.2.1.1.2.2.2.2⟩
  refine sx_build (zf_5_state h.1) h.st h.wf q.1.2 hc i10 (zf_5_form h.1) (by omega) (by omega) ?_ ?_
  · rw [h.2.1.2]
    intro e τ ht
    have hX : XI τ k f sv hs inp := h.fr (fun i g1 g2 => ht i (by simp <;> omega))
    exact x_takeBuilt0 (h3 q a e τ (fun g e => e ▸ hX) (fun i hi => ht i (by simp <;> omega)))
  · rw [h.2.1.2]
    intro l τ e ht hok
    have hX : XI τ k f sv hs inp := h.fr (fun i g1 g2 => ht.1 i (by simp <;> omega))
    have fF : fX σ τ k := fun i hi => ht.1 i (by simp <;> omega)
    exact x_takeBuilt hX hok ht.2.1 (fun b => h4 l q a e b τ (fun g e => e ▸ hX) fF) (fun b υ u1 u2 => h5 l q a e b υ u1 (fF.trans u2))
theorem m_takeBuilt {l : List Int} {s : Sto} (h : MI s m f sv hs inp) (e7 : s m 7 = 0) (hok : fok s (m + 5) 0 15) (hl : fl (s (m + 5)) 0 = l) (h2 : l.length ≤ 14 → mU s m (eqF f) sv hs l 0 (P (l.length : Int))) (hle : l.length ≤ 14) : vX7_copy (m + 5) 0 (m + 4) 0 (fun s6 => 0 < (zn (m + 4) : Int) ∧ (P (s6 (m + 4) (Int.toNat 0)) s6)) s := by
  have z := mz h.1
  have e := fl_len hok
  rw [hl] at e
  have f14 : fok s (m + 5) 0 14 := ⟨hok.1, hok.2.1, by omega, by decide, by rw [z.2.2.2.2.1]; decide, hok.2.2.2.2.2⟩
  have := s7_copy (q' := 0) (P := fun s6 => 0 < (zn (m + 4) : Int) ∧ (P (s6 (m + 4) (Int.toNat 0)) s6)) f14 (zf_6_input h.1) (by rw [z.2.2.2.1]; decide) (Or.inl (by omega)) (by
    have sq := zc_setq (k' := m + 4) (q' := 0) (N := 16) f14 (by omega) (Or.inl (by omega))
    generalize zc s (m + 5) 0 (m + 4) 0 ((s (m + 5) 0).toNat + 1) = s9 at sq
    rw [hl] at sq
    refine ⟨by rw [z.2.2.2.1]; decide, ?_⟩
    have q := h.input sq hle (by rw [← hl]; exact hok.2.2.2.2.2)
    rw [show Int.toNat 0 = 0 from rfl, sq.2.1]
    exact h2 hle s9 f rfl q.1 q.2 (by rw [sq.keep (by omega)]; exact e7))
  exact_mod_cast this
theorem zu_zu {c d : Int} : zu (zu σ m 7 c) m 7 d = zu σ m 7 d := by
  funext i j
  by_cases e : i = m
  · subst e
    by_cases e2 : j = 7
    · subst e2; rw [zu_eq, zu_eq]
    · rw [zu_j e2, zu_j e2, zu_j e2]
  · rw [zu_ne e, zu_ne e, zu_ne e]
theorem m_inflect (h : MI σ m f sv hs inp) (hx : zR x) (hy : zR y) (h1 : ¬ isC f x y → mU σ m (eqF f) sv hs inp 1 (P 0)) (h2 : isC f x y → ¬ (2 ≤ inp.length ∧ inp.length ≤ 10) → mU σ m (eqF f) sv hs inp 2 (P 0)) (h3 : isC f x y → (2 ≤ inp.length ∧ inp.length ≤ 10) → bldF f x.toNat y.toNat inp = none → mU σ m (eqF f) sv hs inp 3 (P 0)) (h4 : ∀ l, isC f x y → (2 ≤ inp.length ∧ inp.length ≤ 10) → bldF f x.toNat y.toNat inp = some l → ¬ l.length ≤ 14 → mU σ m (eqF f) sv hs inp 3 (P 0)) (h5 : ∀ l, isC f x y → (2 ≤ inp.length ∧ inp.length ≤ 10) → bldF f x.toNat y.toNat inp = some l → l.length ≤ 14 → mU σ m (eqF f) sv hs l 0 (P (l.length : Int))) : vX7_inflect m x y P σ := by
  obtain ⟨l1, l2, l3⟩ := m_len h
  have z := mz h.1
  refine m_isCell h hx hy ⟨b2i_R _, fun q => ⟨by rw [z.2.2.2.1]; decide, ?_⟩, fun q => m_go1 (by decide) (mU.same h (h1 (of_decide_eq_false (b2i_0.mp q))))⟩
  have q := of_decide_eq_true (b2i_1.mp q)
  rw [show Int.toNat 0 = 0 from rfl, l1]
  refine ⟨zR_s (by omega) (by omega), s7_in (zQ_s (by omega) (by omega)) (zQ_s (by decide) (by decide)) (zQ_s (by decide) (by decide)) ⟨b2i_R _, fun a => m_go0 ?_, fun a => m_go1 (by decide) (mU.same h (h2 q (by have := of_decide_eq_false (b2i_0.mp a); omega)))⟩⟩
  have a := of_decide_eq_true (b2i_1.mp a)
  have a2 : 2 ≤ inp.length ∧ inp.length ≤ 10 := by omega
  obtain ⟨p, rfl⟩ := isP_toNat q.1
  obtain ⟨c, rfl⟩ : ∃ c : Nat, y = (c : Int) := ⟨y.toNat, by omega⟩
  simp only [Int.toNat_natCast] at *
  have ht := h.thr 0
  have hc := q.2.2
  rw [Int.toNat_natCast] at hc
  have bad : ∀ s4 : Sto, fr [m + 5] (zu σ m 7 0) s4 → mU σ m (eqF f) sv hs inp 3 (P 0) → vX7_inflect_75 m P s4 := fun s4 hf q3 s5 e5 => by
    have hM : MI s4 m f sv hs inp := ht.fr (fun j _ => by rw [hf m (by simp)]) (fun i g1 g2 g3 => hf i (by simp <;> omega))
    subst e5
    exact q3 _ f rfl (hM.thr 3) (fun i hi => by rw [zu_ne (by omega), hf i (by simp <;> omega), zu_ne (by omega)]) zu_eq
  have i10 : fok (zu σ m 7 0) (m + 4) 0 10 := ⟨ht.2.1.1.1, ht.2.1.1.2.1, by rw [(m_len ht).1]; omega, by decide, by rw [z.2.2.2.1]; decide, ht.2.1.1.2.2.2.2.2⟩
  have := sm_builds (k := m) (p := p) (c := c) (k3 := m + 4) (q := 0) (P := fun r4 s4 => zR r4 ∧ ((r4 = 0) → vX7_inflect_75 m P s4) ∧ ((¬ (r4 = 0)) → 0 < (zn (m + 5) : Int) ∧ (zR (s4 (m + 5) (Int.toNat 0)) ∧ (((s4 (m + 5) (Int.toNat 0)) ≤ 14) → vX7_copy (m + 5) 0 (m + 4) 0 (fun s6 => 0 < (zn (m + 4) : Int) ∧ (P (s6 (m + 4) (Int.toNat 0)) s6)) s4) ∧ ((¬ ((s4 (m + 5) (Int.toNat 0)) ≤ 14)) → vX7_inflect_75 m P s4)))) h.1 (by rw [ht.row]; exact h.wf) (by rw [ht.row]; exact q.1.2) (by rw [ht.row]; exact hc) i10 (by omega) (by rw [(m_len ht).1]; omega) (by
      rw [ht.row, ht.2.1.2]
      intro e τ hτ
      exact ⟨zR_0, fun _ => bad τ hτ (h3 q a2 e), fun b => absurd rfl b⟩) (by
      rw [ht.row, ht.2.1.2]
      intro l τ e hτ hok
      refine ⟨zRl rfl, fun b => absurd b (by decide), fun _ => ⟨by rw [z.2.2.2.2.1]; decide, ?_⟩⟩
      rw [show Int.toNat 0 = 0 from rfl, hτ.2.1]
      have l15 : l.length ≤ 15 := by have := fl_len hok; rw [hτ.2.2.1] at this; have := hok.2.2.1; omega
      have hM : MI τ m f sv hs inp := ht.fr (fun j _ => by rw [hτ.1 m (by simp)]) (fun i g1 g2 g3 => hτ.1 i (by simp <;> omega))
      refine ⟨zR_s (by omega) (by omega), fun b => m_takeBuilt hM (by rw [hτ.1 m (by simp), zu_eq]) hok hτ.2.2.1 (fun b2 υ g e1 e2 e3 e4 => h5 l q a2 e b2 υ g e1 e2 (fun i hi => by rw [e3 i hi, hτ.1 i (by simp <;> omega), zu_ne (by omega)]) e4) (by omega), fun b => bad τ hτ.1 (h4 l q a2 e (by omega))⟩)
  exact_mod_cast this
end
