/-! PURE: lexemes, read by the reference -/
theorem lp_snoc {g : Nat → Int → Int} : ∀ (n j : Nat) (a : Int), lp g (n + 1) j a = g (j + n) (lp g n j a) := by
  intro n
  induction n with
  | zero => intro j a; rfl
  | succ n ih =>
    intro j a
    show lp g (n + 1) (j + 1) (g j a) = _
    rw [ih (j + 1) (g j a), show j + 1 + n = j + (n + 1) by omega]
    rfl
theorem lp_shift {g : Nat → Int → Int} {d : Nat → Int} (h : ∀ j a, g j a = a + d j) : ∀ (n j : Nat) (a : Int), lp g n j a = a + lp g n j 0 := by
  intro n
  induction n with
  | zero => intro j a; show a = a + 0; omega
  | succ n ih =>
    intro j a
    show lp g n (j + 1) (g j a) = a + lp g n (j + 1) (g j 0)
    rw [ih (j + 1) (g j a), ih (j + 1) (g j 0), h j a, h j 0]
    omega
section
variable {σ τ : Sto} {k m : Nat} {f g : Nat → Int} {sv : Option (Nat → Int)} {hs : List (Nat → Int)} {inp inp' : List Int} {P : Int → Sto → Prop} {X : Nat → Sto → Prop} {Q : Sto → Prop} {x y w kd pr : Int}
theorem misC_d {l : Nat} : ∀ (j : Nat) (a : Int), misC f l j a = a + (if misF f l j then 1 else 0) := fun j a => by
  unfold misC
  split <;> omega
theorem mcel_iff {l : Nat} : ∀ (n c : Nat) (i : Int), 0 ≤ mcel f l n c i ↔ (0 ≤ i ∧ i < lp (misC f l) n c 0) := by
  intro n
  induction n with
  | zero => intro c i; show (0 : Int) ≤ -1 ↔ (0 ≤ i ∧ i < 0); omega
  | succ n ih =>
    intro c i
    have e : lp (misC f l) (n + 1) c 0 = misC f l c 0 + lp (misC f l) n (c + 1) 0 := lp_shift misC_d n (c + 1) (misC f l c 0)
    rw [e]
    show (0 ≤ if misF f l c then (if i = 0 then (c : Int) else mcel f l n (c + 1) (i - 1)) else mcel f l n (c + 1) i) ↔ _
    have nn := (lp_add (g := misC f l) (d := 1) (fun j a => by unfold misC; split <;> omega) n (c + 1) 0).1
    rw [misC_d (f := f) (l := l) c 0]
    cases misF f l c
    · rw [if_neg (by decide), if_neg (by decide), ih (c + 1) i]
      omega
    · rw [if_pos rfl, if_pos rfl]
      by_cases q : i = 0
      · rw [if_pos q]
        omega
      · rw [if_neg q, ih (c + 1) (i - 1)]
        omega
theorem misN_b {l : Nat} (hw : wfF f) (hl : (l : Int) < f 2) : 0 ≤ misN f l ∧ misN f l ≤ 6 := by
  have b := lexN_b hw hl
  have := lp_add (g := misC f l) (d := 1) (fun j a => by unfold misC; split <;> omega) (lexN f l) 0 0
  unfold misN
  omega
theorem excF_b {l : Nat} (hw : wfF f) (hl : (l : Int) < f 2) : 0 ≤ excF f l ∧ excF f l ≤ 6 := by
  have b := lexN_b hw hl
  have := lp_add (g := excC f l) (d := 1) (fun j a => by unfold excC; split <;> omega) (lexN f l) 0 0
  unfold excF
  omega
theorem lexW_b {w : Nat} (hw : wfF f) : 0 ≤ lexW f w ∧ lexW f w ≤ 10 := by
  have b := hw.2.2.1
  have := lp_add (g := lexC f w) (d := 1) (fun j a => by unfold lexC; split <;> omega) (f 2).toNat 0 0
  unfold lexW
  omega
/-- the number of a lexeme's cells -/
theorem m_lexCells {l : Nat} (hm : zk m = 6) (e : σ (m + 1) = f) (hw : wfF f) (hl : (l : Int) < f 2) (h1 : P ((lexN f l : Nat) : Int) σ) : vX7_lexemeAt (l : Int) (fun r1 s1 => 0 ≤ r1 ∧ r1 < (zn (m + 1) : Int) ∧ (vX7_cellMany m (s1 (m + 1) (Int.toNat r1)) P s1)) σ := by
  have z := mz hm
  have b := lexN_b hw hl
  have l10 := hw.2.2.1
  unfold vX7_lexemeAt
  rw [show ((723 : Int) + 102 * (l : Int)) = ((la l : Nat) : Int) by unfold la; omega]
  refine ⟨by omega, by rw [z.1]; unfold la; omega, ?_⟩
  rw [Int.toNat_natCast, e, ← b.2.2.2.2]
  refine m_cellMany hm e b.1 ?_
  rw [← b.2.2.2.1]
  exact h1
theorem m_exceptionMany_4 {l : Nat} (hm : zk m = 6) (e : σ (m + 1) = f) (hw : wfF f) (hl : (l : Int) < f 2) : ∀ (n c : Nat) (a : Int), c ≤ lexN f l → lexN f l - c < n → P (lp (excC f l) (lexN f l - c) c a) σ → vX7_exceptionMany_4 m P n (l : Int) a (c : Int) σ := by
  intro n
  induction n with
  | zero => intro c a h1 h2; omega
  | succ n ih =>
    intro c a h1 h2 h3
    have b := lexN_b hw hl
    have z := mz hm
    have l10 := hw.2.2.1
    refine m_lexCells hm e hw hl ⟨zR_s (by omega) (by omega), zR_s (by omega) (by omega), fun q => ?_, fun q => ?_⟩
    · rw [show lexN f l - c = 0 by omega] at h3; exact h3
    · have ww := exc_wd hw hl (c := c) (by omega)
      have w1 := ww.1
      have w2 := ww.2.1
      have el := ea_lt (l := l) (c := c) (by omega) (by omega)
      unfold vX7_exceptionAt vX7_lexemeAt
      dsimp only
      rw [show ((723 : Int) + 102 * (l : Int) + 12 + 15 * (c : Int)) = ((ea l c : Nat) : Int) by unfold ea; omega, Int.toNat_natCast, e]
      rw [show lexN f l - c = (lexN f l - (c + 1)) + 1 by omega] at h3
      have nx : ∀ d, a + d = excC f l c a → vX7_exceptionMany_40 m P (vX7_exceptionMany_4 m P n) (l : Int) (c : Int) d a σ := fun d ed => by
        unfold vX7_exceptionMany_40
        rw [ed]
        have := ih (c + 1) (excC f l c a) (by omega) (by omega) h3
        exact_mod_cast this
      exact ⟨by omega, by rw [z.1]; omega, zR_s (by omega) (by omega), fun q2 => nx 0 (by unfold excC; rw [if_neg (by omega)]; omega), fun q2 => nx 1 (by unfold excC; rw [if_pos (by omega)])⟩
theorem m_exceptionMany {l : Nat} (hm : zk m = 6) (e : σ (m + 1) = f) (hw : wfF f) (hl : (l : Int) < f 2) (h1 : P (excF f l) σ) : vX7_exceptionMany m (l : Int) P σ := by
  have b := lexN_b hw hl
  refine ⟨7, ?_⟩
  have := m_exceptionMany_4 (P := P) hm e hw hl 7 0 0 (by omega) (by omega) h1
  exact_mod_cast this
theorem m_lexeme (h : MI σ m f sv hs inp) (hx : zR x) (hy : zR y) (h1 : ¬ isL f x → mU σ m (eqF f) sv hs inp 1 (P 0)) (h2 : isL f x → ¬ (0 ≤ y ∧ y ≤ 2) → mU σ m (eqF f) sv hs inp 2 (P 0)) (h3 : isL f x → (0 ≤ y ∧ y ≤ 2) → mU σ m (eqF f) sv hs inp 0 (P (if y = 2 then excF f x.toNat else f (la x.toNat + y.toNat)))) : vX7_lexeme m x y P σ := by
  refine m_isLexeme h hx ⟨b2i_R _, fun q => ⟨hy, s7_in (zQ_R hy) (zQ_s (by decide) (by decide)) (zQ_s (by decide) (by decide)) ⟨b2i_R _, fun q2 => m_go0 ⟨hy, fun q3 => ?_, fun q3 => ?_⟩, fun q2 => m_go1 (by decide) (mU.same h (h2 (of_decide_eq_true (b2i_1.mp q)) (of_decide_eq_false (b2i_0.mp q2))))⟩⟩, fun q => m_go1 (by decide) (mU.same h (h1 (of_decide_eq_false (b2i_0.mp q))))⟩
  · have q := of_decide_eq_true (b2i_1.mp q)
    have q2 := of_decide_eq_true (b2i_1.mp q2)
    have r := mU.same h (h3 q q2)
    obtain ⟨l, rfl⟩ : ∃ p : Nat, x = (p : Int) := ⟨x.toNat, by omega⟩
    have l10 := h.wf.2.2.1
    rw [if_neg q3, Int.toNat_natCast] at r
    unfold vX7_lexemeAt
    rw [show ((723 : Int) + 102 * (l : Int)) = ((la l : Nat) : Int) by unfold la; omega]
    refine ⟨by omega, by rw [(mz h.1).1]; unfold la; omega, ?_⟩
    rw [show (((la l : Nat) : Int) + y).toNat = la l + y.toNat by omega, (h.thr 0).row]
    exact r
  · have q := of_decide_eq_true (b2i_1.mp q)
    have q2 := of_decide_eq_true (b2i_1.mp q2)
    have r := mU.same h (h3 q q2)
    obtain ⟨l, rfl⟩ : ∃ p : Nat, x = (p : Int) := ⟨x.toNat, by omega⟩
    rw [if_pos q3, Int.toNat_natCast] at r
    exact m_exceptionMany h.1 (h.thr 0).row h.wf q.2 r
theorem m_takeStem (h : MI σ m f sv hs inp) (hx : zR x) (h1 : ¬ isL f x → mU σ m (eqF f) sv hs inp 1 (P 0)) (h2 : isL f x → mU σ m (eqF f) sv hs (fl f (la x.toNat + 1)) 0 (P (f (la x.toNat + 1)))) : vX7_takeStem m x P σ := by
  refine m_isLexeme h hx ⟨b2i_R _, fun w => m_go1 (by decide) (mU.same h (h1 (of_decide_eq_false (b2i_0.mp w)))), fun w => m_go0 ?_⟩
  have q := of_decide_eq_true (b2i_1.mp w)
  obtain ⟨l, rfl⟩ : ∃ p : Nat, x = (p : Int) := ⟨x.toNat, by omega⟩
  rw [Int.toNat_natCast] at *
  have l10 := h.wf.2.2.1
  have z := mz h.1
  have lp' := lex_pair h.wf q.2
  have ht := h.thr 0
  unfold vX7_lexemeAt
  dsimp only
  rw [show ((723 : Int) + 102 * (l : Int)) = ((la l : Nat) : Int) by unfold la; omega, show ((la l : Nat) : Int) + 1 = ((la l + 1 : Nat) : Int) by omega]
  have hla : la l + 102 ≤ 1743 := by unfold la; omega
  have fk : fok (zu σ m 7 0) (m + 1) (la l + 1) 10 := fok_of h.1 (by rw [ht.row]; exact (h.wf.2.2.2.2.2.2 l q.2).2.1) (by decide) (by decide) (by omega)
  have := s7_copy (q' := 0) (P := fun s4 => 0 < (zn (m + 4) : Int) ∧ (P (s4 (m + 4) (Int.toNat 0)) s4)) fk (zf_6_input h.1) (by rw [z.2.2.2.1]; decide) (Or.inl (by omega)) (by
    have sq := zc_setq (k' := m + 4) (q' := 0) (N := 16) fk (by omega) (Or.inl (by omega))
    generalize zc (zu σ m 7 0) (m + 1) (la l + 1) (m + 4) 0 ((zu σ m 7 0 (m + 1) (la l + 1)).toNat + 1) = s9 at sq
    rw [ht.row] at sq
    refine ⟨by rw [z.2.2.2.1]; decide, ?_⟩
    have r := ht.input sq (by omega) lp'.2.2.2.2.2.1
    rw [show Int.toNat 0 = 0 from rfl, sq.2.1, ← lp'.2.2.2.2.2.2]
    exact h2 q s9 f rfl r.1 (fM_thr.trans r.2) (by rw [sq.keep (by omega), zu_eq]))
  exact_mod_cast this
/-- the form of a lexeme is made -/
theorem m_forms {l c : Nat} (hm : zk m = 6) (e : σ (m + 1) = f) (hw : wfF f) (hl : (l : Int) < f 2) (hc : c < lexN f l) (h0 : formF f l c = none → ∀ τ, fr [m + 5] σ τ → P 0 τ) (h1 : ∀ v τ, formF f l c = some v → fr [m + 5] σ τ → fok τ (m + 5) 0 15 → fl (τ (m + 5)) 0 = v → P 1 τ) : vX7_forms m (l : Int) (c : Int) P σ := by
  have z := mz hm
  have b := lexN_b hw hl
  have l10 := hw.2.2.1
  have lp' := lex_pair hw hl
  have ww := exc_wd hw hl (c := c) (by omega)
  have w1 := ww.1
  have w2 := ww.2.1
  have el := ea_lt (l := l) (c := c) (by omega) (by omega)
  have hla : la l + 102 ≤ 1743 := by unfold la; omega
  unfold vX7_forms vX7_exceptionAt vX7_lexemeAt
  dsimp only
  rw [show ((723 : Int) + 102 * (l : Int) + 12 + 15 * (c : Int)) = ((ea l c : Nat) : Int) by unfold ea; omega, show ((723 : Int) + 102 * (l : Int)) = ((la l : Nat) : Int) by unfold la; omega, Int.toNat_natCast, Int.toNat_natCast, show ((la l : Nat) : Int) + 1 = ((la l + 1 : Nat) : Int) by omega]
  rw [show σ (m + 1) (ea l c) = f (ea l c) by rw [e], show σ (m + 1) (la l) = f (la l) by rw [e], ← b.2.2.2.2]
  refine ⟨by omega, by rw [z.1]; omega, zR_s (by omega) (by omega), fun q => ⟨by omega, by rw [z.1]; omega, ?_⟩, fun q => ?_⟩
  · have ef : formF f l c = bldF f (lexP f l) c (fl f (la l + 1)) := by unfold formF; rw [if_neg (by omega)]
    have fk : fok σ (m + 1) (la l + 1) 10 := fok_of hm (by rw [e]; exact (hw.2.2.2.2.2.2 l hl).2.1) (by decide) (by decide) (by omega)
    refine sm_builds hm (by rw [e]; exact hw) (by rw [e]; exact b.2.1) (by rw [e]; omega) fk (by omega) (by rw [e, lp'.2.2.2.2.2.2]; omega) ?_ ?_
    · rw [e, ← ef]
      exact fun a τ t => ⟨Or.inl rfl, h0 a τ t⟩
    · rw [e, ← ef]
      exact fun v τ a t ok => ⟨Or.inr rfl, h1 v τ a t.1 ok t.2.2.1⟩
  · have ef : formF f l c = some (fl f (ea l c)) := by unfold formF; rw [if_pos (by omega)]
    have fk : fok σ (m + 1) (ea l c) 14 := fok_of hm (by rw [e]; exact ww) (by decide) (by decide) (by omega)
    have := s7_copy (q' := 0) (P := fun s5 => P 1 s5) fk (zf_6_form hm) (by rw [z.2.2.2.2.1]; decide) (Or.inl (by omega)) (by
      have sq := zc_setq (k' := m + 5) (q' := 0) (N := 16) fk (by omega) (Or.inl (by omega))
      generalize zc σ (m + 1) (ea l c) (m + 5) 0 ((σ (m + 1) (ea l c)).toNat + 1) = s9 at sq
      rw [e] at sq
      have hll : ((fl f (ea l c)).length : Int) = f (ea l c) := by unfold fl; rw [seg_len]; omega
      exact h1 _ s9 ef sq.1 (sq.ok (zf_6_form hm) (by omega) (by decide) (by rw [z.2.2.2.2.1]; decide) ww.2.2) sq.2.2.1)
    exact_mod_cast this
theorem m_takeForm (h : MI σ m f sv hs inp) (hx : zR x) (hy : zR y) (h1 : ¬ isLC f x y → mU σ m (eqF f) sv hs inp 1 (P 0)) (h2 : isLC f x y → formF f x.toNat y.toNat = none → mU σ m (eqF f) sv hs inp 2 (P 0)) (h3 : ∀ v, isLC f x y → formF f x.toNat y.toNat = some v → ¬ v.length ≤ 14 → mU σ m (eqF f) sv hs inp 2 (P 0)) (h4 : ∀ v, isLC f x y → formF f x.toNat y.toNat = some v → v.length ≤ 14 → mU σ m (eqF f) sv hs v 0 (P (v.length : Int))) : vX7_takeForm m x y P σ := by
  refine m_hasCell h hx hy ⟨b2i_R _, fun q => m_go1 (by decide) (mU.same h (h1 (of_decide_eq_false (b2i_0.mp q)))), fun q => m_go0 ?_⟩
  have q := of_decide_eq_true (b2i_1.mp q)
  obtain ⟨l, rfl⟩ : ∃ p : Nat, x = (p : Int) := ⟨x.toNat, by omega⟩
  obtain ⟨c, rfl⟩ : ∃ p : Nat, y = (p : Int) := ⟨y.toNat, by have := q.2.2.1; omega⟩
  have z := mz h.1
  have hc : c < lexN f l := by
    have := q.2.2.2
    rw [Int.toNat_natCast] at this
    unfold lexN lexP
    omega
  rw [Int.toNat_natCast, Int.toNat_natCast] at *
  have ht := h.thr 0
  have bad : ∀ s4 : Sto, fr [m + 5] (zu σ m 7 0) s4 → mU σ m (eqF f) sv hs inp 2 (P 0) → vX7_takeForm_47 m P s4 := fun s4 hf q3 s5 e5 => by
    have hM := mi_gx ht hf
    subst e5
    exact q3 _ f rfl (hM.thr 2) (fun i hi => by rw [zu_ne (by omega), hf i (by simp <;> omega), zu_ne (by omega)]) zu_eq
  refine m_forms h.1 ht.row h.wf q.1.2 hc (fun e τ t => ⟨zR_0, fun _ => bad τ t (h2 q e), fun b => absurd rfl b⟩) (fun v τ e t ok hv => ⟨zRl rfl, fun b => absurd b (by decide), fun _ => ⟨by rw [z.2.2.2.2.1]; decide, ?_⟩⟩)
  have el := fl_len ok
  rw [hv] at el
  have l15 := ok.2.2.1
  rw [show Int.toNat 0 = 0 from rfl, ← el]
  exact ⟨zR_s (by omega) (by omega), fun b => m_takeBuilt (mi_gx ht t) (by rw [t m (by simp), zu_eq]) ok hv (fun b2 υ g e1 e2 e3 e4 => h4 v q e b2 υ g e1 e2 (fun i hi => by rw [e3 i hi, t i (by simp <;> omega), zu_ne (by omega)]) e4) (by omega), fun b => bad τ t (h3 v q e (by omega))⟩
theorem m_isMissing {l c : Nat} (hm : zk m = 6) (e : σ (m + 1) = f) (hw : wfF f) (hl : (l : Int) < f 2) (hc : c < lexN f l) (h1 : ∀ τ, fr [m + 5] σ τ → P (b2i (misF f l c)) τ) : vX7_isMissing m (l : Int) (c : Int) P σ := by
  refine m_forms hm e hw hl hc (fun q τ t => ⟨zR_0, fun _ => ⟨Or.inl rfl, ?_⟩, fun a => absurd rfl a⟩) (fun v τ q t ok hv => ⟨zRl rfl, fun a => absurd a (by decide), fun _ => ?_⟩)
  · have := h1 τ t
    unfold misF at this
    rw [q] at this
    exact this
  · have := h1 τ t
    unfold misF at this
    rw [q] at this
    dsimp only at this
    have ab' := attF_b hw v
    have er : τ (m + 1) = f := by rw [t _ (by simp)]; exact e
    have := sm_attested (k := m) (k1 := m + 5) (q := 0) (P := fun r2 s2 => zR r2 ∧ ((0 ≤ r2) → vX7_isMissing_25 m P s2) ∧ ((¬ (0 ≤ r2)) → vX7_isMissing_26 m P 1 s2)) hm (by rw [er]; exact hw) ok (by
      rw [er, hv]
      refine ⟨zR_s (by omega) (by omega), fun q => ⟨Or.inl rfl, ?_⟩, fun q => ⟨Or.inr rfl, ?_⟩⟩
      · rw [decide_eq_false (by omega)] at this; exact this
      · rw [decide_eq_true (by omega)] at this; exact this)
    exact this
theorem m_missingMany_4 {l : Nat} (hm : zk m = 6) (hw : wfF f) (hl : (l : Int) < f 2) (h1 : ∀ τ, fr [m + 5] σ τ → P (misN f l) τ) : ∀ (n c : Nat) (a : Int) (τ : Sto), τ (m + 1) = f → fr [m + 5] σ τ → c ≤ lexN f l → lexN f l - c < n → lp (misC f l) (lexN f l - c) c a = misN f l → vX7_missingMany_4 m P n (l : Int) a (c : Int) τ := by
  intro n
  induction n with
  | zero => intro c a τ e t h1 h2; omega
  | succ n ih =>
    intro c a τ e t h2 h3 h4
    have b := lexN_b hw hl
    refine m_lexCells hm e hw hl ⟨zR_s (by omega) (by omega), zR_s (by omega) (by omega), fun q => ?_, fun q => m_isMissing hm e hw hl (by omega) (fun υ u => ?_)⟩
    · rw [show lexN f l - c = 0 by omega] at h4
      have e' : a = misN f l := h4
      rw [e']
      exact h1 τ t
    · rw [show lexN f l - c = (lexN f l - (c + 1)) + 1 by omega] at h4
      have nx : ∀ d, a + d = misC f l c a → vX7_missingMany_36 m P (vX7_missingMany_4 m P n) (l : Int) (c : Int) d a υ := fun d ed => by
        unfold vX7_missingMany_36
        rw [ed]
        have := ih (c + 1) (misC f l c a) υ (by rw [u _ (by simp)]; exact e) (t.trans u) (by omega) (by omega) h4
        exact_mod_cast this
      exact ⟨b2i_R _, fun q => nx 0 (by unfold misC; rw [b2i_0.mp q]; simp), fun q => nx 1 (by unfold misC; rw [b2i_1.mp q]; rfl)⟩
theorem m_missingMany {l : Nat} (hm : zk m = 6) (e : σ (m + 1) = f) (hw : wfF f) (hl : (l : Int) < f 2) (h1 : ∀ τ, fr [m + 5] σ τ → P (misN f l) τ) : vX7_missingMany m (l : Int) P σ := by
  have b := lexN_b hw hl
  refine ⟨7, ?_⟩
  have := m_missingMany_4 (σ := σ) (P := P) hm hw hl h1 7 0 0 σ e fr.refl (by omega) (by omega) rfl
  exact_mod_cast this
theorem mU.gx {c : Int} (q : mU σ m (eqF f) sv hs inp c Q) (h : MI σ m f sv hs inp) (e : fr [m + 5] (zu σ m 7 c) τ) : Q τ := q τ f rfl (mi_gx (h.thr c) e) (fun i hi => by rw [e i (by simp <;> omega), zu_ne (by omega)]) (by rw [e m (by simp), zu_eq])
theorem m_missing (h : MI σ m f sv hs inp) (hx : zR x) (h1 : ¬ isL f x → mU σ m (eqF f) sv hs inp 1 (P 0)) (h2 : isL f x → mU σ m (eqF f) sv hs inp 0 (P (misN f x.toNat))) : vX7_missing m x P σ := by
  refine m_isLexeme h hx ⟨b2i_R _, fun w => m_go1 (by decide) (mU.same h (h1 (of_decide_eq_false (b2i_0.mp w)))), fun w => m_go0 ?_⟩
  have q := of_decide_eq_true (b2i_1.mp w)
  obtain ⟨l, rfl⟩ : ∃ p : Nat, x = (p : Int) := ⟨x.toNat, by omega⟩
  rw [Int.toNat_natCast] at *
  exact m_missingMany h.1 (h.thr 0).row h.wf q.2 (fun τ t => (h2 q).gx h t)
theorem m_missingCell_52 {l : Nat} (hm : zk m = 6) (hw : wfF f) (hl : (l : Int) < f 2) {T : Int} (hT : 0 ≤ T) (h1 : ∀ τ, fr [m + 5] σ τ → P T τ) : ∀ (n c : Nat) (a : Int) (τ : Sto), τ (m + 1) = f → fr [m + 5] σ τ → c ≤ lexN f l → 0 ≤ a → a ≤ 100 → lexN f l - c + 1 < n → mcel f l (lexN f l - c) c a = T → vX7_missingCell_52 m P n (l : Int) ((c : Int) - 1) a τ := by
  intro n
  induction n with
  | zero => intro c a τ e t h1 h2 h3 h4; omega
  | succ n ih =>
    intro c a τ e t h2 h3 h4 h5 h6
    have b := lexN_b hw hl
    have hc : c < lexN f l := by
      rcases Nat.lt_or_ge c (lexN f l) with q | q
      · exact q
      · rw [show lexN f l - c = 0 by omega] at h6
        have : (-1 : Int) = T := h6
        omega
    rw [show lexN f l - c = (lexN f l - (c + 1)) + 1 by omega] at h6
    have h7 : (if misF f l c then (if a = 0 then (c : Int) else mcel f l (lexN f l - (c + 1)) (c + 1) (a - 1)) else mcel f l (lexN f l - (c + 1)) (c + 1) a) = T := h6
    refine ⟨zR_s (by omega) (by omega), fun q => absurd q (by omega), fun _ => ?_⟩
    rw [show (c : Int) - 1 + 1 = (c : Int) by omega]
    refine m_isMissing hm e hw hl hc (fun υ u => ⟨b2i_R _, fun q => ?_, fun q => ?_⟩)
    · rw [b2i_0.mp q, if_neg (by decide)] at h7
      have := ih (c + 1) a υ (by rw [u _ (by simp)]; exact e) (t.trans u) (by omega) h3 h4 (by omega) h7
      rw [show ((c + 1 : Nat) : Int) - 1 = (c : Int) by omega] at this
      unfold vX7_missingCell_76
      rw [Int.sub_zero]
      exact this
    · rw [b2i_1.mp q, if_pos rfl] at h7
      unfold vX7_missingCell_76
      by_cases q2 : a = 0
      · rw [if_pos q2] at h7
        subst q2
        obtain ⟨n', rfl⟩ : ∃ n', n = n' + 1 := ⟨n - 1, by omega⟩
        refine ⟨zR_s (by decide) (by decide), fun _ => ?_, fun z => absurd z (by decide)⟩
        rw [h7]
        exact h1 υ (t.trans u)
      · rw [if_neg q2] at h7
        have := ih (c + 1) (a - 1) υ (by rw [u _ (by simp)]; exact e) (t.trans u) (by omega) (by omega) (by omega) (by omega) h7
        rw [show ((c + 1 : Nat) : Int) - 1 = (c : Int) by omega] at this
        exact this
theorem m_missingCell (h : MI σ m f sv hs inp) (hx : zR x) (hy : zR y) (h1 : ¬ isL f x → mU σ m (eqF f) sv hs inp 1 (P 0)) (h2 : isL f x → mcel f x.toNat (lexN f x.toNat) 0 y < 0 → mU σ m (eqF f) sv hs inp 2 (P 0)) (h3 : isL f x → 0 ≤ mcel f x.toNat (lexN f x.toNat) 0 y → mU σ m (eqF f) sv hs inp 0 (P (mcel f x.toNat (lexN f x.toNat) 0 y))) : vX7_missingCell m x y P σ := by
  refine m_isLexeme h hx ⟨b2i_R _, fun q => ⟨hy, ?_⟩, fun q => m_go1 (by decide) (mU.same h (h1 (of_decide_eq_false (b2i_0.mp q))))⟩
  have q := of_decide_eq_true (b2i_1.mp q)
  obtain ⟨l, rfl⟩ : ∃ p : Nat, x = (p : Int) := ⟨x.toNat, by omega⟩
  rw [Int.toNat_natCast] at *
  have nb := misN_b h.wf q.2
  have b := lexN_b h.wf q.2
  have iff := mcel_iff (f := f) (l := l) (lexN f l) 0 y
  have thr2 : ∀ (τ : Sto) (c : Int), fr [m + 5] σ τ → fr [m + 5] (zu σ m 7 c) (zu τ m 7 c) := fun τ c t i hi => by
    by_cases e : i = m
    · subst e
      funext j
      by_cases e2 : j = 7
      · subst e2; rw [zu_eq, zu_eq]
      · rw [zu_j e2, zu_j e2, t i hi]
    · rw [zu_ne e, zu_ne e, t i hi]
  refine m_missingMany h.1 h.row h.wf q.2 (fun τ t => ⟨zR_s (by omega) (by omega), s7_in (zQ_R hy) (zQ_s (by decide) (by decide)) (zQ_s (by omega) (by omega)) ⟨b2i_R _, fun q2 => m_go0 ⟨lexN f l + 2, ?_⟩, fun q2 => m_go1 (by decide) ((h2 q (by
    have := of_decide_eq_false (b2i_0.mp q2)
    unfold misN at this
    omega)).gx h (thr2 τ 2 t))⟩⟩)
  have q2 := of_decide_eq_true (b2i_1.mp q2)
  have hT : 0 ≤ mcel f l (lexN f l) 0 y := iff.mpr (by unfold misN at q2; omega)
  have t0 := thr2 τ 0 t
  have := m_missingCell_52 (σ := zu σ m 7 0) (P := P) h.1 h.wf q.2 hT (fun υ u => (h3 q hT).gx h u) (lexN f l + 2) 0 y (zu τ m 7 0) (by rw [t0 _ (by simp)]; exact (h.thr 0).row) t0 (by omega) (by omega) (by omega) (by omega) rfl
  exact this
theorem m_isFormOf_5 {l w : Nat} (hm : zk m = 6) (hw : wfF f) (hl : (l : Int) < f 2) (hwd : (w : Int) < f 1) (h1 : ∀ τ, fr [m + 5] σ τ → P (b2i (hasF f l w)) τ) : ∀ (n c : Nat) (τ : Sto), τ (m + 1) = f → fr [m + 5] σ τ → c ≤ lexN f l → lexN f l - c < n → vX7_isFormOf_5 m P n (l : Int) (w : Int) (b2i (hasFn f l w c)) (c : Int) τ := by
  intro n
  induction n with
  | zero => intro c τ e t h1 h2; omega
  | succ n ih =>
    intro c τ e t h2 h3
    have b := lexN_b hw hl
    have w16 := hw.2.1
    refine m_lexCells hm e hw hl ⟨zR_s (by omega) (by omega), zR_s (by omega) (by omega), fun q => ⟨b2i_01 _, ?_⟩, fun q => ⟨b2i_R _, fun q2 => ?_, fun q2 => ?_⟩⟩
    · have := h1 τ t
      unfold hasF at this
      rw [show c = lexN f l by omega]
      exact this
    · have := ih (c + 1) τ e t (by omega) (by omega)
      have hh : hasFn f l w (c + 1) = true := by
        show (hasFn f l w c || decide (formF f l c = some (fl f (wa w)))) = true
        rw [b2i_1.mp q2]; rfl
      rw [hh] at this
      exact_mod_cast this
    · have q2 := b2i_0.mp q2
      have hh : hasFn f l w (c + 1) = decide (formF f l c = some (fl f (wa w))) := by
        show (hasFn f l w c || decide (formF f l c = some (fl f (wa w)))) = _
        rw [q2]; rfl
      have go : ∀ (υ : Sto) (d : Bool), fr [m + 5] τ υ → d = decide (formF f l c = some (fl f (wa w))) → vX7_isFormOf_61 m P (vX7_isFormOf_5 m P n) (l : Int) (w : Int) (c : Int) (b2i d) υ := fun υ d u ed => by
        have := ih (c + 1) υ (by rw [u _ (by simp)]; exact e) (t.trans u) (by omega) (by omega)
        rw [hh, ← ed] at this
        exact_mod_cast this
      refine m_forms hm e hw hl (by omega) (fun a υ u => ⟨zR_0, fun _ => go υ false u (by rw [a]; rfl), fun z => absurd rfl z⟩) (fun v υ a u ok hv => ⟨zRl rfl, fun z => absurd z (by decide), fun _ => ?_⟩)
      have er : υ (m + 1) = f := by rw [u _ (by simp)]; exact e
      have hwa : wa w + 15 ≤ 723 := by unfold wa; omega
      unfold vX7_wordAt
      rw [show ((483 : Int) + 15 * (w : Int)) = ((wa w : Nat) : Int) by unfold wa; omega]
      have fk : fok υ (m + 1) (wa w) 14 := fok_of hm (by rw [er]; exact hw.2.2.2.2.1 w hwd) (by decide) (by decide) (by omega)
      have := s7_areSame (q := 0) ok fk (P := fun r5 s5 => zR r5 ∧ ((r5 = 0) → vX7_isFormOf_60 m P (vX7_isFormOf_5 m P n) (l : Int) (w : Int) (c : Int) s5) ∧ ((¬ (r5 = 0)) → vX7_isFormOf_56 m P (vX7_isFormOf_5 m P n) (l : Int) (w : Int) (c : Int) s5)) (by
        rw [er, hv]
        have ed : decide (v = fl f (wa w)) = decide (formF f l c = some (fl f (wa w))) := decide_eq_decide.mpr ⟨fun z => by rw [a, z], fun z => by rw [a] at z; exact Option.some.inj z⟩
        refine ⟨b2i_R _, fun z => ?_, fun z => ?_⟩
        · have := go υ (decide (v = fl f (wa w))) u ed
          rw [b2i_0.mp z] at this
          exact this
        · have := go υ (decide (v = fl f (wa w))) u ed
          rw [b2i_1.mp z] at this
          exact this)
      exact this
theorem m_isFormOf {l w : Nat} (hm : zk m = 6) (e : σ (m + 1) = f) (hw : wfF f) (hl : (l : Int) < f 2) (hwd : (w : Int) < f 1) (h1 : ∀ τ, fr [m + 5] σ τ → P (b2i (hasF f l w)) τ) : vX7_isFormOf m (l : Int) (w : Int) P σ := by
  have b := lexN_b hw hl
  refine ⟨7, ?_⟩
  have := m_isFormOf_5 (σ := σ) (P := P) hm hw hl hwd h1 7 0 σ e fr.refl (by omega) (by omega)
  exact_mod_cast this
theorem m_hasForm (h : MI σ m f sv hs inp) (hx : zR x) (hy : zR y) (h1 : ¬ (isL f x ∧ isW f y) → mU σ m (eqF f) sv hs inp 1 (P 0)) (h2 : (isL f x ∧ isW f y) → mU σ m (eqF f) sv hs inp 0 (P (b2i (hasF f x.toNat y.toNat)))) : vX7_hasForm m x y P σ := by
  have bad : ¬ (isL f x ∧ isW f y) → vX7_hasForm_21 m P x y σ := fun q s e => by
    subst e
    rw [zu_eq]
    exact ⟨zRl rfl, fun _ => ⟨Or.inl rfl, mU.same h (h1 q)⟩, fun a => absurd a (by decide)⟩
  refine m_isLexeme h hx ⟨b2i_R _, fun q => bad (fun z => (of_decide_eq_false (b2i_0.mp q)) z.1), fun q => m_isWord h hy ⟨b2i_R _, fun q2 => bad (fun z => (of_decide_eq_false (b2i_0.mp q2)) z.2), fun q2 s e => ?_⟩⟩
  subst e
  rw [zu_eq]
  have q := of_decide_eq_true (b2i_1.mp q)
  have q2 := of_decide_eq_true (b2i_1.mp q2)
  have r := h2 ⟨q, q2⟩
  obtain ⟨l, rfl⟩ : ∃ p : Nat, x = (p : Int) := ⟨x.toNat, by omega⟩
  obtain ⟨w, rfl⟩ : ∃ p : Nat, y = (p : Int) := ⟨y.toNat, by omega⟩
  rw [Int.toNat_natCast, Int.toNat_natCast] at r
  refine ⟨zR_0, fun a => absurd rfl a, fun _ => m_isFormOf h.1 (h.thr 0).row h.wf q.2 q2.2 (fun τ t => ⟨b2i_R _, fun a => ⟨Or.inl rfl, ?_⟩, fun a => ⟨Or.inr rfl, ?_⟩⟩)⟩
  · have := r.gx h t
    rw [b2i_0.mp a] at this; exact this
  · have := r.gx h t
    rw [b2i_1.mp a] at this; exact this
theorem m_lexemesWith_4 {w : Nat} (hm : zk m = 6) (hw : wfF f) (hwd : (w : Int) < f 1) (h1 : ∀ τ, fr [m + 5] σ τ → P (lexW f w) τ) : ∀ (n l : Nat) (a : Int) (τ : Sto), τ (m + 1) = f → fr [m + 5] σ τ → (l : Int) ≤ f 2 → f 2 - l < n → lp (lexC f w) ((f 2).toNat - l) l a = lexW f w → vX7_lexemesWith_4 m P n (w : Int) a (l : Int) τ := by
  intro n
  induction n with
  | zero => intro l a τ e t h1 h2; omega
  | succ n ih =>
    intro l a τ e t h2 h3 h4
    have b := hw.2.2.1
    have z := mz hm
    unfold vX7_lexemesWith_4 bX7_lexemesWith_4
    rw [show Int.toNat 2 = 2 from rfl, e]
    refine ⟨by rw [z.1]; decide, zR_s (by omega) (by omega), zR_s (by omega) (by omega), fun q => ?_, fun q => m_isFormOf hm e hw (by omega) hwd (fun υ u => ?_)⟩
    · rw [show (f 2).toNat - l = 0 by omega] at h4
      have e' : a = lexW f w := h4
      rw [e']
      exact h1 τ t
    · rw [show (f 2).toNat - l = ((f 2).toNat - (l + 1)) + 1 by omega] at h4
      have nx : ∀ d, a + d = lexC f w l a → vX7_lexemesWith_29 m P (vX7_lexemesWith_4 m P n) (w : Int) (l : Int) d a υ := fun d ed => by
        unfold vX7_lexemesWith_29
        rw [ed]
        have := ih (l + 1) (lexC f w l a) υ (by rw [u _ (by simp)]; exact e) (t.trans u) (by omega) (by omega) h4
        exact_mod_cast this
      exact ⟨b2i_R _, fun q => nx 0 (by unfold lexC; rw [b2i_0.mp q]; simp), fun q => nx 1 (by unfold lexC; rw [b2i_1.mp q]; rfl)⟩
theorem m_lexemesWith {w : Nat} (hm : zk m = 6) (e : σ (m + 1) = f) (hw : wfF f) (hwd : (w : Int) < f 1) (h1 : ∀ τ, fr [m + 5] σ τ → P (lexW f w) τ) : vX7_lexemesWith m (w : Int) P σ := by
  have b := hw.2.2.1
  refine ⟨(f 2).toNat + 1, ?_⟩
  have := m_lexemesWith_4 (σ := σ) (P := P) hm hw hwd h1 ((f 2).toNat + 1) 0 0 σ e fr.refl (by omega) (by omega) rfl
  exact_mod_cast this
theorem m_lexemesOf (h : MI σ m f sv hs inp) (hx : zR x) (h1 : ¬ isW f x → mU σ m (eqF f) sv hs inp 1 (P 0)) (h2 : isW f x → mU σ m (eqF f) sv hs inp 0 (P (lexW f x.toNat))) : vX7_lexemesOf m x P σ := by
  refine m_isWord h hx ⟨b2i_R _, fun w => m_go1 (by decide) (mU.same h (h1 (of_decide_eq_false (b2i_0.mp w)))), fun w => m_go0 ?_⟩
  have q := of_decide_eq_true (b2i_1.mp w)
  obtain ⟨l, rfl⟩ : ∃ p : Nat, x = (p : Int) := ⟨x.toNat, by omega⟩
  rw [Int.toNat_natCast] at *
  exact m_lexemesWith h.1 (h.thr 0).row h.wf q.2 (fun τ t => (h2 q).gx h t)
/-- no lexeme has the word -/
theorem lexW_0 {w : Nat} : lexW f w = 0 ↔ covF f w = false := by
  unfold lexW covF
  have : ∀ n, 0 ≤ lp (lexC f w) n 0 0 ∧ (lp (lexC f w) n 0 0 = 0 ↔ covN f w n = false) := by
    intro n
    induction n with
    | zero => exact ⟨Int.le_refl 0, fun _ => rfl, fun _ => rfl⟩
    | succ n ih =>
      rw [lp_snoc, Nat.zero_add]
      show 0 ≤ lexC f w n (lp (lexC f w) n 0 0) ∧ (lexC f w n (lp (lexC f w) n 0 0) = 0 ↔ (covN f w n || hasF f n w) = false)
      have ed : ∀ a : Int, lexC f w n a = if hasF f n w then a + 1 else a := fun a => rfl
      rw [ed]
      cases hasF f n w
      · rw [if_neg (by decide), Bool.or_false]; exact ih
      · rw [if_pos rfl, Bool.or_true]
        refine ⟨by omega, ⟨fun z => by omega, fun z => absurd z (by decide)⟩⟩
  exact (this (f 2).toNat).2
def uncC (f : Nat → Int) (w : Nat) (a : Int) : Int := if lexW f w = 0 then a + 1 else a
theorem unc_cnt : ∀ n, lp (uncC f) n 0 0 = (n : Int) - ((cnt (covF f) n : Nat) : Int) := by
  intro n
  induction n with
  | zero => rfl
  | succ n ih =>
    rw [lp_snoc, Nat.zero_add, ih]
    show (if lexW f n = 0 then (n : Int) - ((cnt (covF f) n : Nat) : Int) + 1 else (n : Int) - ((cnt (covF f) n : Nat) : Int)) = ((n + 1 : Nat) : Int) - ((cnt (covF f) n + (if covF f n then 1 else 0) : Nat) : Int)
    by_cases q : lexW f n = 0
    · rw [if_pos q, lexW_0.mp q, if_neg (by decide)]
      omega
    · have : covF f n = true := by
        cases h : covF f n
        · exact absurd (lexW_0.mpr h) q
        · rfl
      rw [if_neg q, this, if_pos rfl]
      omega
theorem cnt_in {S : Nat → Bool} (hw : wfF f) : cnt (inW f S) 16 = cnt S (f 1).toNat := by
  have h16 := hw.2.1
  have : ∀ n : Nat, cnt (inW f S) n = cnt S (min n (f 1).toNat) := by
    intro n
    induction n with
    | zero => rw [Nat.zero_min]; rfl
    | succ n ih =>
      show cnt (inW f S) n + (if inW f S n then 1 else 0) = _
      rw [ih]
      by_cases q : (n : Int) < f 1
      · rw [show min (n + 1) (f 1).toNat = n + 1 by omega, show min n (f 1).toNat = n by omega]
        unfold inW
        rw [decide_eq_true q, Bool.true_and]
        rfl
      · rw [show min (n + 1) (f 1).toNat = (f 1).toNat by omega, show min n (f 1).toNat = (f 1).toNat by omega]
        unfold inW
        rw [decide_eq_false q, Bool.false_and, if_neg (by decide)]
        rfl
  rw [this 16, show min 16 (f 1).toNat = (f 1).toNat by omega]
theorem m_uncovered_9 (hm : zk m = 6) (hw : wfF f) (h1 : ∀ τ, fr [m + 5] σ τ → P (lp (uncC f) (f 1).toNat 0 0) τ) : ∀ (n w : Nat) (a : Int) (τ : Sto), τ (m + 1) = f → fr [m + 5] σ τ → (w : Int) ≤ f 1 → f 1 - w < n → lp (uncC f) ((f 1).toNat - w) w a = lp (uncC f) (f 1).toNat 0 0 → vX7_uncovered_9 m P n a (w : Int) τ := by
  intro n
  induction n with
  | zero => intro w a τ e t h1 h2; omega
  | succ n ih =>
    intro w a τ e t h2 h3 h4
    have b := hw.2.1
    have z := mz hm
    unfold vX7_uncovered_9 bX7_uncovered_9
    rw [show Int.toNat 1 = 1 from rfl, e]
    refine ⟨by rw [z.1]; decide, zR_s (by omega) (by omega), zR_s (by omega) (by omega), fun q => ?_, fun q => m_lexemesWith hm e hw (by omega) (fun υ u => ?_)⟩
    · rw [show (f 1).toNat - w = 0 by omega] at h4
      have e' : a = lp (uncC f) (f 1).toNat 0 0 := h4
      rw [e']
      exact h1 τ t
    · rw [show (f 1).toNat - w = ((f 1).toNat - (w + 1)) + 1 by omega] at h4
      have lb := lexW_b (w := w) hw
      have nx : ∀ d, a + d = uncC f w a → vX7_uncovered_33 m P (vX7_uncovered_9 m P n) (w : Int) d a υ := fun d ed => by
        unfold vX7_uncovered_33
        rw [ed]
        have := ih (w + 1) (uncC f w a) υ (by rw [u _ (by simp)]; exact e) (t.trans u) (by omega) (by omega) h4
        exact_mod_cast this
      exact ⟨zR_s (by omega) (by omega), fun q => nx 0 (by unfold uncC; rw [if_neg q]; omega), fun q => nx 1 (by unfold uncC; rw [if_pos q])⟩
theorem m_uncovered (h : MI σ m f sv hs inp) (h1 : mU σ m (eqF f) sv hs inp 0 (P (f 1 - ((cnt (inW f (covF f)) 16 : Nat) : Int)))) : vX7_uncovered m P σ := by
  intro s e
  subst e
  have b := h.wf.2.1
  refine ⟨(f 1).toNat + 1, ?_⟩
  have := m_uncovered_9 (σ := zu σ m 7 0) (P := P) h.1 h.wf (fun τ t => by
    rw [unc_cnt, Int.toNat_of_nonneg b.1]
    rw [cnt_in h.wf] at h1
    exact h1.gx h t) ((f 1).toNat + 1) 0 0 (zu σ m 7 0) (h.thr 0).row fr.refl (by omega) (by omega) rfl
  exact_mod_cast this
end
