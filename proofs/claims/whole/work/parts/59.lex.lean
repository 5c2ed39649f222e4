/-! PURE: lexemes, read -/
def lexP (f : Nat → Int) (l : Nat) : Nat := (f (la l)).toNat
def lexN (f : Nat → Int) (l : Nat) : Nat := (f (pa (lexP f l))).toNat
/-- the form of a lexeme in a cell -/
def formF (f : Nat → Int) (l c : Nat) : Option (List Int) := if 0 < f (ea l c) then some (fl f (ea l c)) else bldF f (lexP f l) c (fl f (la l + 1))
def misF (f : Nat → Int) (l c : Nat) : Bool := match formF f l c with
  | none => false
  | some v => decide (attF f v < 0)
def hasFn (f : Nat → Int) (l w : Nat) : Nat → Bool
  | 0 => false
  | n + 1 => hasFn f l w n || decide (formF f l n = some (fl f (wa w)))
def hasF (f : Nat → Int) (l w : Nat) : Bool := hasFn f l w (lexN f l)
def excC (f : Nat → Int) (l : Nat) (c : Nat) (a : Int) : Int := if 0 < f (ea l c) then a + 1 else a
def excF (f : Nat → Int) (l : Nat) : Int := lp (excC f l) (lexN f l) 0 0
def misC (f : Nat → Int) (l : Nat) (c : Nat) (a : Int) : Int := if misF f l c then a + 1 else a
def misN (f : Nat → Int) (l : Nat) : Int := lp (misC f l) (lexN f l) 0 0
/-- the cell of the idx-th missing form, of n cells from c on -/
def mcel (f : Nat → Int) (l : Nat) : Nat → Nat → Int → Int
  | 0, _, _ => -1
  | n + 1, c, i => if misF f l c then (if i = 0 then (c : Int) else mcel f l n (c + 1) (i - 1)) else mcel f l n (c + 1) i
def lexC (f : Nat → Int) (w : Nat) (l : Nat) (a : Int) : Int := if hasF f l w then a + 1 else a
def lexW (f : Nat → Int) (w : Nat) : Int := lp (lexC f w) (f 2).toNat 0 0
def covN (f : Nat → Int) (w : Nat) : Nat → Bool
  | 0 => false
  | n + 1 => covN f w n || hasF f n w
def covF (f : Nat → Int) (w : Nat) : Bool := covN f w (f 2).toNat
/-- as a set of words -/
def inW (f : Nat → Int) (S : Nat → Bool) (w : Nat) : Bool := decide ((w : Int) < f 1) && S w
def gX (σ τ : Sto) (k : Nat) : Prop := ∀ i, (i < k + 279 ∨ k + 282 < i) → τ i = σ i
theorem gX.trans {σ τ υ : Sto} {k : Nat} (h : gX σ τ k) (h2 : gX τ υ k) : gX σ υ k := fun i hi => (h2 i hi).trans (h i hi)
theorem gX.refl {σ : Sto} {k : Nat} : gX σ σ k := fun _ _ => rfl
theorem gX.f {σ τ : Sto} {k : Nat} (h : gX σ τ k) : fX σ τ k := fun i hi => h i (by omega)
section
variable {σ τ : Sto} {k m : Nat} {f g : Nat → Int} {sv : Option (Nat → Int)} {hs : List (Nat → Int)} {inp inp' : List Int} {P : Int → Sto → Prop} {X : Nat → Sto → Prop} {Q : Sto → Prop} {x y w kd pr : Int}
theorem XI.gx (h : XI σ k f sv hs inp) (e : gX σ τ k) : XI τ k f sv hs inp := h.fr (fun i g1 g2 => e i (by omega))
theorem xU.gx (q : xU σ k (eqF f) sv hs inp Q) (h : XI τ k f sv hs inp) (e : gX σ τ k) : Q τ := q τ (fun _ e => e ▸ h) e.f
theorem mi_gx (h : MI σ m f sv hs inp) (e : fr [m + 5] σ τ) : MI τ m f sv hs inp := h.fr (fun j _ => by rw [e m (by simp)]) (fun i g1 g2 g3 => e i (by simp <;> omega))
theorem lexN_b {l : Nat} (hw : wfF f) (hl : (l : Int) < f 2) : lexP f l < 6 ∧ (lexP f l : Int) < f 0 ∧ lexN f l ≤ 6 ∧ (lexN f l : Int) = f (pa (lexP f l)) ∧ (lexP f l : Int) = f (la l) := by
  have a := lex_pair hw hl
  have b := (hw.2.2.2.1 (lexP f l) (by unfold lexP; omega)).1
  unfold lexN lexP at *
  omega
theorem ea_lt {l c : Nat} (hl : l < 10) (hc : c < 6) : ea l c + 15 ≤ 1743 := by unfold ea; omega
theorem exc_wd {l c : Nat} (hw : wfF f) (hl : (l : Int) < f 2) (hc : c < 6) : wd f (ea l c) 0 14 := (hw.2.2.2.2.2.2 l hl).2.2 c hc
theorem x_hasEx {l c : Nat} (h : XI σ k f sv hs inp) (hl : (l : Int) < f 2) (hc : c < 6) (h1 : P (b2i (decide (0 < f (ea l c)))) σ) : vX3_hasException (k + 3) (l : Int) (c : Int) P σ := by
  obtain ⟨l10, rl, wl'⟩ := h.lex hl
  have n := xn h.1
  have e := (rl.2 c hc).1
  have w := exc_wd h.wf hl hc
  have w1 := w.1
  have w2 := w.2.1
  unfold vX3_hasException vX6_cellSlot
  dsimp only
  rw [show (l : Int) * 6 + (c : Int) = ((6 * l + c : Nat) : Int) by omega, Int.toNat_natCast, e]
  refine ⟨by omega, by omega, zR_s (by omega) (by omega), fun z => ⟨Or.inl rfl, ?_⟩, fun z => ⟨Or.inr rfl, ?_⟩⟩
  · rw [decide_eq_false (by omega)] at h1; exact h1
  · rw [decide_eq_true (by omega)] at h1; exact h1
theorem x_exceptionCount_20 {l : Nat} (h : XI σ k f sv hs inp) (hl : (l : Int) < f 2) : ∀ (n c : Nat) (a : Int), c ≤ lexN f l → lexN f l - c < n → P (lp (excC f l) (lexN f l - c) c a) σ → vX3_exceptionCount_20 (k + 3) P n (l : Int) ((lexN f l : Nat) : Int) a (c : Int) σ := by
  intro n
  induction n with
  | zero => intro c a h1 h2; omega
  | succ n ih =>
    intro c a h1 h2 h3
    have b := lexN_b h.wf hl
    refine ⟨zR_s (by omega) (by omega), zR_s (by omega) (by omega), fun z => ?_, fun z => x_hasEx h hl (by omega) ?_⟩
    · rw [show lexN f l - c = 0 by omega] at h3; exact h3
    · rw [show lexN f l - c = (lexN f l - (c + 1)) + 1 by omega] at h3
      have nx : ∀ a', a' = excC f l c a → vX3_exceptionCount_39 (k + 3) P (vX3_exceptionCount_20 (k + 3) P n) (l : Int) ((lexN f l : Nat) : Int) a' (c : Int) σ := fun a' ea' => by
        subst ea'
        have := ih (c + 1) (excC f l c a) (by omega) (by omega) h3
        exact_mod_cast this
      exact ⟨b2i_R _, fun q => nx _ (by unfold excC; rw [if_neg (of_decide_eq_false (b2i_0.mp q))]), fun q => nx _ (by unfold excC; rw [if_pos (of_decide_eq_true (b2i_1.mp q))])⟩
theorem x_exceptionCount {l : Nat} (h : XI σ k f sv hs inp) (hl : (l : Int) < f 2) (h1 : P (excF f l) σ) : vX3_exceptionCount (k + 3) (l : Int) P σ := by
  have n := xn h.1
  have b := lexN_b h.wf hl
  have l10 := (h.lex hl).1
  unfold vX3_exceptionCount
  rw [Int.toNat_natCast]
  refine ⟨by omega, by omega, x_lexParadigm h hl ⟨by omega, by omega, 7, ?_⟩⟩
  have e : σ (k + 3 + 1) (f (la l)).toNat = ((lexN f l : Nat) : Int) := by
    rw [b.2.2.2.1]
    exact (h.par (p := lexP f l) b.2.1).2.1.1
  rw [e]
  have := x_exceptionCount_20 (P := P) h hl 7 0 0 (by omega) (by omega) h1
  exact_mod_cast this
/-- the form of a lexeme is built -/
theorem x_blf {l c : Nat} (h : XI σ k f sv hs inp) (hl : (l : Int) < f 2) (hc : c < lexN f l) (h0 : formF f l c = none → ∀ τ, gX σ τ k → P 0 τ) (h1 : ∀ v τ, formF f l c = some v → gX σ τ k → wok τ (k + 281) 15 → wl τ (k + 281) = v → P 1 τ) : vX6_buildLexemeForm k (l : Int) (c : Int) P σ := by
  have b := lexN_b h.wf hl
  have lp' := lex_pair h.wf hl
  obtain ⟨l10, rl, wl'⟩ := h.lex hl
  have n := xn h.1
  have hb := zf_5_state h.1
  have sw := st_w hb
  refine x_hasEx h hl (by omega) ⟨b2i_R _, fun q => ?_, fun q => ?_⟩
  · have q := of_decide_eq_false (b2i_0.mp q)
    have ef : formF f l c = bldF f (lexP f l) c (fl f (la l + 1)) := by unfold formF; rw [if_neg q]
    rw [Int.toNat_natCast]
    refine ⟨by omega, by omega, ?_⟩
    have ep : σ (k + 3 + 18) l = ((0 * 2 ^ 57 + pairN (lexP f l) (fl f (la l + 1)) : Nat) : Int) := by rw [rl.1, Nat.zero_mul, Nat.zero_add]; rfl
    rw [ep]
    refine s_unpackStem (by omega) lp'.2.2.2.2.1 lp'.2.2.2.2.2.1 (by decide) (zf_5_stem h.1) (fun τ hτ => s_paradigm (by omega) lp'.2.2.2.2.1 lp'.2.2.2.2.2.1 (by decide) ?_)
    have gx : gX σ τ k := fun i hi => hτ.1 i (by simp <;> omega)
    have hX := h.gx gx
    unfold vX6_cellSlot
    rw [show ((lexP f l : Nat) : Int) * 6 + (c : Int) = ((6 * lexP f l + c : Nat) : Int) by omega]
    have ok : wok τ (k + 279) 10 := hτ.ok (zf_5_stem h.1) lp'.2.2.2.2.1 (by decide) lp'.2.2.2.2.2.1
    refine sx_build hb hX.st hX.wf b.2.1 (by omega) ok (zf_5_form h.1) (by omega) (by omega) ?_ ?_
    · rw [hτ.2.1, ← ef]
      exact fun e υ hυ => ⟨Or.inl rfl, h0 e υ (gx.trans (fun i hi => hυ i (by simp <;> omega)))⟩
    · rw [hτ.2.1, ← ef]
      exact fun v υ e hυ hok => ⟨Or.inr rfl, h1 v υ e (gx.trans (fun i hi => hυ.1 i (by simp <;> omega))) hok hυ.2.1⟩
  · have q := of_decide_eq_true (b2i_1.mp q)
    have ef : formF f l c = some (fl f (ea l c)) := by unfold formF; rw [if_pos q]
    have ww := exc_wd h.wf hl (c := c) (by omega)
    refine s_clear (fun τ hτ => ?_)
    have gx : gX σ τ k := fun i hi => hτ.1 i (by simp <;> omega)
    have hX := h.gx gx
    have t := (hX.lex hl).2.1.2 c (by omega)
    have tk : tok τ (k + 3 + 19) (6 * l + c) := t.tok sw.1.2.2.2.2 (by rw [n.2.2.2.2.2.2.2.2.2.1]; omega) ww (by decide) (by rw [sw.2.2.2.2.2]; decide)
    have ok : wok τ (k + 281) 14 := hτ.ok (zf_5_form h.1) (by simp) (by decide) ab_nil
    have hll : ((fl f (ea l c)).length : Int) = f (ea l c) := by unfold fl; rw [seg_len]; have := ww.1; omega
    unfold vX6_cellSlot
    rw [show (l : Int) * 6 + (c : Int) = ((6 * l + c : Nat) : Int) by omega]
    refine s_addTo tk ok (by rw [hτ.2.2, t.1]; have := ww.2.1; simp; omega) ⟨by omega, by omega⟩ (fun υ hυ => ?_)
    rw [hτ.2.1, List.nil_append, t.2] at hυ
    exact h1 _ υ ef (gx.trans (fun i hi => hυ.1 i (by simp <;> omega))) (hυ.ok (zf_5_form h.1) (by have := ww.2.1; omega) (by decide) ww.2.2) hυ.2.1
theorem x_lacks {l c : Nat} (h : XI σ k f sv hs inp) (hl : (l : Int) < f 2) (hc : c < lexN f l) (h1 : ∀ τ, gX σ τ k → P (b2i (misF f l c)) τ) : vX6_lacksForm k (l : Int) (c : Int) P σ := by
  refine x_blf h hl hc (fun e τ g => ⟨zR_0, fun _ => ⟨Or.inl rfl, ?_⟩, fun a => absurd rfl a⟩) (fun v τ e g ok hl' => ⟨zRl rfl, fun a => absurd a (by decide), fun _ => ?_⟩)
  · have := h1 τ g
    unfold misF at this
    rw [e] at this
    exact this
  · have hX := h.gx g
    have := h1 τ g
    unfold misF at this
    rw [e] at this
    dsimp only at this
    have ab' := attF_b h.wf v
    refine sx_find (zf_5_state h.1) hX.st hX.wf ok ?_
    rw [hl']
    refine ⟨zR_s (by omega) (by omega), fun q => ⟨Or.inl rfl, ?_⟩, fun q => ⟨Or.inr rfl, ?_⟩⟩
    · rw [decide_eq_false (by omega)] at this; exact this
    · rw [decide_eq_true (by omega)] at this; exact this
theorem x_missing_31 {l : Nat} (hl : (l : Int) < f 2) (h1 : ∀ τ, gX σ τ k → P (misN f l) τ) : ∀ (n c : Nat) (a : Int) (τ : Sto), XI τ k f sv hs inp → gX σ τ k → c ≤ lexN f l → lexN f l - c < n → lp (misC f l) (lexN f l - c) c a = misN f l → vX6_missing_31 k P X n (l : Int) ((lexN f l : Nat) : Int) a (c : Int) τ := by
  intro n
  induction n with
  | zero => intro c a τ h hg h1 h2; omega
  | succ n ih =>
    intro c a τ h hg h2 h3 h4
    have b := lexN_b h.wf hl
    refine ⟨zR_s (by omega) (by omega), zR_s (by omega) (by omega), fun z => ?_, fun z => x_lacks h hl (by omega) (fun υ hυ => ?_)⟩
    · rw [show lexN f l - c = 0 by omega] at h4
      have e : a = misN f l := h4
      rw [e]
      exact h1 τ hg
    · rw [show lexN f l - c = (lexN f l - (c + 1)) + 1 by omega] at h4
      have nx : ∀ a', a' = misC f l c a → vX6_missing_50 k P X (vX6_missing_31 k P X n) (l : Int) ((lexN f l : Nat) : Int) a' (c : Int) υ := fun a' ea' => by
        subst ea'
        have := ih (c + 1) (misC f l c a) υ (h.gx hυ) (hg.trans hυ) (by omega) (by omega) h4
        exact_mod_cast this
      exact ⟨b2i_R _, fun q => nx _ (by unfold misC; rw [b2i_0.mp q]; rfl), fun q => nx _ (by unfold misC; rw [b2i_1.mp q]; rfl)⟩
theorem x_missing (h : XI σ k f sv hs inp) (hx : zR x) (h1 : ¬ isL f x → xU σ k (eqF f) sv hs inp (X 0)) (h2 : isL f x → xU σ k (eqF f) sv hs inp (P (misN f x.toNat))) : vX6_missing k x P X σ := by
  refine x_checkLexeme h hx (fun q => xU.same h (h1 q)) (fun q => ?_)
  obtain ⟨l, rfl⟩ : ∃ p : Nat, x = (p : Int) := ⟨x.toNat, by omega⟩
  have n := xn h.1
  have b := lexN_b h.wf q.2
  have l10 := (h.lex q.2).1
  rw [Int.toNat_natCast] at *
  refine ⟨by omega, by omega, x_lexParadigm h q.2 ⟨by omega, by omega, 7, ?_⟩⟩
  have e : σ (k + 3 + 1) (f (la l)).toNat = ((lexN f l : Nat) : Int) := by
    rw [b.2.2.2.1]
    exact (h.par (p := lexP f l) b.2.1).2.1.1
  rw [e]
  have := x_missing_31 (σ := σ) (P := P) (X := X) q.2 (fun τ g => (h2 q).gx (h.gx g) g) 7 0 0 σ h gX.refl (by omega) (by omega) rfl
  exact_mod_cast this
theorem x_missingCell_32 {l : Nat} {i : Int} (hl : (l : Int) < f 2) (hi : zR i) (h0 : mcel f l (lexN f l) 0 i < 0 → ∀ τ, gX σ τ k → X 3 τ) (h1 : 0 ≤ mcel f l (lexN f l) 0 i → ∀ τ, gX σ τ k → P (mcel f l (lexN f l) 0 i) τ) : ∀ (n c : Nat) (a : Int) (τ : Sto), XI τ k f sv hs inp → gX σ τ k → c ≤ lexN f l → lexN f l - c < n → 0 ≤ a → a ≤ c → mcel f l (lexN f l - c) c (i - a) = mcel f l (lexN f l) 0 i → vX6_missingCell_32 k P X n (l : Int) i ((lexN f l : Nat) : Int) a (c : Int) τ := by
  intro n
  induction n with
  | zero => intro c a τ h hg h1 h2; omega
  | succ n ih =>
    intro c a τ h hg h2 h3 a0 a1 h4
    have b := lexN_b h.wf hl
    refine ⟨zR_s (by omega) (by omega), zR_s (by omega) (by omega), fun z => ?_, fun z => x_lacks h hl (by omega) (fun υ hυ => ?_)⟩
    · rw [show lexN f l - c = 0 by omega] at h4
      have e : (-1 : Int) = mcel f l (lexN f l) 0 i := h4
      exact h0 (by omega) τ hg
    · rw [show lexN f l - c = (lexN f l - (c + 1)) + 1 by omega] at h4
      have h4 : (if misF f l c then (if i - a = 0 then (c : Int) else mcel f l (lexN f l - (c + 1)) (c + 1) (i - a - 1)) else mcel f l (lexN f l - (c + 1)) (c + 1) (i - a)) = mcel f l (lexN f l) 0 i := h4
      have nx : ∀ a', 0 ≤ a' → a' ≤ ((c + 1 : Nat) : Int) → mcel f l (lexN f l - (c + 1)) (c + 1) (i - a') = mcel f l (lexN f l) 0 i → vX6_missingCell_60 k P X (vX6_missingCell_32 k P X n) (l : Int) i ((lexN f l : Nat) : Int) a' (c : Int) υ := fun a' p0 p1 ea' => by
        have := ih (c + 1) a' υ (h.gx hυ) (hg.trans hυ) (by omega) (by omega) p0 p1 ea'
        exact_mod_cast this
      refine ⟨b2i_R _, fun q => ?_, fun q => ⟨zR_s (by omega) (by omega), hi, fun q2 => ?_, fun q2 => ?_⟩⟩
      · rw [b2i_0.mp q, if_neg (by decide)] at h4
        exact nx a a0 (by omega) h4
      · rw [b2i_1.mp q, if_pos rfl, if_neg (by omega)] at h4
        exact nx (a + 1) (by omega) (by omega) (by rw [← h4]; congr 1; omega)
      · rw [b2i_1.mp q, if_pos rfl, if_pos (by omega)] at h4
        rw [h4]
        exact h1 (by omega) υ (hg.trans hυ)
theorem x_missingCell (h : XI σ k f sv hs inp) (hx : zR x) (hy : zR y) (h1 : ¬ isL f x → xU σ k (eqF f) sv hs inp (X 0)) (h2 : isL f x → mcel f x.toNat (lexN f x.toNat) 0 y < 0 → xU σ k (eqF f) sv hs inp (X 3)) (h3 : isL f x → 0 ≤ mcel f x.toNat (lexN f x.toNat) 0 y → xU σ k (eqF f) sv hs inp (P (mcel f x.toNat (lexN f x.toNat) 0 y))) : vX6_missingCell k x y P X σ := by
  refine x_checkLexeme h hx (fun q => xU.same h (h1 q)) (fun q => ?_)
  obtain ⟨l, rfl⟩ : ∃ p : Nat, x = (p : Int) := ⟨x.toNat, by omega⟩
  have n := xn h.1
  have b := lexN_b h.wf q.2
  have l10 := (h.lex q.2).1
  rw [Int.toNat_natCast] at *
  refine ⟨by omega, by omega, x_lexParadigm h q.2 ⟨by omega, by omega, 7, ?_⟩⟩
  have e : σ (k + 3 + 1) (f (la l)).toNat = ((lexN f l : Nat) : Int) := by
    rw [b.2.2.2.1]
    exact (h.par (p := lexP f l) b.2.1).2.1.1
  rw [e]
  have := x_missingCell_32 (σ := σ) (P := P) (X := X) q.2 hy (fun a τ g => (h2 q a).gx (h.gx g) g) (fun a τ g => (h3 q a).gx (h.gx g) g) 7 0 0 σ h gX.refl (by omega) (by omega) (by omega) (by omega) (by rw [Int.sub_zero]; rfl)
  exact_mod_cast this
/-! sets of words -/
theorem word_inj {v w : Nat} (hw : wfF f) (h1 : (v : Int) < f 1) (h2 : (w : Int) < f 1) (h : fl f (wa v) = fl f (wa w)) : v = w := hw.2.2.2.2.2.1 v w h1 h2 h
/-- a form is the word number attF, if any -/
theorem att_iff {v : List Int} {w : Nat} (hw : wfF f) (h : (w : Int) < f 1) : (v = fl f (wa w)) ↔ attF f v = (w : Int) := by
  constructor
  · intro e
    subst e
    by_cases q : attF f (fl f (wa w)) < 0
    · exact absurd rfl (attF_neg q w h)
    · have := attF_pos (f := f) (l := fl f (wa w)) (by omega)
      have e := word_inj hw this.2 h this.1
      omega
  · intro e
    have := attF_pos (f := f) (l := v) (by omega)
    rw [e, Int.toNat_natCast] at this
    exact this.1.symm
theorem x_attestedForms_26 {l : Nat} (hl : (l : Int) < f 2) (h1 : ∀ τ, gX σ τ k → P ((bs (inW f (hasF f l)) 16 : Nat) : Int) τ) : ∀ (n c : Nat) (τ : Sto), XI τ k f sv hs inp → gX σ τ k → c ≤ lexN f l → lexN f l - c < n → vX6_attestedForms_26 k P n (l : Int) ((lexN f l : Nat) : Int) ((bs (inW f (fun w => hasFn f l w c)) 16 : Nat) : Int) (c : Int) τ := by
  intro n
  induction n with
  | zero => intro c τ h hg h1 h2; omega
  | succ n ih =>
    intro c τ h hg h2 h3
    have b := lexN_b h.wf hl
    refine ⟨zR_s (by omega) (by omega), zR_s (by omega) (by omega), fun z => ?_, fun z => ?_⟩
    · rw [show c = lexN f l by omega]
      exact h1 τ hg
    · have nx : ∀ (υ : Sto) (B : Int), gX τ υ k → B = ((bs (inW f (fun w => hasFn f l w (c + 1))) 16 : Nat) : Int) → vX6_attestedForms_77 k P (vX6_attestedForms_26 k P n) (l : Int) ((lexN f l : Nat) : Int) B (c : Int) υ := fun υ B hυ eB => by
        subst eB
        have := ih (c + 1) υ (h.gx hυ) (hg.trans hυ) (by omega) (by omega)
        exact_mod_cast this
      refine x_blf h hl (by omega) (fun e υ g => ⟨zR_0, fun _ => nx υ _ g ?_, fun a => absurd rfl a⟩) (fun v υ e g ok hv => ⟨zRl rfl, fun a => absurd a (by decide), fun _ => ?_⟩)
      · congr 1
        refine bs_congr 16 (fun i _ => ?_)
        show (decide ((i : Int) < f 1) && hasFn f l i c) = (decide ((i : Int) < f 1) && (hasFn f l i c || decide (formF f l c = some (fl f (wa i)))))
        rw [e]
        simp
      · have hX := h.gx g
        have ab' := attF_b h.wf v
        refine sx_find (zf_5_state h.1) hX.st hX.wf ok ?_
        rw [hv]
        refine ⟨zR_s (by omega) (by omega), fun q => nx υ _ g ?_, fun q => nx υ _ g ?_⟩
        · congr 1
          refine bs_congr 16 (fun i _ => ?_)
          show (decide ((i : Int) < f 1) && hasFn f l i c) = (decide ((i : Int) < f 1) && (hasFn f l i c || decide (formF f l c = some (fl f (wa i)))))
          rw [e]
          by_cases hi : (i : Int) < f 1
          · have : ¬ (some v = some (fl f (wa i))) := fun z => by
              have := (att_iff h.wf hi).mp (Option.some.inj z)
              omega
            rw [decide_eq_false this, Bool.or_false]
          · rw [decide_eq_false hi, Bool.false_and, Bool.false_and]
        · obtain ⟨r, hr⟩ : ∃ r : Nat, attF f v = (r : Int) := ⟨(attF f v).toNat, by omega⟩
          rw [hr]
          refine bs_or (by omega) (fun i hi => ?_)
          show (decide ((i : Int) < f 1) && (hasFn f l i c || decide (formF f l c = some (fl f (wa i))))) = ((decide ((i : Int) < f 1) && hasFn f l i c) || decide (i = r))
          rw [e]
          by_cases hi : (i : Int) < f 1
          · have : decide (some v = some (fl f (wa i))) = decide (i = r) := decide_eq_decide.mpr ⟨fun z => by
              have := (att_iff h.wf hi).mp (Option.some.inj z)
              omega, fun z => by
              subst z
              rw [(att_iff h.wf hi).mpr hr]⟩
            rw [this, decide_eq_true hi, Bool.true_and, Bool.true_and]
          · have : ¬ i = r := fun z => by omega
            rw [decide_eq_false hi, decide_eq_false this, Bool.false_and, Bool.false_and]
            rfl
theorem x_attestedForms {l : Nat} (h : XI σ k f sv hs inp) (hl : (l : Int) < f 2) (h1 : ∀ τ, gX σ τ k → P ((bs (inW f (hasF f l)) 16 : Nat) : Int) τ) : vX6_attestedForms k (l : Int) P σ := by
  have n := xn h.1
  have b := lexN_b h.wf hl
  have l10 := (h.lex hl).1
  unfold vX6_attestedForms
  rw [Int.toNat_natCast]
  refine ⟨by omega, by omega, x_lexParadigm h hl ⟨by omega, by omega, 7, ?_⟩⟩
  have e : σ (k + 3 + 1) (f (la l)).toNat = ((lexN f l : Nat) : Int) := by
    rw [b.2.2.2.1]
    exact (h.par (p := lexP f l) b.2.1).2.1.1
  rw [e]
  have := x_attestedForms_26 (σ := σ) (P := P) hl h1 7 0 σ h gX.refl (by omega) (by omega)
  rw [show bs (inW f (fun w => hasFn f l w 0)) 16 = 0 from (bs_ext (S := inW f (fun w => hasFn f l w 0)) (n := 16) (B := 0) (by decide) (fun i _ => by unfold inW hasFn; simp)).symm] at this
  exact_mod_cast this
theorem x_coveredWords_4 (h1 : ∀ τ, gX σ τ k → P ((bs (inW f (covF f)) 16 : Nat) : Int) τ) : ∀ (n l : Nat) (τ : Sto), XI τ k f sv hs inp → gX σ τ k → (l : Int) ≤ f 2 → f 2 - l < n → vX6_coveredWords_4 k P n ((bs (inW f (fun w => covN f w l)) 16 : Nat) : Int) (l : Int) τ := by
  intro n
  induction n with
  | zero => intro c τ h hg h1 h2; omega
  | succ n ih =>
    intro l τ h hg h2 h3
    have b := h.wf.2.2.1
    unfold vX6_coveredWords_4 bX6_coveredWords_4
    rw [h.st.1.2.2]
    refine ⟨zR_s (by omega) (by omega), zR_s (by omega) (by omega), fun z => ?_, fun z => x_attestedForms h (by omega) (fun υ hυ => ?_)⟩
    · rw [show l = (f 2).toNat by omega]
      exact h1 τ hg
    · rw [bs_or2 (U := inW f (fun w => covN f w (l + 1))) (fun i _ => by
        show (decide ((i : Int) < f 1) && (covN f i l || hasF f l i)) = ((decide ((i : Int) < f 1) && covN f i l) || (decide ((i : Int) < f 1) && hasF f l i))
        cases decide ((i : Int) < f 1) <;> simp)]
      have := ih (l + 1) υ (h.gx hυ) (hg.trans hυ) (by omega) (by omega)
      exact_mod_cast this
theorem x_coveredWords (h : XI σ k f sv hs inp) (h1 : ∀ τ, gX σ τ k → P ((bs (inW f (covF f)) 16 : Nat) : Int) τ) : vX6_coveredWords k P σ := by
  have b := h.wf.2.2.1
  refine ⟨(f 2).toNat + 1, ?_⟩
  have := x_coveredWords_4 (σ := σ) (P := P) h1 ((f 2).toNat + 1) 0 σ h gX.refl (by omega) (by omega)
  rw [show bs (inW f (fun w => covN f w 0)) 16 = 0 from (bs_ext (S := inW f (fun w => covN f w 0)) (n := 16) (B := 0) (by decide) (fun i _ => by unfold inW covN; simp)).symm] at this
  exact_mod_cast this
theorem x_uncovered (h : XI σ k f sv hs inp) (h1 : xU σ k (eqF f) sv hs inp (P (f 1 - ((cnt (inW f (covF f)) 16 : Nat) : Int)))) : vX6_uncovered k P σ := by
  refine x_coveredWords h (fun τ g => s_bitCount ?_)
  rw [h.st.1.2.1]
  exact h1.gx (h.gx g) g
theorem x_hasForm (h : XI σ k f sv hs inp) (hx : zR x) (hy : zR y) (h1 : ¬ (isL f x ∧ isW f y) → xU σ k (eqF f) sv hs inp (X 0)) (h2 : (isL f x ∧ isW f y) → xU σ k (eqF f) sv hs inp (P (b2i (hasF f x.toNat y.toNat)))) : vX6_hasForm k x y P X σ := by
  refine x_checkLexeme h hx (fun q => xU.same h (h1 (fun z => q z.1))) (fun q => x_checkWord h hy (fun q2 => xU.same h (h1 (fun z => q2 z.2))) (fun q2 => ?_))
  obtain ⟨l, rfl⟩ : ∃ p : Nat, x = (p : Int) := ⟨x.toNat, by omega⟩
  obtain ⟨w, rfl⟩ : ∃ p : Nat, y = (p : Int) := ⟨y.toNat, by omega⟩
  have r := h2 ⟨q, q2⟩
  rw [Int.toNat_natCast, Int.toNat_natCast] at r
  have w16 := h.wf.2.1
  refine x_attestedForms h q.2 (fun τ g => s_hasBit (by omega) ⟨b2i_01 _, ?_⟩)
  have e : inW f (hasF f l) w = hasF f l w := by unfold inW; rw [decide_eq_true q2.2, Bool.true_and]
  rw [e]
  exact r.gx (h.gx g) g
theorem x_lexemesOf_9 {w : Nat} (hw : (w : Int) < f 1) (h1 : ∀ τ, gX σ τ k → P (lexW f w) τ) : ∀ (n l : Nat) (a : Int) (τ : Sto), XI τ k f sv hs inp → gX σ τ k → (l : Int) ≤ f 2 → f 2 - l < n → lp (lexC f w) ((f 2).toNat - l) l a = lexW f w → vX6_lexemesOf_9 k P X n (w : Int) a (l : Int) τ := by
  intro n
  induction n with
  | zero => intro c a τ h hg h1 h2; omega
  | succ n ih =>
    intro l a τ h hg h2 h3 h4
    have b := h.wf.2.2.1
    have w16 := h.wf.2.1
    unfold vX6_lexemesOf_9 bX6_lexemesOf_9
    rw [h.st.1.2.2]
    refine ⟨zR_s (by omega) (by omega), zR_s (by omega) (by omega), fun z => ?_, fun z => x_attestedForms h (by omega) (fun υ hυ => s_hasBit (by omega) ?_)⟩
    · rw [show (f 2).toNat - l = 0 by omega] at h4
      have e : a = lexW f w := h4
      rw [e]
      exact h1 τ hg
    · have e : inW f (hasF f l) w = hasF f l w := by unfold inW; rw [decide_eq_true hw, Bool.true_and]
      rw [e]
      rw [show (f 2).toNat - l = ((f 2).toNat - (l + 1)) + 1 by omega] at h4
      have nx : ∀ a', a' = lexC f w l a → vX6_lexemesOf_35 k P X (vX6_lexemesOf_9 k P X n) (w : Int) a' (l : Int) υ := fun a' ea' => by
        subst ea'
        have := ih (l + 1) (lexC f w l a) υ (h.gx hυ) (hg.trans hυ) (by omega) (by omega) h4
        exact_mod_cast this
      exact ⟨b2i_R _, fun q => nx _ (by unfold lexC; rw [b2i_0.mp q]; rfl), fun q => nx _ (by unfold lexC; rw [b2i_1.mp q]; rfl)⟩
theorem x_lexemesOf (h : XI σ k f sv hs inp) (hx : zR x) (h1 : ¬ isW f x → xU σ k (eqF f) sv hs inp (X 0)) (h2 : isW f x → xU σ k (eqF f) sv hs inp (P (lexW f x.toNat))) : vX6_lexemesOf k x P X σ := by
  refine x_checkWord h hx (fun q => xU.same h (h1 q)) (fun q => ?_)
  obtain ⟨w, rfl⟩ : ∃ p : Nat, x = (p : Int) := ⟨x.toNat, by omega⟩
  rw [Int.toNat_natCast] at *
  have b := h.wf.2.2.1
  refine ⟨(f 2).toNat + 1, ?_⟩
  have := x_lexemesOf_9 (σ := σ) (P := P) (X := X) q.2 (fun τ g => (h2 q).gx (h.gx g) g) ((f 2).toNat + 1) 0 0 σ h gX.refl (by omega) (by omega) rfl
  exact_mod_cast this
theorem x_lexeme (h : XI σ k f sv hs inp) (hx : zR x) (hy : zR y) (h1 : ¬ isL f x → xU σ k (eqF f) sv hs inp (X 0)) (h2 : isL f x → ¬ (0 ≤ y ∧ y ≤ 2) → xU σ k (eqF f) sv hs inp (X 1)) (h3 : isL f x → (0 ≤ y ∧ y ≤ 2) → xU σ k (eqF f) sv hs inp (P (if y = 2 then excF f x.toNat else f (la x.toNat + y.toNat)))) : vX6_lexeme k x y P X σ := by
  refine x_checkLexeme h hx (fun q => xU.same h (h1 q)) (fun q => ?_)
  obtain ⟨l, rfl⟩ : ∃ p : Nat, x = (p : Int) := ⟨x.toNat, by omega⟩
  rw [Int.toNat_natCast] at *
  have n := xn h.1
  have lp' := lex_pair h.wf q.2
  have l10 := (h.lex q.2).1
  refine ⟨hy, fun z => ⟨by omega, by omega, x_lexParadigm h q.2 ?_⟩, fun z => ⟨by omega, by omega, ?_⟩, fun z => x_exceptionCount h q.2 ?_, fun z => xU.same h (h2 q (by omega))⟩
  · have := xU.same h (h3 q (by omega))
    rw [z, if_neg (by decide)] at this
    exact this
  · have := xU.same h (h3 q (by omega))
    rw [z, if_neg (by decide)] at this
    have ep : σ (k + 3 + 18) l = ((0 * 2 ^ 57 + pairN (lexP f l) (fl f (la l + 1)) : Nat) : Int) := by rw [(h.lex q.2).2.1.1, Nat.zero_mul, Nat.zero_add]; rfl
    rw [ep]
    refine s_stemLength (by unfold lexP; omega) lp'.2.2.2.2.1 lp'.2.2.2.2.2.1 (by decide) ?_
    rw [← lp'.2.2.2.2.2.2]
    exact this
  · have := xU.same h (h3 q (by omega))
    rw [z, if_pos rfl] at this
    exact this
theorem x_takeStem (h : XI σ k f sv hs inp) (hx : zR x) (h1 : ¬ isL f x → xU σ k (eqF f) sv hs inp (X 0)) (h2 : isL f x → xU σ k (eqF f) sv hs (fl f (la x.toNat + 1)) (P (f (la x.toNat + 1)))) : vX6_takeStem k x P X σ := by
  refine x_checkLexeme h hx (fun q => xU.same h (h1 q)) (fun q => ?_)
  obtain ⟨l, rfl⟩ : ∃ p : Nat, x = (p : Int) := ⟨x.toNat, by omega⟩
  rw [Int.toNat_natCast] at *
  have n := xn h.1
  have lp' := lex_pair h.wf q.2
  have l10 := (h.lex q.2).1
  have ep : σ (k + 3 + 18) l = ((0 * 2 ^ 57 + pairN (lexP f l) (fl f (la l + 1)) : Nat) : Int) := by rw [(h.lex q.2).2.1.1, Nat.zero_mul, Nat.zero_add]; rfl
  rw [ep]
  refine ⟨by omega, by omega, s_unpackStem (by unfold lexP; omega) lp'.2.2.2.2.1 lp'.2.2.2.2.2.1 (by decide) h.2.1.1.1 (fun τ hτ => ?_)⟩
  have r := h.input hτ (by omega) lp'.2.2.2.2.2.1
  rw [hτ.2.2, ← lp'.2.2.2.2.2.2]
  exact h2 q τ (fun _ e => e ▸ r.1) r.2
theorem x_takeForm (h : XI σ k f sv hs inp) (hx : zR x) (hy : zR y) (h1 : ¬ isLC f x y → xU σ k (eqF f) sv hs inp (X 0)) (h2 : isLC f x y → formF f x.toNat y.toNat = none → xU σ k (eqF f) sv hs inp (X 3)) (h3 : ∀ v, isLC f x y → formF f x.toNat y.toNat = some v → ¬ v.length ≤ 14 → xU σ k (eqF f) sv hs inp (X 3)) (h4 : ∀ v, isLC f x y → formF f x.toNat y.toNat = some v → v.length ≤ 14 → xU σ k (eqF f) sv hs v (P (v.length : Int))) : vX6_takeForm k x y P X σ := by
  refine x_checkLexemeCell h hx hy (fun q => xU.same h (h1 q)) (fun q => ?_)
  obtain ⟨l, rfl⟩ : ∃ p : Nat, x = (p : Int) := ⟨x.toNat, by omega⟩
  obtain ⟨c, rfl⟩ : ∃ p : Nat, y = (p : Int) := ⟨y.toNat, by have := q.2.2.1; omega⟩
  rw [Int.toNat_natCast] at *
  have b := lexN_b h.wf q.1.2
  have hc : c < lexN f l := by
    have := q.2.2.2
    rw [Int.toNat_natCast] at this
    unfold lexN lexP
    omega
  rw [Int.toNat_natCast] at *
  refine x_blf h q.1.2 hc (fun e τ g => x_takeBuilt0 ((h2 q e).gx (h.gx g) g)) (fun v τ e g ok hv => x_takeBuilt (h.gx g) ok hv (fun a => (h3 v q e a).gx (h.gx g) g) (fun a υ u1 u2 => h4 v q e a υ u1 (g.f.trans u2)))
end
