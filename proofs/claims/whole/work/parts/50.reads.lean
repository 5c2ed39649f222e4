/-! PURE: what arguments name; calls that only read -/
abbrev isP (f : Nat → Int) (x : Int) : Prop := 0 ≤ x ∧ x < f 0
abbrev isC (f : Nat → Int) (x y : Int) : Prop := isP f x ∧ 0 ≤ y ∧ y < f (pa x.toNat)
abbrev isW (f : Nat → Int) (x : Int) : Prop := 0 ≤ x ∧ x < f 1
abbrev isL (f : Nat → Int) (x : Int) : Prop := 0 ≤ x ∧ x < f 2
abbrev isLC (f : Nat → Int) (x y : Int) : Prop := isL f x ∧ isC f (f (la x.toNat)) y
theorem xn {k : Nat} (h : zk k = 5) : zn (k + 3 + 1) = 6 ∧ zn (k + 3 + 2) = 6 ∧ zn (k + 3 + 3) = 6 ∧ zn (k + 3 + 7) = 36 ∧ zn (k + 3 + 8) = 36 ∧ zn (k + 3 + 9 + 1) = 36 ∧ zn (k + 3 + 12 + 1) = 36 ∧ zn (k + 3 + 15 + 1) = 16 ∧ zn (k + 3 + 18) = 10 ∧ zn (k + 3 + 19 + 1) = 60 ∧ zn (k + 269 + 1) = 2880 ∧ zn (k + 269 + 2) = 2880 := zk_all (P := fun k => zk k = 5 → zn (k + 3 + 1) = 6 ∧ zn (k + 3 + 2) = 6 ∧ zn (k + 3 + 3) = 6 ∧ zn (k + 3 + 7) = 36 ∧ zn (k + 3 + 8) = 36 ∧ zn (k + 3 + 9 + 1) = 36 ∧ zn (k + 3 + 12 + 1) = 36 ∧ zn (k + 3 + 15 + 1) = 16 ∧ zn (k + 3 + 18) = 10 ∧ zn (k + 3 + 19 + 1) = 60 ∧ zn (k + 269 + 1) = 2880 ∧ zn (k + 269 + 2) = 2880) (by decide +kernel) h (by decide) h
section
variable {σ : Sto} {k m : Nat} {f : Nat → Int} {sv : Option (Nat → Int)} {hs : List (Nat → Int)} {inp : List Int} {P : Int → Sto → Prop} {X : Nat → Sto → Prop} {Q : Sto → Prop} {x y w : Int}
theorem XI.st (h : XI σ k f sv hs inp) : repS σ (k + 3) f := h.2.2.1.1
theorem XI.wf (h : XI σ k f sv hs inp) : wfF f := h.2.2.1.2
theorem MI.wf (h : MI σ m f sv hs inp) : wfF f := h.2.2.1.2
theorem MI.row (h : MI σ m f sv hs inp) : σ (m + 1) = f := h.2.2.1.1
theorem XI.par {p : Nat} (h : XI σ k f sv hs inp) (hp : (p : Int) < f 0) : p < 6 ∧ repP σ (k + 3) f p ∧ wfP f p := by
  have hw := h.wf
  have h6 : p < 6 := by have := hw.1; omega
  exact ⟨h6, (h.st.2.1 p h6).1 hp, hw.2.2.2.1 p hp⟩
theorem XI.lex {l : Nat} (h : XI σ k f sv hs inp) (hl : (l : Int) < f 2) : l < 10 ∧ repL σ (k + 3) f l ∧ wfL f l := by
  have hw := h.wf
  have h6 : l < 10 := by have := hw.2.2.1; omega
  exact ⟨h6, (h.st.2.2.2 l h6).1 hl, hw.2.2.2.2.2.2 l hl⟩
theorem isC_n {p : Nat} : isC f (p : Int) y ↔ (p : Int) < f 0 ∧ 0 ≤ y ∧ y < f (pa p) := by
  constructor
  · intro h
    exact ⟨h.1.2, h.2.1, h.2.2⟩
  · intro h
    exact ⟨⟨by omega, h.1⟩, h.2.1, h.2.2⟩
theorem isP_toNat (h : isP f x) : ∃ p : Nat, x = (p : Int) := ⟨x.toNat, by omega⟩
theorem x_checkParadigm (h : XI σ k f sv hs inp) (hx : zR x) (h1 : ¬ isP f x → X 0 σ) (h2 : isP f x → Q σ) : vX6_checkParadigm k x Q X σ := by
  have e := h.st.1.1
  have hw := h.wf.1
  refine ⟨hx, fun z => h1 (by omega), fun z => ⟨hx, by rw [e]; exact zR_s (by omega) (by omega), fun z2 => h2 (by omega), fun z2 => h1 (by omega)⟩⟩
theorem x_checkCell (h : XI σ k f sv hs inp) (hx : zR x) (hy : zR y) (h1 : ¬ isC f x y → X 0 σ) (h2 : isC f x y → Q σ) : vX6_checkCell k x y Q X σ := by
  refine x_checkParadigm h hx (fun w => h1 (fun q => w q.1)) (fun w => ?_)
  obtain ⟨p, rfl⟩ := isP_toNat w
  obtain ⟨p6, rp, wp⟩ := h.par w.2
  have n := xn h.1
  have e := rp.1
  have c := wp.1
  simp only [Int.toNat_natCast] at *
  refine ⟨hy, fun z => h1 (fun q => by have := q.2.1; omega), fun z => ⟨by omega, by omega, hy, by rw [e]; exact zR_s (by omega) (by omega), fun z2 => h2 (isC_n.mpr ⟨w.2, by omega, by omega⟩), fun z2 => h1 (fun q => by have := (isC_n.mp q).2.2; omega)⟩⟩
theorem x_checkWord (h : XI σ k f sv hs inp) (hx : zR x) (h1 : ¬ isW f x → X 0 σ) (h2 : isW f x → Q σ) : vX6_checkWord k x Q X σ := by
  have e := h.st.1.2.1
  have hw := h.wf.2.1
  refine ⟨hx, fun z => h1 (by omega), fun z => ⟨hx, by rw [e]; exact zR_s (by omega) (by omega), fun z2 => h2 (by omega), fun z2 => h1 (by omega)⟩⟩
theorem x_checkLexeme (h : XI σ k f sv hs inp) (hx : zR x) (h1 : ¬ isL f x → X 0 σ) (h2 : isL f x → Q σ) : vX6_checkLexeme k x Q X σ := by
  have e := h.st.1.2.2
  have hw := h.wf.2.2.1
  refine ⟨hx, fun z => h1 (by omega), fun z => ⟨hx, by rw [e]; exact zR_s (by omega) (by omega), fun z2 => h2 (by omega), fun z2 => h1 (by omega)⟩⟩
/-- the number of a lexeme -/
theorem lex_pair {l : Nat} (hw : wfF f) (hl : (l : Int) < f 2) : (f (la l)).toNat < 6 ∧ ((f (la l)).toNat : Int) = f (la l) ∧ f (la l) < f 0 ∧ 2 ≤ (fl f (la l + 1)).length ∧ (fl f (la l + 1)).length ≤ 10 ∧ ab (fl f (la l + 1)) ∧ f (la l + 1) = ((fl f (la l + 1)).length : Int) := by
  obtain ⟨⟨a, b⟩, ⟨c1, c2, c3⟩, -⟩ := hw.2.2.2.2.2.2 l hl
  have := hw.1
  have el : ((fl f (la l + 1)).length : Int) = f (la l + 1) := by
    unfold fl
    rw [seg_len]
    omega
  exact ⟨by omega, by omega, b, by omega, by omega, c3, el.symm⟩
theorem x_lexParadigm {l : Nat} (h : XI σ k f sv hs inp) (hl : (l : Int) < f 2) (h1 : P (f (la l)) σ) : vX2_paradigm (σ (k + 3 + 18) l) P σ := by
  have hp := lex_pair h.wf hl
  rw [(h.lex hl).2.1.1, show pairN (f (la l)).toNat (fl f (la l + 1)) = 0 * 2 ^ 57 + pairN (f (la l)).toNat (fl f (la l + 1)) by omega]
  refine s_paradigm (by omega) hp.2.2.2.2.1 hp.2.2.2.2.2.1 (by decide) ?_
  rw [hp.2.1]
  exact h1
theorem x_checkLexemeCell (h : XI σ k f sv hs inp) (hx : zR x) (hy : zR y) (h1 : ¬ isLC f x y → X 0 σ) (h2 : isLC f x y → Q σ) : vX6_checkLexemeCell k x y Q X σ := by
  refine x_checkLexeme h hx (fun w => h1 (fun q => w q.1)) (fun w => ?_)
  obtain ⟨l, rfl⟩ : ∃ p : Nat, x = (p : Int) := ⟨x.toNat, by omega⟩
  have n := xn h.1
  have hp := lex_pair h.wf w.2
  have := (h.lex w.2).1
  simp only [Int.toNat_natCast] at *
  refine ⟨by omega, by omega, x_lexParadigm h w.2 (x_checkCell h (zR_s (by omega) (by omega)) hy (fun q => h1 (fun q2 => q q2.2)) (fun q => h2 ⟨w, q⟩))⟩
/-! the reference -/
theorem dec_eq {p q : Prop} [Decidable p] [Decidable q] (h : p ↔ q) : b2i (decide p) = b2i (decide q) := by
  congr 1
  exact decide_eq_decide.mpr h
theorem m_isParadigm (h : MI σ m f sv hs inp) (hx : zR x) (h1 : P (b2i (decide (isP f x))) σ) : vX7_isParadigm m x P σ := by
  have z := mz h.1
  have hw := h.wf.1
  unfold vX7_isParadigm
  rw [h.row, show Int.toNat 0 = 0 from rfl]
  refine ⟨hx, by rw [z.1]; decide, zR_s (by omega) (by omega), s7_in (zQ_R hx) (zQ_s (by decide) (by decide)) (zQ_s (by omega) (by omega)) ⟨b2i_01 _, ?_⟩⟩
  rw [dec_eq (q := isP f x) (by omega)]
  exact h1
theorem m_isWord (h : MI σ m f sv hs inp) (hx : zR x) (h1 : P (b2i (decide (isW f x))) σ) : vX7_isWord m x P σ := by
  have z := mz h.1
  have hw := h.wf.2.1
  unfold vX7_isWord
  rw [h.row, show Int.toNat 1 = 1 from rfl]
  refine ⟨hx, by rw [z.1]; decide, zR_s (by omega) (by omega), s7_in (zQ_R hx) (zQ_s (by decide) (by decide)) (zQ_s (by omega) (by omega)) ⟨b2i_01 _, ?_⟩⟩
  rw [dec_eq (q := isW f x) (by omega)]
  exact h1
theorem m_isLexeme (h : MI σ m f sv hs inp) (hx : zR x) (h1 : P (b2i (decide (isL f x))) σ) : vX7_isLexeme m x P σ := by
  have z := mz h.1
  have hw := h.wf.2.2.1
  unfold vX7_isLexeme
  rw [h.row, show Int.toNat 2 = 2 from rfl]
  refine ⟨hx, by rw [z.1]; decide, zR_s (by omega) (by omega), s7_in (zQ_R hx) (zQ_s (by decide) (by decide)) (zQ_s (by omega) (by omega)) ⟨b2i_01 _, ?_⟩⟩
  rw [dec_eq (q := isL f x) (by omega)]
  exact h1
theorem m_cellMany {p : Nat} (hm : zk m = 6) (e : σ (m + 1) = f) (hp : p < 6) (h1 : P (f (pa p)) σ) : vX7_cellMany m (p : Int) P σ := by
  have z := mz hm
  unfold vX7_cellMany vX7_paradigmAt
  dsimp only
  rw [show ((3 : Int) + 80 * (p : Int)) = ((pa p : Nat) : Int) by unfold pa; omega, Int.toNat_natCast, e]
  exact ⟨by omega, by rw [z.1]; unfold pa; omega, h1⟩
theorem m_isCell (h : MI σ m f sv hs inp) (hx : zR x) (hy : zR y) (h1 : P (b2i (decide (isC f x y))) σ) : vX7_isCell m x y P σ := by
  have hw := h.wf
  refine m_isParadigm h hx ⟨b2i_R _, fun w => ⟨Or.inl rfl, ?_⟩, fun w => ⟨hy, ?_⟩⟩
  · have q := of_decide_eq_false (b2i_0.mp w)
    rw [show decide (isC f x y) = false from decide_eq_false (fun a => q a.1)] at h1
    exact h1
  · have q := of_decide_eq_true (b2i_1.mp w)
    obtain ⟨p, rfl⟩ := isP_toNat q
    have wp := hw.2.2.2.1 p q.2
    have w1 := wp.1
    have w0 := hw.1
    refine m_cellMany h.1 h.row (by omega) ⟨zR_s (by omega) (by omega), s7_in (zQ_R hy) (zQ_s (by decide) (by decide)) (zQ_s (by omega) (by omega)) ⟨b2i_R _, fun w2 => ⟨Or.inl rfl, ?_⟩, fun w2 => ⟨Or.inr rfl, ?_⟩⟩⟩
    · have q2 := of_decide_eq_false (b2i_0.mp w2)
      rw [show decide (isC f p y) = false from decide_eq_false (fun a => q2 (by have := a.2; simp only [Int.toNat_natCast] at this; omega))] at h1
      exact h1
    · have q2 := of_decide_eq_true (b2i_1.mp w2)
      rw [show decide (isC f p y) = true from decide_eq_true ⟨q, by omega, by simp only [Int.toNat_natCast]; omega⟩] at h1
      exact h1
theorem m_hasCell (h : MI σ m f sv hs inp) (hx : zR x) (hy : zR y) (h1 : P (b2i (decide (isLC f x y))) σ) : vX7_hasCell m x y P σ := by
  have hw := h.wf
  have z := mz h.1
  refine m_isLexeme h hx ⟨b2i_R _, fun w => ⟨Or.inl rfl, ?_⟩, fun w => ?_⟩
  · have q := of_decide_eq_false (b2i_0.mp w)
    rw [show decide (isLC f x y) = false from decide_eq_false (fun a => q a.1)] at h1
    exact h1
  · have q := of_decide_eq_true (b2i_1.mp w)
    obtain ⟨l, rfl⟩ : ∃ p : Nat, x = (p : Int) := ⟨x.toNat, by omega⟩
    have hp := lex_pair hw q.2
    have h2 := hw.2.2.1
    unfold vX7_lexemeAt
    dsimp only
    rw [show ((723 : Int) + 102 * (l : Int)) = ((la l : Nat) : Int) by unfold la; omega, Int.toNat_natCast, h.row]
    refine ⟨by omega, by rw [z.1]; unfold la; omega, m_isCell h (zR_s (by omega) (by omega)) hy ⟨b2i_R _, fun w2 => ⟨Or.inl rfl, ?_⟩, fun w2 => ⟨Or.inr rfl, ?_⟩⟩⟩
    · have q2 := of_decide_eq_false (b2i_0.mp w2)
      rw [show decide (isLC f l y) = false from decide_eq_false (fun a => q2 (by have := a.2; simp only [Int.toNat_natCast] at this; exact this))] at h1
      exact h1
    · have q2 := of_decide_eq_true (b2i_1.mp w2)
      rw [show decide (isLC f l y) = true from decide_eq_true ⟨q, by simp only [Int.toNat_natCast]; exact q2⟩] at h1
      exact h1
/-! counts -/
theorem x_paradigmCount (h : XI σ k f sv hs inp) (h1 : xU σ k (eqF f) sv hs inp (P (f 0))) : vX6_paradigmCount k P σ := by
  unfold vX6_paradigmCount
  rw [h.st.1.1]
  exact xU.same h h1
theorem m_paradigmCount (h : MI σ m f sv hs inp) (h1 : mU σ m (eqF f) sv hs inp 0 (P (f 0))) : vX7_paradigmCount m P σ := by
  intro s e
  subst e
  refine ⟨by rw [(mz h.1).1]; decide, ?_⟩
  rw [zu_ne (by omega : m + 1 ≠ m), h.row]
  exact mU.same h h1
theorem x_wordCount (h : XI σ k f sv hs inp) (h1 : xU σ k (eqF f) sv hs inp (P (f 1))) : vX6_wordCount k P σ := by
  unfold vX6_wordCount
  rw [h.st.1.2.1]
  exact xU.same h h1
theorem m_wordCount (h : MI σ m f sv hs inp) (h1 : mU σ m (eqF f) sv hs inp 0 (P (f 1))) : vX7_wordCount m P σ := by
  intro s e
  subst e
  refine ⟨by rw [(mz h.1).1]; decide, ?_⟩
  rw [zu_ne (by omega : m + 1 ≠ m), h.row]
  exact mU.same h h1
theorem x_lexemeCount (h : XI σ k f sv hs inp) (h1 : xU σ k (eqF f) sv hs inp (P (f 2))) : vX6_lexemeCount k P σ := by
  unfold vX6_lexemeCount
  rw [h.st.1.2.2]
  exact xU.same h h1
theorem m_lexemeCount (h : MI σ m f sv hs inp) (h1 : mU σ m (eqF f) sv hs inp 0 (P (f 2))) : vX7_lexemeCount m P σ := by
  intro s e
  subst e
  refine ⟨by rw [(mz h.1).1]; decide, ?_⟩
  rw [zu_ne (by omega : m + 1 ≠ m), h.row]
  exact mU.same h h1
theorem x_cellCount (h : XI σ k f sv hs inp) (hx : zR x) (h1 : ¬ isP f x → xU σ k (eqF f) sv hs inp (X 0)) (h2 : isP f x → xU σ k (eqF f) sv hs inp (P (f (pa x.toNat)))) : vX6_cellCount k x P X σ := by
  refine x_checkParadigm h hx (fun w => xU.same h (h1 w)) (fun w => ?_)
  have q := xU.same h (h2 w)
  obtain ⟨p, rfl⟩ := isP_toNat w
  obtain ⟨p6, rp, wp⟩ := h.par w.2
  have n := xn h.1
  rw [Int.toNat_natCast] at *
  rw [rp.1]
  exact ⟨by omega, by omega, q⟩
theorem m_cellCount (h : MI σ m f sv hs inp) (hx : zR x) (h1 : ¬ isP f x → mU σ m (eqF f) sv hs inp 1 (P 0)) (h2 : isP f x → mU σ m (eqF f) sv hs inp 0 (P (f (pa x.toNat)))) : vX7_cellCount m x P σ := by
  refine m_isParadigm h hx ⟨b2i_R _, fun w => m_go1 (by decide) (mU.same h (h1 (of_decide_eq_false (b2i_0.mp w)))), fun w => m_go0 ?_⟩
  have q := of_decide_eq_true (b2i_1.mp w)
  have r := mU.same h (h2 q)
  obtain ⟨p, rfl⟩ := isP_toNat q
  have := h.wf.1
  exact m_cellMany h.1 (by rw [zu_ne (by omega : m + 1 ≠ m)]; exact h.row) (by omega) r
/-- what cell answers -/
def cellF (f : Nat → Int) (x y w : Int) : Int := if w = 2 then f (ca x.toNat y.toNat + 7) else f (ca x.toNat y.toNat + w.toNat)
theorem x_cell (h : XI σ k f sv hs inp) (hx : zR x) (hy : zR y) (hz : zR w) (h1 : ¬ isC f x y → xU σ k (eqF f) sv hs inp (X 0)) (h2 : isC f x y → ¬ (0 ≤ w ∧ w ≤ 2) → xU σ k (eqF f) sv hs inp (X 1)) (h3 : isC f x y → (0 ≤ w ∧ w ≤ 2) → xU σ k (eqF f) sv hs inp (P (cellF f x y w))) : vX6_cell k x y w P X σ := by
  refine x_checkCell h hx hy (fun q => xU.same h (h1 q)) (fun q => ?_)
  obtain ⟨p, rfl⟩ := isP_toNat q.1
  obtain ⟨c, rfl⟩ : ∃ c : Nat, y = (c : Int) := ⟨y.toNat, by omega⟩
  obtain ⟨rc, wc, p6, c6, -, -⟩ := rep_cell (zf_5_state h.1) h.st h.wf (p := p) (c := c) q.1.2 (by have := q.2.2; simp only [Int.toNat_natCast] at this; exact this)
  have n := xn h.1
  unfold vX6_cellSlot
  dsimp only
  have e : (p : Int) * 6 + (c : Int) = ((6 * p + c : Nat) : Int) := by omega
  rw [e, Int.toNat_natCast]
  have h3' := h3 q
  unfold cellF at h3'
  simp only [Int.toNat_natCast] at h3'
  refine ⟨hz, fun z => ⟨by omega, by omega, ?_⟩, fun z => ⟨by omega, by omega, ?_⟩, fun z => ⟨by omega, by omega, ?_⟩, fun z => xU.same h (h2 q (by omega))⟩
  · subst z
    have := xU.same h (h3' (by decide))
    rw [rc.1]
    exact this
  · subst z
    have := xU.same h (h3' (by decide))
    rw [rc.2.1]
    exact this
  · subst z
    have := xU.same h (h3' (by decide))
    rw [rc.2.2.2.1]
    exact this
theorem m_cell (h : MI σ m f sv hs inp) (hx : zR x) (hy : zR y) (hz : zR w) (h1 : ¬ isC f x y → mU σ m (eqF f) sv hs inp 1 (P 0)) (h2 : isC f x y → ¬ (0 ≤ w ∧ w ≤ 2) → mU σ m (eqF f) sv hs inp 2 (P 0)) (h3 : isC f x y → (0 ≤ w ∧ w ≤ 2) → mU σ m (eqF f) sv hs inp 0 (P (cellF f x y w))) : vX7_cell m x y w P σ := by
  refine m_isCell h hx hy ⟨b2i_R _, fun q => ⟨hz, s7_in (zQ_R hz) (zQ_s (by decide) (by decide)) (zQ_s (by decide) (by decide)) ⟨b2i_R _, fun q2 => ?_, fun q2 => ?_⟩⟩, fun q => m_go1 (by decide) (mU.same h (h1 (of_decide_eq_false (b2i_0.mp q))))⟩
  · have q := of_decide_eq_true (b2i_1.mp q)
    have q2 := of_decide_eq_true (b2i_1.mp q2)
    have r := mU.same h (h3 q q2)
    obtain ⟨p, rfl⟩ := isP_toNat q.1
    obtain ⟨c, rfl⟩ : ∃ c : Nat, y = (c : Int) := ⟨y.toNat, by omega⟩
    have hw := h.wf
    have wp := (hw.2.2.2.1 p q.1.2).1
    have c6 := q.2.2
    simp only [Int.toNat_natCast] at c6
    have z := mz h.1
    have w0 := hw.1
    refine m_go0 ?_
    unfold vX7_cellAt vX7_paradigmAt
    dsimp only
    rw [show ((3 : Int) + 80 * (p : Int) + 8 + 12 * (c : Int)) = ((ca p c : Nat) : Int) by unfold ca; omega]
    unfold cellF at r
    simp only [Int.toNat_natCast] at r
    have hca : ca p c < 500 := by unfold ca; omega
    refine ⟨hz, fun e => ⟨by omega, by rw [z.1]; omega, ?_⟩, fun e => ⟨by omega, by rw [z.1]; omega, ?_⟩⟩
    · rw [if_neg e] at r
      rw [zu_ne (by omega : m + 1 ≠ m), h.row, show (((ca p c : Nat) : Int) + w).toNat = ca p c + w.toNat by omega]
      exact r
    · rw [if_pos e] at r
      rw [zu_ne (by omega : m + 1 ≠ m), h.row, show (((ca p c : Nat) : Int) + 7).toNat = ca p c + 7 by omega]
      exact r
  · exact m_go1 (by decide) (mU.same h (h2 (of_decide_eq_true (b2i_1.mp q)) (of_decide_eq_false (b2i_0.mp q2))))
theorem x_wordLength (h : XI σ k f sv hs inp) (hx : zR x) (h1 : ¬ isW f x → xU σ k (eqF f) sv hs inp (X 0)) (h2 : isW f x → xU σ k (eqF f) sv hs inp (P (f (wa x.toNat)))) : vX6_wordLength k x P X σ := by
  refine x_checkWord h hx (fun w => xU.same h (h1 w)) (fun w => ?_)
  have q := xU.same h (h2 w)
  obtain ⟨p, rfl⟩ : ∃ c : Nat, x = (c : Int) := ⟨x.toNat, by omega⟩
  have n := xn h.1
  have := h.wf.2.1
  rw [Int.toNat_natCast] at *
  rw [(h.st.2.2.1 p w.2).1]
  exact ⟨by omega, by omega, q⟩
theorem m_wordLength (h : MI σ m f sv hs inp) (hx : zR x) (h1 : ¬ isW f x → mU σ m (eqF f) sv hs inp 1 (P 0)) (h2 : isW f x → mU σ m (eqF f) sv hs inp 0 (P (f (wa x.toNat)))) : vX7_wordLength m x P σ := by
  refine m_isWord h hx ⟨b2i_R _, fun w => m_go1 (by decide) (mU.same h (h1 (of_decide_eq_false (b2i_0.mp w)))), fun w => m_go0 ?_⟩
  have q := of_decide_eq_true (b2i_1.mp w)
  have r := mU.same h (h2 q)
  obtain ⟨p, rfl⟩ : ∃ c : Nat, x = (c : Int) := ⟨x.toNat, by omega⟩
  have := h.wf.2.1
  unfold vX7_wordAt
  dsimp only
  rw [show ((483 : Int) + 15 * (p : Int)) = ((wa p : Nat) : Int) by unfold wa; omega, zu_ne (by omega : m + 1 ≠ m), h.row]
  exact ⟨by omega, by rw [(mz h.1).1]; unfold wa; omega, r⟩
theorem fl_getD {g : Nat → Int} {q i : Nat} (hi : (i : Int) < g q) : (fl g q).getD i 0 = g (q + 1 + i) := by
  rw [List.getD_eq_getElem?_getD]
  unfold fl
  rw [seg_get (by omega)]
  rfl
theorem x_wordLetter (h : XI σ k f sv hs inp) (hx : zR x) (hy : zR y) (h1 : ¬ (isW f x ∧ 0 ≤ y ∧ y < f (wa x.toNat)) → xU σ k (eqF f) sv hs inp (X 0)) (h2 : (isW f x ∧ 0 ≤ y ∧ y < f (wa x.toNat)) → xU σ k (eqF f) sv hs inp (P ((fl f (wa x.toNat)).getD y.toNat 0))) : vX6_wordLetter k x y P X σ := by
  refine x_checkWord h hx (fun w => xU.same h (h1 (fun q => w q.1))) (fun w => ?_)
  obtain ⟨p, rfl⟩ : ∃ c : Nat, x = (c : Int) := ⟨x.toNat, by omega⟩
  have n := xn h.1
  have hn := h.wf.2.1
  have tw := h.st.2.2.1 p w.2
  have ww := h.wf.2.2.2.2.1 p w.2
  obtain ⟨tk, te⟩ := rep_word (zf_5_state h.1) h.st h.wf w.2
  rw [Int.toNat_natCast] at *
  refine ⟨hy, fun z => xU.same h (h1 (fun q => by omega)), fun z => ⟨by omega, by omega, hy, by rw [tw.1]; exact zR_s (by have := ww.1; omega) (by have := ww.2.1; omega), fun z2 => ?_, fun z2 => xU.same h (h1 (fun q => by have := tw.1; omega))⟩⟩
  rw [tw.1] at z2
  obtain ⟨i, rfl⟩ : ∃ c : Nat, y = (c : Int) := ⟨y.toNat, by omega⟩
  have r := xU.same h (h2 ⟨w, by omega, z2⟩)
  have w14 := (st_w (zf_5_state h.1)).2.2.2.2.1
  have hp := tpos (i := i) tk.1 tk.2.1 (by rw [w14]; have := ww.2.1; omega)
  have hat := tk.at (i := i) (by rw [tw.1]; exact z2)
  have e : σ (k + 3 + 15 + 2) ((zw (k + 3 + 15)).toNat * p + i) = (fl f (wa p)).getD i 0 := by
    rw [← te, List.getD_eq_getElem?_getD]
    unfold tl
    rw [seg_get (by rw [tw.1]; omega)]
    rfl
  unfold vX5_letterAt
  rw [hp.2.2]
  rw [Int.toNat_natCast, ← e] at r
  exact ⟨hp.1, hp.2.1, by omega, by omega, by omega, by omega, r⟩
theorem m_wordLetter (h : MI σ m f sv hs inp) (hx : zR x) (hy : zR y) (h1 : ¬ (isW f x ∧ 0 ≤ y ∧ y < f (wa x.toNat)) → mU σ m (eqF f) sv hs inp 1 (P 0)) (h2 : (isW f x ∧ 0 ≤ y ∧ y < f (wa x.toNat)) → mU σ m (eqF f) sv hs inp 0 (P ((fl f (wa x.toNat)).getD y.toNat 0))) : vX7_wordLetter m x y P σ := by
  have bad : ¬ (isW f x ∧ 0 ≤ y ∧ y < f (wa x.toNat)) → vX7_wordLetter_34 m P x y σ := fun q => m_go1 (by decide) ⟨by decide, by decide, mU.same h (h1 q)⟩
  refine m_isWord h hx ⟨b2i_R _, fun w => bad (fun q => (of_decide_eq_false (b2i_0.mp w)) q.1), fun w => ⟨hy, ?_⟩⟩
  have q := of_decide_eq_true (b2i_1.mp w)
  have z := mz h.1
  obtain ⟨p, rfl⟩ : ∃ c : Nat, x = (c : Int) := ⟨x.toNat, by omega⟩
  have hn := h.wf.2.1
  have ww := h.wf.2.2.2.2.1 p q.2
  have w1 := ww.1
  have w2 := ww.2.1
  rw [Int.toNat_natCast] at *
  unfold vX7_wordAt
  dsimp only
  rw [show ((483 : Int) + 15 * (p : Int)) = ((wa p : Nat) : Int) by unfold wa; omega, Int.toNat_natCast, h.row]
  have hwa : wa p < 740 := by unfold wa; omega
  refine ⟨by omega, by rw [z.1]; omega, zR_s (by omega) (by omega), s7_in (zQ_R hy) (zQ_s (by decide) (by decide)) (zQ_s (by omega) (by omega)) ⟨b2i_R _, fun w3 => bad (fun a => (of_decide_eq_false (b2i_0.mp w3)) (by omega)), fun w3 => ?_⟩⟩
  have q3 := of_decide_eq_true (b2i_1.mp w3)
  obtain ⟨i, rfl⟩ : ∃ c : Nat, y = (c : Int) := ⟨y.toNat, by omega⟩
  have r := mU.same h (h2 ⟨q, by omega, by omega⟩)
  rw [Int.toNat_natCast] at r
  have hl : ((fl f (wa p)).length : Int) = f (wa p) := by unfold fl; rw [seg_len]; omega
  have hr := getD_ab ww.2.2 (i := i) (by omega)
  have e := fl_getD (g := f) (q := wa p) (i := i) (by omega)
  refine m_go0 ?_
  unfold vX7_wordAt
  dsimp only
  rw [show ((483 : Int) + 15 * (p : Int)) = ((wa p : Nat) : Int) by unfold wa; omega, zu_ne (by omega : m + 1 ≠ m), h.row, show (((wa p : Nat) : Int) + 1 + (i : Int)).toNat = wa p + 1 + i by omega, ← e]
  have ec : zi2c ((fl f (wa p)).getD i 0) = (fl f (wa p)).getD i 0 := by unfold zi2c; omega
  rw [ec]
  exact ⟨by omega, by rw [z.1]; omega, by omega, by omega, r⟩
theorem x_fulfills (h : XI σ k f sv hs inp) (hx : zR x) (h1 : ¬ isP f x → xU σ k (eqF f) sv hs inp (X 0)) (h2 : isP f x → xU σ k (eqF f) sv hs inp (P (b2i (alwF f x.toNat inp)))) : vX6_fulfills k x P X σ := by
  refine x_checkParadigm h hx (fun w => xU.same h (h1 w)) (fun w => ?_)
  have q := xU.same h (h2 w)
  obtain ⟨p, rfl⟩ := isP_toNat w
  rw [Int.toNat_natCast] at q
  refine sx_allows (zf_5_state h.1) h.st h.wf w.2 h.2.1.1 ⟨b2i_01 _, ?_⟩
  rw [h.2.1.2]
  exact q
theorem m_fulfills (h : MI σ m f sv hs inp) (hx : zR x) (h1 : ¬ isP f x → mU σ m (eqF f) sv hs inp 1 (P 0)) (h2 : isP f x → mU σ m (eqF f) sv hs inp 0 (P (b2i (alwF f x.toNat inp)))) : vX7_fulfills m x P σ := by
  refine m_isParadigm h hx ⟨b2i_R _, fun w s e => ?_, fun w s e => ?_⟩
  · subst e
    rw [zu_eq]
    exact ⟨zRl rfl, fun _ => ⟨Or.inl rfl, mU.same h (h1 (of_decide_eq_false (b2i_0.mp w)))⟩, fun a => absurd a (by decide)⟩
  · subst e
    rw [zu_eq]
    have q := of_decide_eq_true (b2i_1.mp w)
    have r := mU.same h (h2 q)
    obtain ⟨p, rfl⟩ := isP_toNat q
    rw [Int.toNat_natCast] at r
    have ht := h.thr 0
    refine ⟨zR_0, fun a => absurd rfl a, fun _ => ?_⟩
    have := sm_isStem (p := p) (P := fun r3 s3 => zR r3 ∧ ((r3 = 0) → vX7_fulfills_41 m P s3) ∧ ((¬ (r3 = 0)) → vX7_fulfills_42 m P 1 s3)) ht.1 (by rw [ht.row]; exact h.wf) (by rw [ht.row]; exact q.2) ht.2.1.1 (by
      rw [ht.row, ht.2.1.2]
      refine ⟨b2i_R _, fun a => ⟨Or.inl rfl, ?_⟩, fun a => ⟨Or.inr rfl, ?_⟩⟩
      · rw [b2i_0.mp a] at r; exact r
      · rw [b2i_1.mp a] at r; exact r)
    exact this
end
