/-! PURE: the reference makes lexemes; cover -/
section
variable {σ τ : Sto} {k m : Nat} {f g : Nat → Int} {sv : Option (Nat → Int)} {hs : List (Nat → Int)} {inp inp' : List Int} {P : Int → Sto → Prop} {Q : Sto → Prop} {x y : Int} {H F : List (Nat × List Int)} {q : Nat × List Int} {C : Nat → Bool} {D : Nat × List Int → Bool}
theorem s7_copyS {k k' q q' n : Nat} {Q : Sto → Prop} (ha : fok σ k q n) (hk' : zk k' = 8) (hz' : q' + n < zn k') (hne : k ≠ k') (h : ∀ τ, setq σ τ k' q' n (fl (σ k) q) → Q τ) : vX7_copy k (q : Int) k' (q' : Int) Q σ :=
  s7_copy ha hk' hz' (Or.inl hne) (h _ (zc_setq ha (Nat.le_refl _) (Or.inl hne)))
theorem hasLn_mono {p : Nat} {st : List Int} {l : Nat} (h : f (la l) = (p : Int) ∧ fl f (la l + 1) = st) : ∀ n, l < n → hasLn f p st n = true := by
  intro n
  induction n with
  | zero => intro h; omega
  | succ n ih =>
    intro hl
    show (hasLn f p st n || decide (f (la n) = (p : Int) ∧ fl f (la n + 1) = st)) = true
    by_cases e : n = l
    · subst e
      rw [decide_eq_true h, Bool.or_true]
    · rw [ih (by omega)]; rfl
theorem m_lexemeLike_2 {n : Nat} (hm : zk m = 6) (e : σ (m + 1) = f) (hw : wfF f) (hq : hypM σ m f n q) (hi : isH f q.1 q.2) (hn : n < 2880) (h1 : ∀ r, -1 ≤ r → r ≤ 10 → (r < 0 ↔ hasL f q = false) → P r σ) : ∀ (u l : Nat), (l : Int) ≤ f 2 → f 2 - l < u → hasLn f q.1 q.2 l = false → vX7_lexemeLike_2 m P u (n : Int) (l : Int) σ := by
  intro u
  induction u with
  | zero => intro l a1 a2; omega
  | succ u ih =>
    intro l a1 a2 hno
    have l10 := hw.2.2.1
    have p6 := hw.1
    have z := mz hm
    have b := isH_b hw hi
    obtain ⟨q1, q2, q3, q4, q5⟩ := id hq
    unfold vX7_lexemeLike_2 bX7_lexemeLike_2 vX7_lexemeAt
    try dsimp only
    rw [e, show Int.toNat 2 = 2 from rfl, show ((723 : Int) + 102 * (l : Int)) = ((la l : Nat) : Int) by unfold la; omega, show (11 : Int) * (n : Int) = ((11 * n : Nat) : Int) by omega, show ((la l : Nat) : Int) + 1 = ((la l + 1 : Nat) : Int) by omega]
    simp only [Int.toNat_natCast]
    rw [q1]
    refine ⟨by rw [z.1]; decide, zR_s (by omega) (by omega), zR_s (by omega) (by omega), fun c => ?_, fun c => ?_⟩
    · refine h1 (-1) (by decide) (by decide) ⟨fun _ => ?_, fun _ => by decide⟩
      unfold hasL
      rw [show (f 2).toNat = l by omega]
      exact hno
    · have hl : (l : Int) < f 2 := by omega
      obtain ⟨w1, w2, w3⟩ := hw.2.2.2.2.2.2 l hl
      have hla : la l + 102 ≤ 1743 := by unfold la; omega
      have next : ¬ (f (la l) = (q.1 : Int) ∧ fl f (la l + 1) = q.2) → vX7_lexemeLike_2 m P u (n : Int) ((l : Int) + 1) σ := fun ne => by
        have := ih (l + 1) (by omega) (by omega) (by
          show (hasLn f q.1 q.2 l || decide (f (la l) = (q.1 : Int) ∧ fl f (la l + 1) = q.2)) = false
          rw [hno, decide_eq_false ne]
          rfl)
        exact_mod_cast this
      refine ⟨by omega, by rw [z.1]; omega, by omega, by rw [z.2.2.2.2.2.1]; omega, zR_s (by omega) (by omega), zR_s (by omega) (by omega), fun d => next (fun y => d y.1), fun d => ?_⟩
      refine s7_areSame (q := 11 * n) (q' := la l + 1) (hyp_ok hm hw hn hq hi) (fok_of (n := 10) hm (by rw [e]; exact w2) (by decide) (by decide) (by omega)) ?_
      rw [e, q5]
      refine ⟨b2i_R _, fun t => next (fun y => of_decide_eq_false (b2i_0.mp t) y.2.symm), fun t => ?_⟩
      have ht := of_decide_eq_true (b2i_1.mp t)
      refine h1 (l : Int) (by omega) (by omega) ⟨fun y => by omega, fun y => ?_⟩
      unfold hasL at y
      rw [hasLn_mono ⟨d, ht.symm⟩ _ (by omega)] at y
      exact absurd y (by decide)
theorem m_lexemeLike {n : Nat} (hm : zk m = 6) (e : σ (m + 1) = f) (hw : wfF f) (hq : hypM σ m f n q) (hi : isH f q.1 q.2) (hn : n < 2880) (h1 : ∀ r, -1 ≤ r → r ≤ 10 → (r < 0 ↔ hasL f q = false) → P r σ) : vX7_lexemeLike m (n : Int) P σ := by
  have l10 := hw.2.2.1
  refine ⟨12, ?_⟩
  have := m_lexemeLike_2 (P := P) hm e hw hq hi hn h1 12 0 (by omega) (by omega) rfl
  exact_mod_cast this
theorem m_makeLexeme_45 {L : Nat} (hm : zk m = 6) (hL : f 2 = (L : Int)) (h10 : L < 10) (hlen : q.2.length ≤ 10) (h1 : ∀ τ, (∀ i, i ≠ m + 1 → τ i = σ i) → uLex f q (τ (m + 1)) → P (f 2) τ) : ∀ (u c : Nat) (τ : Sto), c ≤ 6 → 6 - c < u → (∀ i, i ≠ m + 1 → τ i = σ i) → τ (m + 1) (la L) = (q.1 : Int) → isWd (τ (m + 1)) (la L + 1) q.2 → (∀ c', c' < c → τ (m + 1) (ea L c') = 0) → (∀ i, ¬ (la L ≤ i ∧ i < la L + 102) → τ (m + 1) i = f i) → vX7_makeLexeme_45 m P u (L : Int) (c : Int) τ := by
  intro u
  induction u with
  | zero => intro c τ a1 a2; omega
  | succ u ih =>
    intro c τ a1 a2 ef e1 e2 e3 e4
    have z := mz hm
    have hla : 723 ≤ la L ∧ la L + 102 ≤ 1743 := by unfold la; omega
    unfold vX7_makeLexeme_45 bX7_makeLexeme_45 vX7_exceptionAt vX7_lexemeAt
    try dsimp only
    rw [show ((723 : Int) + 102 * (L : Int) + 12 + 15 * (c : Int)) = ((ea L c : Nat) : Int) by unfold ea; omega, Int.toNat_natCast, show Int.toNat 2 = 2 from rfl]
    refine ⟨zR_s (by omega) (by omega), fun d => ⟨by rw [z.1]; decide, by rw [z.1]; decide, fun s5 q5 => ?_⟩, fun d => ?_⟩
    · have ec : c = 6 := by omega
      subst ec
      have eL : (f 2).toNat = L := by omega
      rw [← hL]
      have k2 : τ (m + 1) 2 = f 2 := e4 2 (by omega)
      have kj : ∀ i, i ≠ 2 → s5 (m + 1) i = τ (m + 1) i := fun i hi => by rw [q5, zu_j hi]
      refine h1 s5 (fun i hi => by rw [q5, zu_ne hi]; exact ef i hi) ⟨⟨?_, ?_⟩, ?_, fun c hc => ?_, fun i i2 hi => ?_⟩
      · rw [q5, zu_eq, k2]
      · rw [eL, kj _ (by omega)]; exact e1
      · rw [eL]
        exact isWd_on e2 hlen (fun i a b => kj i (by omega))
      · have := ea_in (k := L) hc
        rw [eL, kj _ (by omega)]; exact e3 c hc
      · rw [eL] at hi
        rw [kj i i2]; exact e4 i hi
    · have hc : c < 6 := by omega
      have ei := ea_in (k := L) hc
      refine ⟨by omega, by rw [z.1]; omega, fun s7 q7 => ?_⟩
      have kj : ∀ i, i ≠ ea L c → s7 (m + 1) i = τ (m + 1) i := fun i hi => by rw [q7, zu_j hi]
      have := ih (c + 1) s7 (by omega) (by omega) (fun i hi => by rw [q7, zu_ne hi]; exact ef i hi) (by rw [kj _ (by omega)]; exact e1) (isWd_on e2 hlen (fun i a b => kj i (by omega))) (fun c' hc' => by
        by_cases x : c' = c
        · subst x; rw [q7, zu_eq]
        · rw [kj _ (by unfold ea; omega)]; exact e3 c' (by omega)) (fun i hi => by rw [kj i (by omega)]; exact e4 i hi)
      exact_mod_cast this
theorem m_makeLexeme {n : Nat} (hm : zk m = 6) (e : σ (m + 1) = f) (hw : wfF f) (h10 : f 2 < 10) (hq : hypM σ m f n q) (hi : isH f q.1 q.2) (hn : n < 2880) (h1 : ∀ τ, (∀ i, i ≠ m + 1 → τ i = σ i) → uLex f q (τ (m + 1)) → P (f 2) τ) : vX7_makeLexeme m (n : Int) P σ := by
  have l10 := hw.2.2.1
  have z := mz hm
  have b := isH_b hw hi
  obtain ⟨q1, q2, q3, q4, q5⟩ := id hq
  obtain ⟨L, hL⟩ : ∃ L : Nat, f 2 = (L : Int) := ⟨(f 2).toNat, by omega⟩
  have hla : 723 ≤ la L ∧ la L + 102 ≤ 1743 := by unfold la; omega
  unfold vX7_makeLexeme vX7_lexemeAt
  try dsimp only
  rw [e, show Int.toNat 2 = 2 from rfl, hL, show ((723 : Int) + 102 * (L : Int)) = ((la L : Nat) : Int) by unfold la; omega, show (11 : Int) * (n : Int) = ((11 * n : Nat) : Int) by omega, show ((la L : Nat) : Int) + 1 = ((la L + 1 : Nat) : Int) by omega]
  simp only [Int.toNat_natCast]
  rw [q1]
  refine ⟨by rw [z.1]; decide, by omega, by rw [z.2.2.2.2.2.1]; omega, by omega, by rw [z.1]; omega, fun s2 e2 => ?_⟩
  have n2 : ∀ i, i ≠ m + 1 → s2 i = σ i := fun i hi => by rw [e2, zu_ne hi]
  have ok := (hyp_ok hm hw hn hq hi).fr (τ := s2) (n2 _ (by omega))
  refine s7_copyS ok.1 (zf_6_s hm) (by rw [z.1]; omega) (by omega) (fun s4 sq => ⟨7, ?_⟩)
  rw [ok.2, q5] at sq
  have := m_makeLexeme_45 (σ := σ) (P := P) (f := f) (q := q) (L := L) hm hL (by omega) b.2.2.1 h1 7 0 s4 (by omega) (by omega) (fun i hi => by rw [sq.keep hi]; exact n2 i hi) (by rw [sq.2.2.2 _ (Or.inl (by omega)), e2, zu_eq]) ⟨sq.2.1, sq.2.2.1⟩ (fun c' hc' => by omega) (fun i hi => by rw [sq.2.2.2 i (by omega), e2, zu_j (by omega), e])
  exact_mod_cast this
theorem mU.of {c : Int} {U : (Nat → Int) → Prop} (q : mU σ m U sv hs inp c Q) (e : fM σ τ m) : mU τ m U sv hs inp c Q := fun υ g hu hM hf h7 => q υ g hu hM (e.trans hf) h7
theorem m_accept (h : MI σ m f sv hs inp) (hx : zR x) (h1 : ∀ H, isHL f H → H.length ≤ 2880 → ¬ (0 ≤ x ∧ x < (H.length : Int)) → mU σ m (eqF f) sv hs inp 1 (P 0)) (h2 : ∀ H q, isHL f H → H.length ≤ 2880 → 0 ≤ x → H[x.toNat]? = some q → ¬ (f 2 < 10 ∧ hasL f q = false) → mU σ m (eqF f) sv hs inp 2 (P 0)) (h3 : ∀ H q, isHL f H → H.length ≤ 2880 → 0 ≤ x → H[x.toNat]? = some q → (f 2 < 10 ∧ hasL f q = false) → mU σ m (uLex f q) sv (pushH hs f) inp 0 (P (f 2))) : vX7_accept m x P σ := by
  refine m_isHypothesis h hx (fun τ H F hM e e8 hR => ⟨b2i_R _, fun a => ?_, fun a s q => ?_⟩)
  · have hi := of_decide_eq_true (b2i_1.mp a)
    have hq := hget hi.2 hi.1
    obtain ⟨n, n1, n2, n3, n4, n5⟩ := hR.get hq
    have z := mz h.1
    have hl := hR.2.2.1
    have l10 := h.wf.2.2.1
    have bad : ¬ (f 2 < 10 ∧ hasL f (H[x.toNat]'(by omega)) = false) → vX7_accept_37 m P x τ := fun c s q => by
      subst q
      rw [zu_eq]
      exact ⟨zRl rfl, fun q => absurd q (by decide), fun _ => (h2 H _ hR.1 hR.2.2.1 hi.1 hq c).fm hM e.fm⟩
    rw [hM.row, show Int.toNat 2 = 2 from rfl, n1]
    refine ⟨by rw [z.1]; decide, zR_s (by omega) (by omega), fun c => bad (fun y => by omega), fun c => ⟨by omega, by rw [z.2.2.2.2.2.2.2.2.2.1]; omega, m_lexemeLike h.1 hM.row h.wf n3 n4 n5 (fun r r0 r1 hr => ⟨zR_s (by omega) (by omega), fun d s q => ?_, fun d => bad (fun y => d (hr.mpr y.2))⟩)⟩⟩
    subst q
    rw [zu_eq, zu_ne (show m + 10 ≠ m by omega), n1]
    refine ⟨zR_0, fun _ => ⟨by omega, by rw [z.2.2.2.2.2.2.2.2.2.1]; omega, m_rem (hM.thr 0) (fun υ a b c d => m_makeLexeme h.1 (by rw [a _ (by omega) (by omega)]; exact (hM.thr 0).row) h.wf (by omega) (n3.fr (fun i p1 p2 => by rw [a i (by omega) (by omega), zu_ne (by omega)])) n4 n5 (fun ω o1 o2 => ?_))⟩, fun q => absurd (Int.le_refl 0) q⟩
    exact hM.chg (U := uLex f (H[x.toNat]'(by omega))) a b c d o1 rfl o2 (o2.wf h.wf (by omega) n4) ((h3 H _ hR.1 hR.2.2.1 hi.1 hq ⟨by omega, hr.mp (by omega)⟩).of e.fm)
  · subst q
    rw [zu_eq]
    exact ⟨zRl rfl, fun q => absurd q (by decide), fun _ => (h1 H hR.1 hR.2.2.1 (of_decide_eq_false (b2i_0.mp a))).fm hM e.fm⟩
/-! cover -/
theorem RM_H (hw : wfF f) (e : eqH f g) (h : RM σ m f H F) : RM σ m g H F := by
  obtain ⟨h1, h2, h3, h4, h5, h6⟩ := h
  refine ⟨isHL_H hw e h1, h2, h3, h4, h5, fun i q hq => ?_⟩
  have hm := ((h1.2 q).mp (h2.mem_iff.mp (List.mem_of_getElem? hq))).1
  unfold hypM
  rw [expl_H hw e hm, frms_H hw e hm]
  exact h6 i q hq
theorem gnF_H (hw : wfF f) (e : eqH f g) (hi : isH f q.1 q.2) : gnF g C q = gnF f C q := cnt_congr 16 (fun w _ => by rw [exw_H hw e hi.1])
theorem bst_congr : ∀ (t : List (Nat × List Int)) (i : Nat) (b : Int) (mo : Nat), (∀ q ∈ t, gnF g C q = gnF f C q) → bst g C D t i b mo = bst f C D t i b mo := by
  intro t
  induction t with
  | nil => intro i b mo _; rfl
  | cons q t ih =>
    intro i b mo h
    show (if mo < gnF g C q ∧ D q = false then bst g C D t (i + 1) (i : Int) (gnF g C q) else bst g C D t (i + 1) b mo) = (if mo < gnF f C q ∧ D q = false then bst f C D t (i + 1) (i : Int) (gnF f C q) else bst f C D t (i + 1) b mo)
    rw [h q List.mem_cons_self, ih _ _ _ (fun q' hq => h q' (List.mem_cons_of_mem _ hq)), ih _ _ _ (fun q' hq => h q' (List.mem_cons_of_mem _ hq))]
theorem m_gain_4 {n : Nat} (hm : zk m = 6) (hw : wfF f) (hq : hypM σ m f n q) (hi : isH f q.1 q.2) (hn : n < 2880) (hC : ∀ w : Nat, (w : Int) < f 1 → σ (m + 13) w = b2i (C w)) (h1 : ∀ τ, fr [m + 5] σ τ → P ((gnF f C q : Nat) : Int) τ) : ∀ (u w : Nat) (τ : Sto), τ (m + 1) = f → fr [m + 5] σ τ → (w : Int) ≤ f 1 → f 1 - w < u → vX7_gain_4 m P u (n : Int) ((cnt (fun w => exw f q.1 q.2 w && !C w) w : Nat) : Int) (w : Int) τ := by
  intro u
  induction u with
  | zero => intro w τ e t a1 a2; omega
  | succ u ih =>
    intro w τ e t a1 a2
    have w16 := hw.2.1
    have z := mz hm
    have cl := cnt_le (fun w => exw f q.1 q.2 w && !C w) w
    unfold vX7_gain_4 bX7_gain_4
    rw [e, show Int.toNat 1 = 1 from rfl, Int.toNat_natCast]
    refine ⟨by rw [z.1]; decide, zR_s (by omega) (by omega), zR_s (by omega) (by omega), fun c => ?_, fun c => ?_⟩
    · have := h1 τ t
      have eg : gnF f C q = cnt (fun w => exw f q.1 q.2 w && !C w) w := by
        have := cnt_in (f := f) (S := fun w => exw f q.1 q.2 w && !C w) hw
        rw [show (f 1).toNat = w by omega] at this
        rw [← this]
        unfold gnF
        refine cnt_congr 16 (fun i _ => ?_)
        unfold inW
        by_cases d : (i : Int) < f 1
        · rw [decide_eq_true d, Bool.true_and]
        · rw [decide_eq_false d, Bool.false_and]
          unfold exw
          rw [decide_eq_false (fun y => d y.1), Bool.false_and]
      rw [eg] at this
      exact this
    · have hwd : (w : Int) < f 1 := by omega
      have hc : τ (m + 13) w = b2i (C w) := by rw [t _ (by simp)]; exact hC w hwd
      have next : ∀ (υ : Sto) (d : Bool), fr [m + 5] τ υ → d = (exw f q.1 q.2 w && !C w) → vX7_gain_4 m P u (n : Int) (((cnt (fun w => exw f q.1 q.2 w && !C w) w : Nat) : Int) + b2i d) ((w : Int) + 1) υ := fun υ d t2 ed => by
        have := ih (w + 1) υ (by rw [t2 _ (by simp)]; exact e) (t.trans t2) (by omega) (by omega)
        have ec : ((cnt (fun w => exw f q.1 q.2 w && !C w) (w + 1) : Nat) : Int) = ((cnt (fun w => exw f q.1 q.2 w && !C w) w : Nat) : Int) + b2i d := by
          show ((cnt (fun w => exw f q.1 q.2 w && !C w) w + (if (exw f q.1 q.2 w && !C w) = true then 1 else 0) : Nat) : Int) = _
          rw [← ed]
          cases d <;> simp [b2i]
        rw [ec] at this
        exact_mod_cast this
      rw [hc]
      refine ⟨by omega, by rw [z.2.2.2.2.2.2.2.2.2.2.2.2]; omega, b2i_R _, fun d => ?_, fun d => ?_⟩
      · exact next τ false fr.refl (by rw [b2i_1.mp d]; simp)
      · have d := b2i_0.mp d
        refine m_explainsWord hm e hw (hq.fr (fun i a b => t i (by simp <;> omega))) hi hn hwd (fun υ t2 => ⟨b2i_R _, fun x => ?_, fun x => ?_⟩)
        · exact next υ false t2 (by rw [b2i_0.mp x]; rfl)
        · exact next υ true t2 (by rw [b2i_1.mp x, d]; rfl)
theorem m_gain {n : Nat} (hm : zk m = 6) (e : σ (m + 1) = f) (hw : wfF f) (hq : hypM σ m f n q) (hi : isH f q.1 q.2) (hn : n < 2880) (hC : ∀ w : Nat, (w : Int) < f 1 → σ (m + 13) w = b2i (C w)) (h1 : ∀ τ, fr [m + 5] σ τ → P ((gnF f C q : Nat) : Int) τ) : vX7_gain m (n : Int) P σ := by
  have w16 := hw.2.1
  refine ⟨18, ?_⟩
  have := m_gain_4 (σ := σ) (P := P) hm hw hq hi hn hC h1 18 0 σ e fr.refl (by omega) (by omega)
  exact_mod_cast this
/-- the number of a hypothesis by its place -/
def rkI (σ : Sto) (m : Nat) (b : Int) : Int := if b < 0 then -1 else σ (m + 10) b.toNat
theorem m_cover_82 {K22 : Int → Int → Sto → Prop} {a : Int} (hm : zk m = 6) (hw : wfF f) (hR : RM σ m f H F) (hD : ∀ q, hasL f q = D q) (hC : ∀ w : Nat, (w : Int) < f 1 → σ (m + 13) w = b2i (C w)) (h1 : ∀ τ, fr [m + 5] σ τ → vX7_cover_159 m P K22 a (rkI σ m (bst f C D H 0 (-1) 0)) (b2i (decide (¬ bst f C D H 0 (-1) 0 < 0))) τ) : ∀ (u i : Nat) (b : Int) (mo : Nat) (τ : Sto), τ (m + 1) = f → fr [m + 5] σ τ → i ≤ H.length → H.length - i < u → mo ≤ 16 → -1 ≤ b → b < (i : Int) → bst f C D (H.drop i) i b mo = bst f C D H 0 (-1) 0 → vX7_cover_82 m P K22 u a (rkI σ m b) (mo : Int) (i : Int) τ := by
  intro u
  induction u with
  | zero => intro i b mo τ e t a1 a2; omega
  | succ u ih =>
    intro i b mo τ e t a1 a2 a3 a4 a5 hb
    have z := mz hm
    have hl := hR.2.2.1
    have hRτ : RM τ m f H F := hR.fr (by rw [t m (by simp)]) (fun j a b => t j (by simp <;> omega))
    have e10 : τ (m + 10) = σ (m + 10) := t _ (by simp)
    have rkb : -1 ≤ rkI σ m b ∧ rkI σ m b ≤ 2880 ∧ (rkI σ m b < 0 ↔ b < 0) := by
      unfold rkI
      by_cases d : b < 0
      · rw [if_pos d]; omega
      · rw [if_neg d]
        have hq := List.getElem?_eq_getElem (l := H) (i := b.toNat) (by omega)
        obtain ⟨n, n1, n2, n3, n4, n5⟩ := hR.get hq
        rw [n1]
        omega
    unfold vX7_cover_82 bX7_cover_82
    rw [hRτ.2.2.2.1]
    refine ⟨zR_s (by omega) (by omega), zR_s (by omega) (by omega), fun c => ⟨zR_s (by omega) (by omega), fun d => ?_, fun d => ?_⟩, fun c => ?_⟩
    · rw [List.drop_of_length_le (by omega)] at hb
      have hb : b = bst f C D H 0 (-1) 0 := hb
      have := h1 τ t
      rw [← hb, show decide (¬ b < 0) = false from decide_eq_false (by omega)] at this
      exact this
    · rw [List.drop_of_length_le (by omega)] at hb
      have hb : b = bst f C D H 0 (-1) 0 := hb
      have := h1 τ t
      rw [← hb, show decide (¬ b < 0) = true from decide_eq_true (by omega)] at this
      exact this
    · have hi : i < H.length := by omega
      have hq := List.getElem?_eq_getElem hi
      obtain ⟨n, n1, n2, n3, n4, n5⟩ := hR.get hq
      have n3τ := hRτ.2.2.2.2.2 n _ n2
      rw [List.drop_eq_getElem_cons hi] at hb
      have hb : (if mo < gnF f C H[i] ∧ D H[i] = false then bst f C D (H.drop (i + 1)) (i + 1) (i : Int) (gnF f C H[i]) else bst f C D (H.drop (i + 1)) (i + 1) b mo) = bst f C D H 0 (-1) 0 := hb
      have gl : gnF f C H[i] ≤ 16 := cnt_le _ 16
      have rki : rkI σ m (i : Int) = (n : Int) := by unfold rkI; rw [if_neg (by omega), Int.toNat_natCast, n1]
      rw [Int.toNat_natCast, e10, n1]
      -- the next, with a gain of v
      have go : ∀ (υ : Sto) (v : Nat), fr [m + 5] τ υ → v ≤ 16 → (if mo < v then bst f C D (H.drop (i + 1)) (i + 1) (i : Int) v else bst f C D (H.drop (i + 1)) (i + 1) b mo) = bst f C D H 0 (-1) 0 → vX7_cover_119 m P K22 (vX7_cover_82 m P K22 u) a (rkI σ m b) (mo : Int) (i : Int) (n : Int) (v : Int) υ := fun υ v t2 v16 hv => by
        have eυ : υ (m + 1) = f := by rw [t2 _ (by simp)]; exact e
        refine ⟨zR_s (by omega) (by omega), zR_s (by omega) (by omega), fun c => ⟨zR_s (by omega) (by omega), zR_s (by omega) (by omega), ?_⟩, fun c => ⟨zR_s (by omega) (by omega), zR_s (by omega) (by omega), ?_⟩⟩
        · rw [if_neg (by omega)] at hv
          rw [if_neg (by omega)]
          have := ih (i + 1) b mo υ eυ (t.trans t2) (by omega) (by omega) a3 a4 (by omega) hv
          exact_mod_cast this
        · rw [if_pos (by omega)] at hv
          rw [if_pos (by omega)]
          have := ih (i + 1) (i : Int) v υ eυ (t.trans t2) (by omega) (by omega) v16 (by omega) (by omega) hv
          rw [rki] at this
          exact_mod_cast this
      refine ⟨by omega, by rw [z.2.2.2.2.2.2.2.2.2.1]; omega, m_lexemeLike hm e hw n3τ n4 n5 (fun r r0 r1 hr => ⟨zR_s (by omega) (by omega), fun d => ?_, fun d => ?_⟩)⟩
      · have hd : ¬ D H[i] = false := fun y => by
          rw [← hD] at y
          have := hr.mpr y
          omega
        rw [if_neg (fun y => hd y.2)] at hb
        have := go τ 0 fr.refl (by omega) (by rw [if_neg (by omega)]; exact hb)
        exact_mod_cast this
      · have hd : D H[i] = false := by rw [← hD]; exact hr.mp (by omega)
        refine m_gain (C := C) hm e hw n3τ n4 n5 (fun w hwd => by rw [t _ (by simp)]; exact hC w hwd) (fun υ t2 => ?_)
        refine go υ (gnF f C H[i]) t2 gl ?_
        rw [← hb]
        by_cases x : mo < gnF f C H[i]
        · rw [if_pos x, if_pos ⟨x, hd⟩]
        · rw [if_neg x, if_neg (fun y => x y.1)]
theorem m_cover_39 {K22 : Int → Int → Sto → Prop} {a : Int} (hm : zk m = 6) (hw : wfF f) (h1 : ∀ τ, (∀ i, i ≠ m + 5 → i ≠ m + 13 → τ i = σ i) → (∀ w : Nat, (w : Int) < f 1 → τ (m + 13) w = b2i (covF f w)) → ∃ n, vX7_cover_82 m P K22 n a (-1) 0 0 τ) : ∀ (u w : Nat) (τ : Sto), τ (m + 1) = f → (∀ i, i ≠ m + 5 → i ≠ m + 13 → τ i = σ i) → (w : Int) ≤ f 1 → f 1 - w < u → (∀ v, v < w → τ (m + 13) v = b2i (covF f v)) → vX7_cover_39 m P K22 u a (w : Int) τ := by
  intro u
  induction u with
  | zero => intro w τ e t a1 a2; omega
  | succ u ih =>
    intro w τ e t a1 a2 hc
    have w16 := hw.2.1
    have z := mz hm
    unfold vX7_cover_39 bX7_cover_39
    rw [e, show Int.toNat 1 = 1 from rfl]
    refine ⟨by rw [z.1]; decide, zR_s (by omega) (by omega), zR_s (by omega) (by omega), fun c => h1 τ t (fun v hv => hc v (by omega)), fun c => ?_⟩
    have hwd : (w : Int) < f 1 := by omega
    have lb := lexW_b (w := w) hw
    have next : ∀ (υ : Sto) (d : Bool), fr [m + 5] τ υ → d = covF f w → vX7_cover_67 m P K22 (vX7_cover_39 m P K22 u) a (w : Int) (b2i d) (w : Int) υ := fun υ d t2 ed => by
      refine ⟨by omega, by rw [z.2.2.2.2.2.2.2.2.2.2.2.2]; omega, b2i_01 _, fun s9 q9 => ?_⟩
      rw [Int.toNat_natCast] at q9
      have := ih (w + 1) s9 (by rw [q9, zu_ne (by omega), t2 _ (by simp)]; exact e) (fun i x y => by rw [q9, zu_ne y, t2 i (by simp [x]), t i x y]) (by omega) (by omega) (fun v hv => by
        by_cases x : v = w
        · subst x; rw [q9, zu_eq, ed]
        · rw [q9, zu_j x, t2 _ (by simp)]; exact hc v (by omega))
      exact_mod_cast this
    refine m_lexemesWith hm e hw hwd (fun υ t2 => ⟨zR_s (by omega) (by omega), fun d => ?_, fun d => ?_⟩)
    · exact next υ false t2 (lexW_0.mp (by omega)).symm
    · refine next υ true t2 ?_
      cases hx : covF f w with
      | false => exact absurd (lexW_0.mpr hx) (by omega)
      | true => rfl
theorem m_cover_22 (hm : zk m = 6) (hw : wfF f) : ∀ (n : Nat) (g : Nat → Int) (C : Nat → Bool) (D : Nat × List Int → Bool) (a : Nat) (τ : Sto), n + a ≤ 10 → τ (m + 1) = g → wfF g → eqH f g → (∀ w, inW f (covF g) w = C w) → (∀ q, hasL g q = D q) → g 2 + n = 10 → RM τ m f H F → (∀ υ, (∀ i, i ≠ m + 1 → i ≠ m + 5 → i ≠ m + 13 → υ i = τ i) → uLexs (cvL f H n C D) g (υ (m + 1)) → wfF (υ (m + 1)) → eqH f (υ (m + 1)) → P ((a + (cvL f H n C D).length : Nat) : Int) υ) → vX7_cover_22 m P (n + 2) (a : Int) 1 τ := by
  intro n
  induction n with
  | zero =>
    intro g C D a τ ha e hg he hC hD h2 hR hP
    have z := mz hm
    unfold vX7_cover_22 bX7_cover_22
    rw [e, show Int.toNat 2 = 2 from rfl]
    exact ⟨zRl rfl, fun q => absurd q (by decide), fun _ => ⟨by rw [z.1]; decide, zR_s (by omega) (by omega), fun _ => hP τ (fun _ _ _ _ => rfl) e (by rw [e]; exact hg) (by rw [e]; exact he), fun q => by omega⟩⟩
  | succ n ih =>
    intro g C D a τ ha e hg he hC hD h2 hR hP
    have z := mz hm
    have w16 := hg.2.1
    have e1 : g 1 = f 1 := he 1 (by decide) (by decide)
    unfold vX7_cover_22 bX7_cover_22
    rw [e, show Int.toNat 2 = 2 from rfl]
    refine ⟨zRl rfl, fun q => absurd q (by decide), fun _ => ⟨by rw [z.1]; decide, zR_s (by omega) (by omega), fun q => by omega, fun _ => ⟨18, ?_⟩⟩⟩
    have := m_cover_39 (σ := τ) (P := P) (K22 := vX7_cover_22 m P (n + 2)) (a := (a : Int)) (f := g) hm hg (fun υ t hc => ⟨H.length + 1, ?_⟩) 18 0 τ e (fun _ _ _ => rfl) (by omega) (by omega) (fun v hv => by omega)
    · exact_mod_cast this
    · have eυ : υ (m + 1) = g := by rw [t _ (by omega) (by omega)]; exact e
      have hRυ : RM υ m f H F := hR.fr (by rw [t m (by omega) (by omega)]) (fun j a b => t j (by omega) (by omega))
      have hRg := RM_H hw he hRυ
      have hl := hR.2.2.1
      have bc : bst g C D H 0 (-1) 0 = bst f C D H 0 (-1) 0 := bst_congr H 0 (-1) 0 (fun q hq => gnF_H hw he ((hR.1.2 q).mp hq))
      have bb := bst_b (f := f) (C := C) (D := D) H 0 (-1) 0
      have := m_cover_82 (σ := υ) (P := P) (K22 := vX7_cover_22 m P (n + 2)) (a := (a : Int)) (f := g) (H := H) (F := F) (C := C) (D := D) hm hg hRg hD (fun w hwd => by
        rw [hc w hwd, ← hC w]
        unfold inW
        rw [decide_eq_true (by omega), Bool.true_and]) (fun ω t2 => ?_) (H.length + 1) 0 (-1) 0 υ eυ fr.refl (by omega) (by omega) (by omega) (by omega) (by omega) (by rw [List.drop_zero])
      · have e3 : rkI υ m (-1) = -1 := by unfold rkI; rw [if_pos (by decide)]
        rw [e3] at this
        exact_mod_cast this
      · rw [bc]
        have tω : ∀ i, i ≠ m + 5 → i ≠ m + 13 → ω i = τ i := fun i x y => by rw [t2 i (by simp [x]), t i x y]
        have eω : ω (m + 1) = g := by rw [tω _ (by omega) (by omega)]; exact e
        by_cases bn : bst f C D H 0 (-1) 0 < 0
        · have ebq : bq f C D H = none := by unfold bq; rw [if_pos bn]
          have ecv : cvL f H (n + 1) C D = [] := by
            show (match bq f C D H with | none => [] | some q => q :: cvL f H n (fun w => C w || exw f q.1 q.2 w) (fun q' => D q' || decide (q' = q))) = _
            rw [ebq]
          rw [show decide (¬ bst f C D H 0 (-1) 0 < 0) = false from decide_eq_false (fun y => y bn)]
          have r := hP ω (fun i _ x y => tω i x y) (by rw [ecv]; exact eω) (by rw [eω]; exact hg) (by rw [eω]; exact he)
          rw [ecv, List.length_nil, Nat.add_zero] at r
          exact ⟨zR_0, fun _ => ⟨zR_0, fun _ => r, fun x => absurd rfl x⟩, fun x => absurd rfl x⟩
        · obtain ⟨i, hi⟩ : ∃ i : Nat, bst f C D H 0 (-1) 0 = (i : Int) := ⟨(bst f C D H 0 (-1) 0).toNat, by omega⟩
          have hil : i < H.length := by omega
          have hq : H[i]? = some H[i] := List.getElem?_eq_getElem hil
          obtain ⟨x, x1, x2, x3, x4, x5⟩ := hRg.get hq
          have hH : isH f H[i].1 H[i].2 := (hR.1.2 _).mp (List.mem_of_getElem? hq)
          have ebq : bq f C D H = some H[i] := by unfold bq; rw [if_neg (by omega), hi, Int.toNat_natCast]; exact hq
          have ecv : cvL f H (n + 1) C D = H[i] :: cvL f H n (fun w => C w || exw f H[i].1 H[i].2 w) (fun q' => D q' || decide (q' = H[i])) := by
            show (match bq f C D H with | none => [] | some q => q :: cvL f H n (fun w => C w || exw f q.1 q.2 w) (fun q' => D q' || decide (q' = q))) = _
            rw [ebq]
          rw [show decide (¬ bst f C D H 0 (-1) 0 < 0) = true from decide_eq_true bn]
          have rke : rkI υ m (bst f C D H 0 (-1) 0) = (x : Int) := by unfold rkI; rw [if_neg bn, hi, Int.toNat_natCast, x1]
          rw [rke]
          refine ⟨zRl rfl, fun y => absurd y (by decide), fun _ => m_makeLexeme hm eω hg (by omega) (x3.fr (fun j a b => t2 j (by simp <;> omega))) x4 x5 (fun ψ o1 o2 => ?_)⟩
          have gw := o2.wf hg (by omega) x4
          have ge : eqH f (ψ (m + 1)) := fun j j2 jl => by rw [o2.eh hg j j2 jl, he j j2 jl]
          have := ih (ψ (m + 1)) (fun w => C w || exw f H[i].1 H[i].2 w) (fun q' => D q' || decide (q' = H[i])) (a + 1) ψ (by omega) rfl gw ge (fun w => ?_) (fun q' => ?_) (by have := o2.1.1; omega) (hRυ.fr (by rw [o1 m (by omega), t2 m (by simp)]) (fun j a b => by rw [o1 j (by omega), t2 j (by simp <;> omega)])) (fun χ c1 c2 c3 c4 => ?_)
          · exact_mod_cast this
          · rw [← hC w]
            unfold inW
            by_cases ww : (w : Int) < f 1
            · rw [decide_eq_true ww, Bool.true_and, Bool.true_and, covF_new hg (by omega) x4 (by omega) o2, exw_H hw he hH.1]
            · rw [decide_eq_false ww, Bool.false_and, Bool.false_and, Bool.false_or]
              unfold exw
              exact (decide_eq_false (fun y => ww y.1)).symm
          · rw [hasL_new hg (by omega) o2, hD q']
          · have r := hP χ (fun j a b c => by rw [c1 j a b c, o1 j a, tω j b c]) (by rw [ecv]; exact ⟨_, o2, c2⟩) c3 c4
            rw [ecv, List.length_cons, show a + ((cvL f H n (fun w => C w || exw f H[i].1 H[i].2 w) (fun q' => D q' || decide (q' = H[i]))).length + 1) = a + 1 + (cvL f H n (fun w => C w || exw f H[i].1 H[i].2 w) (fun q' => D q' || decide (q' = H[i]))).length by omega] at r
            exact r
theorem m_cover (h : MI σ m f sv hs inp) (h1 : ∀ H, isHL f H → H.length ≤ 2880 → mU σ m (uLexs (cvL f H (10 - f 2).toNat (inW f (covF f)) (hasL f)) f) sv (pushH hs f) inp 0 (P (((cvL f H (10 - f 2).toNat (inW f (covF f)) (hasL f)).length : Nat) : Int))) : vX7_cover m P σ := by
  have l10 := h.wf.2.2.1
  intro s1 q1
  subst q1
  refine m_find (h.thr 0) (fun τ H F hM e e8 hR => m_rem hM (fun υ a b c d s4 q4 => ⟨(10 - f 2).toNat + 2, ?_⟩))
  have n4 : ∀ i, i ≠ m → s4 i = υ i := fun i hi => by rw [q4, zu_ne hi]
  have j4 : ∀ j, j ≠ 8 → s4 m j = υ m j := fun j hj => by rw [q4, zu_j hj]
  have hR4 : RM s4 m f H F := hR.fr (by rw [j4 9 (by decide), b 9 (by decide) (by decide)]) (fun i x y => by rw [n4 i (by omega), a i (by omega) (by omega)])
  have := m_cover_22 (P := P) (H := H) (F := F) h.1 h.wf (10 - f 2).toNat f (inW f (covF f)) (hasL f) 0 s4 (by omega) (by rw [n4 _ (by omega), a _ (by omega) (by omega)]; exact hM.row) h.wf (fun _ _ _ => rfl) (fun _ => rfl) (fun _ => rfl) (by omega) hR4 (fun ω o1 o2 o3 o4 => by
    rw [Nat.zero_add]
    have f1 : ∀ i, i ≠ m → i ≠ m + 1 → i ≠ m + 2 → i ≠ m + 5 → i ≠ m + 13 → ω i = τ i := fun i x1 x2 x3 x4 x5 => by rw [o1 i x2 x4 x5, n4 i x1, a i x1 x3]
    have f2 : ∀ j, j ≠ 2 → j ≠ 8 → ω m j = τ m j := fun j x1 x2 => by rw [o1 m (by omega) (by omega) (by omega), j4 j x2, b j x1 x2]
    have ok := hM.2.1.1.fr (τ := ω) (f1 _ (by omega) (by omega) (by omega) (by omega) (by omega))
    have rk : rankM ω m f := (hR4.fr (τ := ω) (by rw [o1 m (by omega) (by omega) (by omega)]) (fun i x y => o1 i (by omega) (by omega) (by omega))).rank
    refine h1 H hR.1 hR.2.2.1 ω (ω (m + 1)) o2 ⟨h.1, ⟨ok.1, by rw [ok.2]; exact hM.2.1.2⟩, ⟨rfl, o3⟩, hM.2.2.2.1.fr (f2 4 (by decide) (by decide)) (f1 _ (by omega) (by omega) (by omega) (by omega) (by omega)), d.fr (by rw [o1 m (by omega) (by omega) (by omega), j4 2 (by decide)]) (by rw [o1 _ (by omega) (by omega) (by omega), n4 _ (by omega)]), Or.inr (by rw [o1 m (by omega) (by omega) (by omega), q4, zu_eq]), fun _ => rankM_H h.wf o4 rk⟩ (fun i hi => by rw [f1 i (by omega) (by omega) (by omega) (by omega) (by omega), e.fm i hi, zu_ne (by omega)]) (by rw [f2 7 (by decide) (by decide), e.2 7 (by decide) (by decide) (by decide), zu_eq]))
  exact_mod_cast this
end
