/-! PURE: the class reads hypotheses, makes lexemes -/
def hypV (f : Nat → Int) (q : Nat × List Int) (y : Int) : Int := if y = 0 then (q.1 : Int) else if y = 1 then ((expl f q.1 q.2 : Nat) : Int) else if y = 2 then (((frms f q.1 q.2).length : Nat) : Int) - ((expl f q.1 q.2 : Nat) : Int) else (q.2.length : Int)
def shareF (f : Nat → Int) (q : Nat × List Int) : Int := zddiv (zi2d ((expl f q.1 q.2 : Nat) : Int)) (zi2d (((frms f q.1 q.2).length : Nat) : Int))
theorem share_nn1 : ∀ n, n < 7 → ∀ e, e < 7 → 0 < n → (zD (zddiv (zi2d ((e : Nat) : Int)) (zi2d ((n : Nat) : Int)))) &&& 0x7fffffffffffffff ≤ 0x7ff0000000000000 := by decide +kernel
theorem share_nn : ∀ n, n < 7 → ∀ e, e < 7 → 0 < n → zNN (zddiv (zi2d ((e : Nat) : Int)) (zi2d ((n : Nat) : Int))) := fun n a e b c => share_nn1 n a e b c
/-- a lexeme with this paradigm and stem among the first n -/
def hasLn (f : Nat → Int) (p : Nat) (st : List Int) : Nat → Bool
  | 0 => false
  | n + 1 => hasLn f p st n || decide (f (la n) = (p : Int) ∧ fl f (la n + 1) = st)
def hasL (f : Nat → Int) (q : Nat × List Int) : Bool := hasLn f q.1 q.2 (f 2).toNat
def uLex (f : Nat → Int) (q : Nat × List Int) (g : Nat → Int) : Prop := (g 2 = f 2 + 1 ∧ g (la (f 2).toNat) = (q.1 : Int)) ∧ isWd g (la (f 2).toNat + 1) q.2 ∧ (∀ c, c < 6 → g (ea (f 2).toNat c) = 0) ∧ ∀ i, i ≠ 2 → ¬ (la (f 2).toNat ≤ i ∧ i < la (f 2).toNat + 102) → g i = f i
section
variable {σ τ : Sto} {k m : Nat} {f g : Nat → Int} {sv : Option (Nat → Int)} {hs : List (Nat → Int)} {inp inp' : List Int} {P : Int → Sto → Prop} {X : Nat → Sto → Prop} {Q : Sto → Prop} {x y w : Int} {H : List (Nat × List Int)} {q : Nat × List Int}
theorem key_x (hw : wfF f) (h : isH f q.1 q.2) : (6 - expl f q.1 q.2) * 8 + ((frms f q.1 q.2).length - expl f q.1 q.2) < 64 := by
  have b := isH_b hw h
  omega
theorem x_hypothesis (h : XI σ k f sv hs inp) (hx : zR x) (hy : zR y) (h1 : ∀ H, isHL f H → H.length ≤ 2880 → ¬ (0 ≤ x ∧ x < (H.length : Int)) → xU σ k (eqF f) sv hs inp (X 0)) (h2 : ∀ H q, isHL f H → H.length ≤ 2880 → 0 ≤ x → H[x.toNat]? = some q → ¬ (0 ≤ y ∧ y ≤ 3) → xU σ k (eqF f) sv hs inp (X 1)) (h3 : ∀ H q, isHL f H → H.length ≤ 2880 → 0 ≤ x → H[x.toNat]? = some q → (0 ≤ y ∧ y ≤ 3) → xU σ k (eqF f) sv hs inp (P (hypV f q y))) : vX6_hypothesis k x y P X σ := by
  refine x_checkHypothesis h hx (fun τ H hX e hR c => (h1 H hR.1 hR.2.1 c).rx hX e) (fun τ H q hX e hR _ x0 hq => ?_)
  have n := xn h.1
  have hl := hR.2.1
  have hi := (List.getElem?_eq_some_iff.mp hq).1
  have hH := RK_isH hR hq
  have b := isH_b h.wf hH
  have kx := key_x h.wf hH
  have r := h3 H q hR.1 hl x0 hq
  unfold hypV at r
  rw [(hR.2.2.2 _ _ hq).1]
  unfold keyF
  refine ⟨by omega, by omega, hy, fun z => ?_, fun z => ?_, fun z => ?_, fun z => ?_, fun z => (h2 H q hR.1 hl x0 hq (by omega)).rx hX e⟩
  · have r := (r (by omega)).rx hX e
    rw [if_pos z] at r
    unfold keyN
    exact s_paradigm (by omega) b.2.2.1 b.2.2.2.1 kx r
  · have r := (r (by omega)).rx hX e
    rw [if_neg (by omega), if_pos z] at r
    exact s_explained b.2.2.2.2.1 b.2.2.2.2.2.1 (by omega) b.2.2.1 b.2.2.2.1 r
  · have r := (r (by omega)).rx hX e
    rw [if_neg (by omega), if_neg (by omega), if_pos z] at r
    have eb := expl_b (st := q.2) h.wf hH.1
    rw [show (((frms f q.1 q.2).length : Nat) : Int) - ((expl f q.1 q.2 : Nat) : Int) = (((frms f q.1 q.2).length - expl f q.1 q.2 : Nat) : Int) by omega] at r
    exact s_unattested b.2.2.2.2.1 b.2.2.2.2.2.1 (by omega) b.2.2.1 b.2.2.2.1 r
  · have r := (r (by omega)).rx hX e
    rw [if_neg (by omega), if_neg (by omega), if_neg (by omega)] at r
    unfold keyN
    exact s_stemLength (by omega) b.2.2.1 b.2.2.2.1 kx r
theorem x_stemLetter (h : XI σ k f sv hs inp) (hx : zR x) (hy : zR y) (h1 : ∀ H, isHL f H → H.length ≤ 2880 → ¬ (0 ≤ x ∧ x < (H.length : Int)) → xU σ k (eqF f) sv hs inp (X 0)) (h2 : ∀ H q, isHL f H → H.length ≤ 2880 → 0 ≤ x → H[x.toNat]? = some q → ¬ (0 ≤ y ∧ y < (q.2.length : Int)) → xU σ k (eqF f) sv hs inp (X 0)) (h3 : ∀ H q, isHL f H → H.length ≤ 2880 → 0 ≤ x → H[x.toNat]? = some q → (0 ≤ y ∧ y < (q.2.length : Int)) → xU σ k (eqF f) sv hs inp (P (q.2.getD y.toNat 0))) : vX6_stemLetter k x y P X σ := by
  refine x_checkHypothesis h hx (fun τ H hX e hR c => (h1 H hR.1 hR.2.1 c).rx hX e) (fun τ H q hX e hR _ x0 hq => ?_)
  have n := xn h.1
  have hl := hR.2.1
  have hi := (List.getElem?_eq_some_iff.mp hq).1
  have hH := RK_isH hR hq
  have b := isH_b h.wf hH
  have kx := key_x h.wf hH
  rw [(hR.2.2.2 _ _ hq).1]
  unfold keyF keyN
  refine ⟨by omega, by omega, hy, fun z => (h2 H q hR.1 hl x0 hq (by omega)).rx hX e, fun z => s_stemLength (by omega) b.2.2.1 b.2.2.2.1 kx ⟨hy, zR_s (by omega) (by omega), fun z2 => ?_, fun z2 => (h2 H q hR.1 hl x0 hq (by omega)).rx hX e⟩⟩
  obtain ⟨i, rfl⟩ : ∃ i : Nat, y = (i : Int) := ⟨y.toNat, by omega⟩
  have hil : i < q.2.length := by omega
  have r := (h3 H q hR.1 hl x0 hq (by omega)).rx hX e
  rw [Int.toNat_natCast, List.getD_eq_getElem?_getD, List.getElem?_eq_getElem hil] at r
  have ha := b.2.2.2.1 _ (List.getElem_mem hil)
  exact s_letterOfStem (by omega) b.2.2.1 b.2.2.2.1 kx hil ⟨by omega, by omega, r⟩
theorem x_explains (h : XI σ k f sv hs inp) (hx : zR x) (hy : zR y) (h1 : ∀ H, isHL f H → H.length ≤ 2880 → ¬ (0 ≤ x ∧ x < (H.length : Int)) → xU σ k (eqF f) sv hs inp (X 0)) (h2 : ∀ H q, isHL f H → H.length ≤ 2880 → 0 ≤ x → H[x.toNat]? = some q → ¬ isW f y → xU σ k (eqF f) sv hs inp (X 0)) (h3 : ∀ H q, isHL f H → H.length ≤ 2880 → 0 ≤ x → H[x.toNat]? = some q → isW f y → xU σ k (eqF f) sv hs inp (P (b2i (exw f q.1 q.2 y.toNat)))) : vX6_explains k x y P X σ := by
  refine x_checkHypothesis h hx (fun τ H hX e hR c => (h1 H hR.1 hR.2.1 c).rx hX e) (fun τ H q hX e hR _ x0 hq => ?_)
  have n := xn h.1
  have hl := hR.2.1
  have hi := (List.getElem?_eq_some_iff.mp hq).1
  refine x_checkWord hX hy (fun z => (h2 H q hR.1 hl x0 hq z).rx hX e) (fun z => ?_)
  have r := (h3 H q hR.1 hl x0 hq z).rx hX e
  have w16 := h.wf.2.1
  obtain ⟨i, rfl⟩ : ∃ i : Nat, y = (i : Int) := ⟨y.toNat, by omega⟩
  rw [Int.toNat_natCast] at r
  rw [(hR.2.2.2 _ _ hq).2]
  exact ⟨by omega, by omega, s_hasBit (by omega) ⟨b2i_01 _, r⟩⟩
theorem x_explanations_20 {v : Nat} (hR : RK σ k f H) (hk : zk k = 5) (hv : v < 16) : ∀ (n i a : Nat), i ≤ H.length → H.length - i < n → P ((a + (H.drop i).countP (fun q => exw f q.1 q.2 v) : Nat) : Int) σ → vX6_explanations_20 k P X n (v : Int) (a : Int) (i : Int) σ := by
  intro n
  induction n with
  | zero => intro i a a1 a2; omega
  | succ n ih =>
    intro i a a1 a2 h
    have hl := hR.2.1
    have N := xn hk
    unfold vX6_explanations_20 bX6_explanations_20
    rw [hR.2.2.1]
    refine ⟨zR_s (by omega) (by omega), zR_s (by omega) (by omega), fun z => ?_, fun z => ?_⟩
    · rw [List.drop_of_length_le (by omega)] at h
      exact h
    · have hi : i < H.length := by omega
      rw [List.drop_eq_getElem_cons hi, List.countP_cons] at h
      rw [Int.toNat_natCast, (hR.2.2.2 i _ (List.getElem?_eq_getElem hi)).2]
      refine ⟨by omega, by omega, s_hasBit hv ⟨b2i_R _, fun q => ?_, fun q => ?_⟩⟩
      · rw [b2i_0.mp q, if_neg (by decide), Nat.add_zero] at h
        have := ih (i + 1) a (by omega) (by omega) h
        exact_mod_cast this
      · rw [b2i_1.mp q, if_pos rfl, show a + (List.countP (fun q => exw f q.1 q.2 v) (H.drop (i + 1)) + 1) = (a + 1) + List.countP (fun q => exw f q.1 q.2 v) (H.drop (i + 1)) by omega] at h
        have := ih (i + 1) (a + 1) (by omega) (by omega) h
        exact_mod_cast this
theorem x_explanations (h : XI σ k f sv hs inp) (hx : zR x) (h1 : ¬ isW f x → xU σ k (eqF f) sv hs inp (X 0)) (h2 : ∀ H, isHL f H → H.length ≤ 2880 → isW f x → xU σ k (eqF f) sv hs inp (P ((H.countP (fun q => exw f q.1 q.2 x.toNat) : Nat) : Int))) : vX6_explanations k x P X σ := by
  refine x_checkWord h hx (fun q => xU.same h (h1 q)) (fun q => x_refresh h (fun τ H hX e _ hR => ⟨H.length + 1, ?_⟩))
  obtain ⟨v, rfl⟩ : ∃ i : Nat, x = (i : Int) := ⟨x.toNat, by omega⟩
  have w16 := h.wf.2.1
  have r := (h2 H hR.1 hR.2.1 q).rx hX e
  rw [Int.toNat_natCast] at r
  have := x_explanations_20 (P := P) (X := X) (v := v) hR h.1 (by omega) (H.length + 1) 0 0 (by omega) (by omega) (by rw [List.drop_zero, Nat.zero_add]; exact r)
  exact_mod_cast this
theorem x_attestedShare (h : XI σ k f sv hs inp) (hx : zR x) (h1 : ∀ H, isHL f H → H.length ≤ 2880 → ¬ (0 ≤ x ∧ x < (H.length : Int)) → xU σ k (eqF f) sv hs inp (X 0)) (h2 : ∀ H q, isHL f H → H.length ≤ 2880 → 0 ≤ x → H[x.toNat]? = some q → xU σ k (eqF f) sv hs inp (P (shareF f q))) : vX6_attestedShare k x P X σ := by
  refine x_checkHypothesis h hx (fun τ H hX e hR c => (h1 H hR.1 hR.2.1 c).rx hX e) (fun τ H q hX e hR _ x0 hq => ?_)
  have n := xn h.1
  have hl := hR.2.1
  have hi := (List.getElem?_eq_some_iff.mp hq).1
  have hH := RK_isH hR hq
  have b := isH_b h.wf hH
  have eb := expl_b (st := q.2) h.wf hH.1
  have pos := hH.2.2.2
  have r := (h2 H q hR.1 hl x0 hq).rx hX e
  rw [(hR.2.2.2 _ _ hq).1]
  unfold keyF
  refine ⟨by omega, by omega, s_explained b.2.2.2.2.1 b.2.2.2.2.2.1 (by omega) b.2.2.1 b.2.2.2.1 (s_unattested b.2.2.2.2.1 b.2.2.2.2.2.1 (by omega) b.2.2.1 b.2.2.2.1 ?_)⟩
  have es : ((expl f q.1 q.2 : Nat) : Int) + (((frms f q.1 q.2).length - expl f q.1 q.2 : Nat) : Int) = (((frms f q.1 q.2).length : Nat) : Int) := by omega
  rw [es]
  exact ⟨zR_s (by omega) (by omega), fun _ => ⟨share_nn _ (by omega) _ (by omega) (by omega), r⟩, fun z => by omega⟩
/-! lexemes -/
theorem x_hasLexeme_2 (h : XI σ k f sv hs inp) (hq : isH f q.1 q.2) : ∀ (n l : Nat), (l : Int) ≤ f 2 → f 2 - l < n → hasLn f q.1 q.2 l = false → P (b2i (hasL f q)) σ → vX3_hasLexeme_2 (k + 3) P n ((pairN q.1 q.2 : Nat) : Int) (l : Int) σ := by
  intro n
  induction n with
  | zero => intro l a1 a2; omega
  | succ n ih =>
    intro l a1 a2 hn hP
    have l10 := h.wf.2.2.1
    have N := xn h.1
    have b := isH_b h.wf hq
    unfold vX3_hasLexeme_2 bX3_hasLexeme_2
    rw [h.st.1.2.2]
    refine ⟨zR_s (by omega) (by omega), zR_s (by omega) (by omega), fun z => ?_, fun z => ?_⟩
    · have : hasL f q = false := by unfold hasL; rw [show (f 2).toNat = l by omega]; exact hn
      rw [this] at hP
      exact hP
    · have hl : (l : Int) < f 2 := by omega
      have lp' := lex_pair h.wf hl
      have p1 := pairN_lt (p := q.1) (by omega) b.2.2.1 b.2.2.2.1
      have p2 := pairN_lt (p := (f (la l)).toNat) (by omega) lp'.2.2.2.2.1 lp'.2.2.2.2.2.1
      rw [Int.toNat_natCast, (h.lex hl).2.1.1]
      have iff : pairN (f (la l)).toNat (fl f (la l + 1)) = pairN q.1 q.2 ↔ (f (la l) = (q.1 : Int) ∧ fl f (la l + 1) = q.2) := by
        constructor
        · intro e
          have := pairN_inj (by omega) (by omega) lp'.2.2.2.2.1 b.2.2.1 lp'.2.2.2.2.2.1 b.2.2.2.1 e
          exact ⟨by omega, this.2⟩
        · rintro ⟨e1, e2⟩
          rw [e1, e2, Int.toNat_natCast]
      refine ⟨by omega, by omega, by unfold zQ; omega, by unfold zQ; omega, fun c => ?_, fun c => ?_⟩
      · have ne : ¬ pairN (f (la l)).toNat (fl f (la l + 1)) = pairN q.1 q.2 := fun e => c (by
          unfold zcmp
          rw [if_neg (by omega), if_pos (by omega)])
        have := ih (l + 1) (by omega) (by omega) (by
          show (hasLn f q.1 q.2 l || decide (f (la l) = (q.1 : Int) ∧ fl f (la l + 1) = q.2)) = false
          rw [hn, decide_eq_false (fun y => ne (iff.mpr y))]
          rfl) hP
        exact_mod_cast this
      · have eq : pairN (f (la l)).toNat (fl f (la l + 1)) = pairN q.1 q.2 := by
          unfold zcmp at c
          split at c
          · omega
          · split at c <;> omega
        have mono : ∀ n', l < n' → hasLn f q.1 q.2 n' = true := by
          intro n'
          induction n' with
          | zero => intro h; omega
          | succ n' ih' =>
            intro hl'
            show (hasLn f q.1 q.2 n' || decide (f (la n') = (q.1 : Int) ∧ fl f (la n' + 1) = q.2)) = true
            by_cases e : n' = l
            · subst e
              rw [decide_eq_true (iff.mp eq), Bool.or_true]
            · rw [ih' (by omega)]; rfl
        have : hasL f q = true := mono _ (by omega)
        rw [this] at hP
        exact hP
theorem x_hasLexeme (h : XI σ k f sv hs inp) (hq : isH f q.1 q.2) (hP : P (b2i (hasL f q)) σ) : vX3_hasLexeme (k + 3) ((pairN q.1 q.2 : Nat) : Int) P σ := by
  have l10 := h.wf.2.2.1
  refine ⟨(f 2).toNat + 1, ?_⟩
  have := x_hasLexeme_2 (P := P) h hq ((f 2).toNat + 1) 0 (by omega) (by omega) rfl hP
  exact_mod_cast this
theorem uLex.eh (hw : wfF f) (u : uLex f q g) : eqH f g := fun i h2 hi => u.2.2.2 i h2 (by unfold la; omega)
theorem la_apart {l l' : Nat} (h : l < l') : la l + 102 ≤ la l' := by unfold la; omega
theorem uLex.wf (hw : wfF f) (h10 : f 2 < 10) (hq : isH f q.1 q.2) (u : uLex f q g) : wfF g := by
  have h2 := hw.2.2.1
  have b := isH_b hw hq
  obtain ⟨⟨u1, u2⟩, u3, u4, u5⟩ := id u
  have e0 : g 0 = f 0 := u5 0 (by decide) (by unfold la; omega)
  refine wf_lex hw (u.eh hw) (by omega) (fun l hl => ?_)
  by_cases e : l = (f 2).toNat
  · subst e
    have := hq.1
    exact ⟨by rw [u2, e0]; omega, u3.wd (by omega) (by omega) b.2.2.2.1, fun c hc => wd_0 (u4 c hc) (by decide)⟩
  · have ap := la_apart (l := l) (l' := (f 2).toNat) (by omega)
    exact (hw.2.2.2.2.2.2 l (by omega)).on (fun i a b => (u5 i (by unfold la at a; omega) (by omega)).symm) (by omega)
theorem uLex.rep {b : Nat} (hb : zk b = 2) (hw : wfF f) (h10 : f 2 < 10) (hr : repS σ b f) (u : uLex f q g) (e0 : τ b 0 = σ b 0) (e9 : τ b 9 = σ b 9) (e11 : τ b 11 = σ b 11 + 1) (eo : ∀ i, b + 1 ≤ i → i ≤ b + 21 → i ≠ b + 18 → τ i = σ i) (e18 : τ (b + 18) (f 2).toNat = ((pairN q.1 q.2 : Nat) : Int) ∧ ∀ j, j ≠ (f 2).toNat → τ (b + 18) j = σ (b + 18) j) : repS τ b g := by
  have h2 := hw.2.2.1
  obtain ⟨⟨u1, u2⟩, u3, u4, u5⟩ := id u
  refine rep_lex hw hr (u.eh hw) e0 e9 (by rw [e11, u1, hr.1.2.2]) (fun i a c => eo i a (by omega) (by omega)) (fun l hl => ⟨fun hl2 => ?_, fun hl2 c hc => ?_⟩)
  · by_cases e : l = (f 2).toNat
    · subst e
      refine ⟨by rw [e18.1, u2, u3.2, Int.toNat_natCast], fun c hc => ?_⟩
      exact tw1_0 (by rw [eo _ (by omega) (by omega) (by omega)]; exact (hr.2.2.2 _ hl).2 (by omega) c hc) (u4 c hc)
    · have ap := la_apart (l := l) (l' := (f 2).toNat) (by omega)
      have r := (hr.2.2.2 l hl).1 (by omega)
      have r' : repL τ b f l := ⟨by rw [e18.2 l e]; exact r.1, fun c hc => (r.2 c hc).fr (eo _ (by omega) (by omega) (by omega)) (eo _ (by omega) (by omega) (by omega))⟩
      exact r'.on (fun i a b => (u5 i (by unfold la at a; omega) (by omega)).symm) (hw.2.2.2.2.2.2 l (by omega))
  · rw [eo _ (by omega) (by omega) (by omega)]
    exact (hr.2.2.2 l hl).2 (by omega) c hc
/-- a new lexeme -/
theorem x_newLexeme {r : Nat} (h : XI σ k f sv hs inp) (hq : isH f q.1 q.2) (h10 : f 2 < 10) (h1 : ∀ τ, (∀ i, i ≠ k + 3 → i ≠ k + 3 + 18 → τ i = σ i) → (∀ j, j ≠ 11 → τ (k + 3) j = σ (k + 3) j) → τ (k + 3) 11 = σ (k + 3) 11 + 1 → τ (k + 3 + 18) (f 2).toNat = ((pairN q.1 q.2 : Nat) : Int) → (∀ j, j ≠ (f 2).toNat → τ (k + 3 + 18) j = σ (k + 3 + 18) j) → P (f 2) τ) : vX3_newLexeme (k + 3) ((pairN q.1 q.2 : Nat) : Int) P σ := by
  have N := xn h.1
  have h2 := h.wf.2.2.1
  unfold vX3_newLexeme
  rw [h.st.1.2.2]
  refine ⟨by omega, by omega, fun s1 q1 s2 q2 => ?_⟩
  have e11 : s2 (k + 3) 11 = f 2 + 1 := by rw [q2, zu_eq, q1, zu_ne (by omega), h.st.1.2.2]
  rw [e11, show f 2 + 1 - 1 = f 2 by omega]
  exact h1 s2 (fun i a b => by rw [q2, zu_ne a, q1, zu_ne b]) (fun j hj => by rw [q2, zu_j hj, q1, zu_ne (by omega)]) (by rw [e11, h.st.1.2.2]) (by rw [q2, zu_ne (by omega), q1, zu_eq]) (fun j hj => by rw [q2, zu_ne (by omega), q1, zu_j hj])
/-- .. as the class holds it -/
theorem XI.lexeme {hs' : List (Nat → Int)} (h : XI σ k f sv hs' inp) (hq : isH f q.1 q.2) (h10 : f 2 < 10) (e : ∀ i, i ≠ k + 3 → i ≠ k + 3 + 18 → τ i = σ i) (e0 : ∀ j, j ≠ 11 → τ (k + 3) j = σ (k + 3) j) (e11 : τ (k + 3) 11 = σ (k + 3) 11 + 1) (e18 : τ (k + 3 + 18) (f 2).toNat = ((pairN q.1 q.2 : Nat) : Int)) (e18' : ∀ j, j ≠ (f 2).toNat → τ (k + 3 + 18) j = σ (k + 3 + 18) j) (u : uLex f q g) : XI τ k g sv hs' inp := by
  obtain ⟨a, b⟩ := h.2.1.1.fr (τ := τ) (e _ (by omega) (by omega)) (e _ (by omega) (by omega))
  exact h.newL (fun i hi => e i (by omega) (by omega)) ⟨a, by rw [b]; exact h.2.1.2⟩ (u.rep (zf_5_state h.1) h.wf h10 h.st (e0 0 (by decide)) (e0 9 (by decide)) e11 (fun i a b c => e i (by omega) (by omega)) ⟨e18, e18'⟩) (u.wf h.wf h10 hq) (h.2.2.2.2.1.fr (fun i a b => e i (by omega) (by omega))) (u.eh h.wf)
theorem x_pair (hR : RK τ k f H) (hw : wfF f) {i : Nat} (hq : H[i]? = some q) (h1 : P ((pairN q.1 q.2 : Nat) : Int) σ) : vX2_pair (τ (k + 269 + 1) i) P σ := by
  have hH := RK_isH hR hq
  have b := isH_b hw hH
  rw [(hR.2.2.2 _ _ hq).1]
  unfold keyF keyN
  exact s_pair (by omega) b.2.2.1 b.2.2.2.1 (key_x hw hH) h1
theorem x_accept (h : XI σ k f sv hs inp) (hx : zR x) (h1 : ∀ H, isHL f H → H.length ≤ 2880 → ¬ (0 ≤ x ∧ x < (H.length : Int)) → xU σ k (eqF f) sv hs inp (X 0)) (h2 : ∀ H q, isHL f H → H.length ≤ 2880 → 0 ≤ x → H[x.toNat]? = some q → ¬ (f 2 < 10 ∧ hasL f q = false) → xU σ k (eqF f) sv hs inp (X 2)) (h3 : ∀ H q, isHL f H → H.length ≤ 2880 → 0 ≤ x → H[x.toNat]? = some q → (f 2 < 10 ∧ hasL f q = false) → xU σ k (uLex f q) sv (pushH hs f) inp (P (f 2))) : vX6_accept k x P X σ := by
  refine x_checkHypothesis h hx (fun τ H hX e hR c => (h1 H hR.1 hR.2.1 c).rx hX e) (fun τ H q hX e hR _ x0 hq => ?_)
  have n := xn h.1
  have hl := hR.2.1
  have hi := (List.getElem?_eq_some_iff.mp hq).1
  have hH := RK_isH hR hq
  have l10 := h.wf.2.2.1
  refine ⟨by omega, by omega, x_pair hR h.wf hq ?_⟩
  rw [hX.st.1.2.2]
  refine ⟨zR_s (by omega) (by omega), fun z => x_hasLexeme hX hH ⟨b2i_R _, fun z2 => x_push0 hX (fun s4 hX4 e4 => x_newLexeme (r := 0) hX4 hH z (fun s5 a0 a1 a2 a3 a4 => ?_)), fun z2 => (h2 H q hR.1 hl x0 hq (fun y => by rw [b2i_1.mp z2] at y; exact absurd y.2 (by decide))).rx hX e⟩, fun z => (h2 H q hR.1 hl x0 hq (fun y => z y.1)).rx hX e⟩
  exact h3 H q hR.1 hl x0 hq ⟨z, b2i_0.mp z2⟩ s5 (fun g u => hX4.lexeme hH z a0 a1 a2 a3 a4 u) (fun i hi => by rw [a0 i (by omega) (by omega), e4 i (by omega), e i (by omega)])
end
