/-! PURE: cover -/
def gnF (f : Nat → Int) (C : Nat → Bool) (q : Nat × List Int) : Nat := cnt (fun w => exw f q.1 q.2 w && !C w) 16
def bst (f : Nat → Int) (C : Nat → Bool) (D : Nat × List Int → Bool) : List (Nat × List Int) → Nat → Int → Nat → Int
  | [], _, b, _ => b
  | q :: t, i, b, mo => if mo < gnF f C q ∧ D q = false then bst f C D t (i + 1) (i : Int) (gnF f C q) else bst f C D t (i + 1) b mo
theorem bst_b {f : Nat → Int} {C : Nat → Bool} {D : Nat × List Int → Bool} : ∀ (t : List (Nat × List Int)) (i : Nat) (b : Int) (mo : Nat), bst f C D t i b mo = b ∨ ((i : Int) ≤ bst f C D t i b mo ∧ bst f C D t i b mo < (i : Int) + t.length) := by
  intro t
  induction t with
  | nil => intro i b mo; exact Or.inl rfl
  | cons q t ih =>
    intro i b mo
    show (if mo < gnF f C q ∧ D q = false then bst f C D t (i + 1) (i : Int) (gnF f C q) else bst f C D t (i + 1) b mo) = b ∨ _
    have e : bst f C D (q :: t) i b mo = if mo < gnF f C q ∧ D q = false then bst f C D t (i + 1) (i : Int) (gnF f C q) else bst f C D t (i + 1) b mo := rfl
    rw [e, List.length_cons]
    split
    · rcases ih (i + 1) (i : Int) (gnF f C q) with h | h
      · right; omega
      · right; omega
    · rcases ih (i + 1) b mo with h | h
      · exact Or.inl h
      · right; omega
def bq (f : Nat → Int) (C : Nat → Bool) (D : Nat × List Int → Bool) (H : List (Nat × List Int)) : Option (Nat × List Int) := if bst f C D H 0 (-1) 0 < 0 then none else H[(bst f C D H 0 (-1) 0).toNat]?
def cvL (f : Nat → Int) (H : List (Nat × List Int)) : Nat → (Nat → Bool) → (Nat × List Int → Bool) → List (Nat × List Int)
  | 0, _, _ => []
  | n + 1, C, D => match bq f C D H with
    | none => []
    | some q => q :: cvL f H n (fun w => C w || exw f q.1 q.2 w) (fun q' => D q' || decide (q' = q))
def uLexs : List (Nat × List Int) → (Nat → Int) → (Nat → Int) → Prop
  | [], f, g => g = f
  | q :: t, f, g => ∃ f', uLex f q f' ∧ uLexs t f' g
section
variable {σ τ : Sto} {k m : Nat} {f g g' : Nat → Int} {sv : Option (Nat → Int)} {hs : List (Nat → Int)} {inp : List Int} {P : Int → Sto → Prop} {H : List (Nat × List Int)} {q : Nat × List Int}
theorem uLex_ex (hq : q.2.length ≤ 10) : ∃ g, uLex f q g := by
  refine ⟨fun i => if i = 2 then f 2 + 1 else if i = la (f 2).toNat then (q.1 : Int) else if i = la (f 2).toNat + 1 then (q.2.length : Int) else if la (f 2).toNat + 1 < i ∧ i < la (f 2).toNat + 12 then q.2.getD (i - la (f 2).toNat - 2) 0 else if la (f 2).toNat ≤ i ∧ i < la (f 2).toNat + 102 then 0 else f i, ⟨?_, ?_⟩, ⟨?_, ?_⟩, fun c hc => ?_, fun i h2 hi => ?_⟩
  · exact if_pos rfl
  · have : 723 ≤ la (f 2).toNat := by unfold la; omega
    simp only
    rw [if_neg (by omega), if_pos trivial]
  · have : 723 ≤ la (f 2).toNat := by unfold la; omega
    simp only
    rw [if_neg (by omega), if_neg (by omega), if_pos trivial]
  · have h7 : 723 ≤ la (f 2).toNat := by unfold la; omega
    unfold fl
    simp only
    rw [if_neg (show ¬ la (f 2).toNat + 1 = 2 by omega), if_neg (show ¬ la (f 2).toNat + 1 = la (f 2).toNat by omega), if_pos trivial, Int.toNat_natCast]
    apply List.ext_getElem?
    intro i
    rcases Nat.lt_or_ge i q.2.length with z | z
    · rw [seg_get z, if_neg (by omega), if_neg (by omega), if_neg (by omega), if_pos (by omega), show la (f 2).toNat + 1 + 1 + i - la (f 2).toNat - 2 = i by omega, List.getD_eq_getElem?_getD, List.getElem?_eq_getElem z]
      rfl
    · rw [List.getElem?_eq_none (by rw [seg_len]; exact z), List.getElem?_eq_none z]
  · have h7 : 723 ≤ la (f 2).toNat := by unfold la; omega
    have ei := ea_in (k := (f 2).toNat) hc
    simp only
    rw [if_neg (by omega), if_neg (by omega), if_neg (by omega), if_neg (by omega), if_pos (by omega)]
  · have h7 : 723 ≤ la (f 2).toNat := by unfold la; omega
    simp only
    rw [if_neg h2, if_neg (by omega), if_neg (by omega), if_neg (by omega), if_neg (by omega)]
/-- an old lexeme's forms stay -/
theorem uLex.old {l c : Nat} (hw : wfF f) (hl : (l : Int) < f 2) (u : uLex f q g) : lexP g l = lexP f l ∧ lexN g l = lexN f l ∧ (c < lexN f l → formF g l c = formF f l c) ∧ g (la l) = f (la l) ∧ fl g (la l + 1) = fl f (la l + 1) := by
  have h2 := hw.2.2.1
  have ap := la_apart (l := l) (l' := (f 2).toNat) (by omega)
  have a1 : ∀ i, la l ≤ i → i < la l + 102 → g i = f i := fun i a b => u.2.2.2 i (by unfold la at a; omega) (by omega)
  have b := lexN_b hw hl
  have e1 := a1 (la l) (by omega) (by omega)
  have eP : lexP g l = lexP f l := by unfold lexP; rw [e1]
  have eN : lexN g l = lexN f l := by
    unfold lexN
    rw [eP]
    congr 1
    exact u.eh hw _ (by unfold pa; omega) (by unfold pa; omega)
  have ws := (hw.2.2.2.2.2.2 l hl).2.1
  have es : fl g (la l + 1) = fl f (la l + 1) := fl_on (n := 10) (fun i a b => (a1 i (by omega) (by omega)).symm) (by have := ws.2.1; omega)
  refine ⟨eP, eN, fun hc => ?_, e1, es⟩
  have c6 : c < 6 := by omega
  have ei := ea_in (k := l) c6
  have ww := exc_wd hw hl c6
  unfold formF
  rw [a1 _ (by omega) (by omega), eP, es, bldF_H hw (u.eh hw) b.2.1 (by omega), fl_on (f := f) (g := g) (n := 14) (fun i a b => (a1 i (by omega) (by omega)).symm) (by have := ww.2.1; omega)]
theorem hasFn_old {l w : Nat} (hw : wfF f) (hl : (l : Int) < f 2) (hwd : (w : Int) < f 1) (u : uLex f q g) : ∀ n, n ≤ lexN f l → hasFn g l w n = hasFn f l w n := by
  intro n
  induction n with
  | zero => intro _; rfl
  | succ n ih =>
    intro hn
    show (hasFn g l w n || decide (formF g l n = some (fl g (wa w)))) = (hasFn f l w n || decide (formF f l n = some (fl f (wa w))))
    rw [ih (by omega), (u.old (c := n) hw hl).2.2.1 (by omega), wfl_H hw (u.eh hw) hwd]
theorem hasFn_new {w : Nat} (hw : wfF f) (h10 : f 2 < 10) (hq : isH f q.1 q.2) (hwd : (w : Int) < f 1) (u : uLex f q g) : hasF g (f 2).toNat w = exw f q.1 q.2 w := by
  have h2 := hw.2.2.1
  have c6 := (hw.2.2.2.1 q.1 hq.1).1
  have p6 := hw.1
  have eP : lexP g (f 2).toNat = q.1 := by unfold lexP; rw [u.1.2, Int.toNat_natCast]
  have eN : lexN g (f 2).toNat = (f (pa q.1)).toNat := by
    unfold lexN
    rw [eP, u.eh hw (pa q.1) (by unfold pa; omega) (by unfold pa; have := hq.1; omega)]
  have key : ∀ n : Nat, (n : Int) ≤ f (pa q.1) → hasFn g (f 2).toNat w n = decide (fl f (wa w) ∈ frm1 f q.1 q.2 n) := by
    intro n
    induction n with
    | zero =>
      intro _
      show false = decide (fl f (wa w) ∈ ([] : List (List Int)))
      simp
    | succ n ih =>
      intro hn
      show (hasFn g (f 2).toNat w n || decide (formF g (f 2).toNat n = some (fl g (wa w)))) = _
      have ef : formF g (f 2).toNat n = bldF f q.1 n q.2 := by
        unfold formF
        rw [u.2.2.1 n (by omega), if_neg (by omega), eP, u.2.1.2, bldF_H hw (u.eh hw) hq.1 (by omega)]
      rw [ih (by omega), ef, wfl_H hw (u.eh hw) hwd, ← Bool.decide_or]
      apply decide_eq_decide.mpr
      rw [frm1_mem, frm1_mem]
      constructor
      · rintro (⟨c, a, b⟩ | h)
        · exact ⟨c, by omega, b⟩
        · exact ⟨n, by omega, h⟩
      · rintro ⟨c, a, b⟩
        by_cases e : c = n
        · subst e; exact Or.inr b
        · exact Or.inl ⟨c, by omega, b⟩
  unfold hasF
  rw [eN, key _ (by omega)]
  unfold exw frms
  apply decide_eq_decide.mpr
  exact ⟨fun h => ⟨hwd, h⟩, fun h => h.2⟩
theorem covF_new {w : Nat} (hw : wfF f) (h10 : f 2 < 10) (hq : isH f q.1 q.2) (hwd : (w : Int) < f 1) (u : uLex f q g) : covF g w = (covF f w || exw f q.1 q.2 w) := by
  have h2 := hw.2.2.1
  unfold covF
  rw [show (g 2).toNat = (f 2).toNat + 1 by have := u.1.1; omega]
  show (covN g w (f 2).toNat || hasF g (f 2).toNat w) = _
  rw [hasFn_new hw h10 hq hwd u]
  congr 1
  have : ∀ n : Nat, (n : Int) ≤ f 2 → covN g w n = covN f w n := by
    intro n
    induction n with
    | zero => intro _; rfl
    | succ n ih =>
      intro hn
      show (covN g w n || hasF g n w) = (covN f w n || hasF f n w)
      rw [ih (by omega)]
      congr 1
      unfold hasF
      rw [(u.old (c := 0) hw (by omega)).2.1]
      exact hasFn_old hw (by omega) hwd u _ (Nat.le_refl _)
  exact this _ (by omega)
theorem hasL_new (hw : wfF f) (h10 : f 2 < 10) (u : uLex f q g) (q' : Nat × List Int) : hasL g q' = (hasL f q' || decide (q' = q)) := by
  have h2 := hw.2.2.1
  unfold hasL
  rw [show (g 2).toNat = (f 2).toNat + 1 by have := u.1.1; omega]
  show (hasLn g q'.1 q'.2 (f 2).toNat || decide (g (la (f 2).toNat) = (q'.1 : Int) ∧ fl g (la (f 2).toNat + 1) = q'.2)) = _
  rw [u.1.2, u.2.1.2]
  have e : decide ((q.1 : Int) = (q'.1 : Int) ∧ q.2 = q'.2) = decide (q' = q) := by
    apply decide_eq_decide.mpr
    constructor
    · rintro ⟨a, b⟩; exact Prod.ext (by omega) b.symm
    · intro h; rw [h]; exact ⟨rfl, rfl⟩
  rw [e]
  congr 1
  have : ∀ n : Nat, (n : Int) ≤ f 2 → hasLn g q'.1 q'.2 n = hasLn f q'.1 q'.2 n := by
    intro n
    induction n with
    | zero => intro _; rfl
    | succ n ih =>
      intro hn
      show (hasLn g q'.1 q'.2 n || decide (g (la n) = (q'.1 : Int) ∧ fl g (la n + 1) = q'.2)) = (hasLn f q'.1 q'.2 n || decide (f (la n) = (q'.1 : Int) ∧ fl f (la n + 1) = q'.2))
      have o := u.old (c := 0) (l := n) hw (by omega)
      rw [ih (by omega), o.2.2.2.1, o.2.2.2.2]
  exact this _ (by omega)
/-! the class -/
theorem x_bestFor_7 {C : Nat → Bool} (hw : wfF f) (h : XI σ k g sv hs inp) (hR : RK σ k f H) (he : eqH f g) : ∀ (n i : Nat) (b : Int) (mo : Nat), i ≤ H.length → H.length - i < n → mo ≤ 16 → -1 ≤ b → b < (i : Int) → P (bst f C (hasL g) (H.drop i) i b mo) σ → vX6_bestFor_7 k P n (zxor ((bs C 16 : Nat) : Int) (-1)) b (mo : Int) (i : Int) σ := by
  intro n
  induction n with
  | zero => intro i b mo a1 a2; omega
  | succ n ih =>
    intro i b mo a1 a2 a3 a4 a5 hP
    have N := xn h.1
    have hl := hR.2.1
    unfold vX6_bestFor_7 bX6_bestFor_7
    rw [hR.2.2.1]
    refine ⟨zR_s (by omega) (by omega), zR_s (by omega) (by omega), fun z => ?_, fun z => ?_⟩
    · rw [List.drop_of_length_le (by omega)] at hP
      exact hP
    · have hi : i < H.length := by omega
      have hq : H[i]? = some H[i] := List.getElem?_eq_getElem hi
      have hH := RK_isH hR hq
      have hHg : isH g H[i].1 H[i].2 := (isH_H hw he _).mpr hH
      rw [List.drop_eq_getElem_cons hi] at hP
      have hP : P (if mo < gnF f C H[i] ∧ hasL g H[i] = false then bst f C (hasL g) (H.drop (i + 1)) (i + 1) (i : Int) (gnF f C H[i]) else bst f C (hasL g) (H.drop (i + 1)) (i + 1) b mo) σ := hP
      rw [Int.toNat_natCast, (hR.2.2.2 i _ hq).2, bs_diff (U := fun w => exw f H[i].1 H[i].2 w && !C w) (fun _ _ => rfl)]
      have gl : gnF f C H[i] ≤ 16 := cnt_le _ 16
      have gl2 : cnt (fun w => exw f H[i].1 H[i].2 w && !C w) 16 ≤ 16 := cnt_le _ 16
      have keep : ¬ (mo < gnF f C H[i] ∧ hasL g H[i] = false) → vX6_bestFor_71 k P (vX6_bestFor_7 k P n) (zxor ((bs C 16 : Nat) : Int) (-1)) b (mo : Int) (i : Int) σ := fun c => by
        rw [if_neg c] at hP
        have := ih (i + 1) b mo (by omega) (by omega) a3 a4 (by omega) hP
        exact_mod_cast this
      refine ⟨by omega, by omega, s_bitCount ⟨zR_s (by omega) (by omega), zR_s (by omega) (by omega), fun c => keep (fun y => by have := y.1; unfold gnF at this; omega), fun c => ⟨by omega, by omega, x_pair hR hw hq (x_hasLexeme h hHg ⟨b2i_R _, fun d => keep (fun y => by rw [b2i_1.mp d] at y; exact absurd y.2 (by decide)), fun d => ?_⟩)⟩⟩⟩
      rw [if_pos ⟨by unfold gnF; omega, b2i_0.mp d⟩] at hP
      have := ih (i + 1) (i : Int) (gnF f C H[i]) (by omega) (by omega) gl (by omega) (by omega) hP
      exact_mod_cast this
theorem x_cover_42 (hk : zk k = 5) (hw : wfF f) : ∀ (n : Nat) (S : (Nat → Int) → Prop) (C : Nat → Bool) (D : Nat × List Int → Bool) (a : Nat) (τ : Sto), n + a ≤ 10 → (∃ g, S g) → (∀ g, S g → XI τ k g sv hs inp ∧ eqH f g ∧ (∀ w, inW f (covF g) w = C w) ∧ (∀ q, hasL g q = D q) ∧ g 2 + n = 10) → RK τ k f H → fX σ τ k → (∀ υ, (∀ g, (∃ f', S f' ∧ uLexs (cvL f H n C D) f' g) → XI υ k g sv hs inp) → fX σ υ k → P ((a + (cvL f H n C D).length : Nat) : Int) υ) → vX6_cover_42 k P (n + 1) (zxor ((bs C 16 : Nat) : Int) (-1)) (a : Int) (n : Int) τ := by
  intro n
  induction n with
  | zero =>
    intro S C D a τ ha hne hS hR hf hP
    refine ⟨zR_s (by omega) (by omega), fun _ => ?_, fun z => absurd (by omega) z⟩
    exact hP τ (fun g ⟨f', h1, h2⟩ => by
      have e : g = f' := h2
      rw [e]; exact (hS f' h1).1) hf
  | succ n ih =>
    intro S C D a τ ha hne hS hR hf hP
    obtain ⟨g0, hg0⟩ := hne
    obtain ⟨hX, he, hC, hD, h10⟩ := hS g0 hg0
    have hDe : hasL g0 = D := funext hD
    have N := xn hk
    have hl := hR.2.1
    refine ⟨zR_s (by omega) (by omega), fun z => by omega, fun _ => ⟨H.length + 1, ?_⟩⟩
    have bb := bst_b (f := f) (C := C) (D := D) H 0 (-1) 0
    have := x_bestFor_7 (C := C) (P := fun r4 s4 => zR r4 ∧ ((0 ≤ r4) → 0 ≤ r4 ∧ r4 < (zn (k + 269 + 1) : Int) ∧ (vX2_pair (s4 (k + 269 + 1) (Int.toNat r4)) (fun r5 s5 => vX3_newLexeme (k + 3) r5 (fun r6 s6 => 0 ≤ r4 ∧ r4 < (zn (k + 269 + 2) : Int) ∧ (vX6_cover_42 k P (n + 1) (zand (zxor ((bs C 16 : Nat) : Int) (-1)) (zxor (s6 (k + 269 + 2) (Int.toNat r4)) (-1))) ((a : Int) + 1) (((n + 1 : Nat) : Int) + (-1)) s6)) s5) s4)) ∧ ((¬ (0 ≤ r4)) → vX6_cover_106 k P (a : Int) s4)) hw hX hR he (H.length + 1) 0 (-1) 0 (by omega) (by omega) (by omega) (by omega) (by omega) (by
      rw [List.drop_zero, hDe]
      refine ⟨zR_s (by omega) (by omega), fun z => ⟨z, by omega, ?_⟩, fun z => ?_⟩
      · obtain ⟨i, hi⟩ : ∃ i : Nat, bst f C D H 0 (-1) 0 = (i : Int) := ⟨(bst f C D H 0 (-1) 0).toNat, by omega⟩
        have hil : i < H.length := by omega
        have hq : H[i]? = some H[i] := List.getElem?_eq_getElem hil
        have hH := RK_isH hR hq
        have ebq : bq f C D H = some H[i] := by unfold bq; rw [if_neg (by omega), hi, Int.toNat_natCast]; exact hq
        have ecv : cvL f H (n + 1) C D = H[i] :: cvL f H n (fun w => C w || exw f H[i].1 H[i].2 w) (fun q' => D q' || decide (q' = H[i])) := by
          show (match bq f C D H with | none => [] | some q => q :: cvL f H n (fun w => C w || exw f q.1 q.2 w) (fun q' => D q' || decide (q' = q))) = _
          rw [ebq]
        rw [hi, Int.toNat_natCast]
        refine x_pair hR hw hq (x_newLexeme (r := 0) hX ((isH_H hw he _).mpr hH) (by omega) (fun s6 a0 a1 a2 a3 a4 => ⟨by omega, by omega, ?_⟩))
        have e69 : ∀ i, (k + 269 ≤ i ∧ i ≤ k + 271) → s6 i = τ i := fun i hi => a0 i (by omega) (by omega)
        have hR6 : RK s6 k f H := ⟨hR.1, hR.2.1, by rw [e69 _ (by omega)]; exact hR.2.2.1, fun j q hj => by rw [e69 _ (by omega), e69 _ (by omega)]; exact hR.2.2.2 j q hj⟩
        rw [(hR6.2.2.2 i _ hq).2, bs_notor (U := fun w => C w || exw f H[i].1 H[i].2 w) (fun _ _ => rfl)]
        have e211 := hX.st.1.2.2
        have := ih (fun g => ∃ f', S f' ∧ uLex f' H[i] g) (fun w => C w || exw f H[i].1 H[i].2 w) (fun q' => D q' || decide (q' = H[i])) (a + 1) s6 (by omega) (by
          obtain ⟨g1, u1⟩ := uLex_ex (f := g0) (q := H[i]) (isH_b hw hH).2.2.1
          exact ⟨g1, g0, hg0, u1⟩) (fun g ⟨f', s1, u⟩ => by
          obtain ⟨hX', he', hC', hD', h10'⟩ := hS f' s1
          have hH' : isH f' H[i].1 H[i].2 := (isH_H hw he' _).mpr hH
          have e2 : f' 2 = g0 2 := by omega
          have hgw := hX'.wf
          refine ⟨hX'.lexeme hH' (by omega) a0 a1 a2 (by rw [e2]; exact a3) (by rw [e2]; exact a4) u, fun j j2 jl => by rw [u.eh hgw j j2 jl, he' j j2 jl], fun w => ?_, fun q' => ?_, by have := u.1.1; omega⟩
          · rw [← hC' w]
            unfold inW
            by_cases ww : (w : Int) < f 1
            · have e1 : f' 1 = f 1 := he' 1 (by decide) (by decide)
              rw [decide_eq_true ww, Bool.true_and, Bool.true_and, covF_new hgw (by omega) hH' (by rw [e1]; exact ww) u, exw_H hw he' hH.1]
            · rw [decide_eq_false ww, Bool.false_and, Bool.false_and, Bool.false_or]
              unfold exw
              exact (decide_eq_false (fun y => ww y.1)).symm
          · rw [hasL_new hgw (by omega) u, hD' q']) hR6 (fun j hj => by rw [a0 j (by omega) (by omega)]; exact hf j hj) (fun υ h1 h2 => by
          have := hP υ (fun g ⟨f', s1, u⟩ => by
            rw [ecv] at u
            obtain ⟨f2, u1, u2⟩ := u
            exact h1 g ⟨f2, ⟨f', s1, u1⟩, u2⟩) h2
          rw [ecv, List.length_cons, show a + ((cvL f H n (fun w => C w || exw f H[i].1 H[i].2 w) (fun q' => D q' || decide (q' = H[i]))).length + 1) = a + 1 + (cvL f H n (fun w => C w || exw f H[i].1 H[i].2 w) (fun q' => D q' || decide (q' = H[i]))).length by omega] at this
          exact this)
        rw [show ((n + 1 : Nat) : Int) + -1 = (n : Int) by omega]
        exact_mod_cast this
      · have ebq : bq f C D H = none := by unfold bq; rw [if_pos (by omega)]
        have ecv : cvL f H (n + 1) C D = [] := by
          show (match bq f C D H with | none => [] | some q => q :: cvL f H n (fun w => C w || exw f q.1 q.2 w) (fun q' => D q' || decide (q' = q))) = _
          rw [ebq]
        have := hP τ (fun g ⟨f', s1, u⟩ => by
          rw [ecv] at u
          have e : g = f' := u
          rw [e]; exact (hS f' s1).1) hf
        rw [ecv, List.length_nil, Nat.add_zero] at this
        exact this)
    exact_mod_cast this
theorem x_cover (h : XI σ k f sv hs inp) (h1 : ∀ H, isHL f H → H.length ≤ 2880 → xU σ k (uLexs (cvL f H (10 - f 2).toNat (inW f (covF f)) (hasL f)) f) sv (pushH hs f) inp (P (((cvL f H (10 - f 2).toNat (inW f (covF f)) (hasL f)).length : Nat) : Int))) : vX6_cover k P σ := by
  have l10 := h.wf.2.2.1
  refine x_push0 h (fun s1 hX1 e1 => x_refresh hX1 (fun s2 H hX2 e2 _ hR => x_coveredWords hX2 (fun s3 g3 => ⟨(10 - f 2).toNat + 1, ?_⟩)))
  have hX3 := hX2.gx g3
  have hR3 : RK s3 k f H := ⟨hR.1, hR.2.1, by rw [g3 _ (by omega)]; exact hR.2.2.1, fun j q hj => by rw [g3 _ (by omega), g3 _ (by omega)]; exact hR.2.2.2 j q hj⟩
  have := x_cover_42 (σ := σ) (P := P) (H := H) h.1 h.wf (10 - f 2).toNat (eqF f) (inW f (covF f)) (hasL f) 0 s3 (by omega) ⟨f, rfl⟩ (fun g hg => by
    cases hg
    exact ⟨hX3, fun _ _ _ => rfl, fun _ => rfl, fun _ => rfl, by omega⟩) hR3 (fun i hi => by rw [g3 i (by omega), e2 i (by omega), e1 i (by omega)]) (fun υ a b => by
    rw [Nat.zero_add]
    exact h1 H hR.1 hR.2.1 υ (fun g u => a g ⟨f, rfl, u⟩) b)
  rw [hX3.st.1.2.2]
  rw [show (((10 - f 2).toNat : Nat) : Int) = 10 - f 2 by omega] at this
  exact_mod_cast this
end
