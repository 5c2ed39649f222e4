/-! PURE: the reference finds the hypotheses and reads them -/
def rM (σ τ : Sto) (m : Nat) : Prop := (∀ i, (i < m ∨ (m < i ∧ i < m + 5) ∨ m + 12 < i) → τ i = σ i) ∧ ∀ j, j ≠ 8 → j ≠ 9 → j ≠ 17 → τ m j = σ m j
def RM (σ : Sto) (m : Nat) (f : Nat → Int) (H F : List (Nat × List Int)) : Prop := isHL f H ∧ F.Perm H ∧ H.length ≤ 2880 ∧ σ m 9 = (H.length : Int) ∧ (∀ i q, H[i]? = some q → rkd σ m F i q) ∧ ∀ h q, F[h]? = some q → hypM σ m f h q
section
variable {σ τ : Sto} {m p c w : Nat} {f : Nat → Int} {P Q : Sto → Prop} {F H F' H' : List (Nat × List Int)} {K15 : Int → Sto → Prop} {K27 : Int → Int → Sto → Prop}
theorem rM.fm (h : rM σ τ m) : fM σ τ m := fun i hi => h.1 i (by omega)
theorem m_find38 (hm : zk m = 6) (hw : wfF f) (hp : (p : Int) < f 0) (hc : (c : Int) < f (pa p)) (h1 : ∀ τ F H, τ (m + 1) = f → pM σ τ m → fnd τ m f F H → dn f p (c + 1) 0 F → K27 (p : Int) ((c : Int) + 1) τ) : ∀ (n w : Nat) (τ : Sto) (F H : List (Nat × List Int)), (w : Int) ≤ f 1 → f 1 - w < n → τ (m + 1) = f → pM σ τ m → fnd τ m f F H → dn f p c w F → vX7_find_38 m P K15 K27 n (p : Int) (c : Int) (w : Int) τ := by
  intro n
  induction n with
  | zero => intro w τ F H a1 a2; omega
  | succ n ih =>
    intro w τ F H a1 a2 e hg hE hd
    have z := mz hm
    have w16 := hw.2.1
    have p6 := hw.1
    have c6 := (hw.2.2.2.1 p hp).1
    have hl := hd.2.2.2
    unfold vX7_find_38 bX7_find_38
    rw [e, show Int.toNat 1 = 1 from rfl]
    refine ⟨by rw [z.1]; decide, zR_s (by omega) (by omega), zR_s (by omega) (by omega), fun q => h1 τ F H e hg hE (hd.cell hw (by omega)), fun q => ?_⟩
    refine m_proposesFrom hm e hw hp hc (by omega) hE (by omega) (fun υ F' H' gu hE' hs hl' hcv => ?_)
    have := ih (w + 1) υ F' H' (by omega) (by omega) (by rw [gu.1 _ (by omega)]; exact e) (hg.trans gu) hE' (hd.step hs hl' hcv)
    exact_mod_cast this
theorem m_find27 (hm : zk m = 6) (hw : wfF f) (hp : (p : Int) < f 0) (h1 : ∀ τ F H, τ (m + 1) = f → pM σ τ m → fnd τ m f F H → dn f (p + 1) 0 0 F → K15 ((p : Int) + 1) τ) : ∀ (n c : Nat) (τ : Sto) (F H : List (Nat × List Int)), (c : Int) ≤ f (pa p) → f (pa p) - c < n → τ (m + 1) = f → pM σ τ m → fnd τ m f F H → dn f p c 0 F → vX7_find_27 m P K15 n (p : Int) (c : Int) τ := by
  intro n
  induction n with
  | zero => intro w τ F H a1 a2; omega
  | succ n ih =>
    intro c τ F H a1 a2 e hg hE hd
    have w16 := hw.2.1
    have p6 := hw.1
    have c6 := (hw.2.2.2.1 p hp).1
    unfold vX7_find_27 bX7_find_27
    refine m_cellMany hm e (by omega) ⟨zR_s (by omega) (by omega), zR_s (by omega) (by omega), fun q => h1 τ F H e hg hE (hd.par (by omega) (by omega)), fun q => ⟨17, ?_⟩⟩
    have := m_find38 (σ := τ) (P := P) (K15 := K15) (K27 := vX7_find_27 m P K15 n) hm hw hp (c := c) (by omega) (fun υ F' H' e' gu hE' hd' => by
      have := ih (c + 1) υ F' H' (by omega) (by omega) e' (hg.trans gu) hE' hd'
      exact_mod_cast this) 17 0 τ F H (by omega) (by omega) e pM.refl hE hd
    exact_mod_cast this
theorem m_find15 (hm : zk m = 6) (hw : wfF f) (h1 : ∀ τ F H, τ (m + 1) = f → pM σ τ m → fnd τ m f F H → (∀ q : Nat × List Int, isH f q.1 q.2 → q ∈ F) → F.length ≤ 2880 → Q (zu τ m 8 1)) : ∀ (n p : Nat) (τ : Sto) (F H : List (Nat × List Int)), (p : Int) ≤ f 0 → f 0 - p < n → τ (m + 1) = f → pM σ τ m → fnd τ m f F H → dn f p 0 0 F → vX7_find_15 m Q n (p : Int) τ := by
  intro n
  induction n with
  | zero => intro w τ F H a1 a2; omega
  | succ n ih =>
    intro p τ F H a1 a2 e hg hE hd
    have z := mz hm
    have p6 := hw.1
    unfold vX7_find_15 bX7_find_15
    rw [e, show Int.toNat 0 = 0 from rfl]
    refine ⟨by rw [z.1]; decide, zR_s (by omega) (by omega), zR_s (by omega) (by omega), fun q s2 q2 => ?_, fun q => ⟨7, ?_⟩⟩
    · have hl := hd.2.2.2
      rw [q2]
      exact h1 τ F H e hg hE (fun q hq => dn_all hw hd (by omega) hq) (by omega)
    · have c6 := (hw.2.2.2.1 p (by omega)).1
      have := m_find27 (σ := τ) (P := Q) (K15 := vX7_find_15 m Q n) hm hw (p := p) (by omega) (fun υ F' H' e' gu hE' hd' => by
        have := ih (p + 1) υ F' H' (by omega) (by omega) e' (hg.trans gu) hE' hd'
        exact_mod_cast this) 7 0 τ F H (by omega) (by omega) e pM.refl hE hd
      exact_mod_cast this
theorem fnd.hl (h : fnd σ m f F H) (ha : ∀ q : Nat × List Int, isH f q.1 q.2 → q ∈ F) : isHL f H := ⟨fun i j hi hj hij => by
  have := h.2.2.2.2.1 i j hij hj
  rw [kf_some (List.getElem?_eq_getElem hi), kf_some (List.getElem?_eq_getElem hj)] at this
  exact this, fun q => by rw [← h.2.1.mem_iff]; exact ⟨h.2.2.2.2.2 q, ha q⟩⟩
theorem RM.rank (h : RM σ m f H F) : rankM σ m f := ⟨H, F, h.1, h.2.1, h.2.2.1, h.2.2.2.1, fun i hi => h.2.2.2.2.1 i _ (List.getElem?_eq_getElem hi), h.2.2.2.2.2⟩
theorem RM.fr (h : RM σ m f H F) (e9 : τ m 9 = σ m 9) (e : ∀ i, m + 6 ≤ i → i ≤ m + 10 → τ i = σ i) : RM τ m f H F := by
  obtain ⟨h1, h2, h3, h4, h5, h6⟩ := h
  refine ⟨h1, h2, h3, by rw [e9]; exact h4, fun i q hq => ?_, fun i q hq => (h6 i q hq).fr (fun j a b => e j a (by omega))⟩
  obtain ⟨x, a, b⟩ := h5 i q hq
  exact ⟨x, by rw [e (m + 10) (by omega) (by omega)]; exact a, b⟩
theorem RM.get {i : Nat} {q : Nat × List Int} (h : RM σ m f H F) (hq : H[i]? = some q) : ∃ x : Nat, σ (m + 10) i = (x : Int) ∧ F[x]? = some q ∧ hypM σ m f x q ∧ isH f q.1 q.2 ∧ x < 2880 := by
  obtain ⟨x, a, b⟩ := h.2.2.2.2.1 i q hq
  have hl := (List.getElem?_eq_some_iff.mp b).1
  have := h.2.1.length_eq
  have := h.2.2.1
  exact ⟨x, a, b, h.2.2.2.2.2 x q b, (h.1.2 q).mp (List.mem_of_getElem? hq), by omega⟩
end
section
variable {σ τ : Sto} {k m : Nat} {f g : Nat → Int} {sv : Option (Nat → Int)} {hs : List (Nat → Int)} {inp inp' : List Int} {P : Int → Sto → Prop} {Q : Sto → Prop} {x y : Int} {H F : List (Nat × List Int)} {q : Nat × List Int}
theorem m_find (h : MI σ m f sv hs inp) (h1 : ∀ τ H F, MI τ m f sv hs inp → rM σ τ m → τ m 8 = 1 → RM τ m f H F → Q τ) : vX7_find m Q σ := by
  have p6 := h.wf.1
  have h8 := h.2.2.2.2.2.1
  refine ⟨zR_s (by omega) (by omega), fun z s1 q1 => ⟨7, ?_⟩, fun z => ?_⟩
  · have ne : ∀ i, i ≠ m → s1 i = σ i := fun i hi => by rw [q1, zu_ne hi]
    have := m_find15 (σ := s1) (Q := Q) h.1 h.wf (fun τ F H e hg hE ha hl => by
      have hL := hE.hl ha
      have len := hE.2.1.length_eq
      have ev : ∀ i, i ≠ m → zu τ m 8 1 i = τ i := fun i hi => zu_ne hi
      have em : ∀ j, j ≠ 8 → zu τ m 8 1 m j = τ m j := fun j hj => zu_j hj
      have f1 : ∀ i, (i < m ∨ (m < i ∧ i < m + 5) ∨ m + 12 < i) → zu τ m 8 1 i = σ i := fun i hi => by rw [ev i (by omega), hg.1 i hi, ne i (by omega)]
      have f2 : ∀ j, j ≠ 8 → j ≠ 9 → j ≠ 17 → zu τ m 8 1 m j = σ m j := fun j a b c => by rw [em j a, hg.2 j b c, q1, zu_j b]
      have hR : RM (zu τ m 8 1) m f H F := RM.fr ⟨hL, hE.2.1, by omega, by rw [← len]; exact hE.1, hE.2.2.1, hE.2.2.2.1⟩ (em 9 (by decide)) (fun i a b => ev i (by omega))
      obtain ⟨o1, o2⟩ := h.2.1.1.fr (τ := zu τ m 8 1) (f1 _ (by omega))
      exact h1 _ H F ⟨h.1, ⟨o1, by rw [o2]; exact h.2.1.2⟩, ⟨by rw [f1 _ (by omega)]; exact h.row, h.wf⟩, h.2.2.2.1.fr (f2 4 (by decide) (by decide) (by decide)) (f1 _ (by omega)), h.hist.fr (f2 2 (by decide) (by decide) (by decide)) (f1 _ (by omega)), Or.inr zu_eq, fun _ => hR.rank⟩ ⟨f1, f2⟩ zu_eq hR) 7 0 s1 [] [] (by omega) (by omega) (by rw [ne _ (by omega)]; exact h.row) pM.refl ⟨by rw [q1, zu_eq]; rfl, List.Perm.refl _, fun i q hq => absurd hq (by simp), fun i q hq => absurd hq (by simp), fun a b _ hb => absurd hb (by simp), fun q hq => absurd hq List.not_mem_nil⟩ ⟨fun _ _ _ a => absurd a (Nat.not_lt_zero _), fun _ _ a => absurd a (Nat.not_lt_zero _), fun _ a => absurd a (Nat.not_lt_zero _), by simp⟩
    exact_mod_cast this
  · have e8 : σ m 8 = 1 := by omega
    obtain ⟨H, F, r1, r2, r3, r4, r5, r6⟩ := h.2.2.2.2.2.2 e8
    exact h1 σ H F h ⟨fun _ _ => rfl, fun _ _ _ _ => rfl⟩ e8 ⟨r1, r2, r3, r4, fun i q hq => by
      obtain ⟨hi, e⟩ := List.getElem?_eq_some_iff.mp hq
      rw [← e]
      exact r5 i hi, r6⟩
theorem mU.fm {c : Int} (q : mU σ m (eqF f) sv hs inp c Q) (h : MI τ m f sv hs inp) (e : fM σ τ m) : Q (zu τ m 7 c) := q _ f rfl (h.thr c) (fun i hi => by rw [zu_ne (by omega)]; exact e i hi) zu_eq
theorem m_isHypothesis (h : MI σ m f sv hs inp) (hx : zR x) (h1 : ∀ τ H F, MI τ m f sv hs inp → rM σ τ m → τ m 8 = 1 → RM τ m f H F → P (b2i (decide (0 ≤ x ∧ x < (H.length : Int)))) τ) : vX7_isHypothesis m x P σ := by
  refine m_find h (fun τ H F hM e e8 hR => ?_)
  have hl := hR.2.2.1
  rw [hR.2.2.2.1]
  refine ⟨hx, zR_s (by omega) (by omega), s7_in (zQ_R hx) (zQ_s (by omega) (by omega)) (zQ_s (by omega) (by omega)) ⟨b2i_01 _, ?_⟩⟩
  have := h1 τ H F hM e e8 hR
  rw [show decide (0 ≤ x ∧ x < (H.length : Int)) = decide (0 ≤ x ∧ x ≤ (H.length : Int) - 1) from decide_eq_decide.mpr (by omega)] at this
  exact this
theorem m_hypothesisCount (h : MI σ m f sv hs inp) (h1 : ∀ H, isHL f H → H.length ≤ 2880 → mU σ m (eqF f) sv hs inp 0 (P (H.length : Int))) : vX7_hypothesisCount m P σ := by
  intro s1 q1
  subst q1
  refine m_find (h.thr 0) (fun τ H F hM e _ hR => ?_)
  rw [hR.2.2.2.1]
  exact h1 H hR.1 hR.2.2.1 τ f rfl hM (fM_thr.trans e.fm) (by rw [e.2 7 (by decide) (by decide) (by decide), zu_eq])
theorem hget (hi : x < (H.length : Int)) (h0 : 0 ≤ x) : H[x.toNat]? = some (H[x.toNat]'(by omega)) := List.getElem?_eq_getElem (by omega)
theorem m_hypothesis (h : MI σ m f sv hs inp) (hx : zR x) (hy : zR y) (h1 : ∀ H, isHL f H → H.length ≤ 2880 → ¬ (0 ≤ x ∧ x < (H.length : Int)) → mU σ m (eqF f) sv hs inp 1 (P 0)) (h2 : ∀ H q, isHL f H → H.length ≤ 2880 → 0 ≤ x → H[x.toNat]? = some q → ¬ (0 ≤ y ∧ y ≤ 3) → mU σ m (eqF f) sv hs inp 2 (P 0)) (h3 : ∀ H q, isHL f H → H.length ≤ 2880 → 0 ≤ x → H[x.toNat]? = some q → (0 ≤ y ∧ y ≤ 3) → mU σ m (eqF f) sv hs inp 0 (P (hypV f q y))) : vX7_hypothesis m x y P σ := by
  refine m_isHypothesis h hx (fun τ H F hM e e8 hR => ⟨b2i_R _, fun a => ⟨hy, s7_in (zQ_R hy) (zQ_s (by omega) (by omega)) (zQ_s (by omega) (by omega)) ⟨b2i_R _, fun b => ?_, fun b => ?_⟩⟩, fun a => ?_⟩)
  · intro s3 q3
    subst q3
    have hi := of_decide_eq_true (b2i_1.mp a)
    have hy3 := of_decide_eq_true (b2i_1.mp b)
    have hq := hget hi.2 hi.1
    obtain ⟨n, n1, n2, ⟨a1, a2, a3, a4, a5⟩, n4, n5⟩ := hR.get hq
    have r := (h3 H _ hR.1 hR.2.2.1 hi.1 hq hy3).fm hM e.fm
    unfold hypV at r
    have z := mz h.1
    have hl := hR.2.2.1
    rw [zu_eq, zu_ne (show m + 10 ≠ m by omega), zu_ne (show m + 9 ≠ m by omega), zu_ne (show m + 8 ≠ m by omega), zu_ne (show m + 7 ≠ m by omega), zu_ne (show m + 6 ≠ m by omega), n1, show (11 : Int) * (n : Int) = ((11 * n : Nat) : Int) by omega]
    simp only [Int.toNat_natCast]
    rw [a1, a2, a3, a4]
    refine ⟨zR_0, fun _ => ⟨by omega, by rw [z.2.2.2.2.2.2.2.2.2.1]; omega, hy, fun c0 => ⟨hy, fun c1 => ⟨hy, fun c2 => ⟨by omega, by rw [z.2.2.2.2.2.2.2.2.1]; omega, ?_⟩, fun c2 => ⟨by omega, by rw [z.2.2.2.2.2.2.2.1]; omega, by omega, by rw [z.2.2.2.2.2.2.1]; omega, ?_⟩⟩, fun c1 => ⟨by omega, by rw [z.2.2.2.2.2.2.1]; omega, ?_⟩⟩, fun c0 => ⟨by omega, by rw [z.2.2.2.2.2.1]; omega, ?_⟩⟩, fun q => absurd (Int.le_refl 0) q⟩
    · rw [if_neg c0, if_neg c1, if_neg c2] at r
      exact r
    · rw [if_neg c0, if_neg c1, if_pos c2] at r
      exact r
    · rw [if_neg c0, if_pos c1] at r
      exact r
    · rw [if_pos c0] at r
      exact r
  · intro s3 q3
    subst q3
    rw [zu_eq]
    have hi := of_decide_eq_true (b2i_1.mp a)
    exact ⟨zRl rfl, fun q => absurd q (by decide), fun _ => (h2 H _ hR.1 hR.2.2.1 hi.1 (hget hi.2 hi.1) (of_decide_eq_false (b2i_0.mp b))).fm hM e.fm⟩
  · intro s3 q3
    subst q3
    rw [zu_eq]
    exact ⟨zRl rfl, fun q => absurd q (by decide), fun _ => (h1 H hR.1 hR.2.2.1 (of_decide_eq_false (b2i_0.mp a))).fm hM e.fm⟩
theorem i2c_s {v : Int} (h0 : 0 ≤ v) (h1 : v ≤ 65535) : zi2c v = v := by unfold zi2c; omega
theorem m_stemLetter (h : MI σ m f sv hs inp) (hx : zR x) (hy : zR y) (h1 : ∀ H, isHL f H → H.length ≤ 2880 → ¬ (0 ≤ x ∧ x < (H.length : Int)) → mU σ m (eqF f) sv hs inp 1 (P 0)) (h2 : ∀ H q, isHL f H → H.length ≤ 2880 → 0 ≤ x → H[x.toNat]? = some q → ¬ (0 ≤ y ∧ y < (q.2.length : Int)) → mU σ m (eqF f) sv hs inp 1 (P 0)) (h3 : ∀ H q, isHL f H → H.length ≤ 2880 → 0 ≤ x → H[x.toNat]? = some q → (0 ≤ y ∧ y < (q.2.length : Int)) → mU σ m (eqF f) sv hs inp 0 (P (q.2.getD y.toNat 0))) : vX7_stemLetter m x y P σ := by
  have bad : ∀ τ, mU σ m (eqF f) sv hs inp 1 (P 0) → MI τ m f sv hs inp → fM σ τ m → vX7_stemLetter_39 m P x y τ := fun τ u hM e s q => by
    subst q
    rw [zu_eq]
    exact ⟨zRl rfl, fun q => absurd q (by decide), fun _ => ⟨by decide, by decide, u.fm hM e⟩⟩
  refine m_isHypothesis h hx (fun τ H F hM e e8 hR => ⟨b2i_R _, fun a => bad τ (h1 H hR.1 hR.2.2.1 (of_decide_eq_false (b2i_0.mp a))) hM e.fm, fun a => ?_⟩)
  have hi := of_decide_eq_true (b2i_1.mp a)
  have hq := hget hi.2 hi.1
  obtain ⟨n, n1, n2, ⟨a1, a2, a3, a4, a5⟩, n4, n5⟩ := hR.get hq
  have b := isH_b h.wf n4
  have z := mz h.1
  have hl := hR.2.2.1
  rw [n1, show (11 : Int) * (n : Int) = ((11 * n : Nat) : Int) by omega]
  simp only [Int.toNat_natCast]
  rw [a4]
  refine ⟨hy, by omega, by rw [z.2.2.2.2.2.2.2.2.2.1]; omega, by omega, by rw [z.2.2.2.2.2.2.2.2.1]; omega, zR_s (by omega) (by omega), s7_in (zQ_R hy) (zQ_s (by omega) (by omega)) (zQ_s (by omega) (by omega)) ⟨b2i_R _, fun d => bad τ (h2 H _ hR.1 hR.2.2.1 hi.1 hq (fun y' => of_decide_eq_false (b2i_0.mp d) (by omega))) hM e.fm, fun d => ?_⟩⟩
  have hd := of_decide_eq_true (b2i_1.mp d)
  intro s3 q3
  subst q3
  have r := (h3 H _ hR.1 hR.2.2.1 hi.1 hq (by omega)).fm hM e.fm
  rw [zu_eq, zu_ne (show m + 10 ≠ m by omega), zu_ne (show m + 9 ≠ m by omega), n1]
  obtain ⟨i, rfl⟩ : ∃ i : Nat, y = (i : Int) := ⟨y.toNat, by omega⟩
  rw [show ((11 : Int) * (n : Int) + 1 + (i : Int)) = ((11 * n + 1 + i : Nat) : Int) by omega, Int.toNat_natCast]
  rw [Int.toNat_natCast, ← a5, fl_getD (by rw [a4]; omega)] at r
  have ok := hyp_ok h.1 h.wf n5 ⟨a1, a2, a3, a4, a5⟩ n4
  have l := ok.at (i := 1 + i) (by omega) (by rw [a4]; omega)
  rw [← Nat.add_assoc] at l
  refine ⟨zR_0, fun _ => ⟨by omega, by rw [z.2.2.2.2.2.2.2.2.2.1]; omega, by omega, by rw [z.2.2.2.2.2.2.2.2.1]; omega, ?_⟩, fun q => absurd (Int.le_refl 0) q⟩
  rw [i2c_s (by omega) (by omega)]
  exact ⟨by omega, by omega, r⟩
theorem frm1_or {p : Nat} {st l : List Int} (n : Nat) : l ∈ frm1 f p st (n + 1) ↔ (l ∈ frm1 f p st n ∨ bldF f p n st = some l) := by
  rw [frm1_mem, frm1_mem]
  constructor
  · rintro ⟨c, h1, h2⟩
    by_cases e : c = n
    · subst e; exact Or.inr h2
    · exact Or.inl ⟨c, by omega, h2⟩
  · rintro (⟨c, h1, h2⟩ | h)
    · exact ⟨c, by omega, h2⟩
    · exact ⟨n, by omega, h⟩
theorem m_explainsWord_5 {n w : Nat} (hm : zk m = 6) (hw : wfF f) (hq : hypM σ m f n q) (hi : isH f q.1 q.2) (hn : n < 2880) (hwd : (w : Int) < f 1) (h1 : ∀ τ, fr [m + 5] σ τ → P (b2i (exw f q.1 q.2 w)) τ) : ∀ (u c : Nat) (τ : Sto), τ (m + 1) = f → fr [m + 5] σ τ → (c : Int) ≤ f (pa q.1) → f (pa q.1) - c < u → vX7_explainsWord_5 m P u (n : Int) (w : Int) (b2i (decide (fl f (wa w) ∈ frm1 f q.1 q.2 c))) (c : Int) τ := by
  intro u
  induction u with
  | zero => intro c τ e t h2 h3; omega
  | succ u ih =>
    intro c τ e t h2 h3
    have b := isH_b hw hi
    have c6 := (hw.2.2.2.1 q.1 hi.1).1
    have w16 := hw.2.1
    have z := mz hm
    have hqτ : hypM τ m f n q := hq.fr (fun i a b => t i (by simp <;> omega))
    obtain ⟨a1, a2, a3, a4, a5⟩ := id hqτ
    unfold vX7_explainsWord_5 bX7_explainsWord_5
    rw [Int.toNat_natCast, a1]
    refine ⟨by omega, by rw [z.2.2.2.2.2.1]; omega, m_cellMany hm e (by omega) ⟨zR_s (by omega) (by omega), zR_s (by omega) (by omega), fun q' => ⟨b2i_01 _, ?_⟩, fun q' => ⟨b2i_R _, fun q2 => ?_, fun q2 => ⟨by omega, by rw [z.2.2.2.2.2.1]; omega, ?_⟩⟩⟩⟩
    · have := h1 τ t
      have ed : exw f q.1 q.2 w = decide (fl f (wa w) ∈ frm1 f q.1 q.2 c) := by
        unfold exw frms
        rw [show c = (f (pa q.1)).toNat by omega]
        exact decide_eq_decide.mpr ⟨fun h => h.2, fun h => ⟨hwd, h⟩⟩
      rw [ed] at this
      exact this
    · have := ih (c + 1) τ e t (by omega) (by omega)
      rw [decide_eq_true ((frm1_or c).mpr (Or.inl (of_decide_eq_true (b2i_1.mp q2))))] at this
      exact_mod_cast this
    · have q2 := of_decide_eq_false (b2i_0.mp q2)
      have go : ∀ (υ : Sto) (d : Bool), fr [m + 5] τ υ → d = decide (bldF f q.1 c q.2 = some (fl f (wa w))) → vX7_explainsWord_71 m P (vX7_explainsWord_5 m P u) (n : Int) (w : Int) (c : Int) (b2i d) υ := fun υ d t2 ed => by
        have := ih (c + 1) υ (by rw [t2 _ (by simp)]; exact e) (t.trans t2) (by omega) (by omega)
        rw [show decide (fl f (wa w) ∈ frm1 f q.1 q.2 (c + 1)) = d by rw [ed]; exact decide_eq_decide.mpr ⟨fun h => ((frm1_or c).mp h).elim (fun y => absurd y q2) id, fun h => (frm1_or c).mpr (Or.inr h)⟩] at this
        exact_mod_cast this
      rw [a1, show (11 : Int) * (n : Int) = ((11 * n : Nat) : Int) by omega]
      refine sm_builds (k := m) (p := q.1) (c := c) (k3 := m + 9) (q := 11 * n) hm (by rw [e]; exact hw) (by rw [e]; exact hi.1) (by rw [e]; omega) (hyp_ok hm hw hn hqτ hi) (by omega) (by rw [a4]; omega) ?_ ?_
      · rw [e, a5]
        intro hb υ t2
        exact ⟨zR_0, fun _ => go υ false t2 (by rw [hb]; rfl), fun a => absurd rfl a⟩
      · rw [e, a5]
        intro l υ hb sq ok
        have t2 := sq.1
        have er : υ (m + 1) = f := by rw [t2 _ (by simp)]; exact e
        refine ⟨zRl rfl, fun a => absurd a (by decide), fun _ => ?_⟩
        unfold vX7_wordAt
        rw [show ((483 : Int) + 15 * (w : Int)) = ((wa w : Nat) : Int) by unfold wa; omega]
        have hwa : wa w + 15 ≤ 723 := by unfold wa; omega
        have fk : fok υ (m + 1) (wa w) 14 := fok_of (n := 14) hm (by rw [er]; exact hw.2.2.2.2.1 w hwd) (by decide) (by decide) (by omega)
        refine s7_areSame0 ok fk ?_
        rw [er, sq.2.2.1]
        have ed : decide (l = fl f (wa w)) = decide (bldF f q.1 c q.2 = some (fl f (wa w))) := decide_eq_decide.mpr ⟨fun z => by rw [hb, z], fun z => by rw [hb] at z; exact Option.some.inj z⟩
        refine ⟨b2i_R _, fun z => ?_, fun z => ?_⟩
        · have := go υ (decide (l = fl f (wa w))) t2 ed
          rw [b2i_0.mp z] at this
          exact this
        · have := go υ (decide (l = fl f (wa w))) t2 ed
          rw [b2i_1.mp z] at this
          exact this
theorem m_explainsWord {n w : Nat} (hm : zk m = 6) (e : σ (m + 1) = f) (hw : wfF f) (hq : hypM σ m f n q) (hi : isH f q.1 q.2) (hn : n < 2880) (hwd : (w : Int) < f 1) (h1 : ∀ τ, fr [m + 5] σ τ → P (b2i (exw f q.1 q.2 w)) τ) : vX7_explainsWord m (n : Int) (w : Int) P σ := by
  have c6 := (hw.2.2.2.1 q.1 hi.1).1
  refine ⟨7, ?_⟩
  have := m_explainsWord_5 (σ := σ) (P := P) hm hw hq hi hn hwd h1 7 0 σ e fr.refl (by omega) (by omega)
  rw [show decide (fl f (wa w) ∈ frm1 f q.1 q.2 0) = false from decide_eq_false (fun h => absurd h List.not_mem_nil)] at this
  exact_mod_cast this
theorem mU.gm {c : Int} {υ : Sto} (q : mU σ m (eqF f) sv hs inp c Q) (h : MI τ m f sv hs inp) (e : fM σ τ m) (t : fr [m + 5] (zu τ m 7 c) υ) : Q υ := q υ f rfl (mi_gx (h.thr c) t) (fun i hi => by rw [t i (by simp <;> omega), zu_ne (by omega)]; exact e i hi) (by rw [t m (by simp), zu_eq])
theorem m_explains (h : MI σ m f sv hs inp) (hx : zR x) (hy : zR y) (h1 : ∀ H, isHL f H → H.length ≤ 2880 → ¬ (0 ≤ x ∧ x < (H.length : Int)) → mU σ m (eqF f) sv hs inp 1 (P 0)) (h2 : ∀ H q, isHL f H → H.length ≤ 2880 → 0 ≤ x → H[x.toNat]? = some q → ¬ isW f y → mU σ m (eqF f) sv hs inp 1 (P 0)) (h3 : ∀ H q, isHL f H → H.length ≤ 2880 → 0 ≤ x → H[x.toNat]? = some q → isW f y → mU σ m (eqF f) sv hs inp 0 (P (b2i (exw f q.1 q.2 y.toNat)))) : vX7_explains m x y P σ := by
  have bad : ∀ τ, mU σ m (eqF f) sv hs inp 1 (P 0) → MI τ m f sv hs inp → fM σ τ m → vX7_explains_21 m P x y τ := fun τ u hM e s q => by
    subst q
    rw [zu_eq]
    exact ⟨zRl rfl, fun _ => ⟨Or.inl rfl, u.fm hM e⟩, fun a => absurd a (by decide)⟩
  refine m_isHypothesis h hx (fun τ H F hM e e8 hR => ⟨b2i_R _, fun a => bad τ (h1 H hR.1 hR.2.2.1 (of_decide_eq_false (b2i_0.mp a))) hM e.fm, fun a => ?_⟩)
  have hi := of_decide_eq_true (b2i_1.mp a)
  have hq := hget hi.2 hi.1
  obtain ⟨n, n1, n2, n3, n4, n5⟩ := hR.get hq
  have z := mz h.1
  have hl := hR.2.2.1
  refine m_isWord hM hy ⟨b2i_R _, fun d => bad τ (h2 H _ hR.1 hR.2.2.1 hi.1 hq (of_decide_eq_false (b2i_0.mp d))) hM e.fm, fun d s q3 => ?_⟩
  subst q3
  have hd := of_decide_eq_true (b2i_1.mp d)
  have r := h3 H _ hR.1 hR.2.2.1 hi.1 hq hd
  obtain ⟨w, rfl⟩ : ∃ i : Nat, y = (i : Int) := ⟨y.toNat, by omega⟩
  rw [Int.toNat_natCast] at r
  rw [zu_eq, zu_ne (show m + 10 ≠ m by omega), n1]
  refine ⟨zR_0, fun a => absurd rfl a, fun _ => ⟨by omega, by rw [z.2.2.2.2.2.2.2.2.2.1]; omega, m_explainsWord h.1 (hM.thr 0).row h.wf (n3.fr (fun i a b => zu_ne (by omega))) n4 n5 hd.2 (fun υ t => ⟨b2i_R _, fun a => ⟨Or.inl rfl, ?_⟩, fun a => ⟨Or.inr rfl, ?_⟩⟩)⟩⟩
  · have := r.gm hM e.fm t
    rw [b2i_0.mp a] at this
    exact this
  · have := r.gm hM e.fm t
    rw [b2i_1.mp a] at this
    exact this
theorem m_explanations_34 {w : Nat} (hm : zk m = 6) (hw : wfF f) (hR : RM σ m f H F) (hwd : (w : Int) < f 1) (h1 : ∀ τ, fr [m + 5] σ τ → P ((F.countP (fun q => exw f q.1 q.2 w) : Nat) : Int) τ) : ∀ (n i a : Nat) (τ : Sto), τ (m + 1) = f → fr [m + 5] σ τ → i ≤ F.length → F.length - i < n → a + (F.drop i).countP (fun q => exw f q.1 q.2 w) = F.countP (fun q => exw f q.1 q.2 w) → vX7_explanations_34 m P n (w : Int) (a : Int) (i : Int) τ := by
  intro n
  induction n with
  | zero => intro i a τ e t a1 a2; omega
  | succ n ih =>
    intro i a τ e t a1 a2 hs
    have len := hR.2.1.length_eq
    have hl := hR.2.2.1
    have hRτ : RM τ m f H F := hR.fr (by rw [t m (by simp)]) (fun j a b => t j (by simp <;> omega))
    unfold vX7_explanations_34 bX7_explanations_34
    rw [hRτ.2.2.2.1]
    refine ⟨zR_s (by omega) (by omega), zR_s (by omega) (by omega), fun z => ?_, fun z => ?_⟩
    · rw [List.drop_of_length_le (by omega)] at hs
      have := h1 τ t
      rw [← hs] at this
      exact this
    · have hi : i < F.length := by omega
      have hg := List.getElem?_eq_getElem hi
      rw [List.drop_eq_getElem_cons hi, List.countP_cons] at hs
      refine m_explainsWord hm e hw (hRτ.2.2.2.2.2 i _ hg) ((hR.1.2 _).mp ((hR.2.1.mem_iff).mp (List.mem_of_getElem? hg))) (by omega) hwd (fun υ t2 => ⟨b2i_R _, fun q => ?_, fun q => ?_⟩)
      · rw [b2i_0.mp q, if_neg (by decide), Nat.add_zero] at hs
        have := ih (i + 1) a υ (by rw [t2 _ (by simp)]; exact e) (t.trans t2) (by omega) (by omega) hs
        unfold vX7_explanations_57
        rw [Int.add_zero]
        exact_mod_cast this
      · rw [b2i_1.mp q, if_pos rfl] at hs
        have := ih (i + 1) (a + 1) υ (by rw [t2 _ (by simp)]; exact e) (t.trans t2) (by omega) (by omega) (by omega)
        unfold vX7_explanations_57
        exact_mod_cast this
theorem m_explanations (h : MI σ m f sv hs inp) (hx : zR x) (h1 : ¬ isW f x → mU σ m (eqF f) sv hs inp 1 (P 0)) (h2 : ∀ H, isHL f H → H.length ≤ 2880 → isW f x → mU σ m (eqF f) sv hs inp 0 (P ((H.countP (fun q => exw f q.1 q.2 x.toNat) : Nat) : Int))) : vX7_explanations m x P σ := by
  refine m_isWord h hx ⟨b2i_R _, fun q s e => ?_, fun q s e => ?_⟩
  · subst e
    rw [zu_eq]
    exact ⟨zRl rfl, fun q => absurd q (by decide), fun _ => mU.same h (h1 (of_decide_eq_false (b2i_0.mp q)))⟩
  · subst e
    rw [zu_eq]
    have hd := of_decide_eq_true (b2i_1.mp q)
    obtain ⟨w, rfl⟩ : ∃ i : Nat, x = (i : Int) := ⟨x.toNat, by omega⟩
    refine ⟨zR_0, fun _ => m_find (h.thr 0) (fun τ H F hM e _ hR => ⟨F.length + 1, ?_⟩), fun q => absurd (Int.le_refl 0) q⟩
    have r := h2 H hR.1 hR.2.2.1 hd
    rw [Int.toNat_natCast, ← hR.2.1.countP_eq] at r
    have := m_explanations_34 (P := P) (w := w) h.1 h.wf hR hd.2 (fun υ t => r υ f rfl (mi_gx hM t) (fun i hi => by rw [t i (by simp <;> omega), e.fm i hi, zu_ne (by omega)]) (by rw [t m (by simp), e.2 7 (by decide) (by decide) (by decide), zu_eq])) (F.length + 1) 0 0 τ hM.row fr.refl (by omega) (by omega) (by rw [List.drop_zero, Nat.zero_add])
    exact_mod_cast this
theorem m_attestedShare (h : MI σ m f sv hs inp) (hx : zR x) (h1 : ∀ H, isHL f H → H.length ≤ 2880 → ¬ (0 ≤ x ∧ x < (H.length : Int)) → mU σ m (eqF f) sv hs inp 1 (P zd0)) (h2 : ∀ H q, isHL f H → H.length ≤ 2880 → 0 ≤ x → H[x.toNat]? = some q → mU σ m (eqF f) sv hs inp 0 (P (shareF f q))) : vX7_attestedShare m x P σ := by
  refine m_isHypothesis h hx (fun τ H F hM e e8 hR => ⟨b2i_R _, fun a s q => ?_, fun a s q => ?_⟩)
  · subst q
    rw [zu_eq]
    exact ⟨zRl rfl, fun q => absurd q (by decide), fun _ => (h1 H hR.1 hR.2.2.1 (of_decide_eq_false (b2i_0.mp a))).fm hM e.fm⟩
  · subst q
    have hi := of_decide_eq_true (b2i_1.mp a)
    have hq := hget hi.2 hi.1
    obtain ⟨n, n1, n2, ⟨a1, a2, a3, a4, a5⟩, n4, n5⟩ := hR.get hq
    have b := isH_b h.wf n4
    have eb := expl_b (st := (H[x.toNat]'(by omega)).2) h.wf n4.1
    have pos := n4.2.2.2
    have z := mz h.1
    have hl := hR.2.2.1
    have r := (h2 H _ hR.1 hR.2.2.1 hi.1 hq).fm hM e.fm
    rw [zu_eq, zu_ne (show m + 10 ≠ m by omega), zu_ne (show m + 8 ≠ m by omega), zu_ne (show m + 7 ≠ m by omega), n1]
    simp only [Int.toNat_natCast]
    rw [a2, a3]
    exact ⟨zR_0, fun _ => ⟨by omega, by rw [z.2.2.2.2.2.2.2.2.2.1]; omega, by omega, by rw [z.2.2.2.2.2.2.1]; omega, by omega, by rw [z.2.2.2.2.2.2.2.1]; omega, share_nn _ (by omega) _ (by omega) (by omega), r⟩, fun q => absurd (Int.le_refl 0) q⟩
end
