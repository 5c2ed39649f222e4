/-! PURE: the ranking is refreshed; the class reads it -/
section
variable {σ τ : Sto} {r b p c w k : Nat} {f : Nat → Int} {P Q : Sto → Prop} {L : List (Nat × List Int)} {K20 : Int → Sto → Prop} {K30 : Int → Int → Sto → Prop}
theorem x_rf43 (hr : zk r = 1) (hb : zk b = 2) (hbr : b + 21 < r) (hw : wfF f) (hp : (p : Int) < f 0) (hc : (c : Int) < f (pa p)) (h1 : ∀ τ L, repS τ b f → gR σ τ r → ents τ r f L → dn f p (c + 1) 0 L → K30 (p : Int) ((c : Int) + 1) τ) : ∀ (n w : Nat) (τ : Sto) (L : List (Nat × List Int)), (w : Int) ≤ f 1 → f 1 - w < n → repS τ b f → gR σ τ r → ents τ r f L → dn f p c w L → vX1_refresh_43 r b P K20 K30 n (p : Int) (c : Int) (w : Int) τ := by
  intro n
  induction n with
  | zero => intro w τ L a1 a2; omega
  | succ n ih =>
    intro w τ L a1 a2 hrep hg hE hd
    have w16 := hw.2.1
    have p6 := hw.1
    have c6 := (hw.2.2.2.1 p hp).1
    have hl := hd.2.2.2
    unfold vX1_refresh_43 bX1_refresh_43
    rw [hrep.1.2.1]
    refine ⟨zR_s (by omega) (by omega), zR_s (by omega) (by omega), fun z => h1 τ L hrep hg hE (hd.cell hw (by omega)), fun z => ?_⟩
    refine x_offerStems hr hb hbr hrep hw hp hc (by omega) hE (by omega) (fun υ L' gu hE' hs hl' hcv => ?_)
    have := ih (w + 1) υ L' (by omega) (by omega) (hrep.fr (fun i b1 b2 => gu.1 i (by omega))) (hg.trans gu) hE' (hd.step hs hl' hcv)
    exact_mod_cast this
theorem x_rf30 (hr : zk r = 1) (hb : zk b = 2) (hbr : b + 21 < r) (hw : wfF f) (hp : (p : Int) < f 0) (h1 : ∀ τ L, repS τ b f → gR σ τ r → ents τ r f L → dn f (p + 1) 0 0 L → K20 ((p : Int) + 1) τ) : ∀ (n c : Nat) (τ : Sto) (L : List (Nat × List Int)), (c : Int) ≤ f (pa p) → f (pa p) - c < n → repS τ b f → gR σ τ r → ents τ r f L → dn f p c 0 L → vX1_refresh_30 r b P K20 n (p : Int) (c : Int) τ := by
  intro n
  induction n with
  | zero => intro w τ L a1 a2; omega
  | succ n ih =>
    intro c τ L a1 a2 hrep hg hE hd
    have w16 := hw.2.1
    have p6 := hw.1
    have c6 := (hw.2.2.2.1 p hp).1
    have rp := ((hrep.2.1 p (by omega)).1 hp).1
    have n1 : zn (b + 1) = 6 := st_n hb 1 (by decide)
    unfold vX1_refresh_30 bX1_refresh_30
    rw [Int.toNat_natCast, rp]
    refine ⟨by omega, by omega, zR_s (by omega) (by omega), zR_s (by omega) (by omega), fun z => h1 τ L hrep hg hE (hd.par (by omega) (by omega)), fun z => ⟨17, ?_⟩⟩
    have := x_rf43 (σ := τ) (P := P) (K20 := K20) (K30 := vX1_refresh_30 r b P K20 n) hr hb hbr hw hp (c := c) (by omega) (fun υ L' hr' gu hE' hd' => by
      have := ih (c + 1) υ L' (by omega) (by omega) hr' (hg.trans gu) hE' hd'
      exact_mod_cast this) 17 0 τ L (by omega) (by omega) hrep gR.refl hE hd
    exact_mod_cast this
theorem x_rf20 (hr : zk r = 1) (hb : zk b = 2) (hbr : b + 21 < r) (hw : wfF f) (h1 : ∀ τ H, gR σ τ r → isHL f H → H.length ≤ 2880 → τ r 2 = (H.length : Int) → arr τ r f H → Q τ) : ∀ (n p : Nat) (τ : Sto) (L : List (Nat × List Int)), (p : Int) ≤ f 0 → f 0 - p < n → repS τ b f → gR σ τ r → ents τ r f L → dn f p 0 0 L → vX1_refresh_20 r b Q n (p : Int) τ := by
  intro n
  induction n with
  | zero => intro w τ L a1 a2; omega
  | succ n ih =>
    intro p τ L a1 a2 hrep hg hE hd
    have p6 := hw.1
    unfold vX1_refresh_20 bX1_refresh_20
    rw [hrep.1.1]
    refine ⟨zR_s (by omega) (by omega), zR_s (by omega) (by omega), fun z => ?_, fun z => ⟨7, ?_⟩⟩
    · have hl := hd.2.2.2
      exact x_sortdrop hr hw (by omega) hE (fun q hq => dn_all hw hd (by omega) hq) (fun υ H gu a b c d => h1 υ H (hg.trans gu) a b c d)
    · have c6 := (hw.2.2.2.1 p (by omega)).1
      have := x_rf30 (σ := τ) (P := Q) (K20 := vX1_refresh_20 r b Q n) hr hb hbr hw (p := p) (by omega) (fun υ L' hr' gu hE' hd' => by
        have := ih (p + 1) υ L' (by omega) (by omega) hr' (hg.trans gu) hE' hd'
        exact_mod_cast this) 7 0 τ L (by omega) (by omega) hrep gR.refl hE hd
      exact_mod_cast this
end
/-- the same hypotheses in the same order -/
theorem isHL_uniq {f : Nat → Int} {H H' : List (Nat × List Int)} (h : isHL f H) (h' : isHL f H') : H = H' := by
  have key : ∀ (n : Nat) (A B : List (Nat × List Int)), A.length = n → A.Pairwise (fun a b => keyF f a.1 a.2 < keyF f b.1 b.2) → B.Pairwise (fun a b => keyF f a.1 a.2 < keyF f b.1 b.2) → (∀ q, q ∈ A ↔ q ∈ B) → A = B := by
    intro n
    induction n with
    | zero =>
      intro A B hl pA pB hm
      have : A = [] := List.length_eq_zero_iff.mp hl
      subst this
      cases B with
      | nil => rfl
      | cons b B => exact absurd ((hm b).mpr (List.mem_cons_self ..)) List.not_mem_nil
    | succ n ih =>
      intro A B hl pA pB hm
      cases A with
      | nil => simp at hl
      | cons a A =>
        cases B with
        | nil => exact absurd ((hm a).mp (List.mem_cons_self ..)) List.not_mem_nil
        | cons b B =>
          obtain ⟨pA1, pA2⟩ := List.pairwise_cons.mp pA
          obtain ⟨pB1, pB2⟩ := List.pairwise_cons.mp pB
          have e : a = b := by
            rcases List.mem_cons.mp ((hm a).mp (List.mem_cons_self ..)) with h | h
            · exact h
            · rcases List.mem_cons.mp ((hm b).mpr (List.mem_cons_self ..)) with h2 | h2
              · exact h2.symm
              · have := pB1 a h
                have := pA1 b h2
                omega
          subst e
          congr 1
          refine ih A B (by simpa using hl) pA2 pB2 (fun q => ?_)
          constructor
          · intro hq
            rcases List.mem_cons.mp ((hm q).mp (List.mem_cons_of_mem _ hq)) with h | h
            · have := pA1 q hq
              rw [h] at this
              omega
            · exact h
          · intro hq
            rcases List.mem_cons.mp ((hm q).mpr (List.mem_cons_of_mem _ hq)) with h | h
            · have := pB1 q hq
              rw [h] at this
              omega
            · exact h
  have pw : ∀ H, isHL f H → H.Pairwise (fun a b => keyF f a.1 a.2 < keyF f b.1 b.2) := fun H h => List.pairwise_iff_getElem.mpr (fun i j hi hj hij => h.1 i j hi hj hij)
  exact key _ H H' rfl (pw H h) (pw H' h') (fun q => by rw [h.2 q, h'.2 q])
def RK (σ : Sto) (k : Nat) (f : Nat → Int) (H : List (Nat × List Int)) : Prop := isHL f H ∧ H.length ≤ 2880 ∧ σ (k + 269) 2 = (H.length : Int) ∧ arr σ (k + 269) f H
def rX (σ τ : Sto) (k : Nat) : Prop := ∀ i, (i < k + 269 ∨ k + 282 < i) → τ i = σ i
theorem rX.f {σ τ : Sto} {k : Nat} (h : rX σ τ k) : fX σ τ k := fun i hi => h i (by omega)
section
variable {σ τ : Sto} {k m : Nat} {f g : Nat → Int} {sv : Option (Nat → Int)} {hs : List (Nat → Int)} {inp inp' : List Int} {P : Int → Sto → Prop} {X : Nat → Sto → Prop} {Q : Sto → Prop} {x y w : Int}
theorem x_refresh (h : XI σ k f sv hs inp) (h1 : ∀ τ H, XI τ k f sv hs inp → rX σ τ k → τ (k + 269) 3 = 0 → RK τ k f H → Q τ) : vX1_refresh (k + 269) (k + 3) Q σ := by
  have hr := zf_5_ranking h.1
  have hb := zf_5_state h.1
  have h3 := h.2.2.2.2.2.1
  have p6 := h.wf.1
  refine ⟨zR_s (by omega) (by omega), fun z s1 q1 s2 q2 => ⟨7, ?_⟩, fun z => ?_⟩
  · have ne : ∀ i, i ≠ k + 269 → s2 i = σ i := fun i hi => by rw [q2, zu_ne hi, q1, zu_ne hi]
    have := x_rf20 (σ := s2) (Q := Q) hr hb (by omega) h.wf (fun υ H gu hH hl hc hA => by
      have e : ∀ i, (i < k + 269 ∨ k + 278 < i) → υ i = σ i := fun i hi => by rw [gu.1 i (by omega), ne i (by omega)]
      have s3 : υ (k + 269) 3 = 0 := by rw [gu.2 3 (by decide), q2, zu_j (by decide), q1, zu_eq]
      obtain ⟨a, b⟩ := h.2.1.1.fr (τ := υ) (e _ (by omega)) (e _ (by omega))
      refine h1 υ H ⟨h.1, ⟨a, by rw [b]; exact h.2.1.2⟩, ⟨h.st.fr (fun i g1 g2 => e i (by omega)), h.wf⟩, h.2.2.2.1.fr (e _ (by omega)) (fun i g1 g2 => e i (by omega)), h.2.2.2.2.1.fr (fun i g1 g2 => e i (by omega)), Or.inl s3, fun _ => ⟨H, hH, hl, hc, fun i hi => hA i _ (List.getElem?_eq_getElem hi)⟩⟩ (fun i hi => e i (by omega)) s3 ⟨hH, hl, hc, hA⟩) 7 0 s2 [] (by omega) (by omega) (h.st.fr (fun i g1 g2 => ne i (by omega))) gR.refl ⟨by rw [q2, zu_eq]; rfl, fun i q hq => absurd hq (by simp), fun q hq => absurd hq List.not_mem_nil⟩ ⟨fun _ _ _ a => absurd a (Nat.not_lt_zero _), fun _ _ a => absurd a (Nat.not_lt_zero _), fun _ a => absurd a (Nat.not_lt_zero _), by simp⟩
    exact_mod_cast this
  · obtain ⟨H, hH, hl, hc, hA⟩ := h.2.2.2.2.2.2 z
    exact h1 σ H h (fun _ _ => rfl) z ⟨hH, hl, hc, fun i q hq => by
      obtain ⟨hi, e⟩ := List.getElem?_eq_some_iff.mp hq
      rw [← e]
      exact hA i hi⟩
theorem xU.rx (q : xU σ k (eqF f) sv hs inp Q) (h : XI τ k f sv hs inp) (e : rX σ τ k) : Q τ := q τ (fun _ e => e ▸ h) e.f
theorem x_hypothesisCount (h : XI σ k f sv hs inp) (h1 : ∀ H, isHL f H → H.length ≤ 2880 → xU σ k (eqF f) sv hs inp (P (H.length : Int))) : vX6_hypothesisCount k P σ := by
  refine x_refresh h (fun τ H hX e _ hR => ?_)
  rw [hR.2.2.1]
  exact (h1 H hR.1 hR.2.1).rx hX e
theorem x_checkHypothesis (h : XI σ k f sv hs inp) (hx : zR x) (h1 : ∀ τ H, XI τ k f sv hs inp → rX σ τ k → RK τ k f H → ¬ (0 ≤ x ∧ x < (H.length : Int)) → X 0 τ) (h2 : ∀ τ H q, XI τ k f sv hs inp → rX σ τ k → RK τ k f H → τ (k + 269) 3 = 0 → 0 ≤ x → H[x.toNat]? = some q → Q τ) : vX6_checkHypothesis k x Q X σ := by
  refine x_refresh h (fun τ H hX e e3 hR => ?_)
  have hl := hR.2.1
  refine ⟨hx, fun z => h1 τ H hX e hR (by omega), fun z => ⟨hx, by rw [hR.2.2.1]; exact zR_s (by omega) (by omega), fun z2 => ?_, fun z2 => h1 τ H hX e hR (by rw [hR.2.2.1] at z2; omega)⟩⟩
  rw [hR.2.2.1] at z2
  exact h2 τ H H[x.toNat] hX e hR e3 (by omega) (List.getElem?_eq_getElem (by omega))
theorem RK_isH {H : List (Nat × List Int)} {i : Nat} {q : Nat × List Int} (hR : RK τ k f H) (hq : H[i]? = some q) : isH f q.1 q.2 := (hR.1.2 q).mp (List.mem_of_getElem? hq)
end
