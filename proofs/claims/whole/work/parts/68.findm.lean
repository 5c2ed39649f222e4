/-! PURE: the reference finds forms, compares hypotheses -/
def qM (σ τ : Sto) (m : Nat) : Prop := (∀ i, i ≠ m → i ≠ m + 5 → i ≠ m + 12 → τ i = σ i) ∧ ∀ j, j ≠ 17 → τ m j = σ m j
theorem qM.trans {σ τ υ : Sto} {m : Nat} (h : qM σ τ m) (h2 : qM τ υ m) : qM σ υ m := ⟨fun i a b c => (h2.1 i a b c).trans (h.1 i a b c), fun j a => (h2.2 j a).trans (h.2 j a)⟩
theorem qM.refl {σ : Sto} {m : Nat} : qM σ σ m := ⟨fun _ _ _ _ => rfl, fun _ _ => rfl⟩
def frsM (σ : Sto) (m : Nat) (L : List (List Int)) : Prop := σ m 17 = (L.length : Int) ∧ ∀ j v, L[j]? = some v → fok σ (m + 12) (17 * j) 15 ∧ fl (σ (m + 12)) (17 * j) = v
section
variable {σ τ : Sto} {m p c : Nat} {f : Nat → Int} {P Q : Sto → Prop} {PI : Int → Sto → Prop} {st v : List Int} {L : List (List Int)} {K8 : Int → Int → Int → Sto → Prop}
theorem m_findForms_36 (hm : zk m = 6) (hv : fok σ (m + 5) 0 15) (ev : fl (σ (m + 5)) 0 = v) (hL : frsM σ m L) (h5 : L.length ≤ 5) (h1 : v ∈ L → K8 (p : Int) 0 ((c : Int) + 1) σ) (h2 : ¬ v ∈ L → ∀ τ, qM σ τ m → frsM τ m (L ++ [v]) → K8 (p : Int) 0 ((c : Int) + 1) τ) : ∀ (n j : Nat), j ≤ L.length → L.length - j < n → vX7_findForms_36 m (m + 11) P K8 n (p : Int) 0 (c : Int) (b2i (decide (v ∈ L.take j))) (j : Int) σ := by
  intro n
  induction n with
  | zero => intro j a b; omega
  | succ n ih =>
    intro j hj hn
    have z := mz hm
    unfold vX7_findForms_36 bX7_findForms_36
    rw [hL.1]
    refine ⟨zR_s (by omega) (by omega), zR_s (by omega) (by omega), fun q => ⟨b2i_R _, fun a => ?_, fun a => ?_⟩, fun q => ⟨b2i_R _, fun a => ?_, fun a => ?_⟩⟩
    · rw [List.take_of_length_le (by omega)] at a
      exact h1 (of_decide_eq_true (b2i_1.mp a))
    · rw [List.take_of_length_le (by omega)] at a
      have hn := of_decide_eq_false (b2i_0.mp a)
      rw [show (17 : Int) * (L.length : Int) = ((17 * L.length : Nat) : Int) by omega]
      have := s7_copy (q := 0) (q' := 17 * L.length) (P := fun s4 => ∀ s5 : Sto, s5 = zu s4 m 17 ((s4 m 17) + 1) → (vX7_findForms_117 m (m + 11) P K8 (p : Int) 0 (c : Int) s5)) hv (zf_6_forms hm) (by rw [z.2.2.2.2.2.2.2.2.2.2.2.1]; omega) (Or.inl (by omega)) (by
        have sq := zc_setq (k' := m + 12) (q' := 17 * L.length) (N := 16) hv (by omega) (Or.inl (by omega))
        generalize zc σ (m + 5) 0 (m + 12) (17 * L.length) ((σ (m + 5) 0).toNat + 1) = s4 at sq
        rw [ev] at sq
        intro s5 q5
        have lv : v.length ≤ 15 := by have := fl_len hv; rw [ev] at this; have := hv.2.2.1; omega
        have e12 : s5 (m + 12) = s4 (m + 12) := by rw [q5, zu_ne (by omega)]
        refine h2 hn s5 ⟨fun i a b c => by rw [q5, zu_ne a, sq.keep c], fun i a => by rw [q5, zu_j a, sq.keep (by omega)]⟩ ⟨?_, fun i w hw => ?_⟩
        · rw [q5, zu_eq, sq.keep (by omega), hL.1, List.length_append]; rfl
        · rw [e12]
          by_cases e : i = L.length
          · subst e
            rw [List.getElem?_append_right (Nat.le_refl _)] at hw
            simp at hw
            subst hw
            have o := sq.ok (n := 15) (zf_6_forms hm) lv (by decide) (by rw [z.2.2.2.2.2.2.2.2.2.2.2.1]; omega) (by rw [← ev]; exact hv.2.2.2.2.2)
            have o2 := o.fr (τ := s5) e12
            exact ⟨o2.1, sq.2.2.1⟩
          · have hi : i < L.length := by
              have := (List.getElem?_eq_some_iff.mp hw).1
              rw [List.length_append] at this
              simp at this
              omega
            rw [List.getElem?_append_left hi] at hw
            obtain ⟨o1, o2⟩ := hL.2 i w hw
            have lw : (σ (m + 12) (17 * i)).toNat ≤ 15 := by have := o1.2.2.1; omega
            have ea : ∀ t, 17 * i ≤ t → t ≤ 17 * i + 15 → σ (m + 12) t = s4 (m + 12) t := fun t a b => (sq.2.2.2 t (by omega)).symm
            have ef : fl (s4 (m + 12)) (17 * i) = fl (σ (m + 12)) (17 * i) := fl_on ea lw
            have e0 := ea (17 * i) (by omega) (by omega)
            exact ⟨⟨o1.1, by rw [e12, ← e0]; exact o1.2.1, by rw [e12, ← e0]; exact o1.2.2.1, o1.2.2.2.1, o1.2.2.2.2.1, by rw [e12, ef]; exact o1.2.2.2.2.2⟩, by rw [ef]; exact o2⟩)
      exact_mod_cast this
    · have hj2 : j < L.length := by omega
      have hm1 : v ∈ L.take (j + 1) := by
        rw [← List.take_append_getElem hj2]
        exact List.mem_append_left _ (of_decide_eq_true (b2i_1.mp a))
      have := ih (j + 1) (by omega) (by omega)
      rw [decide_eq_true hm1] at this
      exact_mod_cast this
    · have hj2 : j < L.length := by omega
      have hn0 := of_decide_eq_false (b2i_0.mp a)
      obtain ⟨o1, o2⟩ := hL.2 j _ (List.getElem?_eq_getElem hj2)
      have iff : v ∈ L.take (j + 1) ↔ v = L[j] := by
        rw [← List.take_append_getElem hj2, List.mem_append, List.mem_singleton]
        exact ⟨fun h => h.elim (fun y => absurd y hn0) id, Or.inr⟩
      have go : ∀ d : Bool, d = decide (v = L[j]) → vX7_findForms_75 m (m + 11) P K8 (vX7_findForms_36 m (m + 11) P K8 n) (p : Int) 0 (c : Int) (j : Int) (b2i d) σ := fun d ed => by
        have := ih (j + 1) (by omega) (by omega)
        rw [show decide (v ∈ L.take (j + 1)) = d by rw [ed]; exact decide_eq_decide.mpr iff] at this
        exact_mod_cast this
      rw [show (17 : Int) * (j : Int) = ((17 * j : Nat) : Int) by omega]
      have := s7_areSame (q := 0) hv o1 (P := fun r6 s6 => zR r6 ∧ ((r6 = 0) → vX7_findForms_75 m (m + 11) P K8 (vX7_findForms_36 m (m + 11) P K8 n) (p : Int) 0 (c : Int) (j : Int) 0 s6) ∧ ((¬ (r6 = 0)) → vX7_findForms_70 m (m + 11) P K8 (vX7_findForms_36 m (m + 11) P K8 n) (p : Int) 0 (c : Int) (j : Int) s6)) (by
        rw [ev, o2]
        refine ⟨b2i_R _, fun b => ?_, fun b => ?_⟩
        · have := go (decide (v = L[j])) rfl
          rw [b2i_0.mp b] at this
          exact this
        · have := go (decide (v = L[j])) rfl
          rw [b2i_1.mp b] at this
          exact this)
      exact_mod_cast this
theorem m_findForms_8 (hm : zk m = 6) (hw : wfF f) (hp : (p : Int) < f 0) (hst : fok σ (m + 11) 0 10) (est : fl (σ (m + 11)) 0 = st) (hl1 : 1 ≤ st.length) (h1 : ∀ τ, qM σ τ m → frsM τ m (frms f p st) → P τ) : ∀ (n c : Nat) (τ : Sto), τ (m + 1) = f → qM σ τ m → (c : Int) ≤ f (pa p) → f (pa p) - c < n → frsM τ m (frm1 f p st c) → vX7_findForms_8 m (m + 11) P n (p : Int) 0 (c : Int) τ := by
  intro n
  induction n with
  | zero => intro c τ e g a b; omega
  | succ n ih =>
    intro c τ e g hc hn hF
    have p6 := hw.1
    have c6 := (hw.2.2.2.1 p hp).1
    have fl1 := frm1_len (f := f) (p := p) (st := st) c
    unfold vX7_findForms_8 bX7_findForms_8
    refine m_cellMany hm e (by omega) ⟨zR_s (by omega) (by omega), zR_s (by omega) (by omega), fun q => ?_, fun q => ?_⟩
    · have ec : frm1 f p st c = frms f p st := by unfold frms; rw [show c = (f (pa p)).toNat by omega]
      rw [ec] at hF
      exact h1 τ g hF
    · have e11 : τ (m + 11) = σ (m + 11) := g.1 _ (by omega) (by omega) (by omega)
      obtain ⟨okτ, eτ⟩ := hst.fr (τ := τ) e11
      rw [est] at eτ
      have ll := fl_len okτ
      rw [eτ] at ll
      have next : ∀ υ, υ (m + 1) = f → qM τ υ m → frsM υ m (frm1 f p st (c + 1)) → vX7_findForms_8 m (m + 11) P n (p : Int) 0 ((c : Int) + 1) υ := fun υ e' g' hF' => by
        have := ih (c + 1) υ e' (g.trans g') (by omega) (by omega) hF'
        exact_mod_cast this
      have frk : ∀ υ, fr [m + 5] τ υ → qM τ υ m := fun υ h => ⟨fun i a b c => h i (by simp [b]), fun j _ => by rw [h m (by simp)]⟩
      have frF : ∀ υ, fr [m + 5] τ υ → frsM υ m (frm1 f p st c) := fun υ h => by
        have e12 : υ (m + 12) = τ (m + 12) := h _ (by simp)
        refine ⟨by rw [h m (by simp)]; exact hF.1, fun j w hw' => ?_⟩
        obtain ⟨o1, o2⟩ := hF.2 j w hw'
        have := o1.fr (τ := υ) e12
        exact ⟨this.1, by rw [this.2]; exact o2⟩
      have := sm_builds (k := m) (p := p) (c := c) (k3 := m + 11) (q := 0) (σ := τ) (P := fun r3 s3 => zR r3 ∧ ((r3 = 0) → vX7_findForms_117 m (m + 11) P (vX7_findForms_8 m (m + 11) P n) (p : Int) 0 (c : Int) s3) ∧ ((¬ (r3 = 0)) → ∃ n', vX7_findForms_36 m (m + 11) P (vX7_findForms_8 m (m + 11) P n) n' (p : Int) 0 (c : Int) 0 0 s3)) hm (by rw [e]; exact hw) (by rw [e]; exact hp) (by rw [e]; omega) okτ (by omega) (by omega) (by
        rw [e, eτ]
        intro hb υ hυ
        refine ⟨zR_0, fun _ => next υ (by rw [hυ _ (by simp)]; exact e) (frk υ hυ) ?_, fun a => absurd rfl a⟩
        rw [frm1_succ, hb]
        exact frF υ hυ) (by
        rw [e, eτ]
        intro v υ hb hυ hok
        have hF' := frF υ hυ.1
        have er : υ (m + 1) = f := by rw [hυ.1 _ (by simp)]; exact e
        refine ⟨zRl rfl, fun a => absurd a (by decide), fun _ => ⟨(frm1 f p st c).length + 1, ?_⟩⟩
        have := m_findForms_36 (P := P) (p := p) (c := c) (K8 := vX7_findForms_8 m (m + 11) P n) hm hok hυ.2.2.1 hF' (by omega) (fun hmem => next υ er (frk υ hυ.1) (by rw [frm1_succ, hb]; dsimp only; rw [if_pos hmem]; exact hF')) (fun hmem ω gω hω => next ω (by rw [gω.1 _ (by omega) (by omega) (by omega)]; exact er) ((frk υ hυ.1).trans gω) (by rw [frm1_succ, hb]; dsimp only; rw [if_neg hmem]; exact hω)) ((frm1 f p st c).length + 1) 0 (by omega) (by omega)
        rw [List.take_zero, show decide (v ∈ ([] : List (List Int))) = false by simp] at this
        exact_mod_cast this)
      exact_mod_cast this
theorem m_findForms (hm : zk m = 6) (e : σ (m + 1) = f) (hw : wfF f) (hp : (p : Int) < f 0) (hst : fok σ (m + 11) 0 10) (est : fl (σ (m + 11)) 0 = st) (hl1 : 1 ≤ st.length) (h1 : ∀ τ, qM σ τ m → frsM τ m (frms f p st) → P τ) : vX7_findForms m (p : Int) (m + 11) 0 P σ := by
  intro s1 q1
  have c6 := (hw.2.2.2.1 p hp).1
  refine ⟨7, ?_⟩
  have := m_findForms_8 (σ := σ) (P := P) hm hw hp hst est hl1 h1 7 0 s1 (by rw [q1, zu_ne (by omega)]; exact e) ⟨fun i a b c => by rw [q1, zu_ne a], fun j a => by rw [q1, zu_j a]⟩ (by omega) (by omega) ⟨by rw [q1, zu_eq]; rfl, fun j v hv => absurd hv (by simp [frm1])⟩
  exact_mod_cast this
/-! order of words -/
theorem lnum_cons (x : Int) (t : List Int) : lnum (x :: t) = (x - 97).toNat * 32 ^ t.length + lnum t := by
  have := lnum_app t.length [x] t rfl
  rw [List.singleton_append] at this
  rw [this]
  congr 1
  congr 1
  show lnum [x] = _
  unfold lnum
  simp
theorem lnum_lex {a t t' : List Int} {x y : Int} (ht : ab t) (hx : 97 ≤ x) (hxy : x < y) (hl : t.length = t'.length) : lnum (a ++ x :: t) < lnum (a ++ y :: t') := by
  rw [lnum_app (t.length + 1) a (x :: t) rfl, lnum_app (t.length + 1) a (y :: t') (by simp [hl]), lnum_cons, lnum_cons, ← hl]
  have b := lnum_lt t.length t rfl ht
  have h1 : (x - 97).toNat + 1 ≤ (y - 97).toNat := by omega
  have h2 := Nat.mul_le_mul_right (32 ^ t.length) h1
  rw [Nat.add_mul, Nat.one_mul] at h2
  omega
theorem lnum_at {l l' : List Int} {i : Nat} (ha : ab l) (ha' : ab l') (hl : l.length = l'.length) (hi : i < l.length) (hp : ∀ j, j < i → l[j]? = l'[j]?) (h : l.getD i 0 < l'.getD i 0) : lnum l < lnum l' := by
  have hi' : i < l'.length := by omega
  have e1 : l = l.take i ++ l[i] :: l.drop (i + 1) := by
    rw [← List.drop_eq_getElem_cons hi, List.take_append_drop]
  have e2 : l' = l.take i ++ l'[i] :: l'.drop (i + 1) := by
    have : l.take i = l'.take i := by
      apply List.ext_getElem?
      intro j
      rw [List.getElem?_take, List.getElem?_take]
      split
      · next q => exact hp j q
      · rfl
    rw [this, ← List.drop_eq_getElem_cons hi', List.take_append_drop]
  rw [List.getD_eq_getElem?_getD, List.getElem?_eq_getElem hi, List.getD_eq_getElem?_getD, List.getElem?_eq_getElem hi'] at h
  have h : l[i] < l'[i] := h
  have hx := ha l[i] (List.getElem_mem hi)
  rw [e1, e2]
  simp only [← e1, ← e2]
  have := lnum_lex (a := l.take i) (t := l.drop (i + 1)) (t' := l'.drop (i + 1)) (x := l[i]) (y := l'[i]) (ab_drop ha _) hx.1 h (by rw [List.length_drop, List.length_drop, hl])
  rw [← e1, ← e2] at this
  exact this
end
