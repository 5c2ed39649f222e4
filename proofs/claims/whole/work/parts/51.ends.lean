/-! PURE: endings of words -/
/-- a loop upwards: n rounds, from j on -/
def lp (g : Nat → Int → Int) : Nat → Nat → Int → Int
  | 0, _, a => a
  | n + 1, j, a => lp g n (j + 1) (g j a)
theorem lp_b {g : Nat → Int → Int} {lo hi : Int} (h : ∀ j a, lo ≤ a → a ≤ hi → lo ≤ g j a ∧ g j a ≤ hi) : ∀ (n j : Nat) (a : Int), lo ≤ a → a ≤ hi → lo ≤ lp g n j a ∧ lp g n j a ≤ hi := by
  intro n
  induction n with
  | zero => intro j a h1 h2; exact ⟨h1, h2⟩
  | succ n ih => intro j a h1 h2; exact ih _ _ (h j a h1 h2).1 (h j a h1 h2).2
/-- each round adds d at most -/
theorem lp_add {g : Nat → Int → Int} {d : Int} (h : ∀ j a, a ≤ g j a ∧ g j a ≤ a + d) : ∀ (n j : Nat) (a : Int), a ≤ lp g n j a ∧ lp g n j a ≤ a + d * n := by
  intro n
  induction n with
  | zero => intro j a; exact ⟨Int.le_refl _, by simp [lp]⟩
  | succ n ih =>
    intro j a
    have h1 := ih (j + 1) (g j a)
    have h2 := h j a
    show a ≤ lp g n (j + 1) (g j a) ∧ lp g n (j + 1) (g j a) ≤ _
    rw [Int.natCast_add, Int.mul_add]
    constructor
    · omega
    · simp only [Int.natCast_one, Int.mul_one]
      omega
theorem lp_congr {g g' : Nat → Int → Int} : ∀ (n j : Nat) (a : Int), (∀ i, j ≤ i → i < j + n → ∀ b, g i b = g' i b) → lp g n j a = lp g' n j a := by
  intro n
  induction n with
  | zero => intro j a _; rfl
  | succ n ih =>
    intro j a h
    show lp g n (j + 1) (g j a) = lp g' n (j + 1) (g' j a)
    rw [h j (by omega) (by omega), ih _ _ (fun i h1 h2 => h i (by omega) (by omega))]
def endF (f : Nat → Int) (w p c : Nat) : Bool := decide (fl f (ca p c + 7) <:+ fl f (wa w))
def lgC (f : Nat → Int) (w p : Nat) (c : Nat) (a : Int) : Int := if endF f w p c then (if a < f (ca p c + 7) then f (ca p c + 7) else a) else a
def lgP (f : Nat → Int) (w : Nat) (p : Nat) (a : Int) : Int := lp (lgC f w p) (f (pa p)).toNat 0 a
def longF (f : Nat → Int) (w : Nat) : Int := lp (lgP f w) (f 0).toNat 0 (-1)
def ctC (f : Nat → Int) (w p : Nat) (c : Nat) (a : Int) : Int := if endF f w p c then a + 1 else a
def ctP (f : Nat → Int) (w : Nat) (p : Nat) (a : Int) : Int := lp (ctC f w p) (f (pa p)).toNat 0 a
def cntF (f : Nat → Int) (w : Nat) : Int := lp (ctP f w) (f 0).toNat 0 0
theorem lgC_b {f : Nat → Int} {w p c : Nat} {a : Int} (hw : wfP f p) (hc : (c : Int) < f (pa p)) (h1 : -1 ≤ a) (h2 : a ≤ 4) : -1 ≤ lgC f w p c a ∧ lgC f w p c a ≤ 4 := by
  have q := (hw.2.2.2.2 c hc).2.2.2.1
  have q1 := q.1
  have q2 := q.2.1
  unfold lgC
  split
  · split <;> omega
  · omega
theorem ctC_b {f : Nat → Int} {w p c : Nat} {a : Int} : a ≤ ctC f w p c a ∧ ctC f w p c a ≤ a + 1 := by
  unfold ctC
  split <;> omega
section
variable {σ : Sto} {k m : Nat} {f : Nat → Int} {sv : Option (Nat → Int)} {hs : List (Nat → Int)} {inp : List Int} {P : Int → Sto → Prop} {X : Nat → Sto → Prop} {Q : Sto → Prop} {x y : Int}
theorem x_isEnd {w p c : Nat} (h : XI σ k f sv hs inp) (hf : wok σ (k + 281) 14) (hl : wl σ (k + 281) = fl f (wa w)) (hp : (p : Int) < f 0) (hc : (c : Int) < f (pa p)) (h1 : P (b2i (endF f w p c)) σ) : vX5_isEndOf (k + 3 + 12) ((p : Int) * 6 + (c : Int)) (k + 281) P σ := by
  obtain ⟨rc, wc, p6, c6, -, t12⟩ := rep_cell (zf_5_state h.1) h.st h.wf hp hc
  have e : (p : Int) * 6 + (c : Int) = ((6 * p + c : Nat) : Int) := by omega
  rw [e]
  refine s_isEndOf t12 hf ?_
  rw [hl, rc.2.2.2.2]
  exact h1
theorem x_longestEnding_45 {w p : Nat} {K31 : Int → Int → Sto → Prop} (h : XI σ k f sv hs inp) (hf : wok σ (k + 281) 14) (hl : wl σ (k + 281) = fl f (wa w)) (hp : (p : Int) < f 0) : ∀ (n c : Nat) (a : Int), (c : Int) ≤ f (pa p) → f (pa p) - c < n → -1 ≤ a → a ≤ 4 → (∀ b, -1 ≤ b → b ≤ 4 → b = lp (lgC f w p) ((f (pa p)).toNat - c) c a → K31 b ((p : Int) + 1) σ) → vX6_longestEnding_45 k P X K31 n a (p : Int) (c : Int) σ := by
  intro n
  induction n with
  | zero => intro c a h1 h2; omega
  | succ n ih =>
    intro c a h1 h2 h3 h4 h5
    obtain ⟨p6, rp, wp⟩ := h.par hp
    have w1 := wp.1
    have N := xn h.1
    unfold vX6_longestEnding_45 bX6_longestEnding_45
    rw [Int.toNat_natCast, rp.1]
    refine ⟨by omega, by omega, zR_s (by omega) (by omega), zR_s (by omega) (by omega), fun z => h5 a h3 h4 (by rw [show (f (pa p)).toNat - c = 0 by omega]; rfl), fun z => ?_⟩
    have hc : (c : Int) < f (pa p) := by omega
    have hb := lgC_b (w := w) wp hc h3 h4
    obtain ⟨rc, wc, -, c6, -, -⟩ := rep_cell (zf_5_state h.1) h.st h.wf hp hc
    have e : ((p : Int) * 6 + (c : Int)).toNat = 6 * p + c := by omega
    have next : ∀ b, b = lgC f w p c a → vX6_longestEnding_104 k P X K31 (vX6_longestEnding_45 k P X K31 n) b (p : Int) (c : Int) σ := fun b eb => by
      subst eb
      have := ih (c + 1) (lgC f w p c a) (by omega) (by omega) hb.1 hb.2 (fun b b1 b2 b3 => h5 b b1 b2 (by rw [b3, show (f (pa p)).toNat - c = ((f (pa p)).toNat - (c + 1)) + 1 by omega]; rfl))
      exact_mod_cast this
    refine x_isEnd h hf hl hp hc ⟨b2i_R _, fun z2 => next a (by unfold lgC; rw [b2i_0.mp z2]; rfl), fun z2 => ?_⟩
    rw [e, rc.2.2.2.1]
    have d := wc.2.2.2.1
    have d1 := d.1
    have d2 := d.2.1
    exact ⟨by omega, by omega, zR_s (by omega) (by omega), zR_s (by omega) (by omega), next _ (by unfold lgC; rw [b2i_1.mp z2]; rfl)⟩
theorem x_longestEnding_31 {w : Nat} (h : XI σ k f sv hs inp) (hf : wok σ (k + 281) 14) (hl : wl σ (k + 281) = fl f (wa w)) : ∀ (n p : Nat) (a : Int), (p : Int) ≤ f 0 → f 0 - p < n → -1 ≤ a → a ≤ 4 → (∀ b, -1 ≤ b → b ≤ 4 → b = lp (lgP f w) ((f 0).toNat - p) p a → (0 ≤ b → P b σ) ∧ (¬ 0 ≤ b → X 3 σ)) → vX6_longestEnding_31 k P X n a (p : Int) σ := by
  intro n
  induction n with
  | zero => intro c a h1 h2; omega
  | succ n ih =>
    intro p a h1 h2 h3 h4 h5
    have w1 := h.wf.1
    unfold vX6_longestEnding_31 bX6_longestEnding_31
    rw [h.st.1.1]
    refine ⟨zR_s (by omega) (by omega), zR_s (by omega) (by omega), fun z => ?_, fun z => ⟨7, ?_⟩⟩
    · have := h5 a h3 h4 (by rw [show (f 0).toNat - p = 0 by omega]; rfl)
      exact ⟨zR_s (by omega) (by omega), this.1, this.2⟩
    · obtain ⟨p6, rp, wp⟩ := h.par (p := p) (by omega)
      have c6 := wp.1
      have := x_longestEnding_45 (P := P) (X := X) (K31 := vX6_longestEnding_31 k P X n) h hf hl (p := p) (by omega) 7 0 a (by omega) (by omega) h3 h4 (fun b b1 b2 b3 => by
        have := ih (p + 1) b (by omega) (by omega) b1 b2 (fun d d1 d2 d3 => h5 d d1 d2 (by
          rw [d3, b3, show (f 0).toNat - p = ((f 0).toNat - (p + 1)) + 1 by omega]
          rfl))
        exact_mod_cast this)
      exact_mod_cast this
/-- the word stands in the form -/
theorem x_wordForm {w : Nat} (h : XI σ k f sv hs inp) (hw : (w : Int) < f 1) (h1 : ∀ τ, XI τ k f sv hs inp → fX σ τ k → wok τ (k + 281) 14 → wl τ (k + 281) = fl f (wa w) → Q τ) : vX4_clear (k + 281) (fun s2 => vX5_addTo (k + 3 + 15) (w : Int) (k + 281) Q s2) σ := by
  refine s_clear (fun τ hτ => ?_)
  have hX : XI τ k f sv hs inp := h.fr (fun i g1 g2 => hτ.1 i (by simp; omega))
  obtain ⟨tk, te⟩ := rep_word (zf_5_state hX.1) hX.st hX.wf hw
  have ww := h.wf.2.2.2.2.1 w hw
  have l2 := ww.2.1
  have tw1 := (hX.st.2.2.1 w hw).1
  have hk := zf_5_form h.1
  have hok : wok τ (k + 281) 14 := hτ.ok hk (by simp) (by decide) ab_nil
  refine s_addTo tk hok (by rw [hτ.2.2, tw1]; simp; omega) ⟨by omega, by omega⟩ (fun υ hυ => ?_)
  rw [hτ.2.1, List.nil_append, te] at hυ
  have hl : ((fl f (wa w)).length : Int) = f (wa w) := by unfold fl; rw [seg_len]; have := ww.1; omega
  exact h1 υ (hX.fr (fun i g1 g2 => hυ.1 i (by simp; omega))) (fun i hi => by rw [hυ.1 i (by simp; omega), hτ.1 i (by simp; omega)]) (hυ.ok hk (by omega) (by decide) ww.2.2) hυ.2.1
theorem x_longestEnding (h : XI σ k f sv hs inp) (hx : zR x) (h1 : ¬ isW f x → xU σ k (eqF f) sv hs inp (X 0)) (h2 : isW f x → longF f x.toNat < 0 → xU σ k (eqF f) sv hs inp (X 3)) (h3 : isW f x → 0 ≤ longF f x.toNat → xU σ k (eqF f) sv hs inp (P (longF f x.toNat))) : vX6_longestEnding k x P X σ := by
  refine x_checkWord h hx (fun w => xU.same h (h1 w)) (fun w => ?_)
  obtain ⟨p, rfl⟩ : ∃ c : Nat, x = (c : Int) := ⟨x.toNat, by omega⟩
  rw [Int.toNat_natCast] at *
  refine x_wordForm h w.2 (fun τ hX hF hok hl => ⟨7, ?_⟩)
  have w0 := h.wf.1
  have := x_longestEnding_31 (P := P) (X := X) hX hok hl 7 0 (-1) (by omega) (by omega) (by decide) (by decide) (fun b b1 b2 b3 => by
    rw [Nat.sub_zero] at b3
    have eb : b = longF f p := b3
    subst eb
    exact ⟨fun z => h3 w z τ (fun g e => e ▸ hX) hF, fun z => h2 w (by omega) τ (fun g e => e ▸ hX) hF⟩)
  exact_mod_cast this
theorem x_endings_45 {w p : Nat} {K31 : Int → Int → Sto → Prop} (h : XI σ k f sv hs inp) (hf : wok σ (k + 281) 14) (hl : wl σ (k + 281) = fl f (wa w)) (hp : (p : Int) < f 0) : ∀ (n c : Nat) (a : Int), (c : Int) ≤ f (pa p) → f (pa p) - c < n → (K31 (lp (ctC f w p) ((f (pa p)).toNat - c) c a) ((p : Int) + 1) σ) → vX6_endings_45 k P X K31 n a (p : Int) (c : Int) σ := by
  intro n
  induction n with
  | zero => intro c a h1 h2; omega
  | succ n ih =>
    intro c a h1 h2 h5
    obtain ⟨p6, rp, wp⟩ := h.par hp
    have w1 := wp.1
    have N := xn h.1
    unfold vX6_endings_45 bX6_endings_45
    rw [Int.toNat_natCast, rp.1]
    refine ⟨by omega, by omega, zR_s (by omega) (by omega), zR_s (by omega) (by omega), fun z => by rw [show (f (pa p)).toNat - c = 0 by omega] at h5; exact h5, fun z => ?_⟩
    have hc : (c : Int) < f (pa p) := by omega
    have next : ∀ b, b = ctC f w p c a → vX6_endings_85 k P X K31 (vX6_endings_45 k P X K31 n) b (p : Int) (c : Int) σ := fun b eb => by
      subst eb
      have := ih (c + 1) (ctC f w p c a) (by omega) (by omega) (by rw [show (f (pa p)).toNat - c = ((f (pa p)).toNat - (c + 1)) + 1 by omega] at h5; exact h5)
      exact_mod_cast this
    exact x_isEnd h hf hl hp hc ⟨b2i_R _, fun z2 => next a (by unfold ctC; rw [b2i_0.mp z2]; rfl), fun z2 => next _ (by unfold ctC; rw [b2i_1.mp z2]; rfl)⟩
theorem x_endings_31 {w : Nat} (h : XI σ k f sv hs inp) (hf : wok σ (k + 281) 14) (hl : wl σ (k + 281) = fl f (wa w)) : ∀ (n p : Nat) (a : Int), (p : Int) ≤ f 0 → f 0 - p < n → P (lp (ctP f w) ((f 0).toNat - p) p a) σ → vX6_endings_31 k P X n a (p : Int) σ := by
  intro n
  induction n with
  | zero => intro c a h1 h2; omega
  | succ n ih =>
    intro p a h1 h2 h5
    have w1 := h.wf.1
    unfold vX6_endings_31 bX6_endings_31
    rw [h.st.1.1]
    refine ⟨zR_s (by omega) (by omega), zR_s (by omega) (by omega), fun z => by rw [show (f 0).toNat - p = 0 by omega] at h5; exact h5, fun z => ⟨7, ?_⟩⟩
    obtain ⟨p6, rp, wp⟩ := h.par (p := p) (by omega)
    have c6 := wp.1
    have := x_endings_45 (P := P) (X := X) (K31 := vX6_endings_31 k P X n) h hf hl (p := p) (by omega) 7 0 a (by omega) (by omega) (by
      have := ih (p + 1) (lp (ctC f w p) ((f (pa p)).toNat - 0) 0 a) (by omega) (by omega) (by rw [show (f 0).toNat - p = ((f 0).toNat - (p + 1)) + 1 by omega] at h5; exact h5)
      exact_mod_cast this)
    exact_mod_cast this
theorem x_endings (h : XI σ k f sv hs inp) (hx : zR x) (h1 : ¬ isW f x → xU σ k (eqF f) sv hs inp (X 0)) (h2 : isW f x → xU σ k (eqF f) sv hs inp (P (cntF f x.toNat))) : vX6_endings k x P X σ := by
  refine x_checkWord h hx (fun w => xU.same h (h1 w)) (fun w => ?_)
  obtain ⟨p, rfl⟩ : ∃ c : Nat, x = (c : Int) := ⟨x.toNat, by omega⟩
  rw [Int.toNat_natCast] at *
  refine x_wordForm h w.2 (fun τ hX hF hok hl => ⟨7, ?_⟩)
  have w0 := h.wf.1
  have := x_endings_31 (P := P) (X := X) hX hok hl 7 0 0 (by omega) (by omega) (h2 w τ (fun g e => e ▸ hX) hF)
  exact_mod_cast this
/-! the reference -/
theorem m_endingOf_22 {w p : Nat} {cn : Int} {K8 : Int → Int → Int → Int → Int → Sto → Prop} (h : MI σ m f sv hs inp) (hw : (w : Int) < f 1) (hp : (p : Int) < f 0) : ∀ (n c : Nat) (a b : Int), (c : Int) ≤ f (pa p) → f (pa p) - c < n → -1 ≤ a → a ≤ 4 → (∀ d, -1 ≤ d → d ≤ 4 → d = lp (lgC f w p) ((f (pa p)).toNat - c) c a → K8 (w : Int) cn d (lp (ctC f w p) ((f (pa p)).toNat - c) c b) ((p : Int) + 1) σ) → vX7_endingOf_22 m P K8 n (w : Int) cn a b (p : Int) (c : Int) σ := by
  intro n
  induction n with
  | zero => intro c a b h1 h2; omega
  | succ n ih =>
    intro c a b h1 h2 h3 h4 h5
    have hwf := h.wf
    have wp := hwf.2.2.2.1 p hp
    have w1 := wp.1
    have p6 := hwf.1
    have w16 := hwf.2.1
    have z := mz h.1
    unfold vX7_endingOf_22 bX7_endingOf_22
    refine m_cellMany (p := p) h.1 h.row (by omega) ⟨zR_s (by omega) (by omega), zR_s (by omega) (by omega), fun e => ?_, fun e => ?_⟩
    · have := h5 a h3 h4 (by rw [show (f (pa p)).toNat - c = 0 by omega]; rfl)
      rw [show (f (pa p)).toNat - c = 0 by omega] at this
      exact this
    · have hc : (c : Int) < f (pa p) := by omega
      have hb := lgC_b (w := w) wp hc h3 h4
      have wc := wp.2.2.2.2 c hc
      have d := wc.2.2.2.1
      have d1 := d.1
      have d2 := d.2.1
      unfold vX7_cellAt vX7_paradigmAt vX7_wordAt
      try dsimp only
      rw [show ((3 : Int) + 80 * (p : Int) + 8 + 12 * (c : Int)) = ((ca p c : Nat) : Int) by unfold ca; omega, show ((483 : Int) + 15 * (w : Int)) = ((wa w : Nat) : Int) by unfold wa; omega]
      have hca : ca p c < 500 := by unfold ca; omega
      have hwa : wa w < 720 := by unfold wa; omega
      have next : ∀ a' b', a' = lgC f w p c a → b' = ctC f w p c b → vX7_endingOf_80 m P K8 (vX7_endingOf_22 m P K8 n) (w : Int) cn a' b' (p : Int) (c : Int) σ := fun a' b' ea eb => by
        subst ea
        subst eb
        have := ih (c + 1) (lgC f w p c a) (ctC f w p c b) (by omega) (by omega) hb.1 hb.2 (fun d b1 b2 b3 => by
          have := h5 d b1 b2 (by rw [b3, show (f (pa p)).toNat - c = ((f (pa p)).toNat - (c + 1)) + 1 by omega]; rfl)
          rw [show (f (pa p)).toNat - c = ((f (pa p)).toNat - (c + 1)) + 1 by omega] at this
          exact this)
        exact_mod_cast this
      have e1 : fok σ (m + 1) (wa w) 14 := fok_of h.1 (by rw [h.row]; exact hwf.2.2.2.2.1 w hw) (by decide) (by decide) (by omega)
      have e2 : fok σ (m + 1) (ca p c + 7) 4 := fok_of h.1 (by rw [h.row]; exact d) (by decide) (by decide) (by omega)
      have := s7_endsIn e1 e2 (P := fun r4 s4 => zR r4 ∧ ((r4 = 0) → vX7_endingOf_80 m P K8 (vX7_endingOf_22 m P K8 n) (w : Int) cn a b (p : Int) (c : Int) s4) ∧ ((¬ (r4 = 0)) → 0 ≤ (((ca p c : Nat) : Int) + 7) ∧ (((ca p c : Nat) : Int) + 7) < (zn (m + 1) : Int) ∧ (zR a ∧ zR (s4 (m + 1) (Int.toNat (((ca p c : Nat) : Int) + 7))) ∧ (vX7_endingOf_80 m P K8 (vX7_endingOf_22 m P K8 n) (w : Int) cn (if a < (s4 (m + 1) (Int.toNat (((ca p c : Nat) : Int) + 7))) then (s4 (m + 1) (Int.toNat (((ca p c : Nat) : Int) + 7))) else a) (b + 1) (p : Int) (c : Int) s4)))) (by
        rw [h.row, show (((ca p c : Nat) : Int) + 7).toNat = ca p c + 7 by omega]
        refine ⟨b2i_R _, fun z2 => next a b ?_ ?_, fun z2 => ⟨by omega, by rw [z.1]; omega, zR_s (by omega) (by omega), zR_s (by omega) (by omega), next _ _ ?_ ?_⟩⟩
        · have : endF f w p c = false := b2i_0.mp z2
          unfold lgC
          rw [this]
          rfl
        · have : endF f w p c = false := b2i_0.mp z2
          unfold ctC
          rw [this]
          rfl
        · have : endF f w p c = true := b2i_1.mp z2
          unfold lgC
          rw [this]
          rfl
        · have : endF f w p c = true := b2i_1.mp z2
          unfold ctC
          rw [this]
          rfl)
      exact_mod_cast this
theorem m_endingOf_8 {w : Nat} {cn : Int} (h : MI σ m f sv hs inp) (hw : (w : Int) < f 1) (hcn : cn = 0 ∨ cn = 1) : ∀ (n p : Nat) (a b : Int), (p : Int) ≤ f 0 → f 0 - p < n → -1 ≤ a → a ≤ 4 → (∀ d, -1 ≤ d → d ≤ 4 → d = lp (lgP f w) ((f 0).toNat - p) p a → P (if cn = 0 then d else lp (ctP f w) ((f 0).toNat - p) p b) σ) → vX7_endingOf_8 m P n (w : Int) cn a b (p : Int) σ := by
  intro n
  induction n with
  | zero => intro c a b h1 h2; omega
  | succ n ih =>
    intro p a b h1 h2 h3 h4 h5
    have w1 := h.wf.1
    have z := mz h.1
    unfold vX7_endingOf_8 bX7_endingOf_8
    rw [h.row, show Int.toNat 0 = 0 from rfl]
    refine ⟨by rw [z.1]; decide, zR_s (by omega) (by omega), zR_s (by omega) (by omega), fun e => ?_, fun e => ⟨7, ?_⟩⟩
    · have := h5 a h3 h4 (by rw [show (f 0).toNat - p = 0 by omega]; rfl)
      rw [show (f 0).toNat - p = 0 by omega] at this
      refine ⟨zR_s (by omega) (by omega), fun q => ?_, fun q => ?_⟩
      · rw [if_pos q] at this; exact this
      · rw [if_neg q] at this; exact this
    · have wp := h.wf.2.2.2.1 p (by omega)
      have c6 := wp.1
      have := m_endingOf_22 (P := P) (K8 := vX7_endingOf_8 m P n) (cn := cn) h hw (p := p) (by omega) 7 0 a b (by omega) (by omega) h3 h4 (fun d d1 d2 d3 => by
        have := ih (p + 1) d (lp (ctC f w p) ((f (pa p)).toNat - 0) 0 b) (by omega) (by omega) d1 d2 (fun d' e1 e2 e3 => by
          have := h5 d' e1 e2 (by
            rw [e3, d3, show (f 0).toNat - p = ((f 0).toNat - (p + 1)) + 1 by omega]
            rfl)
          rw [show (f 0).toNat - p = ((f 0).toNat - (p + 1)) + 1 by omega] at this
          exact this)
        exact_mod_cast this)
      exact_mod_cast this
theorem longF_b {w : Nat} (hw : wfF f) : -1 ≤ longF f w ∧ longF f w ≤ 4 := by
  unfold longF
  have : ∀ (n p : Nat) (a : Int), (p : Int) + n ≤ f 0 → -1 ≤ a → a ≤ 4 → -1 ≤ lp (lgP f w) n p a ∧ lp (lgP f w) n p a ≤ 4 := by
    intro n
    induction n with
    | zero => intro p a _ h1 h2; exact ⟨h1, h2⟩
    | succ n ih =>
      intro p a hp h1 h2
      have wp := hw.2.2.2.1 p (by omega)
      have inner : ∀ (q c : Nat) (b : Int), (c : Int) + q ≤ f (pa p) → -1 ≤ b → b ≤ 4 → -1 ≤ lp (lgC f w p) q c b ∧ lp (lgC f w p) q c b ≤ 4 := by
        intro q
        induction q with
        | zero => intro c b _ g1 g2; exact ⟨g1, g2⟩
        | succ q ih2 =>
          intro c b hc g1 g2
          have := lgC_b (w := w) wp (c := c) (by omega) g1 g2
          exact ih2 (c + 1) _ (by omega) this.1 this.2
      have c0 := wp.1.1
      have := inner (f (pa p)).toNat 0 a (by omega) h1 h2
      exact ih (p + 1) _ (by omega) this.1 this.2
  have h0 := hw.1.1
  exact this (f 0).toNat 0 (-1) (by omega) (by decide) (by decide)
theorem cntF_b {w : Nat} (hw : wfF f) : 0 ≤ cntF f w ∧ cntF f w ≤ 100 := by
  unfold cntF
  have : ∀ (n p : Nat) (a : Int), (p : Int) + n ≤ f 0 → a ≤ lp (ctP f w) n p a ∧ lp (ctP f w) n p a ≤ a + 6 * n := by
    intro n
    induction n with
    | zero => intro p a _; exact ⟨Int.le_refl _, by simp [lp]⟩
    | succ n ih =>
      intro p a hp
      have wp := (hw.2.2.2.1 p (by omega)).1
      have q := lp_add (g := ctC f w p) (d := 1) (fun j a => ctC_b) (f (pa p)).toNat 0 a
      have r := ih (p + 1) (ctP f w p a) (by omega)
      have e : ctP f w p a = lp (ctC f w p) (f (pa p)).toNat 0 a := rfl
      show a ≤ lp (ctP f w) n (p + 1) (ctP f w p a) ∧ lp (ctP f w) n (p + 1) (ctP f w p a) ≤ _
      rw [e] at r ⊢
      omega
  have h0 := hw.1
  have := this (f 0).toNat 0 0 (by omega)
  omega
theorem m_endingOf {w : Nat} {cn : Int} (h : MI σ m f sv hs inp) (hw : (w : Int) < f 1) (hcn : cn = 0 ∨ cn = 1) (h1 : P (if cn = 0 then longF f w else cntF f w) σ) : vX7_endingOf m (w : Int) cn P σ := by
  have w0 := h.wf.1
  refine ⟨7, ?_⟩
  have := m_endingOf_8 (P := P) h hw hcn 7 0 (-1) 0 (by omega) (by omega) (by decide) (by decide) (fun d d1 d2 d3 => by
    have e : d = longF f w := d3
    subst e
    exact h1)
  exact_mod_cast this
theorem m_longestEnding (h : MI σ m f sv hs inp) (hx : zR x) (h1 : ¬ isW f x → mU σ m (eqF f) sv hs inp 1 (P 0)) (h2 : isW f x → longF f x.toNat < 0 → mU σ m (eqF f) sv hs inp 2 (P 0)) (h3 : isW f x → 0 ≤ longF f x.toNat → mU σ m (eqF f) sv hs inp 0 (P (longF f x.toNat))) : vX7_longestEnding m x P σ := by
  refine m_isWord h hx ⟨b2i_R _, fun w => m_go1 (by decide) (mU.same h (h1 (of_decide_eq_false (b2i_0.mp w)))), fun w => m_go0 ?_⟩
  have q := of_decide_eq_true (b2i_1.mp w)
  obtain ⟨p, rfl⟩ : ∃ c : Nat, x = (c : Int) := ⟨x.toNat, by omega⟩
  rw [Int.toNat_natCast] at *
  have b := longF_b (w := p) h.wf
  have ht := h.thr 0
  refine m_endingOf ht q.2 (Or.inl rfl) ?_
  rw [if_pos rfl]
  have tw : ∀ c, zu (zu σ m 7 0) m 7 c = zu σ m 7 c := fun c => by
    funext i j
    by_cases e : i = m
    · subst e
      by_cases e2 : j = 7
      · subst e2; rw [zu_eq, zu_eq]
      · rw [zu_j e2, zu_j e2, zu_j e2]
    · rw [zu_ne e, zu_ne e, zu_ne e]
  refine ⟨zR_s (by omega) (by omega), fun z => m_go0 ?_, fun z => m_go1 (by decide) ?_⟩
  · rw [tw]
    exact mU.same h (h3 q z)
  · rw [tw]
    exact mU.same h (h2 q (by omega))
theorem m_endings (h : MI σ m f sv hs inp) (hx : zR x) (h1 : ¬ isW f x → mU σ m (eqF f) sv hs inp 1 (P 0)) (h2 : isW f x → mU σ m (eqF f) sv hs inp 0 (P (cntF f x.toNat))) : vX7_endings m x P σ := by
  refine m_isWord h hx ⟨b2i_R _, fun w => m_go1 (by decide) (mU.same h (h1 (of_decide_eq_false (b2i_0.mp w)))), fun w => m_go0 ?_⟩
  have q := of_decide_eq_true (b2i_1.mp w)
  obtain ⟨p, rfl⟩ : ∃ c : Nat, x = (c : Int) := ⟨x.toNat, by omega⟩
  rw [Int.toNat_natCast] at *
  refine m_endingOf (h.thr 0) q.2 (Or.inr rfl) ?_
  rw [if_neg (by decide)]
  exact mU.same h (h2 q)
end
