/-! PURE: both sides side by side: a call of the law keeps what they hold together -/
def LI (σ : Sto) : Prop := ∃ f sv hs inp, XI σ 0 f sv hs inp ∧ MI σ 283 f sv hs inp
/-- behind the two calls: what the law compares -/
def T0 (K : Sto → Prop) (r b : Int) (s : Sto) : Prop := r = b ∧ zR b ∧ K s
def TI (K : Sto → Prop) (k b : Int) (s : Sto) : Prop := s 283 7 = k ∧ (0 ≤ k ∧ k ≤ 5) ∧ (k = 0 → zR b ∧ s 297 0 = b) ∧ K s
def TB (K : Sto → Prop) (k b : Int) (s : Sto) : Prop := s 283 7 = k ∧ (0 ≤ k ∧ k ≤ 5) ∧ (k = 0 → (b = 0 ∨ b = 1) ∧ s 297 0 = b) ∧ K s
def TD (K : Sto → Prop) (k b : Int) (s : Sto) : Prop := s 283 7 = k ∧ (0 ≤ k ∧ k ≤ 5) ∧ (k = 0 → zdcmp (s 298 0) b = 0) ∧ K s
theorem zn297 : zn 297 = 1 ∧ zn 298 = 1 := by decide +kernel
section
variable {σ τ : Sto} {f g : Nat → Int} {sv sv' : Option (Nat → Int)} {hs hs' : List (Nat → Int)} {inp inp' : List Int} {K : Sto → Prop} {U : (Nat → Int) → Prop} {r c b x y w : Int} {q : Nat × List Int} {H : List (Nat × List Int)} {l : Nat}
theorem pr_M (hM : MI σ 283 f sv hs inp) (hf : fX σ τ 0) : MI τ 283 f sv hs inp := hM.fr (fun j _ => by rw [hf 283 (by omega)]) (fun i a b _ => hf i (by omega))
theorem pr_M2 (hM : MI σ 283 f sv hs inp) (hf : fX σ τ 0) : MI (zu τ 297 0 r) 283 f sv hs inp := (pr_M hM hf).fr (fun j _ => by rw [zu_ne (by omega)]) (fun i a b _ => zu_ne (by omega))
theorem pr_M3 (hM : MI σ 283 f sv hs inp) (hf : fX σ τ 0) : MI (zu τ 298 0 r) 283 f sv hs inp := (pr_M hM hf).fr (fun j _ => by rw [zu_ne (by omega)]) (fun i a b _ => zu_ne (by omega))
theorem pr_0 (hU : ∀ g, U g → XI τ 0 g sv' hs' inp') (hr : zR r) (hK : ∀ s, LI s → K s) : mU τ 283 U sv' hs' inp' 0 (T0 K r r) := fun s g hu hM hf h7 => ⟨rfl, hr, hK s ⟨g, sv', hs', inp', (hU g hu).fr (fun i a b => hf i (by omega)), hM⟩⟩
theorem pr_ok (hU : ∀ g, U g → XI τ 0 g sv' hs' inp') (hr : zR r) (hK : ∀ s, LI s → K s) : mU (zu τ 297 0 r) 283 U sv' hs' inp' 0 (TI K 0 r) := fun s g hu hM hf h7 => ⟨h7, by decide, fun _ => ⟨hr, by rw [hf 297 (by omega), zu_eq]⟩, hK s ⟨g, sv', hs', inp', (hU g hu).fr (fun i a b => by rw [hf i (by omega), zu_ne (by omega)]), hM⟩⟩
theorem pr_okB {B : Bool} (hU : ∀ g, U g → XI τ 0 g sv' hs' inp') (hK : ∀ s, LI s → K s) : mU (zu τ 297 0 (b2i B)) 283 U sv' hs' inp' 0 (TB K 0 (b2i B)) := fun s g hu hM hf h7 => ⟨h7, by decide, fun _ => ⟨b2i_01 _, by rw [hf 297 (by omega), zu_eq]⟩, hK s ⟨g, sv', hs', inp', (hU g hu).fr (fun i a b => by rw [hf i (by omega), zu_ne (by omega)]), hM⟩⟩
theorem pr_okD (hU : ∀ g, U g → XI τ 0 g sv' hs' inp') (hr : zdcmp r r = 0) (hK : ∀ s, LI s → K s) : mU (zu τ 298 0 r) 283 U sv' hs' inp' 0 (TD K 0 r) := fun s g hu hM hf h7 => ⟨h7, by decide, fun _ => by rw [hf 298 (by omega), zu_eq]; exact hr, hK s ⟨g, sv', hs', inp', (hU g hu).fr (fun i a b => by rw [hf i (by omega), zu_ne (by omega)]), hM⟩⟩
theorem pr_th (hU : ∀ g, U g → XI τ 0 g sv' hs' inp') (hc : 1 ≤ c ∧ c ≤ 5) (hK : ∀ s, LI s → K s) : mU τ 283 U sv' hs' inp' c (TI K c b) := fun s g hu hM hf h7 => ⟨h7, by omega, fun e => by omega, hK s ⟨g, sv', hs', inp', (hU g hu).fr (fun i a b => hf i (by omega)), hM⟩⟩
theorem pr_thB (hU : ∀ g, U g → XI τ 0 g sv' hs' inp') (hc : 1 ≤ c ∧ c ≤ 5) (hK : ∀ s, LI s → K s) : mU τ 283 U sv' hs' inp' c (TB K c b) := fun s g hu hM hf h7 => ⟨h7, by omega, fun e => by omega, hK s ⟨g, sv', hs', inp', (hU g hu).fr (fun i a b => hf i (by omega)), hM⟩⟩
theorem pr_thD (hU : ∀ g, U g → XI τ 0 g sv' hs' inp') (hc : 1 ≤ c ∧ c ≤ 5) (hK : ∀ s, LI s → K s) : mU τ 283 U sv' hs' inp' c (TD K c b) := fun s g hu hM hf h7 => ⟨h7, by omega, fun e => by omega, hK s ⟨g, sv', hs', inp', (hU g hu).fr (fun i a b => hf i (by omega)), hM⟩⟩
theorem pr_wr {PW : Int → Sto → Prop} (hr : zR r) (h : zR r → PW 0 (zu τ 297 0 r)) : zR r ∧ (0 < (zn 297 : Int) ∧ (∀ s2 : Sto, s2 = zu τ 297 (Int.toNat 0) r → (PW 0 s2))) := ⟨hr, by rw [zn297.1]; decide, fun s2 e => by rw [e]; exact h hr⟩
theorem pr_wrD {PW : Int → Sto → Prop} (hr : zdcmp r r = 0) (h : zdcmp r r = 0 → PW 0 (zu τ 298 0 r)) : 0 < (zn 298 : Int) ∧ (∀ s2 : Sto, s2 = zu τ 298 (Int.toNat 0) r → (PW 0 s2)) := ⟨by rw [zn297.2]; decide, fun s2 e => by rw [e]; exact h hr⟩
theorem pr_wrB {B : Bool} {PW : Int → Sto → Prop} (h : PW 0 (zu τ 297 0 (b2i B))) : zR (b2i B) ∧ ((b2i B = 0) → (0 ≤ (0 : Int) ∧ 0 < (zn 297 : Int) ∧ (∀ s2 : Sto, s2 = zu τ 297 (Int.toNat 0) 0 → (PW 0 s2)))) ∧ ((¬ (b2i B = 0)) → (0 ≤ (0 : Int) ∧ 0 < (zn 297 : Int) ∧ (∀ s2 : Sto, s2 = zu τ 297 (Int.toNat 0) 1 → (PW 0 s2)))) := ⟨b2i_R _, fun e => ⟨by decide, by rw [zn297.1]; decide, fun s2 e2 => by rw [b2i_0.mp e] at h; rw [e2]; exact h⟩, fun e => ⟨by decide, by rw [zn297.1]; decide, fun s2 e2 => by rw [b2i_1.mp e] at h; rw [e2]; exact h⟩⟩
/-! the answers are ints -/
theorem pr_cell (hw : wfF f) (h : isC f x y) (hw2 : 0 ≤ w ∧ w ≤ 2) : zR (cellF f x y w) := by
  have wp := hw.2.2.2.1 x.toNat (by omega)
  have wc := wp.2.2.2.2 y.toNat (by omega)
  unfold cellF
  by_cases e : w = 2
  · rw [if_pos e]
    have d := wc.2.2.2.1
    have d1 := d.1
    have d2 := d.2.1
    exact zR_s (by omega) (by omega)
  · rw [if_neg e]
    rcases (show w = 0 ∨ w = 1 by omega) with rfl | rfl
    · have k := wc.1
      exact zR_s (by show _ ≤ f (ca x.toNat y.toNat + 0); rw [Nat.add_zero]; omega) (by show f (ca x.toNat y.toNat + 0) ≤ _; rw [Nat.add_zero]; omega)
    · exact wc.2.2.2.2
theorem pr_wletter (hw : wfF f) (h : isW f x ∧ 0 ≤ y ∧ y < f (wa x.toNat)) : zR ((fl f (wa x.toNat)).getD y.toNat 0) := by
  have ww := hw.2.2.2.2.1 x.toNat (by omega)
  have hll : ((fl f (wa x.toNat)).length : Int) = f (wa x.toNat) := by unfold fl; rw [seg_len]; have := ww.1; omega
  have ga := getD_ab (i := y.toNat) ww.2.2 (by omega)
  exact zR_s (by omega) (by omega)
theorem pr_hyp (hw : wfF f) (h : isH f q.1 q.2) : zR (hypV f q y) := by
  have b := isH_b hw h
  unfold hypV
  split
  · exact zR_s (by omega) (by omega)
  · split
    · exact zR_s (by omega) (by omega)
    · split
      · exact zR_s (by omega) (by omega)
      · exact zR_s (by omega) (by omega)
theorem pr_sletter (hw : wfF f) (h : isH f q.1 q.2) (hy : 0 ≤ y ∧ y < (q.2.length : Int)) : zR (q.2.getD y.toNat 0) := by
  have b := isH_b hw h
  have ga := getD_ab (i := y.toNat) b.2.2.2.1 (by omega)
  exact zR_s (by omega) (by omega)
theorem pr_lexeme (hw : wfF f) (h : isL f x) (hy : 0 ≤ y ∧ y ≤ 2) : zR (if y = 2 then excF f x.toNat else f (la x.toNat + y.toNat)) := by
  have e := excF_b (l := x.toNat) hw (by omega)
  have wl := hw.2.2.2.2.2.2 x.toNat (by omega)
  have p6 := hw.1
  split
  · exact zR_s (by omega) (by omega)
  · rcases (show y = 0 ∨ y = 1 by omega) with rfl | rfl
    · have := wl.1
      exact zR_s (by show _ ≤ f (la x.toNat + 0); rw [Nat.add_zero]; omega) (by show f (la x.toNat + 0) ≤ _; rw [Nat.add_zero]; omega)
    · have d1 := wl.2.1.1
      have d2 := wl.2.1.2.1
      exact zR_s (by show _ ≤ f (la x.toNat + 1); omega) (by show f (la x.toNat + 1) ≤ _; omega)
theorem pr_excS {v : List Int} {l c : Nat} (hw : wfF f) (hl : (l : Int) < f 2) : zR (excS f l c v) := by
  have b := lexN_b hw hl
  have := lp_add (g := exsC f l c v) (d := 1) (fun j a => by unfold exsC; split <;> omega) (lexN f l) 0 0
  unfold excS
  exact zR_s (by omega) (by omega)
theorem mcel_b : ∀ (n c : Nat) (i : Int), mcel f l n c i = -1 ∨ ((c : Int) ≤ mcel f l n c i ∧ mcel f l n c i < (c : Int) + n) := by
  intro n
  induction n with
  | zero => intro c i; exact Or.inl rfl
  | succ n ih =>
    intro c i
    have e : mcel f l (n + 1) c i = if misF f l c then (if i = 0 then (c : Int) else mcel f l n (c + 1) (i - 1)) else mcel f l n (c + 1) i := rfl
    rw [e]
    split
    · split
      · right; omega
      · rcases ih (c + 1) (i - 1) with h | h
        · exact Or.inl h
        · right; omega
    · rcases ih (c + 1) i with h | h
      · exact Or.inl h
      · right; omega
theorem pr_mcel (hw : wfF f) (hl : (l : Int) < f 2) : zR (mcel f l (lexN f l) 0 y) := by
  have b := lexN_b hw hl
  have := mcel_b (f := f) (l := l) (lexN f l) 0 y
  exact zR_s (by omega) (by omega)
theorem cvL_len : ∀ (n : Nat) (C : Nat → Bool) (D : Nat × List Int → Bool), (cvL f H n C D).length ≤ n := by
  intro n
  induction n with
  | zero => intro C D; exact Nat.le_refl _
  | succ n ih =>
    intro C D
    show (match bq f C D H with | none => [] | some q => q :: cvL f H n (fun w => C w || exw f q.1 q.2 w) (fun q' => D q' || decide (q' = q))).length ≤ _
    cases bq f C D H with
    | none => exact Nat.zero_le _
    | some q => exact Nat.succ_le_succ (ih _ _)
theorem share_cmp1 : ∀ n, n < 7 → ∀ e, e < 7 → 0 < n → zdcmp (zddiv (zi2d ((e : Nat) : Int)) (zi2d ((n : Nat) : Int))) (zddiv (zi2d ((e : Nat) : Int)) (zi2d ((n : Nat) : Int))) = 0 := by decide +kernel
theorem share_cmp (hw : wfF f) (h : isH f q.1 q.2) : zdcmp (shareF f q) (shareF f q) = 0 := by
  have b := isH_b hw h
  have eb := expl_b (st := q.2) hw h.1
  have pos := h.2.2.2
  exact share_cmp1 _ (by omega) _ (by omega) (by omega)
/-! the calls -/
theorem p_append {x : Int} (h : LI σ) (hx : zR x) (hK : ∀ s, LI s → K s) : vL_append 0 x 297 (fun k s => vX7_append 283 x (fun b s2 => TI K k b s2) s) σ := by
  obtain ⟨f, sv, hs, inp, hX, hM⟩ := h
  refine x_append hX hx (fun c1 τ hU hf => ?_) (fun c1 c2 τ hU hf => ?_) (fun c1 c2 τ hU hf => ?_)
  · refine ⟨fun e => absurd e (by decide), fun _ => ?_, fun e => absurd e (by decide), fun e => absurd e (by decide)⟩
    exact m_append (pr_M hM hf) hx (fun d1 => by (exact pr_th hU (by decide) hK)) (fun d1 d2 => by first | contradiction | (exfalso; omega) | (exfalso; simp_all; done)) (fun d1 d2 => by first | contradiction | (exfalso; omega) | (exfalso; simp_all; done))
  · refine ⟨fun e => absurd e (by decide), fun e => absurd e (by decide), fun _ => ?_, fun e => absurd e (by decide)⟩
    exact m_append (pr_M hM hf) hx (fun d1 => by first | contradiction | (exfalso; omega) | (exfalso; simp_all; done)) (fun d1 d2 => by (exact pr_th hU (by decide) hK)) (fun d1 d2 => by first | contradiction | (exfalso; omega) | (exfalso; simp_all; done))
  · refine ⟨by have lx := x_len hX; exact zR_s (by omega) (by omega), by rw [zn297.1]; decide, fun s2 e2 => ?_⟩
    rw [e2]
    exact m_append (pr_M2 hM hf) hx (fun d1 => by first | contradiction | (exfalso; omega) | (exfalso; simp_all; done)) (fun d1 d2 => by first | contradiction | (exfalso; omega) | (exfalso; simp_all; done)) (fun d1 d2 => by (exact pr_ok hU (by have lx := x_len hX; exact zR_s (by omega) (by omega)) hK))
theorem p_clearInput (h : LI σ) (hK : ∀ s, LI s → K s) : vX6_clearInput 0 (fun r s => vX7_clearInput 283 (fun b s2 => T0 K r b s2) s) σ := by
  obtain ⟨f, sv, hs, inp, hX, hM⟩ := h
  refine x_clearInput hX (fun τ hU hf => ?_)
  have hM2 := pr_M hM hf
  exact m_clearInput hM2 (pr_0 hU (by have lx := x_len hX; exact zR_s (by omega) (by omega)) hK)
theorem p_inputLetter {x : Int} (h : LI σ) (hx : zR x) (hK : ∀ s, LI s → K s) : vL_inputLetter 0 x 297 (fun k s => vX7_inputLetter 283 x (fun b s2 => TI K k b s2) s) σ := by
  obtain ⟨f, sv, hs, inp, hX, hM⟩ := h
  refine x_inputLetter hX hx (fun c1 τ hU hf => ?_) (fun c1 τ hU hf => ?_)
  · refine ⟨fun _ => ?_, fun e => absurd e (by decide), fun e => absurd e (by decide), fun e => absurd e (by decide)⟩
    exact m_inputLetter (pr_M hM hf) hx (fun d1 => by (exact pr_th hU (by decide) hK)) (fun d1 => by first | contradiction | (exfalso; omega) | (exfalso; simp_all; done))
  · refine ⟨by have lx := x_len hX; have ga := getD_ab (i := x.toNat) lx.2.2 (by omega); exact zR_s (by omega) (by omega), by rw [zn297.1]; decide, fun s2 e2 => ?_⟩
    rw [e2]
    exact m_inputLetter (pr_M2 hM hf) hx (fun d1 => by first | contradiction | (exfalso; omega) | (exfalso; simp_all; done)) (fun d1 => by (exact pr_ok hU (by have lx := x_len hX; have ga := getD_ab (i := x.toNat) lx.2.2 (by omega); exact zR_s (by omega) (by omega)) hK))
theorem p_addParadigm (h : LI σ) (hK : ∀ s, LI s → K s) : vL_addParadigm 0 297 (fun k s => vX7_addParadigm 283 (fun b s2 => TI K k b s2) s) σ := by
  obtain ⟨f, sv, hs, inp, hX, hM⟩ := h
  refine x_addParadigm hX (fun c1 τ hU hf => ?_) (fun c1 τ hU hf => ?_)
  · refine ⟨fun e => absurd e (by decide), fun e => absurd e (by decide), fun _ => ?_, fun e => absurd e (by decide)⟩
    exact m_addParadigm (pr_M hM hf) (fun d1 => by (exact pr_th hU (by decide) hK)) (fun d1 => by first | contradiction | (exfalso; omega) | (exfalso; simp_all; done))
  · refine ⟨by have w := hX.wf.1; exact zR_s (by omega) (by omega), by rw [zn297.1]; decide, fun s2 e2 => ?_⟩
    rw [e2]
    exact m_addParadigm (pr_M2 hM hf) (fun d1 => by first | contradiction | (exfalso; omega) | (exfalso; simp_all; done)) (fun d1 => by (exact pr_ok hU (by have w := hX.wf.1; exact zR_s (by omega) (by omega)) hK))
theorem p_paradigmCount (h : LI σ) (hK : ∀ s, LI s → K s) : vX6_paradigmCount 0 (fun r s => vX7_paradigmCount 283 (fun b s2 => T0 K r b s2) s) σ := by
  obtain ⟨f, sv, hs, inp, hX, hM⟩ := h
  refine x_paradigmCount hX (fun τ hU hf => ?_)
  have hM2 := pr_M hM hf
  exact m_paradigmCount hM2 (pr_0 hU (by have w := hX.wf.1; exact zR_s (by omega) (by omega)) hK)
theorem p_addCell {x y w : Int} (h : LI σ) (hx : zR x) (hy : zR y) (hw : zR w) (hK : ∀ s, LI s → K s) : vL_addCell 0 x y w 297 (fun k s => vX7_addCell 283 x y w (fun b s2 => TI K k b s2) s) σ := by
  obtain ⟨f, sv, hs, inp, hX, hM⟩ := h
  refine x_addCell hX hx hy hw (fun c1 τ hU hf => ?_) (fun c1 c2 τ hU hf => ?_) (fun c1 c2 c3 τ hU hf => ?_) (fun c1 c2 c3 τ hU hf => ?_)
  · refine ⟨fun _ => ?_, fun e => absurd e (by decide), fun e => absurd e (by decide), fun e => absurd e (by decide)⟩
    exact m_addCell (pr_M hM hf) hx hy hw (fun d1 => by (exact pr_th hU (by decide) hK)) (fun d1 d2 => by first | contradiction | (exfalso; omega) | (exfalso; simp_all; done)) (fun d1 d2 d3 => by first | contradiction | (exfalso; omega) | (exfalso; simp_all; done)) (fun d1 d2 d3 => by first | contradiction | (exfalso; omega) | (exfalso; simp_all; done))
  · refine ⟨fun e => absurd e (by decide), fun _ => ?_, fun e => absurd e (by decide), fun e => absurd e (by decide)⟩
    exact m_addCell (pr_M hM hf) hx hy hw (fun d1 => by first | contradiction | (exfalso; omega) | (exfalso; simp_all; done)) (fun d1 d2 => by (exact pr_th hU (by decide) hK)) (fun d1 d2 d3 => by first | contradiction | (exfalso; omega) | (exfalso; simp_all; done)) (fun d1 d2 d3 => by first | contradiction | (exfalso; omega) | (exfalso; simp_all; done))
  · refine ⟨fun e => absurd e (by decide), fun e => absurd e (by decide), fun _ => ?_, fun e => absurd e (by decide)⟩
    exact m_addCell (pr_M hM hf) hx hy hw (fun d1 => by first | contradiction | (exfalso; omega) | (exfalso; simp_all; done)) (fun d1 d2 => by first | contradiction | (exfalso; omega) | (exfalso; simp_all; done)) (fun d1 d2 d3 => by (exact pr_th hU (by decide) hK)) (fun d1 d2 d3 => by first | contradiction | (exfalso; omega) | (exfalso; simp_all; done))
  · refine ⟨by have w := (hX.wf.2.2.2.1 x.toNat (by omega)).1; exact zR_s (by omega) (by omega), by rw [zn297.1]; decide, fun s2 e2 => ?_⟩
    rw [e2]
    exact m_addCell (pr_M2 hM hf) hx hy hw (fun d1 => by first | contradiction | (exfalso; omega) | (exfalso; simp_all; done)) (fun d1 d2 => by first | contradiction | (exfalso; omega) | (exfalso; simp_all; done)) (fun d1 d2 d3 => by first | contradiction | (exfalso; omega) | (exfalso; simp_all; done)) (fun d1 d2 d3 => by (exact pr_ok hU (by have w := (hX.wf.2.2.2.1 x.toNat (by omega)).1; exact zR_s (by omega) (by omega)) hK))
theorem p_removeLastCell {x : Int} (h : LI σ) (hx : zR x) (hK : ∀ s, LI s → K s) : vL_removeLastCell 0 x 297 (fun k s => vX7_removeLastCell 283 x (fun b s2 => TI K k b s2) s) σ := by
  obtain ⟨f, sv, hs, inp, hX, hM⟩ := h
  refine x_removeLastCell hX hx (fun c1 τ hU hf => ?_) (fun c1 c2 τ hU hf => ?_) (fun c1 c2 τ hU hf => ?_)
  · refine ⟨fun _ => ?_, fun e => absurd e (by decide), fun e => absurd e (by decide), fun e => absurd e (by decide)⟩
    exact m_removeLastCell (pr_M hM hf) hx (fun d1 => by (exact pr_th hU (by decide) hK)) (fun d1 d2 => by first | contradiction | (exfalso; omega) | (exfalso; simp_all; done)) (fun d1 d2 => by first | contradiction | (exfalso; omega) | (exfalso; simp_all; done))
  · refine ⟨fun e => absurd e (by decide), fun e => absurd e (by decide), fun e => absurd e (by decide), fun _ => ?_⟩
    exact m_removeLastCell (pr_M hM hf) hx (fun d1 => by first | contradiction | (exfalso; omega) | (exfalso; simp_all; done)) (fun d1 d2 => by (exact pr_th hU (by decide) hK)) (fun d1 d2 => by first | contradiction | (exfalso; omega) | (exfalso; simp_all; done))
  · refine ⟨by have w := (hX.wf.2.2.2.1 x.toNat (by omega)).1; exact zR_s (by omega) (by omega), by rw [zn297.1]; decide, fun s2 e2 => ?_⟩
    rw [e2]
    exact m_removeLastCell (pr_M2 hM hf) hx (fun d1 => by first | contradiction | (exfalso; omega) | (exfalso; simp_all; done)) (fun d1 d2 => by first | contradiction | (exfalso; omega) | (exfalso; simp_all; done)) (fun d1 d2 => by (exact pr_ok hU (by have w := (hX.wf.2.2.2.1 x.toNat (by omega)).1; exact zR_s (by omega) (by omega)) hK))
theorem p_cellCount {x : Int} (h : LI σ) (hx : zR x) (hK : ∀ s, LI s → K s) : vL_cellCount 0 x 297 (fun k s => vX7_cellCount 283 x (fun b s2 => TI K k b s2) s) σ := by
  obtain ⟨f, sv, hs, inp, hX, hM⟩ := h
  refine x_cellCount hX hx (fun c1 τ hU hf => ?_) (fun c1 τ hU hf => ?_)
  · refine ⟨fun _ => ?_, fun e => absurd e (by decide), fun e => absurd e (by decide), fun e => absurd e (by decide)⟩
    exact m_cellCount (pr_M hM hf) hx (fun d1 => by (exact pr_th hU (by decide) hK)) (fun d1 => by first | contradiction | (exfalso; omega) | (exfalso; simp_all; done))
  · refine ⟨by have w := (hX.wf.2.2.2.1 x.toNat (by omega)).1; exact zR_s (by omega) (by omega), by rw [zn297.1]; decide, fun s2 e2 => ?_⟩
    rw [e2]
    exact m_cellCount (pr_M2 hM hf) hx (fun d1 => by first | contradiction | (exfalso; omega) | (exfalso; simp_all; done)) (fun d1 => by (exact pr_ok hU (by have w := (hX.wf.2.2.2.1 x.toNat (by omega)).1; exact zR_s (by omega) (by omega)) hK))
theorem p_cell {x y w : Int} (h : LI σ) (hx : zR x) (hy : zR y) (hw : zR w) (hK : ∀ s, LI s → K s) : vL_cell 0 x y w 297 (fun k s => vX7_cell 283 x y w (fun b s2 => TI K k b s2) s) σ := by
  obtain ⟨f, sv, hs, inp, hX, hM⟩ := h
  refine x_cell hX hx hy hw (fun c1 τ hU hf => ?_) (fun c1 c2 τ hU hf => ?_) (fun c1 c2 τ hU hf => ?_)
  · refine ⟨fun _ => ?_, fun e => absurd e (by decide), fun e => absurd e (by decide), fun e => absurd e (by decide)⟩
    exact m_cell (pr_M hM hf) hx hy hw (fun d1 => by (exact pr_th hU (by decide) hK)) (fun d1 d2 => by first | contradiction | (exfalso; omega) | (exfalso; simp_all; done)) (fun d1 d2 => by first | contradiction | (exfalso; omega) | (exfalso; simp_all; done))
  · refine ⟨fun e => absurd e (by decide), fun _ => ?_, fun e => absurd e (by decide), fun e => absurd e (by decide)⟩
    exact m_cell (pr_M hM hf) hx hy hw (fun d1 => by first | contradiction | (exfalso; omega) | (exfalso; simp_all; done)) (fun d1 d2 => by (exact pr_th hU (by decide) hK)) (fun d1 d2 => by first | contradiction | (exfalso; omega) | (exfalso; simp_all; done))
  · refine ⟨by exact pr_cell hX.wf c1 c2, by rw [zn297.1]; decide, fun s2 e2 => ?_⟩
    rw [e2]
    exact m_cell (pr_M2 hM hf) hx hy hw (fun d1 => by first | contradiction | (exfalso; omega) | (exfalso; simp_all; done)) (fun d1 d2 => by first | contradiction | (exfalso; omega) | (exfalso; simp_all; done)) (fun d1 d2 => by (exact pr_ok hU (by exact pr_cell hX.wf c1 c2) hK))
theorem p_setCondition {x y w : Int} (h : LI σ) (hx : zR x) (hy : zR y) (hw : zR w) (hK : ∀ s, LI s → K s) : vL_setCondition 0 x y w 297 (fun k s => vX7_setCondition 283 x y w (fun b s2 => TI K k b s2) s) σ := by
  obtain ⟨f, sv, hs, inp, hX, hM⟩ := h
  refine x_setCondition hX hx hy hw (fun c1 τ hU hf => ?_) (fun c1 c2 τ hU hf => ?_) (fun c1 c2 τ hU hf => ?_)
  · refine ⟨fun _ => ?_, fun e => absurd e (by decide), fun e => absurd e (by decide), fun e => absurd e (by decide)⟩
    exact m_setCondition (pr_M hM hf) hx hy hw (fun d1 => by (exact pr_th hU (by decide) hK)) (fun d1 d2 => by first | contradiction | (exfalso; omega) | (exfalso; simp_all; done)) (fun d1 d2 => by first | contradiction | (exfalso; omega) | (exfalso; simp_all; done))
  · refine ⟨fun e => absurd e (by decide), fun _ => ?_, fun e => absurd e (by decide), fun e => absurd e (by decide)⟩
    exact m_setCondition (pr_M hM hf) hx hy hw (fun d1 => by first | contradiction | (exfalso; omega) | (exfalso; simp_all; done)) (fun d1 d2 => by (exact pr_th hU (by decide) hK)) (fun d1 d2 => by first | contradiction | (exfalso; omega) | (exfalso; simp_all; done))
  · refine ⟨by have w := (hX.wf.2.2.2.1 x.toNat (by omega)).2.1; exact zR_s (by omega) (by omega), by rw [zn297.1]; decide, fun s2 e2 => ?_⟩
    rw [e2]
    exact m_setCondition (pr_M2 hM hf) hx hy hw (fun d1 => by first | contradiction | (exfalso; omega) | (exfalso; simp_all; done)) (fun d1 d2 => by first | contradiction | (exfalso; omega) | (exfalso; simp_all; done)) (fun d1 d2 => by (exact pr_ok hU (by have w := (hX.wf.2.2.2.1 x.toNat (by omega)).2.1; exact zR_s (by omega) (by omega)) hK))
theorem p_fulfills {x : Int} (h : LI σ) (hx : zR x) (hK : ∀ s, LI s → K s) : vL_fulfills 0 x 297 (fun k s => vX7_fulfills 283 x (fun b s2 => TB K k b s2) s) σ := by
  obtain ⟨f, sv, hs, inp, hX, hM⟩ := h
  refine x_fulfills hX hx (fun c1 τ hU hf => ?_) (fun c1 τ hU hf => ?_)
  · refine ⟨fun _ => ?_, fun e => absurd e (by decide), fun e => absurd e (by decide), fun e => absurd e (by decide)⟩
    exact m_fulfills (pr_M hM hf) hx (fun d1 => by (exact pr_thB hU (by decide) hK)) (fun d1 => by first | contradiction | (exfalso; omega) | (exfalso; simp_all; done))
  · refine pr_wrB (PW := fun k s => vX7_fulfills 283 x (fun b s2 => TB K k b s2) s) ?_
    exact m_fulfills (pr_M2 hM hf) hx (fun d1 => by first | contradiction | (exfalso; omega) | (exfalso; simp_all; done)) (fun d1 => by (exact pr_okB hU hK))
theorem p_inflect {x y : Int} (h : LI σ) (hx : zR x) (hy : zR y) (hK : ∀ s, LI s → K s) : vL_inflect 0 x y 297 (fun k s => vX7_inflect 283 x y (fun b s2 => TI K k b s2) s) σ := by
  obtain ⟨f, sv, hs, inp, hX, hM⟩ := h
  refine x_inflect hX hx hy (fun c1 τ hU hf => ?_) (fun c1 c2 τ hU hf => ?_) (fun c1 c2 c3 τ hU hf => ?_) (fun v1 c1 c2 c3 c4 τ hU hf => ?_) (fun v1 c1 c2 c3 c4 τ hU hf => ?_)
  · refine ⟨fun _ => ?_, fun e => absurd e (by decide), fun e => absurd e (by decide), fun e => absurd e (by decide)⟩
    exact m_inflect (pr_M hM hf) hx hy (fun d1 => by (exact pr_th hU (by decide) hK)) (fun d1 d2 => by first | contradiction | (exfalso; omega) | (exfalso; simp_all; done)) (fun d1 d2 d3 => by first | contradiction | (exfalso; omega) | (exfalso; simp_all; done)) (fun u1 d1 d2 d3 d4 => by first | contradiction | (exfalso; omega) | (exfalso; simp_all; done)) (fun u1 d1 d2 d3 d4 => by first | contradiction | (exfalso; omega) | (exfalso; simp_all; done))
  · refine ⟨fun e => absurd e (by decide), fun e => absurd e (by decide), fun _ => ?_, fun e => absurd e (by decide)⟩
    exact m_inflect (pr_M hM hf) hx hy (fun d1 => by first | contradiction | (exfalso; omega) | (exfalso; simp_all; done)) (fun d1 d2 => by (exact pr_th hU (by decide) hK)) (fun d1 d2 d3 => by first | contradiction | (exfalso; omega) | (exfalso; simp_all; done)) (fun u1 d1 d2 d3 d4 => by first | contradiction | (exfalso; omega) | (exfalso; simp_all; done)) (fun u1 d1 d2 d3 d4 => by first | contradiction | (exfalso; omega) | (exfalso; simp_all; done))
  · refine ⟨fun e => absurd e (by decide), fun e => absurd e (by decide), fun e => absurd e (by decide), fun _ => ?_⟩
    exact m_inflect (pr_M hM hf) hx hy (fun d1 => by first | contradiction | (exfalso; omega) | (exfalso; simp_all; done)) (fun d1 d2 => by first | contradiction | (exfalso; omega) | (exfalso; simp_all; done)) (fun d1 d2 d3 => by (exact pr_th hU (by decide) hK)) (fun u1 d1 d2 d3 d4 => by first | contradiction | (exfalso; omega) | (exfalso; simp_all; done)) (fun u1 d1 d2 d3 d4 => by first | contradiction | (exfalso; omega) | (exfalso; simp_all; done))
  · refine ⟨fun e => absurd e (by decide), fun e => absurd e (by decide), fun e => absurd e (by decide), fun _ => ?_⟩
    exact m_inflect (pr_M hM hf) hx hy (fun d1 => by first | contradiction | (exfalso; omega) | (exfalso; simp_all; done)) (fun d1 d2 => by first | contradiction | (exfalso; omega) | (exfalso; simp_all; done)) (fun d1 d2 d3 => by first | contradiction | (exfalso; omega) | (exfalso; simp_all; done)) (fun u1 d1 d2 d3 d4 => by (obtain rfl := Option.some.inj (c3.symm.trans d3); exact pr_th hU (by decide) hK)) (fun u1 d1 d2 d3 d4 => by (obtain rfl := Option.some.inj (c3.symm.trans d3); first | contradiction | (exfalso; omega) | (exfalso; simp_all; done)))
  · refine ⟨by exact zR_s (by omega) (by omega), by rw [zn297.1]; decide, fun s2 e2 => ?_⟩
    rw [e2]
    exact m_inflect (pr_M2 hM hf) hx hy (fun d1 => by first | contradiction | (exfalso; omega) | (exfalso; simp_all; done)) (fun d1 d2 => by first | contradiction | (exfalso; omega) | (exfalso; simp_all; done)) (fun d1 d2 d3 => by first | contradiction | (exfalso; omega) | (exfalso; simp_all; done)) (fun u1 d1 d2 d3 d4 => by (obtain rfl := Option.some.inj (c3.symm.trans d3); first | contradiction | (exfalso; omega) | (exfalso; simp_all; done))) (fun u1 d1 d2 d3 d4 => by (obtain rfl := Option.some.inj (c3.symm.trans d3); exact pr_ok hU (by exact zR_s (by omega) (by omega)) hK))
theorem p_addWord (h : LI σ) (hK : ∀ s, LI s → K s) : vL_addWord 0 297 (fun k s => vX7_addWord 283 (fun b s2 => TI K k b s2) s) σ := by
  obtain ⟨f, sv, hs, inp, hX, hM⟩ := h
  refine x_addWord hX (fun c1 τ hU hf => ?_) (fun c1 c2 τ hU hf => ?_) (fun c1 c2 c3 τ hU hf => ?_) (fun c1 c2 c3 τ hU hf => ?_)
  · refine ⟨fun e => absurd e (by decide), fun _ => ?_, fun e => absurd e (by decide), fun e => absurd e (by decide)⟩
    exact m_addWord (pr_M hM hf) (fun d1 => by (exact pr_th hU (by decide) hK)) (fun d1 d2 => by first | contradiction | (exfalso; omega) | (exfalso; simp_all; done)) (fun d1 d2 d3 => by first | contradiction | (exfalso; omega) | (exfalso; simp_all; done)) (fun d1 d2 d3 => by first | contradiction | (exfalso; omega) | (exfalso; simp_all; done))
  · refine ⟨by have w := hX.wf.2.1; have ab := attF_b hX.wf inp; exact zR_s (by omega) (by omega), by rw [zn297.1]; decide, fun s2 e2 => ?_⟩
    rw [e2]
    exact m_addWord (pr_M2 hM hf) (fun d1 => by first | contradiction | (exfalso; omega) | (exfalso; simp_all; done)) (fun d1 d2 => by (exact pr_ok hU (by have w := hX.wf.2.1; have ab := attF_b hX.wf inp; exact zR_s (by omega) (by omega)) hK)) (fun d1 d2 d3 => by first | contradiction | (exfalso; omega) | (exfalso; simp_all; done)) (fun d1 d2 d3 => by first | contradiction | (exfalso; omega) | (exfalso; simp_all; done))
  · refine ⟨fun e => absurd e (by decide), fun e => absurd e (by decide), fun _ => ?_, fun e => absurd e (by decide)⟩
    exact m_addWord (pr_M hM hf) (fun d1 => by first | contradiction | (exfalso; omega) | (exfalso; simp_all; done)) (fun d1 d2 => by first | contradiction | (exfalso; omega) | (exfalso; simp_all; done)) (fun d1 d2 d3 => by (exact pr_th hU (by decide) hK)) (fun d1 d2 d3 => by first | contradiction | (exfalso; omega) | (exfalso; simp_all; done))
  · refine ⟨by have w := hX.wf.2.1; have ab := attF_b hX.wf inp; exact zR_s (by omega) (by omega), by rw [zn297.1]; decide, fun s2 e2 => ?_⟩
    rw [e2]
    exact m_addWord (pr_M2 hM hf) (fun d1 => by first | contradiction | (exfalso; omega) | (exfalso; simp_all; done)) (fun d1 d2 => by first | contradiction | (exfalso; omega) | (exfalso; simp_all; done)) (fun d1 d2 d3 => by first | contradiction | (exfalso; omega) | (exfalso; simp_all; done)) (fun d1 d2 d3 => by (exact pr_ok hU (by have w := hX.wf.2.1; have ab := attF_b hX.wf inp; exact zR_s (by omega) (by omega)) hK))
theorem p_removeWord {x : Int} (h : LI σ) (hx : zR x) (hK : ∀ s, LI s → K s) : vL_removeWord 0 x 297 (fun k s => vX7_removeWord 283 x (fun b s2 => TI K k b s2) s) σ := by
  obtain ⟨f, sv, hs, inp, hX, hM⟩ := h
  refine x_removeWord hX hx (fun c1 τ hU hf => ?_) (fun c1 τ hU hf => ?_)
  · refine ⟨fun _ => ?_, fun e => absurd e (by decide), fun e => absurd e (by decide), fun e => absurd e (by decide)⟩
    exact m_removeWord (pr_M hM hf) hx (fun d1 => by (exact pr_th hU (by decide) hK)) (fun d1 => by first | contradiction | (exfalso; omega) | (exfalso; simp_all; done))
  · refine ⟨by have w := hX.wf.2.1; exact zR_s (by omega) (by omega), by rw [zn297.1]; decide, fun s2 e2 => ?_⟩
    rw [e2]
    exact m_removeWord (pr_M2 hM hf) hx (fun d1 => by first | contradiction | (exfalso; omega) | (exfalso; simp_all; done)) (fun d1 => by (exact pr_ok hU (by have w := hX.wf.2.1; exact zR_s (by omega) (by omega)) hK))
theorem p_wordCount (h : LI σ) (hK : ∀ s, LI s → K s) : vX6_wordCount 0 (fun r s => vX7_wordCount 283 (fun b s2 => T0 K r b s2) s) σ := by
  obtain ⟨f, sv, hs, inp, hX, hM⟩ := h
  refine x_wordCount hX (fun τ hU hf => ?_)
  have hM2 := pr_M hM hf
  exact m_wordCount hM2 (pr_0 hU (by have w := hX.wf.2.1; exact zR_s (by omega) (by omega)) hK)
theorem p_wordLength {x : Int} (h : LI σ) (hx : zR x) (hK : ∀ s, LI s → K s) : vL_wordLength 0 x 297 (fun k s => vX7_wordLength 283 x (fun b s2 => TI K k b s2) s) σ := by
  obtain ⟨f, sv, hs, inp, hX, hM⟩ := h
  refine x_wordLength hX hx (fun c1 τ hU hf => ?_) (fun c1 τ hU hf => ?_)
  · refine ⟨fun _ => ?_, fun e => absurd e (by decide), fun e => absurd e (by decide), fun e => absurd e (by decide)⟩
    exact m_wordLength (pr_M hM hf) hx (fun d1 => by (exact pr_th hU (by decide) hK)) (fun d1 => by first | contradiction | (exfalso; omega) | (exfalso; simp_all; done))
  · refine ⟨by have w := hX.wf.2.2.2.2.1 x.toNat (by omega); have w1 := w.1; have w2 := w.2.1; exact zR_s (by omega) (by omega), by rw [zn297.1]; decide, fun s2 e2 => ?_⟩
    rw [e2]
    exact m_wordLength (pr_M2 hM hf) hx (fun d1 => by first | contradiction | (exfalso; omega) | (exfalso; simp_all; done)) (fun d1 => by (exact pr_ok hU (by have w := hX.wf.2.2.2.2.1 x.toNat (by omega); have w1 := w.1; have w2 := w.2.1; exact zR_s (by omega) (by omega)) hK))
theorem p_wordLetter {x y : Int} (h : LI σ) (hx : zR x) (hy : zR y) (hK : ∀ s, LI s → K s) : vL_wordLetter 0 x y 297 (fun k s => vX7_wordLetter 283 x y (fun b s2 => TI K k b s2) s) σ := by
  obtain ⟨f, sv, hs, inp, hX, hM⟩ := h
  refine x_wordLetter hX hx hy (fun c1 τ hU hf => ?_) (fun c1 τ hU hf => ?_)
  · refine ⟨fun _ => ?_, fun e => absurd e (by decide), fun e => absurd e (by decide), fun e => absurd e (by decide)⟩
    exact m_wordLetter (pr_M hM hf) hx hy (fun d1 => by (exact pr_th hU (by decide) hK)) (fun d1 => by first | contradiction | (exfalso; omega) | (exfalso; simp_all; done))
  · refine ⟨by exact pr_wletter hX.wf c1, by rw [zn297.1]; decide, fun s2 e2 => ?_⟩
    rw [e2]
    exact m_wordLetter (pr_M2 hM hf) hx hy (fun d1 => by first | contradiction | (exfalso; omega) | (exfalso; simp_all; done)) (fun d1 => by (exact pr_ok hU (by exact pr_wletter hX.wf c1) hK))
theorem p_longestEnding {x : Int} (h : LI σ) (hx : zR x) (hK : ∀ s, LI s → K s) : vL_longestEnding 0 x 297 (fun k s => vX7_longestEnding 283 x (fun b s2 => TI K k b s2) s) σ := by
  obtain ⟨f, sv, hs, inp, hX, hM⟩ := h
  refine x_longestEnding hX hx (fun c1 τ hU hf => ?_) (fun c1 c2 τ hU hf => ?_) (fun c1 c2 τ hU hf => ?_)
  · refine ⟨fun _ => ?_, fun e => absurd e (by decide), fun e => absurd e (by decide), fun e => absurd e (by decide)⟩
    exact m_longestEnding (pr_M hM hf) hx (fun d1 => by (exact pr_th hU (by decide) hK)) (fun d1 d2 => by first | contradiction | (exfalso; omega) | (exfalso; simp_all; done)) (fun d1 d2 => by first | contradiction | (exfalso; omega) | (exfalso; simp_all; done))
  · refine ⟨fun e => absurd e (by decide), fun e => absurd e (by decide), fun e => absurd e (by decide), fun _ => ?_⟩
    exact m_longestEnding (pr_M hM hf) hx (fun d1 => by first | contradiction | (exfalso; omega) | (exfalso; simp_all; done)) (fun d1 d2 => by (exact pr_th hU (by decide) hK)) (fun d1 d2 => by first | contradiction | (exfalso; omega) | (exfalso; simp_all; done))
  · refine ⟨by have w := longF_b (w := x.toNat) hX.wf; exact zR_s (by omega) (by omega), by rw [zn297.1]; decide, fun s2 e2 => ?_⟩
    rw [e2]
    exact m_longestEnding (pr_M2 hM hf) hx (fun d1 => by first | contradiction | (exfalso; omega) | (exfalso; simp_all; done)) (fun d1 d2 => by first | contradiction | (exfalso; omega) | (exfalso; simp_all; done)) (fun d1 d2 => by (exact pr_ok hU (by have w := longF_b (w := x.toNat) hX.wf; exact zR_s (by omega) (by omega)) hK))
theorem p_endings {x : Int} (h : LI σ) (hx : zR x) (hK : ∀ s, LI s → K s) : vL_endings 0 x 297 (fun k s => vX7_endings 283 x (fun b s2 => TI K k b s2) s) σ := by
  obtain ⟨f, sv, hs, inp, hX, hM⟩ := h
  refine x_endings hX hx (fun c1 τ hU hf => ?_) (fun c1 τ hU hf => ?_)
  · refine ⟨fun _ => ?_, fun e => absurd e (by decide), fun e => absurd e (by decide), fun e => absurd e (by decide)⟩
    exact m_endings (pr_M hM hf) hx (fun d1 => by (exact pr_th hU (by decide) hK)) (fun d1 => by first | contradiction | (exfalso; omega) | (exfalso; simp_all; done))
  · refine ⟨by have w := cntF_b (w := x.toNat) hX.wf; exact zR_s (by omega) (by omega), by rw [zn297.1]; decide, fun s2 e2 => ?_⟩
    rw [e2]
    exact m_endings (pr_M2 hM hf) hx (fun d1 => by first | contradiction | (exfalso; omega) | (exfalso; simp_all; done)) (fun d1 => by (exact pr_ok hU (by have w := cntF_b (w := x.toNat) hX.wf; exact zR_s (by omega) (by omega)) hK))
theorem p_hypothesisCount (h : LI σ) (hK : ∀ s, LI s → K s) : vX6_hypothesisCount 0 (fun r s => vX7_hypothesisCount 283 (fun b s2 => T0 K r b s2) s) σ := by
  obtain ⟨f, sv, hs, inp, hX, hM⟩ := h
  refine x_hypothesisCount hX (fun v1 c1 c2 τ hU hf => ?_)
  have hM2 := pr_M hM hf
  refine m_hypothesisCount hM2 (fun u1 d1 d2 => by (obtain rfl := isHL_uniq c1 d1; exact pr_0 hU (by exact zR_s (by omega) (by omega)) hK))
theorem p_hypothesis {x y : Int} (h : LI σ) (hx : zR x) (hy : zR y) (hK : ∀ s, LI s → K s) : vL_hypothesis 0 x y 297 (fun k s => vX7_hypothesis 283 x y (fun b s2 => TI K k b s2) s) σ := by
  obtain ⟨f, sv, hs, inp, hX, hM⟩ := h
  refine x_hypothesis hX hx hy (fun v1 c1 c2 c3 τ hU hf => ?_) (fun v1 v2 c1 c2 c3 c4 c5 τ hU hf => ?_) (fun v1 v2 c1 c2 c3 c4 c5 τ hU hf => ?_)
  · refine ⟨fun _ => ?_, fun e => absurd e (by decide), fun e => absurd e (by decide), fun e => absurd e (by decide)⟩
    exact m_hypothesis (pr_M hM hf) hx hy (fun u1 d1 d2 d3 => by (obtain rfl := isHL_uniq c1 d1; exact pr_th hU (by decide) hK)) (fun u1 u2 d1 d2 d3 d4 d5 => by (obtain rfl := isHL_uniq c1 d1; first | contradiction | (have hz := (List.getElem?_eq_some_iff.mp d4).1; exfalso; omega) | (exfalso; omega) | (exfalso; simp_all; done))) (fun u1 u2 d1 d2 d3 d4 d5 => by (obtain rfl := isHL_uniq c1 d1; first | contradiction | (have hz := (List.getElem?_eq_some_iff.mp d4).1; exfalso; omega) | (exfalso; omega) | (exfalso; simp_all; done)))
  · refine ⟨fun e => absurd e (by decide), fun _ => ?_, fun e => absurd e (by decide), fun e => absurd e (by decide)⟩
    exact m_hypothesis (pr_M hM hf) hx hy (fun u1 d1 d2 d3 => by (obtain rfl := isHL_uniq c1 d1; first | contradiction | (have hz := (List.getElem?_eq_some_iff.mp c4).1; exfalso; omega) | (exfalso; omega) | (exfalso; simp_all; done))) (fun u1 u2 d1 d2 d3 d4 d5 => by (obtain rfl := isHL_uniq c1 d1; obtain rfl := Option.some.inj (c4.symm.trans d4); exact pr_th hU (by decide) hK)) (fun u1 u2 d1 d2 d3 d4 d5 => by (obtain rfl := isHL_uniq c1 d1; obtain rfl := Option.some.inj (c4.symm.trans d4); first | contradiction | (exfalso; omega) | (exfalso; simp_all; done)))
  · refine ⟨by exact pr_hyp hX.wf ((c1.2 _).mp (List.mem_of_getElem? c4)), by rw [zn297.1]; decide, fun s2 e2 => ?_⟩
    rw [e2]
    exact m_hypothesis (pr_M2 hM hf) hx hy (fun u1 d1 d2 d3 => by (obtain rfl := isHL_uniq c1 d1; first | contradiction | (have hz := (List.getElem?_eq_some_iff.mp c4).1; exfalso; omega) | (exfalso; omega) | (exfalso; simp_all; done))) (fun u1 u2 d1 d2 d3 d4 d5 => by (obtain rfl := isHL_uniq c1 d1; obtain rfl := Option.some.inj (c4.symm.trans d4); first | contradiction | (exfalso; omega) | (exfalso; simp_all; done))) (fun u1 u2 d1 d2 d3 d4 d5 => by (obtain rfl := isHL_uniq c1 d1; obtain rfl := Option.some.inj (c4.symm.trans d4); exact pr_ok hU (by exact pr_hyp hX.wf ((c1.2 _).mp (List.mem_of_getElem? c4))) hK))
theorem p_stemLetter {x y : Int} (h : LI σ) (hx : zR x) (hy : zR y) (hK : ∀ s, LI s → K s) : vL_stemLetter 0 x y 297 (fun k s => vX7_stemLetter 283 x y (fun b s2 => TI K k b s2) s) σ := by
  obtain ⟨f, sv, hs, inp, hX, hM⟩ := h
  refine x_stemLetter hX hx hy (fun v1 c1 c2 c3 τ hU hf => ?_) (fun v1 v2 c1 c2 c3 c4 c5 τ hU hf => ?_) (fun v1 v2 c1 c2 c3 c4 c5 τ hU hf => ?_)
  · refine ⟨fun _ => ?_, fun e => absurd e (by decide), fun e => absurd e (by decide), fun e => absurd e (by decide)⟩
    exact m_stemLetter (pr_M hM hf) hx hy (fun u1 d1 d2 d3 => by (obtain rfl := isHL_uniq c1 d1; exact pr_th hU (by decide) hK)) (fun u1 u2 d1 d2 d3 d4 d5 => by (obtain rfl := isHL_uniq c1 d1; first | contradiction | (have hz := (List.getElem?_eq_some_iff.mp d4).1; exfalso; omega) | (exfalso; omega) | (exfalso; simp_all; done))) (fun u1 u2 d1 d2 d3 d4 d5 => by (obtain rfl := isHL_uniq c1 d1; first | contradiction | (have hz := (List.getElem?_eq_some_iff.mp d4).1; exfalso; omega) | (exfalso; omega) | (exfalso; simp_all; done)))
  · refine ⟨fun _ => ?_, fun e => absurd e (by decide), fun e => absurd e (by decide), fun e => absurd e (by decide)⟩
    exact m_stemLetter (pr_M hM hf) hx hy (fun u1 d1 d2 d3 => by (obtain rfl := isHL_uniq c1 d1; first | contradiction | (have hz := (List.getElem?_eq_some_iff.mp c4).1; exfalso; omega) | (exfalso; omega) | (exfalso; simp_all; done))) (fun u1 u2 d1 d2 d3 d4 d5 => by (obtain rfl := isHL_uniq c1 d1; obtain rfl := Option.some.inj (c4.symm.trans d4); exact pr_th hU (by decide) hK)) (fun u1 u2 d1 d2 d3 d4 d5 => by (obtain rfl := isHL_uniq c1 d1; obtain rfl := Option.some.inj (c4.symm.trans d4); first | contradiction | (exfalso; omega) | (exfalso; simp_all; done)))
  · refine ⟨by exact pr_sletter hX.wf ((c1.2 _).mp (List.mem_of_getElem? c4)) (by omega), by rw [zn297.1]; decide, fun s2 e2 => ?_⟩
    rw [e2]
    exact m_stemLetter (pr_M2 hM hf) hx hy (fun u1 d1 d2 d3 => by (obtain rfl := isHL_uniq c1 d1; first | contradiction | (have hz := (List.getElem?_eq_some_iff.mp c4).1; exfalso; omega) | (exfalso; omega) | (exfalso; simp_all; done))) (fun u1 u2 d1 d2 d3 d4 d5 => by (obtain rfl := isHL_uniq c1 d1; obtain rfl := Option.some.inj (c4.symm.trans d4); first | contradiction | (exfalso; omega) | (exfalso; simp_all; done))) (fun u1 u2 d1 d2 d3 d4 d5 => by (obtain rfl := isHL_uniq c1 d1; obtain rfl := Option.some.inj (c4.symm.trans d4); exact pr_ok hU (by exact pr_sletter hX.wf ((c1.2 _).mp (List.mem_of_getElem? c4)) (by omega)) hK))
theorem p_explains {x y : Int} (h : LI σ) (hx : zR x) (hy : zR y) (hK : ∀ s, LI s → K s) : vL_explains 0 x y 297 (fun k s => vX7_explains 283 x y (fun b s2 => TB K k b s2) s) σ := by
  obtain ⟨f, sv, hs, inp, hX, hM⟩ := h
  refine x_explains hX hx hy (fun v1 c1 c2 c3 τ hU hf => ?_) (fun v1 v2 c1 c2 c3 c4 c5 τ hU hf => ?_) (fun v1 v2 c1 c2 c3 c4 c5 τ hU hf => ?_)
  · refine ⟨fun _ => ?_, fun e => absurd e (by decide), fun e => absurd e (by decide), fun e => absurd e (by decide)⟩
    exact m_explains (pr_M hM hf) hx hy (fun u1 d1 d2 d3 => by (obtain rfl := isHL_uniq c1 d1; exact pr_thB hU (by decide) hK)) (fun u1 u2 d1 d2 d3 d4 d5 => by (obtain rfl := isHL_uniq c1 d1; first | contradiction | (have hz := (List.getElem?_eq_some_iff.mp d4).1; exfalso; omega) | (exfalso; omega) | (exfalso; simp_all; done))) (fun u1 u2 d1 d2 d3 d4 d5 => by (obtain rfl := isHL_uniq c1 d1; first | contradiction | (have hz := (List.getElem?_eq_some_iff.mp d4).1; exfalso; omega) | (exfalso; omega) | (exfalso; simp_all; done)))
  · refine ⟨fun _ => ?_, fun e => absurd e (by decide), fun e => absurd e (by decide), fun e => absurd e (by decide)⟩
    exact m_explains (pr_M hM hf) hx hy (fun u1 d1 d2 d3 => by (obtain rfl := isHL_uniq c1 d1; first | contradiction | (have hz := (List.getElem?_eq_some_iff.mp c4).1; exfalso; omega) | (exfalso; omega) | (exfalso; simp_all; done))) (fun u1 u2 d1 d2 d3 d4 d5 => by (obtain rfl := isHL_uniq c1 d1; obtain rfl := Option.some.inj (c4.symm.trans d4); exact pr_thB hU (by decide) hK)) (fun u1 u2 d1 d2 d3 d4 d5 => by (obtain rfl := isHL_uniq c1 d1; obtain rfl := Option.some.inj (c4.symm.trans d4); first | contradiction | (exfalso; omega) | (exfalso; simp_all; done)))
  · refine pr_wrB (PW := fun k s => vX7_explains 283 x y (fun b s2 => TB K k b s2) s) ?_
    exact m_explains (pr_M2 hM hf) hx hy (fun u1 d1 d2 d3 => by (obtain rfl := isHL_uniq c1 d1; first | contradiction | (have hz := (List.getElem?_eq_some_iff.mp c4).1; exfalso; omega) | (exfalso; omega) | (exfalso; simp_all; done))) (fun u1 u2 d1 d2 d3 d4 d5 => by (obtain rfl := isHL_uniq c1 d1; obtain rfl := Option.some.inj (c4.symm.trans d4); first | contradiction | (exfalso; omega) | (exfalso; simp_all; done))) (fun u1 u2 d1 d2 d3 d4 d5 => by (obtain rfl := isHL_uniq c1 d1; obtain rfl := Option.some.inj (c4.symm.trans d4); exact pr_okB hU hK))
theorem p_explanations {x : Int} (h : LI σ) (hx : zR x) (hK : ∀ s, LI s → K s) : vL_explanations 0 x 297 (fun k s => vX7_explanations 283 x (fun b s2 => TI K k b s2) s) σ := by
  obtain ⟨f, sv, hs, inp, hX, hM⟩ := h
  refine x_explanations hX hx (fun c1 τ hU hf => ?_) (fun v1 c1 c2 c3 τ hU hf => ?_)
  · refine ⟨fun _ => ?_, fun e => absurd e (by decide), fun e => absurd e (by decide), fun e => absurd e (by decide)⟩
    exact m_explanations (pr_M hM hf) hx (fun d1 => by (exact pr_th hU (by decide) hK)) (fun u1 d1 d2 d3 => by first | contradiction | (exfalso; omega) | (exfalso; simp_all; done))
  · refine ⟨by have w := List.countP_le_length (p := fun q => exw f q.1 q.2 x.toNat) (l := v1); exact zR_s (by omega) (by omega), by rw [zn297.1]; decide, fun s2 e2 => ?_⟩
    rw [e2]
    exact m_explanations (pr_M2 hM hf) hx (fun d1 => by first | contradiction | (exfalso; omega) | (exfalso; simp_all; done)) (fun u1 d1 d2 d3 => by (obtain rfl := isHL_uniq c1 d1; exact pr_ok hU (by have w := List.countP_le_length (p := fun q => exw f q.1 q.2 x.toNat) (l := v1); exact zR_s (by omega) (by omega)) hK))
theorem p_attestedShare {x : Int} (h : LI σ) (hx : zR x) (hK : ∀ s, LI s → K s) : vL_attestedShare 0 x 298 (fun k s => vX7_attestedShare 283 x (fun b s2 => TD K k b s2) s) σ := by
  obtain ⟨f, sv, hs, inp, hX, hM⟩ := h
  refine x_attestedShare hX hx (fun v1 c1 c2 c3 τ hU hf => ?_) (fun v1 v2 c1 c2 c3 c4 τ hU hf => ?_)
  · refine ⟨fun _ => ?_, fun e => absurd e (by decide), fun e => absurd e (by decide), fun e => absurd e (by decide)⟩
    exact m_attestedShare (pr_M hM hf) hx (fun u1 d1 d2 d3 => by (obtain rfl := isHL_uniq c1 d1; exact pr_thD hU (by decide) hK)) (fun u1 u2 d1 d2 d3 d4 => by (obtain rfl := isHL_uniq c1 d1; first | contradiction | (have hz := (List.getElem?_eq_some_iff.mp d4).1; exfalso; omega) | (exfalso; omega) | (exfalso; simp_all; done)))
  · refine ⟨by rw [zn297.2]; decide, fun s2 e2 => ?_⟩
    rw [e2]
    exact m_attestedShare (pr_M3 hM hf) hx (fun u1 d1 d2 d3 => by (obtain rfl := isHL_uniq c1 d1; first | contradiction | (have hz := (List.getElem?_eq_some_iff.mp c4).1; exfalso; omega) | (exfalso; omega) | (exfalso; simp_all; done))) (fun u1 u2 d1 d2 d3 d4 => by (obtain rfl := isHL_uniq c1 d1; obtain rfl := Option.some.inj (c4.symm.trans d4); exact pr_okD hU (share_cmp hX.wf ((c1.2 _).mp (List.mem_of_getElem? c4))) hK))
theorem p_accept {x : Int} (h : LI σ) (hx : zR x) (hK : ∀ s, LI s → K s) : vL_accept 0 x 297 (fun k s => vX7_accept 283 x (fun b s2 => TI K k b s2) s) σ := by
  obtain ⟨f, sv, hs, inp, hX, hM⟩ := h
  refine x_accept hX hx (fun v1 c1 c2 c3 τ hU hf => ?_) (fun v1 v2 c1 c2 c3 c4 c5 τ hU hf => ?_) (fun v1 v2 c1 c2 c3 c4 c5 τ hU hf => ?_)
  · refine ⟨fun _ => ?_, fun e => absurd e (by decide), fun e => absurd e (by decide), fun e => absurd e (by decide)⟩
    exact m_accept (pr_M hM hf) hx (fun u1 d1 d2 d3 => by (obtain rfl := isHL_uniq c1 d1; exact pr_th hU (by decide) hK)) (fun u1 u2 d1 d2 d3 d4 d5 => by (obtain rfl := isHL_uniq c1 d1; first | contradiction | (have hz := (List.getElem?_eq_some_iff.mp d4).1; exfalso; omega) | (exfalso; omega) | (exfalso; simp_all; done))) (fun u1 u2 d1 d2 d3 d4 d5 => by (obtain rfl := isHL_uniq c1 d1; first | contradiction | (have hz := (List.getElem?_eq_some_iff.mp d4).1; exfalso; omega) | (exfalso; omega) | (exfalso; simp_all; done)))
  · refine ⟨fun e => absurd e (by decide), fun e => absurd e (by decide), fun _ => ?_, fun e => absurd e (by decide)⟩
    exact m_accept (pr_M hM hf) hx (fun u1 d1 d2 d3 => by (obtain rfl := isHL_uniq c1 d1; first | contradiction | (have hz := (List.getElem?_eq_some_iff.mp c4).1; exfalso; omega) | (exfalso; omega) | (exfalso; simp_all; done))) (fun u1 u2 d1 d2 d3 d4 d5 => by (obtain rfl := isHL_uniq c1 d1; obtain rfl := Option.some.inj (c4.symm.trans d4); exact pr_th hU (by decide) hK)) (fun u1 u2 d1 d2 d3 d4 d5 => by (obtain rfl := isHL_uniq c1 d1; obtain rfl := Option.some.inj (c4.symm.trans d4); first | contradiction | (exfalso; omega) | (exfalso; simp_all; done)))
  · refine ⟨by have w := hX.wf.2.2.1; exact zR_s (by omega) (by omega), by rw [zn297.1]; decide, fun s2 e2 => ?_⟩
    rw [e2]
    exact m_accept (pr_M2 hM hf) hx (fun u1 d1 d2 d3 => by (obtain rfl := isHL_uniq c1 d1; first | contradiction | (have hz := (List.getElem?_eq_some_iff.mp c4).1; exfalso; omega) | (exfalso; omega) | (exfalso; simp_all; done))) (fun u1 u2 d1 d2 d3 d4 d5 => by (obtain rfl := isHL_uniq c1 d1; obtain rfl := Option.some.inj (c4.symm.trans d4); first | contradiction | (exfalso; omega) | (exfalso; simp_all; done))) (fun u1 u2 d1 d2 d3 d4 d5 => by (obtain rfl := isHL_uniq c1 d1; obtain rfl := Option.some.inj (c4.symm.trans d4); exact pr_ok hU (by have w := hX.wf.2.2.1; exact zR_s (by omega) (by omega)) hK))
theorem p_cover (h : LI σ) (hK : ∀ s, LI s → K s) : vX6_cover 0 (fun r s => vX7_cover 283 (fun b s2 => T0 K r b s2) s) σ := by
  obtain ⟨f, sv, hs, inp, hX, hM⟩ := h
  refine x_cover hX (fun v1 c1 c2 τ hU hf => ?_)
  have hM2 := pr_M hM hf
  refine m_cover hM2 (fun u1 d1 d2 => by (obtain rfl := isHL_uniq c1 d1; exact pr_0 hU (by have w := cvL_len (f := f) (H := v1) (10 - f 2).toNat (inW f (covF f)) (hasL f); have w2 := hX.wf.2.2.1; exact zR_s (by omega) (by omega)) hK))
theorem p_lexemeCount (h : LI σ) (hK : ∀ s, LI s → K s) : vX6_lexemeCount 0 (fun r s => vX7_lexemeCount 283 (fun b s2 => T0 K r b s2) s) σ := by
  obtain ⟨f, sv, hs, inp, hX, hM⟩ := h
  refine x_lexemeCount hX (fun τ hU hf => ?_)
  have hM2 := pr_M hM hf
  exact m_lexemeCount hM2 (pr_0 hU (by have w := hX.wf.2.2.1; exact zR_s (by omega) (by omega)) hK)
theorem p_lexeme {x y : Int} (h : LI σ) (hx : zR x) (hy : zR y) (hK : ∀ s, LI s → K s) : vL_lexeme 0 x y 297 (fun k s => vX7_lexeme 283 x y (fun b s2 => TI K k b s2) s) σ := by
  obtain ⟨f, sv, hs, inp, hX, hM⟩ := h
  refine x_lexeme hX hx hy (fun c1 τ hU hf => ?_) (fun c1 c2 τ hU hf => ?_) (fun c1 c2 τ hU hf => ?_)
  · refine ⟨fun _ => ?_, fun e => absurd e (by decide), fun e => absurd e (by decide), fun e => absurd e (by decide)⟩
    exact m_lexeme (pr_M hM hf) hx hy (fun d1 => by (exact pr_th hU (by decide) hK)) (fun d1 d2 => by first | contradiction | (exfalso; omega) | (exfalso; simp_all; done)) (fun d1 d2 => by first | contradiction | (exfalso; omega) | (exfalso; simp_all; done))
  · refine ⟨fun e => absurd e (by decide), fun _ => ?_, fun e => absurd e (by decide), fun e => absurd e (by decide)⟩
    exact m_lexeme (pr_M hM hf) hx hy (fun d1 => by first | contradiction | (exfalso; omega) | (exfalso; simp_all; done)) (fun d1 d2 => by (exact pr_th hU (by decide) hK)) (fun d1 d2 => by first | contradiction | (exfalso; omega) | (exfalso; simp_all; done))
  · refine ⟨by exact pr_lexeme hX.wf c1 c2, by rw [zn297.1]; decide, fun s2 e2 => ?_⟩
    rw [e2]
    exact m_lexeme (pr_M2 hM hf) hx hy (fun d1 => by first | contradiction | (exfalso; omega) | (exfalso; simp_all; done)) (fun d1 d2 => by first | contradiction | (exfalso; omega) | (exfalso; simp_all; done)) (fun d1 d2 => by (exact pr_ok hU (by exact pr_lexeme hX.wf c1 c2) hK))
theorem p_takeStem {x : Int} (h : LI σ) (hx : zR x) (hK : ∀ s, LI s → K s) : vL_takeStem 0 x 297 (fun k s => vX7_takeStem 283 x (fun b s2 => TI K k b s2) s) σ := by
  obtain ⟨f, sv, hs, inp, hX, hM⟩ := h
  refine x_takeStem hX hx (fun c1 τ hU hf => ?_) (fun c1 τ hU hf => ?_)
  · refine ⟨fun _ => ?_, fun e => absurd e (by decide), fun e => absurd e (by decide), fun e => absurd e (by decide)⟩
    exact m_takeStem (pr_M hM hf) hx (fun d1 => by (exact pr_th hU (by decide) hK)) (fun d1 => by first | contradiction | (exfalso; omega) | (exfalso; simp_all; done))
  · refine ⟨by have w := (hX.wf.2.2.2.2.2.2 x.toNat (by omega)).2.1; have w1 := w.1; have w2 := w.2.1; exact zR_s (by omega) (by omega), by rw [zn297.1]; decide, fun s2 e2 => ?_⟩
    rw [e2]
    exact m_takeStem (pr_M2 hM hf) hx (fun d1 => by first | contradiction | (exfalso; omega) | (exfalso; simp_all; done)) (fun d1 => by (exact pr_ok hU (by have w := (hX.wf.2.2.2.2.2.2 x.toNat (by omega)).2.1; have w1 := w.1; have w2 := w.2.1; exact zR_s (by omega) (by omega)) hK))
theorem p_setException {x y : Int} (h : LI σ) (hx : zR x) (hy : zR y) (hK : ∀ s, LI s → K s) : vL_setException 0 x y 297 (fun k s => vX7_setException 283 x y (fun b s2 => TI K k b s2) s) σ := by
  obtain ⟨f, sv, hs, inp, hX, hM⟩ := h
  refine x_setException hX hx hy (fun c1 τ hU hf => ?_) (fun c1 c2 τ hU hf => ?_) (fun c1 c2 τ hU hf => ?_)
  · refine ⟨fun _ => ?_, fun e => absurd e (by decide), fun e => absurd e (by decide), fun e => absurd e (by decide)⟩
    exact m_setException (pr_M hM hf) hx hy (fun d1 => by (exact pr_th hU (by decide) hK)) (fun d1 d2 => by first | contradiction | (exfalso; omega) | (exfalso; simp_all; done)) (fun d1 d2 => by first | contradiction | (exfalso; omega) | (exfalso; simp_all; done))
  · refine ⟨fun e => absurd e (by decide), fun _ => ?_, fun e => absurd e (by decide), fun e => absurd e (by decide)⟩
    exact m_setException (pr_M hM hf) hx hy (fun d1 => by first | contradiction | (exfalso; omega) | (exfalso; simp_all; done)) (fun d1 d2 => by (exact pr_th hU (by decide) hK)) (fun d1 d2 => by first | contradiction | (exfalso; omega) | (exfalso; simp_all; done))
  · refine ⟨by exact pr_excS hX.wf (by omega), by rw [zn297.1]; decide, fun s2 e2 => ?_⟩
    rw [e2]
    exact m_setException (pr_M2 hM hf) hx hy (fun d1 => by first | contradiction | (exfalso; omega) | (exfalso; simp_all; done)) (fun d1 d2 => by first | contradiction | (exfalso; omega) | (exfalso; simp_all; done)) (fun d1 d2 => by (exact pr_ok hU (by exact pr_excS hX.wf (by omega)) hK))
theorem p_clearException {x y : Int} (h : LI σ) (hx : zR x) (hy : zR y) (hK : ∀ s, LI s → K s) : vL_clearException 0 x y 297 (fun k s => vX7_clearException 283 x y (fun b s2 => TI K k b s2) s) σ := by
  obtain ⟨f, sv, hs, inp, hX, hM⟩ := h
  refine x_clearException hX hx hy (fun c1 τ hU hf => ?_) (fun c1 c2 τ hU hf => ?_) (fun c1 c2 τ hU hf => ?_)
  · refine ⟨fun _ => ?_, fun e => absurd e (by decide), fun e => absurd e (by decide), fun e => absurd e (by decide)⟩
    exact m_clearException (pr_M hM hf) hx hy (fun d1 => by (exact pr_th hU (by decide) hK)) (fun d1 d2 => by first | contradiction | (exfalso; omega) | (exfalso; simp_all; done)) (fun d1 d2 => by first | contradiction | (exfalso; omega) | (exfalso; simp_all; done))
  · refine ⟨fun e => absurd e (by decide), fun e => absurd e (by decide), fun e => absurd e (by decide), fun _ => ?_⟩
    exact m_clearException (pr_M hM hf) hx hy (fun d1 => by first | contradiction | (exfalso; omega) | (exfalso; simp_all; done)) (fun d1 d2 => by (exact pr_th hU (by decide) hK)) (fun d1 d2 => by first | contradiction | (exfalso; omega) | (exfalso; simp_all; done))
  · refine ⟨by exact pr_excS hX.wf (by omega), by rw [zn297.1]; decide, fun s2 e2 => ?_⟩
    rw [e2]
    exact m_clearException (pr_M2 hM hf) hx hy (fun d1 => by first | contradiction | (exfalso; omega) | (exfalso; simp_all; done)) (fun d1 d2 => by first | contradiction | (exfalso; omega) | (exfalso; simp_all; done)) (fun d1 d2 => by (exact pr_ok hU (by exact pr_excS hX.wf (by omega)) hK))
theorem p_takeForm {x y : Int} (h : LI σ) (hx : zR x) (hy : zR y) (hK : ∀ s, LI s → K s) : vL_takeForm 0 x y 297 (fun k s => vX7_takeForm 283 x y (fun b s2 => TI K k b s2) s) σ := by
  obtain ⟨f, sv, hs, inp, hX, hM⟩ := h
  refine x_takeForm hX hx hy (fun c1 τ hU hf => ?_) (fun c1 c2 τ hU hf => ?_) (fun v1 c1 c2 c3 τ hU hf => ?_) (fun v1 c1 c2 c3 τ hU hf => ?_)
  · refine ⟨fun _ => ?_, fun e => absurd e (by decide), fun e => absurd e (by decide), fun e => absurd e (by decide)⟩
    exact m_takeForm (pr_M hM hf) hx hy (fun d1 => by (exact pr_th hU (by decide) hK)) (fun d1 d2 => by first | contradiction | (exfalso; omega) | (exfalso; simp_all; done)) (fun u1 d1 d2 d3 => by first | contradiction | (exfalso; omega) | (exfalso; simp_all; done)) (fun u1 d1 d2 d3 => by first | contradiction | (exfalso; omega) | (exfalso; simp_all; done))
  · refine ⟨fun e => absurd e (by decide), fun e => absurd e (by decide), fun e => absurd e (by decide), fun _ => ?_⟩
    exact m_takeForm (pr_M hM hf) hx hy (fun d1 => by first | contradiction | (exfalso; omega) | (exfalso; simp_all; done)) (fun d1 d2 => by (exact pr_th hU (by decide) hK)) (fun u1 d1 d2 d3 => by first | contradiction | (exfalso; omega) | (exfalso; simp_all; done)) (fun u1 d1 d2 d3 => by first | contradiction | (exfalso; omega) | (exfalso; simp_all; done))
  · refine ⟨fun e => absurd e (by decide), fun e => absurd e (by decide), fun e => absurd e (by decide), fun _ => ?_⟩
    exact m_takeForm (pr_M hM hf) hx hy (fun d1 => by first | contradiction | (exfalso; omega) | (exfalso; simp_all; done)) (fun d1 d2 => by first | contradiction | (exfalso; omega) | (exfalso; simp_all; done)) (fun u1 d1 d2 d3 => by (obtain rfl := Option.some.inj (c2.symm.trans d2); exact pr_th hU (by decide) hK)) (fun u1 d1 d2 d3 => by (obtain rfl := Option.some.inj (c2.symm.trans d2); first | contradiction | (exfalso; omega) | (exfalso; simp_all; done)))
  · refine ⟨by exact zR_s (by omega) (by omega), by rw [zn297.1]; decide, fun s2 e2 => ?_⟩
    rw [e2]
    exact m_takeForm (pr_M2 hM hf) hx hy (fun d1 => by first | contradiction | (exfalso; omega) | (exfalso; simp_all; done)) (fun d1 d2 => by first | contradiction | (exfalso; omega) | (exfalso; simp_all; done)) (fun u1 d1 d2 d3 => by (obtain rfl := Option.some.inj (c2.symm.trans d2); first | contradiction | (exfalso; omega) | (exfalso; simp_all; done))) (fun u1 d1 d2 d3 => by (obtain rfl := Option.some.inj (c2.symm.trans d2); exact pr_ok hU (by exact zR_s (by omega) (by omega)) hK))
theorem p_hasForm {x y : Int} (h : LI σ) (hx : zR x) (hy : zR y) (hK : ∀ s, LI s → K s) : vL_hasForm 0 x y 297 (fun k s => vX7_hasForm 283 x y (fun b s2 => TB K k b s2) s) σ := by
  obtain ⟨f, sv, hs, inp, hX, hM⟩ := h
  refine x_hasForm hX hx hy (fun c1 τ hU hf => ?_) (fun c1 τ hU hf => ?_)
  · refine ⟨fun _ => ?_, fun e => absurd e (by decide), fun e => absurd e (by decide), fun e => absurd e (by decide)⟩
    exact m_hasForm (pr_M hM hf) hx hy (fun d1 => by (exact pr_thB hU (by decide) hK)) (fun d1 => by first | contradiction | (exfalso; omega) | (exfalso; simp_all; done))
  · refine pr_wrB (PW := fun k s => vX7_hasForm 283 x y (fun b s2 => TB K k b s2) s) ?_
    exact m_hasForm (pr_M2 hM hf) hx hy (fun d1 => by first | contradiction | (exfalso; omega) | (exfalso; simp_all; done)) (fun d1 => by (exact pr_okB hU hK))
theorem p_missing {x : Int} (h : LI σ) (hx : zR x) (hK : ∀ s, LI s → K s) : vL_missing 0 x 297 (fun k s => vX7_missing 283 x (fun b s2 => TI K k b s2) s) σ := by
  obtain ⟨f, sv, hs, inp, hX, hM⟩ := h
  refine x_missing hX hx (fun c1 τ hU hf => ?_) (fun c1 τ hU hf => ?_)
  · refine ⟨fun _ => ?_, fun e => absurd e (by decide), fun e => absurd e (by decide), fun e => absurd e (by decide)⟩
    exact m_missing (pr_M hM hf) hx (fun d1 => by (exact pr_th hU (by decide) hK)) (fun d1 => by first | contradiction | (exfalso; omega) | (exfalso; simp_all; done))
  · refine ⟨by have w := misN_b (l := x.toNat) hX.wf (by omega); exact zR_s (by omega) (by omega), by rw [zn297.1]; decide, fun s2 e2 => ?_⟩
    rw [e2]
    exact m_missing (pr_M2 hM hf) hx (fun d1 => by first | contradiction | (exfalso; omega) | (exfalso; simp_all; done)) (fun d1 => by (exact pr_ok hU (by have w := misN_b (l := x.toNat) hX.wf (by omega); exact zR_s (by omega) (by omega)) hK))
theorem p_missingCell {x y : Int} (h : LI σ) (hx : zR x) (hy : zR y) (hK : ∀ s, LI s → K s) : vL_missingCell 0 x y 297 (fun k s => vX7_missingCell 283 x y (fun b s2 => TI K k b s2) s) σ := by
  obtain ⟨f, sv, hs, inp, hX, hM⟩ := h
  refine x_missingCell hX hx hy (fun c1 τ hU hf => ?_) (fun c1 c2 τ hU hf => ?_) (fun c1 c2 τ hU hf => ?_)
  · refine ⟨fun _ => ?_, fun e => absurd e (by decide), fun e => absurd e (by decide), fun e => absurd e (by decide)⟩
    exact m_missingCell (pr_M hM hf) hx hy (fun d1 => by (exact pr_th hU (by decide) hK)) (fun d1 d2 => by first | contradiction | (exfalso; omega) | (exfalso; simp_all; done)) (fun d1 d2 => by first | contradiction | (exfalso; omega) | (exfalso; simp_all; done))
  · refine ⟨fun e => absurd e (by decide), fun e => absurd e (by decide), fun e => absurd e (by decide), fun _ => ?_⟩
    exact m_missingCell (pr_M hM hf) hx hy (fun d1 => by first | contradiction | (exfalso; omega) | (exfalso; simp_all; done)) (fun d1 d2 => by (exact pr_th hU (by decide) hK)) (fun d1 d2 => by first | contradiction | (exfalso; omega) | (exfalso; simp_all; done))
  · refine ⟨by exact pr_mcel hX.wf (by omega), by rw [zn297.1]; decide, fun s2 e2 => ?_⟩
    rw [e2]
    exact m_missingCell (pr_M2 hM hf) hx hy (fun d1 => by first | contradiction | (exfalso; omega) | (exfalso; simp_all; done)) (fun d1 d2 => by first | contradiction | (exfalso; omega) | (exfalso; simp_all; done)) (fun d1 d2 => by (exact pr_ok hU (by exact pr_mcel hX.wf (by omega)) hK))
theorem p_uncovered (h : LI σ) (hK : ∀ s, LI s → K s) : vX6_uncovered 0 (fun r s => vX7_uncovered 283 (fun b s2 => T0 K r b s2) s) σ := by
  obtain ⟨f, sv, hs, inp, hX, hM⟩ := h
  refine x_uncovered hX (fun τ hU hf => ?_)
  have hM2 := pr_M hM hf
  exact m_uncovered hM2 (pr_0 hU (by have w := hX.wf.2.1; have w2 := cnt_le (inW f (covF f)) 16; exact zR_s (by omega) (by omega)) hK)
theorem p_lexemesOf {x : Int} (h : LI σ) (hx : zR x) (hK : ∀ s, LI s → K s) : vL_lexemesOf 0 x 297 (fun k s => vX7_lexemesOf 283 x (fun b s2 => TI K k b s2) s) σ := by
  obtain ⟨f, sv, hs, inp, hX, hM⟩ := h
  refine x_lexemesOf hX hx (fun c1 τ hU hf => ?_) (fun c1 τ hU hf => ?_)
  · refine ⟨fun _ => ?_, fun e => absurd e (by decide), fun e => absurd e (by decide), fun e => absurd e (by decide)⟩
    exact m_lexemesOf (pr_M hM hf) hx (fun d1 => by (exact pr_th hU (by decide) hK)) (fun d1 => by first | contradiction | (exfalso; omega) | (exfalso; simp_all; done))
  · refine ⟨by have w := lexW_b (w := x.toNat) hX.wf; exact zR_s (by omega) (by omega), by rw [zn297.1]; decide, fun s2 e2 => ?_⟩
    rw [e2]
    exact m_lexemesOf (pr_M2 hM hf) hx (fun d1 => by first | contradiction | (exfalso; omega) | (exfalso; simp_all; done)) (fun d1 => by (exact pr_ok hU (by have w := lexW_b (w := x.toNat) hX.wf; exact zR_s (by omega) (by omega)) hK))
theorem p_undo (h : LI σ) (hK : ∀ s, LI s → K s) : vL_undo 0 297 (fun k s => vX7_undo 283 (fun b s2 => TI K k b s2) s) σ := by
  obtain ⟨f, sv, hs, inp, hX, hM⟩ := h
  refine x_undo hX (fun c1 τ hU hf => ?_) (fun v1 c1 τ hU hf => ?_)
  · refine ⟨fun e => absurd e (by decide), fun e => absurd e (by decide), fun e => absurd e (by decide), fun _ => ?_⟩
    exact m_undo (pr_M hM hf) (fun g hg => hist_wf hX hg) (fun d1 => by (exact pr_th hU (by decide) hK)) (fun u1 d1 => by first | contradiction | (exfalso; omega) | (exfalso; simp_all; done))
  · refine ⟨by have w := hX.2.2.2.2.1.2.1; exact zR_s (by omega) (by omega), by rw [zn297.1]; decide, fun s2 e2 => ?_⟩
    rw [e2]
    exact m_undo (pr_M2 hM hf) (fun g hg => hist_wf hX hg) (fun d1 => by first | contradiction | (exfalso; omega) | (exfalso; simp_all; done)) (fun u1 d1 => by (obtain rfl := Option.some.inj (c1.symm.trans d1); exact pr_ok hU (by have w := hX.2.2.2.2.1.2.1; exact zR_s (by omega) (by omega)) hK))
theorem p_save (h : LI σ) (hK : ∀ s, LI s → K s) : vX6_save 0 (fun r s => vX7_save 283 (fun b s2 => T0 K r b s2) s) σ := by
  obtain ⟨f, sv, hs, inp, hX, hM⟩ := h
  refine x_save hX (fun τ hU hf => ?_)
  have hM2 := pr_M hM hf
  exact m_save hM2 (pr_0 hU (by have w := hX.wf.2.2.1; exact zR_s (by omega) (by omega)) hK)
theorem p_restore (h : LI σ) (hK : ∀ s, LI s → K s) : vL_restore 0 297 (fun k s => vX7_restore 283 (fun b s2 => TI K k b s2) s) σ := by
  obtain ⟨f, sv, hs, inp, hX, hM⟩ := h
  refine x_restore hX (fun c1 τ hU hf => ?_) (fun v1 c1 τ hU hf => ?_)
  · refine ⟨fun e => absurd e (by decide), fun e => absurd e (by decide), fun _ => ?_, fun e => absurd e (by decide)⟩
    exact m_restore (pr_M hM hf) (fun g hg => sav_wf hX hg) (fun d1 => by (exact pr_th hU (by decide) hK)) (fun u1 d1 => by first | contradiction | (exfalso; omega) | (exfalso; simp_all; done))
  · refine ⟨by have w := (sav_wf hX c1).2.2.1; exact zR_s (by omega) (by omega), by rw [zn297.1]; decide, fun s2 e2 => ?_⟩
    rw [e2]
    exact m_restore (pr_M2 hM hf) (fun g hg => sav_wf hX hg) (fun d1 => by first | contradiction | (exfalso; omega) | (exfalso; simp_all; done)) (fun u1 d1 => by (obtain rfl := Option.some.inj (c1.symm.trans d1); exact pr_ok hU (by have w := (sav_wf hX c1).2.2.1; exact zR_s (by omega) (by omega)) hK))
end
