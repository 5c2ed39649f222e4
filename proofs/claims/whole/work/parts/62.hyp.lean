/-! PURE: forms of a hypothesis; offering one -/
def insL (f : Nat → Int) (L : List (List Int)) (w : Nat) : Bool := decide ((w : Int) < f 1 ∧ fl f (wa w) ∈ L)
section
variable {f : Nat → Int} {p : Nat} {st : List Int}
theorem frm1_succ (n : Nat) : frm1 f p st (n + 1) = (match bldF f p n st with | none => frm1 f p st n | some l => if l ∈ frm1 f p st n then frm1 f p st n else frm1 f p st n ++ [l]) := rfl
theorem frm1_len : ∀ n, (frm1 f p st n).length ≤ n := by
  intro n
  induction n with
  | zero => exact Nat.le_refl _
  | succ n ih =>
    rw [frm1_succ]
    cases bldF f p n st with
    | none => exact Nat.le_succ_of_le ih
    | some l =>
      dsimp only
      split
      · exact Nat.le_succ_of_le ih
      · rw [List.length_append]; simp; exact ih
theorem frm1_mem {l : List Int} : ∀ n, l ∈ frm1 f p st n ↔ ∃ c, c < n ∧ bldF f p c st = some l := by
  intro n
  induction n with
  | zero => exact ⟨fun h => absurd h List.not_mem_nil, fun ⟨c, h, _⟩ => absurd h (Nat.not_lt_zero c)⟩
  | succ n ih =>
    rw [frm1_succ]
    have key : (∃ c, c < n + 1 ∧ bldF f p c st = some l) ↔ ((∃ c, c < n ∧ bldF f p c st = some l) ∨ bldF f p n st = some l) := by
      constructor
      · rintro ⟨c, h1, h2⟩
        by_cases e : c = n
        · subst e; exact Or.inr h2
        · exact Or.inl ⟨c, by omega, h2⟩
      · rintro (⟨c, h1, h2⟩ | h)
        · exact ⟨c, by omega, h2⟩
        · exact ⟨n, by omega, h⟩
    rw [key, ← ih]
    cases hb : bldF f p n st with
    | none => simp
    | some v =>
      dsimp only
      by_cases q : v ∈ frm1 f p st n
      · rw [if_pos q]
        constructor
        · intro h; exact Or.inl h
        · rintro (h | h)
          · exact h
          · have := Option.some.inj h; rw [← this]; exact q
      · rw [if_neg q, List.mem_append, List.mem_singleton]
        constructor
        · rintro (h | h)
          · exact Or.inl h
          · rw [h]; exact Or.inr rfl
        · rintro (h | h)
          · exact Or.inl h
          · exact Or.inr (Option.some.inj h).symm
/-- one more form -/
theorem insL_no {l : List Int} {L : List (List Int)} (h : attF f l < 0) (w : Nat) : insL f (L ++ [l]) w = insL f L w := by
  unfold insL
  apply decide_eq_decide.mpr
  rw [List.mem_append, List.mem_singleton]
  constructor
  · rintro ⟨a, b | b⟩
    · exact ⟨a, b⟩
    · exact absurd b (attF_neg h w a)
  · rintro ⟨a, b⟩
    exact ⟨a, Or.inl b⟩
theorem insL_yes {l : List Int} {L : List (List Int)} {r : Nat} (hw : wfF f) (h : attF f l = (r : Int)) (w : Nat) : insL f (L ++ [l]) w = (insL f L w || decide (w = r)) := by
  unfold insL
  rw [← Bool.decide_or]
  apply decide_eq_decide.mpr
  rw [List.mem_append, List.mem_singleton]
  have hr := attF_pos (f := f) (l := l) (by omega)
  rw [h, Int.toNat_natCast] at hr
  constructor
  · rintro ⟨a, b | b⟩
    · exact Or.inl ⟨a, b⟩
    · have := (att_iff hw a).mp b.symm
      exact Or.inr (by omega)
  · rintro (⟨a, b⟩ | e)
    · exact ⟨a, Or.inl b⟩
    · rw [e]
      exact ⟨hr.2, Or.inr hr.1⟩
theorem card_frm1 (hw : wfF f) : ∀ n, cnt (insL f (frm1 f p st n)) 16 = ((frm1 f p st n).filter (fun l => decide (0 ≤ attF f l))).length := by
  intro n
  induction n with
  | zero =>
    have : ∀ k, cnt (insL f []) k = 0 := by
      intro k
      induction k with
      | zero => rfl
      | succ k ih =>
        show cnt (insL f []) k + _ = 0
        rw [ih]
        have : insL f [] k = false := by unfold insL; exact decide_eq_false (fun z => absurd z.2 List.not_mem_nil)
        rw [this]
        rfl
    exact this 16
  | succ n ih =>
    rw [frm1_succ]
    cases bldF f p n st with
    | none => exact ih
    | some l =>
      dsimp only
      by_cases q : l ∈ frm1 f p st n
      · rw [if_pos q]; exact ih
      · rw [if_neg q, List.filter_append, List.length_append]
        by_cases a : attF f l < 0
        · rw [cnt_congr 16 (fun i _ => insL_no a i), ih]
          rw [List.filter_cons, decide_eq_false (by omega)]
          rfl
        · obtain ⟨r, hr⟩ : ∃ r : Nat, attF f l = (r : Int) := ⟨(attF f l).toNat, by omega⟩
          have b := attF_b hw l
          have hp := attF_pos (f := f) (l := l) (by omega)
          rw [hr, Int.toNat_natCast] at hp
          rw [cnt_add (S := insL f (frm1 f p st n)) (T := insL f (frm1 f p st n ++ [l])) (r := r) (by
            unfold insL
            exact decide_eq_false (fun z => q (by rw [← hp.1]; exact z.2))) (by rw [insL_yes hw hr]; simp) 16 (fun i _ hi => by rw [insL_yes hw hr, decide_eq_false hi, Bool.or_false]), ih, if_pos (by omega)]
          rw [List.filter_cons, decide_eq_true (by omega)]
          rfl
theorem expl_b (hw : wfF f) (hp : (p : Int) < f 0) : expl f p st ≤ (frms f p st).length ∧ (frms f p st).length ≤ 6 := by
  have c6 := (hw.2.2.2.1 p hp).1
  have := frm1_len (f := f) (p := p) (st := st) (f (pa p)).toNat
  have l2 := List.length_filter_le (fun l => decide (0 ≤ attF f l)) (frms f p st)
  unfold expl
  unfold frms at *
  omega
theorem isH_b (hw : wfF f) (h : isH f p st) : p < 6 ∧ 2 ≤ st.length ∧ st.length ≤ 10 ∧ ab st ∧ expl f p st ≤ 6 ∧ (frms f p st).length - expl f p st < 8 ∧ (frms f p st).length ≤ 6 := by
  obtain ⟨h1, h2, h3, h4⟩ := h
  have p6 := hw.1
  have e := expl_b (st := st) hw h1
  unfold alwF alw at h3
  rw [Bool.and_eq_true] at h3
  have := of_decide_eq_true h3.1
  exact ⟨by omega, this.1, this.2, h2, by omega, by omega, by omega⟩
theorem lnum_inj : ∀ (n : Nat) (l l' : List Int), l.length = n → l'.length = n → ab l → ab l' → lnum l = lnum l' → l = l' := by
  intro n l l' h1 h2 a a' e
  apply List.ext_getElem (by omega)
  intro i hi hi'
  have d := lnum_dig a hi
  have d' := lnum_dig a' hi'
  rw [e, h1, ← h2, d'] at d
  have x := a l[i] (List.getElem_mem hi)
  have x' := a' l'[i] (List.getElem_mem hi')
  omega
theorem pairN_inj {p p' : Nat} {l l' : List Int} (hp : p < 8) (hp' : p' < 8) (hl : l.length ≤ 10) (hl' : l'.length ≤ 10) (ha : ab l) (ha' : ab l') (h : pairN p l = pairN p' l') : p = p' ∧ l = l' := by
  have b := lnum_50 hl ha
  have b' := lnum_50 hl' ha'
  unfold pairN at h
  have e : l.length = l'.length := by omega
  exact ⟨by omega, lnum_inj _ l l' e rfl ha ha' (by omega)⟩
theorem key_pair {e u e' u' p p' : Nat} {l l' : List Int} (hp : p < 8) (hp' : p' < 8) (hl : l.length ≤ 10) (hl' : l'.length ≤ 10) (ha : ab l) (ha' : ab l') (h : keyN e u p l = keyN e' u' p' l') : pairN p l = pairN p' l' := by
  have b := pairN_lt hp hl ha
  have b' := pairN_lt hp' hl' ha'
  unfold keyN at h
  omega
theorem keyF_inj {p' : Nat} {st' : List Int} (hw : wfF f) (h : isH f p st) (h' : isH f p' st') (e : keyF f p st = keyF f p' st') : p = p' ∧ st = st' := by
  have b := isH_b hw h
  have b' := isH_b hw h'
  exact pairN_inj (by omega) (by omega) b.2.2.1 b'.2.2.1 b.2.2.2.1 b'.2.2.2.1 (key_pair (by omega) (by omega) b.2.2.1 b'.2.2.1 b.2.2.2.1 b'.2.2.2.1 e)
end
/-! the class offers a hypothesis -/
def ents (σ : Sto) (r : Nat) (f : Nat → Int) (L : List (Nat × List Int)) : Prop := σ r 2 = (L.length : Int) ∧ (∀ i q, L[i]? = some q → σ (r + 1) i = ((keyF f q.1 q.2 : Nat) : Int) ∧ σ (r + 2) i = ((bs (exw f q.1 q.2) 16 : Nat) : Int)) ∧ ∀ q ∈ L, isH f q.1 q.2
theorem hy_k {r : Nat} (h : zk r = 1) : (zk (r + 3) = 3 ∧ zk (r + 5) = 3 ∧ zk (r + 7) = 4) ∧ zw (r + 7) = 15 ∧ zn (r + 7 + 1) = 6 ∧ zn (r + 1) = 2880 ∧ zn (r + 2) = 2880 := zk_all (P := fun r => zk r = 1 → (zk (r + 3) = 3 ∧ zk (r + 5) = 3 ∧ zk (r + 7) = 4) ∧ zw (r + 7) = 15 ∧ zn (r + 7 + 1) = 6 ∧ zn (r + 1) = 2880 ∧ zn (r + 2) = 2880) (by decide +kernel) h (by decide) h
def hR (σ τ : Sto) (r : Nat) : Prop := ∀ i, (i < r + 5 ∨ r + 9 < i) → τ i = σ i
theorem hR.trans {σ τ υ : Sto} {r : Nat} (h : hR σ τ r) (h2 : hR τ υ r) : hR σ υ r := fun i hi => (h2 i hi).trans (h i hi)
theorem hR.refl {σ : Sto} {r : Nat} : hR σ σ r := fun _ _ => rfl
def gR (σ τ : Sto) (r : Nat) : Prop := (∀ i, (i < r ∨ r + 9 < i) → τ i = σ i) ∧ ∀ j, j ≠ 2 → τ r j = σ r j
theorem gR.trans {σ τ υ : Sto} {r : Nat} (h : gR σ τ r) (h2 : gR τ υ r) : gR σ υ r := ⟨fun i hi => (h2.1 i hi).trans (h.1 i hi), fun j hj => (h2.2 j hj).trans (h.2 j hj)⟩
theorem gR.refl {σ : Sto} {r : Nat} : gR σ σ r := ⟨fun _ _ => rfl, fun _ _ => rfl⟩
theorem hR.g {σ τ : Sto} {r : Nat} (h : hR σ τ r) : gR σ τ r := ⟨fun i hi => h i (by omega), fun j _ => by rw [h r (by omega)]⟩
theorem ents.fr {σ τ : Sto} {r : Nat} {f : Nat → Int} {L : List (Nat × List Int)} (h : ents σ r f L) (e0 : τ r 2 = σ r 2) (e1 : τ (r + 1) = σ (r + 1)) (e2 : τ (r + 2) = σ (r + 2)) : ents τ r f L := ⟨by rw [e0]; exact h.1, by rw [e1, e2]; exact h.2.1, h.2.2⟩
section
variable {σ τ : Sto} {r b p : Nat} {f : Nat → Int} {P Q : Sto → Prop} {st : List Int} {L : List (Nat × List Int)}
theorem x_offer_31 (hr : zk r = 1) (hb : zk b = 2) (hbr : b + 21 < r) (hw : wfF f) (hp : (p : Int) < f 0) (hst : wok σ (r + 3) 10) (hsl : wl σ (r + 3) = st) (halw : alwF f p st = true) (hE : ents σ r f L) (hlen : L.length < 2880)
    (h1 : ∀ τ L', gR σ τ r → τ (r + 3) = σ (r + 3) → τ (r + 4) = σ (r + 4) → ents τ r f L' → (∀ q ∈ L, q ∈ L') → L'.length ≤ L.length + 1 → (isH f p st → (p, st) ∈ L') → Q τ) :
    ∀ (n c : Nat) (τ : Sto), repS τ b f → hR σ τ r → (c : Int) ≤ f (pa p) → f (pa p) - c < n → (∀ j v, (frm1 f p st c)[j]? = some v → tok τ (r + 7) j ∧ tl τ (r + 7) j = v) → vX1_offer_31 r b Q n (p : Int) ((frm1 f p st c).length : Int) ((bs (insL f (frm1 f p st c)) 16 : Nat) : Int) (c : Int) τ := by
  intro n
  induction n with
  | zero => intro c τ a1 a2 a3 a4; omega
  | succ n ih =>
    intro c τ hrep ht hc hn hF
    have K := hy_k hr
    have p6 := hw.1
    have wp := hw.2.2.2.1 p hp
    have c6 := wp.1
    have fl1 := frm1_len (f := f) (p := p) (st := st) c
    have rp := ((hrep.2.1 p (by omega)).1 hp).1
    have n1 : zn (b + 1) = 6 := st_n hb 1 (by decide)
    have es : τ (r + 3) = σ (r + 3) := ht _ (by omega)
    have es4 : τ (r + 3 + 1) = σ (r + 3 + 1) := ht _ (by omega)
    obtain ⟨okτ, eτ⟩ := hst.fr (τ := τ) es es4
    rw [hsl] at eτ
    unfold vX1_offer_31 bX1_offer_31
    rw [Int.toNat_natCast, rp]
    refine ⟨by omega, by omega, zR_s (by omega) (by omega), zR_s (by omega) (by omega), fun z => ?_, fun z => ?_⟩
    · have ec : c = (f (pa p)).toNat := by omega
      have ef : frm1 f p st c = frms f p st := by unfold frms; rw [ec]
      have ecard := card_frm1 (p := p) (st := st) hw c
      rw [ef] at ecard
      have ex : cnt (insL f (frms f p st)) 16 = expl f p st := ecard
      have eb := expl_b (st := st) hw hp
      have hEτ : ents τ r f L := hE.fr (by rw [ht _ (by omega)]) (ht _ (by omega)) (ht _ (by omega))
      rw [ef]
      refine s_bitCount ?_
      rw [ex]
      refine ⟨zR_s (by omega) (by omega), fun q => ?_, fun q => ?_⟩
      · exact h1 τ L ht.g es es4 hEτ (fun _ h => h) (by omega) (fun h => by have := h.2.2.2; omega)
      · have hH : isH f p st := ⟨hp, by rw [← hsl]; exact hst.2.2.2.2, halw, by omega⟩
        have := s_of (k := r + 3) (n0 := 10) (p := p) (e := expl f p st) (u := (frms f p st).length - expl f p st) (σ := τ) (P := fun r3 s3 => 0 ≤ (τ r 2) ∧ (τ r 2) < (zn (r + 1) : Int) ∧ (∀ s4 : Sto, s4 = zu s3 (r + 1) (Int.toNat (τ r 2)) r3 → (0 ≤ (s4 r 2) ∧ (s4 r 2) < (zn (r + 2) : Int) ∧ (∀ s5 : Sto, s5 = zu s4 (r + 2) (Int.toNat (s4 r 2)) ((bs (insL f (frms f p st)) 16 : Nat) : Int) → (∀ s6 : Sto, s6 = zu s5 r 2 ((s5 r 2) + 1) → (vX1_offer_194 r b Q s6)))))) okτ (by omega) (by omega) (by omega) (by omega) (by
          rw [eτ]
          have e2 : τ r 2 = (L.length : Int) := hEτ.1
          rw [e2, Int.toNat_natCast]
          refine ⟨by omega, by omega, fun s4 q4 => ?_⟩
          have e42 : s4 r 2 = (L.length : Int) := by rw [q4, zu_ne (by omega)]; exact e2
          rw [e42, Int.toNat_natCast]
          refine ⟨by omega, by omega, fun s5 q5 s6 q6 => ?_⟩
          have ne : ∀ i, i ≠ r → i ≠ r + 1 → i ≠ r + 2 → s6 i = τ i := fun i a1 a2 a3 => by rw [q6, zu_ne a1, q5, zu_ne a3, q4, zu_ne a2]
          refine h1 s6 (L ++ [(p, st)]) ⟨fun i hi => by rw [ne i (by omega) (by omega) (by omega), ht i (by omega)], fun j hj => by rw [q6, zu_j hj, q5, zu_ne (by omega), q4, zu_ne (by omega), ht _ (by omega)]⟩ (by rw [ne _ (by omega) (by omega) (by omega)]; exact es) (by rw [ne _ (by omega) (by omega) (by omega)]; exact es4) ⟨?_, fun i q hq => ?_, fun q hq => ?_⟩ (fun q h => List.mem_append_left _ h) (by simp) (fun _ => by simp)
          · rw [q6, zu_eq, q5, zu_ne (by omega), e42]
            simp
          · by_cases e : i = L.length
            · subst e
              rw [List.getElem?_append_right (Nat.le_refl _)] at hq
              simp at hq
              subst hq
              refine ⟨by rw [q6, zu_ne (by omega), q5, zu_ne (by omega), q4, zu_eq]; rfl, ?_⟩
              rw [q6, zu_ne (by omega), q5, zu_eq]
              rfl
            · have hi : i < L.length := by
                have := (List.getElem?_eq_some_iff.mp hq).1
                rw [List.length_append] at this
                simp at this
                omega
              rw [List.getElem?_append_left hi] at hq
              have o := hEτ.2.1 i q hq
              exact ⟨by rw [q6, zu_ne (by omega), q5, zu_ne (by omega), q4, zu_j e]; exact o.1, by rw [q6, zu_ne (by omega), q5, zu_j e, q4, zu_ne (by omega)]; exact o.2⟩
          · rcases List.mem_append.mp hq with h | h
            · exact hE.2.2 q h
            · rw [List.mem_singleton] at h
              rw [h]
              exact hH)
        rw [show (((frms f p st).length - expl f p st : Nat) : Int) = ((frms f p st).length : Int) - (expl f p st : Int) by omega] at this
        exact this
    · have hc2 : (c : Int) < f (pa p) := by omega
      unfold vX6_cellSlot
      rw [show (p : Int) * 6 + (c : Int) = ((6 * p + c : Nat) : Int) by omega]
      -- the next cell, with the same forms
      have same : ∀ υ, hR τ υ r → repS υ b f → frm1 f p st (c + 1) = frm1 f p st c → (∀ j v, (frm1 f p st c)[j]? = some v → tok υ (r + 7) j ∧ tl υ (r + 7) j = v) → vX1_offer_132 r b Q (vX1_offer_31 r b Q n) (p : Int) ((frm1 f p st c).length : Int) ((bs (insL f (frm1 f p st c)) 16 : Nat) : Int) (c : Int) υ := fun υ hυ hrυ ef hFυ => by
        have := ih (c + 1) υ hrυ (ht.trans hυ) (by omega) (by omega) (by rw [ef]; exact hFυ)
        rw [ef] at this
        exact_mod_cast this
      have repk : ∀ υ, hR τ υ r → repS υ b f := fun υ hυ => hrep.fr (fun i a1 a2 => hυ i (by omega))
      refine sx_build hb hrep hw hp hc2 okτ K.1.2.1 (by omega) (by omega) ?_ ?_
      · rw [eτ]
        intro e υ hυ
        have hυ' : hR τ υ r := fun i hi => hυ i (by simp <;> omega)
        refine ⟨zR_0, fun _ => same υ hυ' (repk υ hυ') (by rw [frm1_succ, e]) (fun j v hv => ?_), fun a => absurd rfl a⟩
        obtain ⟨t1, t2⟩ := hF j v hv
        have := t1.fr (τ := υ) (hυ _ (by simp <;> omega)) (hυ _ (by simp <;> omega))
        exact ⟨this.1, by rw [this.2]; exact t2⟩
      · rw [eτ]
        intro l υ e hυ ok
        have hυ' : hR τ υ r := fun i hi => hυ.1 i (by simp <;> omega)
        have hFυ : ∀ j v, (frm1 f p st c)[j]? = some v → tok υ (r + 7) j ∧ tl υ (r + 7) j = v := fun j v hv => by
          obtain ⟨t1, t2⟩ := hF j v hv
          have := t1.fr (τ := υ) (hυ.1 _ (by simp <;> omega)) (hυ.1 _ (by simp <;> omega))
          exact ⟨this.1, by rw [this.2]; exact t2⟩
        have hg : ∀ j, j < (frm1 f p st c).length → tok υ (r + 7) j ∧ some (tl υ (r + 7) j) = (frm1 f p st c)[j]? := fun j hj => by
          have := hFυ j _ (List.getElem?_eq_getElem hj)
          exact ⟨this.1, by rw [this.2, List.getElem?_eq_getElem hj]⟩
        refine ⟨zRl rfl, fun a => absurd a (by decide), fun _ => s_find (by rw [K.2.2.1]; omega) (fun j hj => (hg j hj).1) ok ?_⟩
        rw [hυ.2.1]
        have fb := fidx_ge (g := tl υ (r + 7)) (l := l) (frm1 f p st c).length 0
        refine ⟨zR_s (by omega) (by omega), fun q => ?_, fun q => ?_⟩
        · -- there already
          obtain ⟨g1, g2⟩ := fidx_pos (g := tl υ (r + 7)) (l := l) (frm1 f p st c).length 0 q
          have hm : l ∈ frm1 f p st c := by
            have := (hg (fidx (tl υ (r + 7)) l (frm1 f p st c).length 0).toNat (by omega)).2
            rw [g1] at this
            exact List.mem_of_getElem? this.symm
          exact same υ hυ' (repk υ hυ') (by rw [frm1_succ, e]; exact if_pos hm) hFυ
        · have hm : ¬ l ∈ frm1 f p st c := fun hm => by
            obtain ⟨j, hj, ej⟩ := List.getElem_of_mem hm
            have := fidx_neg (g := tl υ (r + 7)) (l := l) (frm1 f p st c).length 0 (by omega) j (by omega) (by omega)
            have h2 := (hg j hj).2
            rw [List.getElem?_eq_getElem hj, ej] at h2
            exact this (Option.some.inj h2)
          have ef : frm1 f p st (c + 1) = frm1 f p st c ++ [l] := by rw [frm1_succ, e]; exact if_neg hm
          have ll : ((l.length : Nat) : Int) ≤ 15 := by have := wl_len ok; rw [hυ.2.1] at this; have := ok.2.2.1; omega
          have elen : υ (r + 5) 1 = (l.length : Int) := hυ.2.2
          rw [elen]
          have := s_put (t := r + 7) (j := (frm1 f p st c).length) (w := r + 5) (fm := 0) (to := l.length) (σ := υ) (P := fun s10 => vX5_find (b + 15) (r + 5) (s10 b 9) (fun r11 s11 => zR r11 ∧ ((r11 < 0) → vX1_offer_132 r b Q (vX1_offer_31 r b Q n) (p : Int) (((frm1 f p st c).length : Int) + 1) ((bs (insL f (frm1 f p st c)) 16 : Nat) : Int) (c : Int) s11) ∧ ((¬ (r11 < 0)) → vX1_offer_132 r b Q (vX1_offer_31 r b Q n) (p : Int) (((frm1 f p st c).length : Int) + 1) (zor ((bs (insL f (frm1 f p st c)) 16 : Nat) : Int) (zishl 1 r11)) (c : Int) s11)) s10) K.1.2.2 (by rw [K.2.2.1]; omega) ok (by omega) (by rw [elen]; omega) (by rw [K.2.1]; omega) ⟨by omega, by omega, by omega, by omega⟩ (fun s10 h10 => by
            rw [hυ.2.1, List.drop_zero, Nat.sub_zero, List.take_length] at h10
            have h10' : hR υ s10 r := fun i hi => h10.1 i (by simp <;> omega)
            have rep10 : repS s10 b f := repk s10 (hυ'.trans h10')
            have ok10 := ok.fr (τ := s10) (h10.1 _ (by simp <;> omega)) (h10.1 _ (by simp <;> omega))
            have ab' := attF_b hw l
            have hF10 : ∀ j v, (frm1 f p st (c + 1))[j]? = some v → tok s10 (r + 7) j ∧ tl s10 (r + 7) j = v := fun j v hv => by
              rw [ef] at hv
              by_cases ej : j = (frm1 f p st c).length
              · subst ej
                rw [List.getElem?_append_right (Nat.le_refl _)] at hv
                simp at hv
                subst hv
                exact ⟨⟨K.1.2.2, by rw [K.2.2.1]; omega, by rw [h10.2.1]; omega, by rw [h10.2.1, K.2.1]; omega, by rw [h10.2.2.1, ← hυ.2.1]; exact ok.2.2.2.2⟩, h10.2.2.1⟩
              · have hj : j < (frm1 f p st c).length := by
                  have := (List.getElem?_eq_some_iff.mp hv).1
                  rw [List.length_append] at this
                  simp at this
                  omega
                rw [List.getElem?_append_left hj] at hv
                obtain ⟨t1, t2⟩ := hFυ j v hv
                have ot := h10.other ej (by have := t1.2.2.2.1; omega)
                exact ⟨⟨t1.1, t1.2.1, by rw [h10.2.2.2.1 j ej]; exact t1.2.2.1, by rw [h10.2.2.2.1 j ej]; exact t1.2.2.2.1, by rw [ot]; exact t1.2.2.2.2⟩, by rw [ot]; exact t2⟩
            have nx : ∀ B, B = ((bs (insL f (frm1 f p st (c + 1))) 16 : Nat) : Int) → vX1_offer_132 r b Q (vX1_offer_31 r b Q n) (p : Int) (((frm1 f p st c).length : Int) + 1) B (c : Int) s10 := fun B eB => by
              subst eB
              have := ih (c + 1) s10 rep10 (ht.trans (hυ'.trans h10')) (by omega) (by omega) hF10
              have e3 : (((frm1 f p st (c + 1)).length : Nat) : Int) = ((frm1 f p st c).length : Int) + 1 := by rw [ef, List.length_append]; simp
              rw [e3] at this
              exact_mod_cast this
            refine sx_find hb rep10 hw ok10.1 ?_
            rw [ok10.2, hυ.2.1]
            refine ⟨zR_s (by omega) (by omega), fun q2 => nx _ ?_, fun q2 => nx _ ?_⟩
            · congr 1
              exact bs_congr 16 (fun i _ => by rw [ef, insL_no q2])
            · obtain ⟨w, hw'⟩ : ∃ w : Nat, attF f l = (w : Int) := ⟨(attF f l).toNat, by omega⟩
              rw [hw']
              exact bs_or (by omega) (fun i _ => by rw [ef, insL_yes hw hw']))
          exact this
theorem x_offer (hr : zk r = 1) (hb : zk b = 2) (hbr : b + 21 < r) (hrep : repS σ b f) (hw : wfF f) (hp : (p : Int) < f 0) (hst : wok σ (r + 3) 18) (hE : ents σ r f L) (hlen : L.length < 2880)
    (h1 : ∀ τ L', gR σ τ r → τ (r + 3) = σ (r + 3) → τ (r + 4) = σ (r + 4) → ents τ r f L' → (∀ q ∈ L, q ∈ L') → L'.length ≤ L.length + 1 → (isH f p (wl σ (r + 3)) → (p, wl σ (r + 3)) ∈ L') → Q τ) : vX1_offer r b (p : Int) Q σ := by
  have e2 := hE.1
  have c6 := (hw.2.2.2.1 p hp).1
  refine ⟨by rw [e2]; exact zR_s (by omega) (by omega), fun z => by omega, fun z => sx_allows hb hrep hw hp hst ⟨b2i_R _, fun q => ⟨7, ?_⟩, fun q => ?_⟩⟩
  · have q := b2i_1.mp q
    have hl : (wl σ (r + 3)).length ≤ 10 := by
      unfold alwF alw at q
      rw [Bool.and_eq_true] at q
      exact (of_decide_eq_true q.1).2
    have l1 := wl_len hst
    have := x_offer_31 (σ := σ) (Q := Q) hr hb hbr hw hp ⟨hst.1, hst.2.1, by omega, by decide, hst.2.2.2.2⟩ rfl q hE hlen h1 7 0 σ hrep hR.refl (by omega) (by omega) (fun j v hv => by exact absurd hv (by simp [frm1]))
    rw [show bs (insL f (frm1 f p (wl σ (r + 3)) 0)) 16 = 0 from (bs_ext (S := insL f (frm1 f p (wl σ (r + 3)) 0)) (n := 16) (B := 0) (by decide) (fun i _ => by
      unfold insL frm1
      simp)).symm] at this
    exact_mod_cast this
  · exact h1 σ L gR.refl rfl rfl hE (fun _ h => h) (by omega) (fun h => by
      have := h.2.2.1
      rw [b2i_0.mp q] at this
      exact absurd this (by decide))
end
