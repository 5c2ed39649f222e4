/-! PURE: the word list changes -/
theorem fidx_neg {g : Nat → List Int} {l : List Int} : ∀ (n j : Nat), fidx g l n j < 0 → ∀ i, j ≤ i → i < j + n → g i ≠ l := by
  intro n
  induction n with
  | zero => intro j _ i a b; omega
  | succ n ih =>
    intro j h i a b
    unfold fidx at h
    split at h
    · omega
    · next q =>
      by_cases e : i = j
      · subst e; exact q
      · exact ih (j + 1) h i (by omega) (by omega)
theorem fidx_pos {g : Nat → List Int} {l : List Int} : ∀ (n j : Nat), 0 ≤ fidx g l n j → g (fidx g l n j).toNat = l ∧ (fidx g l n j).toNat < j + n := by
  intro n
  induction n with
  | zero => intro j h; exact absurd h (by unfold fidx; omega)
  | succ n ih =>
    intro j h
    unfold fidx at h ⊢
    split at h
    · next q =>
      rw [if_pos q]
      exact ⟨by rw [Int.toNat_natCast]; exact q, by omega⟩
    · next q =>
      rw [if_neg q]
      have := ih (j + 1) h
      exact ⟨this.1, by omega⟩
theorem attF_b {f : Nat → Int} (hw : wfF f) (l : List Int) : -1 ≤ attF f l ∧ attF f l < f 1 ∧ attF f l ≤ 15 := by
  have h := hw.2.1
  unfold attF
  rcases fidx_ge (g := fun w => fl f (wa w)) (l := l) (f 1).toNat 0 with q | q
  · omega
  · omega
theorem attF_neg {f : Nat → Int} {l : List Int} (h : attF f l < 0) (w : Nat) (hw : (w : Int) < f 1) : fl f (wa w) ≠ l := fidx_neg (f 1).toNat 0 h w (by omega) (by omega)
theorem attF_pos {f : Nat → Int} {l : List Int} (h : 0 ≤ attF f l) : fl f (wa (attF f l).toNat) = l ∧ ((attF f l).toNat : Int) < f 1 := by
  have := fidx_pos (g := fun w => fl f (wa w)) (l := l) (f 1).toNat 0 h
  refine ⟨this.1, ?_⟩
  have h2 := this.2
  have e : attF f l = fidx (fun w => fl f (wa w)) l (f 1).toNat 0 := rfl
  rw [← e] at h2
  omega
theorem wf_wrd {f g : Nat → Int} (hw : wfF f) (e : ∀ i, i ≠ 1 → (i < 483 ∨ 723 ≤ i) → i < 1743 → g i = f i) (h1 : 0 ≤ g 1 ∧ g 1 ≤ 16) (hwd : ∀ w : Nat, (w : Int) < g 1 → wd g (wa w) 2 14) (hd : ∀ w v : Nat, (w : Int) < g 1 → (v : Int) < g 1 → fl g (wa w) = fl g (wa v) → w = v) : wfF g := by
  obtain ⟨w1, w2, w3, w4, w5, w6, w7⟩ := hw
  have e0 := e 0 (by decide) (by omega) (by omega)
  have e2 := e 2 (by decide) (by omega) (by omega)
  refine ⟨by rw [e0]; exact w1, h1, by rw [e2]; exact w3, fun p hp => ?_, hwd, hd, fun k hk => ?_⟩
  · rw [e0] at hp
    exact (w4 p hp).on (fun i a b => (e i (by unfold pa at a; omega) (by unfold pa at b; omega) (by unfold pa at b; omega)).symm)
  · rw [e2] at hk
    exact (w7 k hk).on (fun i a b => (e i (by unfold la at a; omega) (by unfold la at a; omega) (by unfold la at b; omega)).symm) (by omega)
theorem rep_wrd {σ τ : Sto} {b : Nat} {f g : Nat → Int} (hw : wfF f) (hr : repS σ b f) (e : ∀ i, i ≠ 1 → (i < 483 ∨ 723 ≤ i) → i < 1743 → g i = f i) (e0 : τ b 0 = σ b 0) (e11 : τ b 11 = σ b 11) (h9 : τ b 9 = g 1) (eo : ∀ i, (b + 1 ≤ i ∧ i ≤ b + 14) ∨ (b + 18 ≤ i ∧ i ≤ b + 21) → τ i = σ i) (ht : ∀ w : Nat, (w : Int) < g 1 → tw1 τ (b + 15) w g (wa w)) : repS τ b g := by
  obtain ⟨w1, w2, w3, w4, w5, w6, w7⟩ := hw
  obtain ⟨r1, r2, r3, r4⟩ := hr
  have f0 := e 0 (by decide) (by omega) (by omega)
  have f2 := e 2 (by decide) (by omega) (by omega)
  refine ⟨⟨by rw [e0, f0]; exact r1.1, h9, by rw [e11, f2]; exact r1.2.2⟩, fun p hp => ⟨fun hp2 => ?_, fun hp2 => ?_⟩, ht, fun k hk => ⟨fun hk2 => ?_, fun hk2 c hc => by rw [eo _ (by omega)]; exact (r4 k hk).2 (by rw [← f2]; exact hk2) c hc⟩⟩
  · rw [f0] at hp2
    have r := (r2 p hp).1 hp2
    have r' : repP τ b f p := r.fr (by rw [eo _ (by omega)]) (by rw [eo _ (by omega)]) (by rw [eo _ (by omega)]) (fun _ t => t.fr (eo _ (by omega)) (eo _ (by omega))) (fun c _ t => ⟨by rw [eo _ (by omega)]; exact t.1, by rw [eo _ (by omega)]; exact t.2.1, t.2.2.1.fr (eo _ (by omega)) (eo _ (by omega)), t.2.2.2.fr (eo _ (by omega)) (eo _ (by omega))⟩)
    exact r'.on (fun i a b => (e i (by unfold pa at a; omega) (by unfold pa at b; omega) (by unfold pa at b; omega)).symm) (w4 p hp2)
  · rw [eo _ (by omega), eo _ (by omega), eo _ (by omega)]
    exact (r2 p hp).2 (by rw [← f0]; exact hp2)
  · rw [f2] at hk2
    have q := (r4 k hk).1 hk2
    have q' : repL τ b f k := ⟨by rw [eo (b + 18) (by omega)]; exact q.1, fun c hc => (q.2 c hc).fr (eo _ (by omega)) (eo _ (by omega))⟩
    exact q'.on (fun i a c => (e i (by unfold la at a; omega) (by unfold la at a; omega) (by unfold la at c; omega)).symm) (w7 k hk2)
def uAdd (f : Nat → Int) (inp : List Int) (g : Nat → Int) : Prop := g 1 = f 1 + 1 ∧ isWd g (wa (f 1).toNat) inp ∧ ∀ i, i ≠ 1 → ¬ (wa (f 1).toNat ≤ i ∧ i < wa (f 1).toNat + 15) → g i = f i
section
variable {σ τ : Sto} {k m : Nat} {f g : Nat → Int} {sv : Option (Nat → Int)} {hs : List (Nat → Int)} {inp inp' : List Int} {P : Int → Sto → Prop} {X : Nat → Sto → Prop} {Q : Sto → Prop} {x y w kd pr : Int}
theorem uAdd.words (hw : wfF f) (h16 : f 1 < 16) (u : uAdd f inp g) (w : Nat) (h : (w : Int) < f 1) : wd g (wa w) 2 14 ∧ fl g (wa w) = fl f (wa w) := by
  have h0 := hw.2.1
  exact wfW.on (fun i a b => (u.2.2 i (by unfold wa at a; omega) (by unfold wa at *; omega)).symm) (hw.2.2.2.2.1 w h)
theorem uAdd.wf (hw : wfF f) (h16 : f 1 < 16) (hl : 2 ≤ inp.length ∧ inp.length ≤ 14) (ha : ab inp) (hn : attF f inp < 0) (u : uAdd f inp g) : wfF g := by
  have h0 := hw.2.1
  obtain ⟨u1, u2, u3⟩ := id u
  have ow := uAdd.words hw h16 u
  have e : ∀ w : Nat, (w : Int) < g 1 → ¬ (w : Int) < f 1 → w = (f 1).toNat := fun w a b => by omega
  refine wf_wrd hw (fun i a b c => u3 i a (by unfold wa; omega)) (by omega) (fun w h => ?_) (fun w v hw' hv' ew => ?_)
  · by_cases q : (w : Int) < f 1
    · exact (ow w q).1
    · rw [e w h q]
      exact u2.wd (by omega) (by omega) ha
  · by_cases q : (w : Int) < f 1
    · by_cases q' : (v : Int) < f 1
      · rw [(ow w q).2, (ow v q').2] at ew
        exact hw.2.2.2.2.2.1 w v q q' ew
      · rw [(ow w q).2, e v hv' q', u2.2] at ew
        exact absurd ew (attF_neg hn w q)
    · by_cases q' : (v : Int) < f 1
      · rw [(ow v q').2, e w hw' q, u2.2] at ew
        exact absurd ew.symm (attF_neg hn v q')
      · rw [e w hw' q, e v hv' q']
theorem x_push0 (h : XI σ k f sv hs inp) (h1 : ∀ τ, XI τ k f sv (pushH hs f) inp → (∀ i, (i < k + 47 ∨ k + 268 < i) → τ i = σ i) → Q τ) : vX0_push (k + 47) (k + 3) Q σ := by
  refine s_push h.1 h.st h.wf h.2.2.2.2.1 (fun τ e hh => h1 τ ?_ e)
  obtain ⟨a, b⟩ := h.2.1.1.fr (τ := τ) (e _ (by omega)) (e _ (by omega))
  have e269 := e (k + 269) (by omega)
  exact ⟨h.1, ⟨a, by rw [b]; exact h.2.1.2⟩, ⟨h.st.fr (fun i g1 g2 => e i (by omega)), h.wf⟩, h.2.2.2.1.fr (e _ (by omega)) (fun i g1 g2 => e i (by omega)), hh, by rw [e269]; exact h.2.2.2.2.2.1, fun z => (h.2.2.2.2.2.2 (by rw [← e269]; exact z)).fr (by rw [e269]) (fun i g1 g2 => e i (by omega))⟩
theorem x_addWord (h : XI σ k f sv hs inp) (h1 : ¬ 2 ≤ inp.length → xU σ k (eqF f) sv hs inp (X 1)) (h2 : 2 ≤ inp.length → 0 ≤ attF f inp → xU σ k (eqF f) sv (pushH hs f) [] (P (attF f inp))) (h3 : 2 ≤ inp.length → ¬ 0 ≤ attF f inp → ¬ f 1 < 16 → xU σ k (eqF f) sv hs inp (X 2)) (h4 : 2 ≤ inp.length → ¬ 0 ≤ attF f inp → f 1 < 16 → xU σ k (uAdd f inp) sv (pushH hs f) [] (P (f 1))) : vX6_addWord k P X σ := by
  obtain ⟨l1, l2, l3⟩ := x_len h
  have w16 := h.wf.2.1
  have ab' := attF_b h.wf inp
  have hb := zf_5_state h.1
  have sw := st_w hb
  have n := xn h.1
  unfold vX6_addWord
  rw [l1]
  refine ⟨zR_s (by omega) (by omega), fun z => ?_, fun z => xU.same h (h1 (by omega))⟩
  refine sx_find hb h.st h.wf h.2.1.1 ?_
  rw [h.2.1.2, h.st.1.2.1]
  -- the word is there
  have yes : 0 ≤ attF f inp → vX6_addWord_69 k P X (attF f inp) σ := fun a => x_push0 h (fun τ hX e => ⟨zR_s (by omega) (by omega), fun _ => s_clear (fun s3 h3' => by
    have q := hX.input h3' (by simp) ab_nil
    exact h2 (by omega) a s3 (fun g e => e ▸ q.1) (fun i hi => by rw [q.2 i hi, e i (by omega)])), fun b => absurd a b⟩)
  have no : ¬ 0 ≤ attF f inp → f 1 < 16 → vX6_addWord_69 k P X (attF f inp) σ := fun a a16 => x_push0 h (fun τ hX e => ⟨zR_s (by omega) (by omega), fun b => absurd b a, fun _ s4 q4 => by
    have e4 : ∀ i, i ≠ k + 269 → s4 i = τ i := fun i hi => by rw [q4, zu_ne hi]
    have c9 : s4 (k + 3) 9 = f 1 := by rw [e4 _ (by omega)]; exact hX.st.1.2.1
    obtain ⟨c, hc⟩ : ∃ c : Nat, f 1 = (c : Int) := ⟨(f 1).toNat, by omega⟩
    have hcn : (f 1).toNat = c := by omega
    have in4 : wok s4 (k + 1) 14 ∧ wl s4 (k + 1) = inp := by
      obtain ⟨a, b⟩ := hX.2.1.1.fr (τ := s4) (e4 _ (by omega)) (e4 _ (by omega))
      exact ⟨a, by rw [b]; exact hX.2.1.2⟩
    have len4 : s4 (k + 1) 1 = (inp.length : Int) := by rw [← wl_len in4.1, in4.2]
    rw [c9, len4, hc]
    have := s_put (t := k + 3 + 15) (j := c) (w := k + 1) (fm := 0) (to := inp.length) (σ := s4) (P := fun s5 => ∀ s6 : Sto, s6 = zu s5 (k + 3) 9 ((s5 (k + 3) 9) + 1) → (vX6_addWord_136 k P X (c : Int) s6)) sw.1.2.2.2.1 (by rw [n.2.2.2.2.2.2.2.1]; omega) in4.1 (by omega) (by rw [len4]; omega) (by rw [sw.2.2.2.2.1]; omega) ⟨by omega, by omega, by omega, by omega⟩ (fun s5 h5 s6 q6 => s_clear (fun s7 h7 => by
      rw [in4.2, List.drop_zero, Nat.sub_zero, List.take_length] at h5
      have e7 : ∀ i, i ≠ k + 1 → i ≠ k + 1 + 1 → s7 i = s6 i := fun i a b => h7.1 i (by simp <;> omega)
      have e6 : ∀ i, i ≠ k + 3 → s6 i = s5 i := fun i hi => by rw [q6, zu_ne hi]
      have e5 : ∀ i, i ≠ k + 3 + 15 + 1 → i ≠ k + 3 + 15 + 2 → s5 i = s4 i := fun i a b => h5.1 i (by simp <;> omega)
      have ee : ∀ i, (i < k + 47 ∨ k + 268 < i) → i ≠ k + 269 → i ≠ k + 1 → i ≠ k + 1 + 1 → i ≠ k + 3 → i ≠ k + 3 + 15 + 1 → i ≠ k + 3 + 15 + 2 → s7 i = σ i := fun i a0 a1 a2 a3 a4 a5 a6 => by rw [e7 i a2 a3, e6 i a4, e5 i a5 a6, e4 i a1, e i a0]
      have s3e : ∀ j, j ≠ 9 → s7 (k + 3) j = σ (k + 3) j := fun j hj => by rw [e7 _ (by omega) (by omega), q6, zu_j hj, e5 _ (by omega) (by omega), e4 _ (by omega), e _ (by omega)]
      have s39 : s7 (k + 3) 9 = f 1 + 1 := by rw [e7 _ (by omega) (by omega), q6, zu_eq, e5 _ (by omega) (by omega), c9]
      have tl7 : ∀ j, tl s7 (k + 3 + 15) j = tl s5 (k + 3 + 15) j := fun j => by
        unfold tl
        rw [e7 _ (by omega) (by omega), e6 _ (by omega), e7 _ (by omega) (by omega), e6 _ (by omega)]
      have l7 : s7 (k + 3 + 15 + 1) = s5 (k + 3 + 15 + 1) := by rw [e7 _ (by omega) (by omega), e6 _ (by omega)]
      have r := h4 (by omega) a a16 s7 (fun g u => h.new (fun i hi => ee i (by omega) (by omega) (by omega) (by omega) (by omega) (by omega) (by omega)) ⟨h7.ok h.2.1.1.1 (by simp) (by decide) ab_nil, h7.2.1⟩ (rep_wrd h.wf h.st (fun i a b c => u.2.2 i a (by unfold wa; omega)) (s3e 0 (by decide)) (s3e 11 (by decide)) (by rw [s39, u.1]) (fun i hi => ee i (by omega) (by omega) (by omega) (by omega) (by omega) (by omega) (by omega)) (fun w hw => by
          by_cases q : (w : Int) < f 1
          · have t := h.st.2.2.1 w q
            have ww := h.wf.2.2.2.2.1 w q
            have k4 : tkeep σ s4 (k + 3 + 15) w := tkeep_fr (by rw [e4 _ (by omega), e _ (by omega)]) (by rw [e4 _ (by omega), e _ (by omega)])
            have t5 := ((k4.trans (tkeep_sett h5 (i := w) (by omega))) _ _ (by rw [sw.2.2.2.2.1]; exact ww.2.1) t)
            have ow := uAdd.words h.wf a16 u w q
            exact ⟨by rw [l7, t5.1]; exact (u.2.2 _ (by unfold wa; omega) (by unfold wa; omega)).symm, by rw [tl7, t5.2, ow.2]⟩
          · have ew : w = c := by have := u.1; omega
            subst ew
            have := u.2.1
            rw [hcn] at this
            exact tw1_of (by rw [l7]; exact h5.2.1) (by rw [tl7]; exact h5.2.2.1) this)) (u.wf h.wf a16 ⟨by omega, l2⟩ l3 (by omega)) (hX.2.2.2.2.1.fr (fun i g1 g2 => by rw [e7 i (by omega) (by omega), e6 i (by omega), e5 i (by omega) (by omega), e4 i (by omega)])) (by rw [e7 _ (by omega) (by omega), e6 _ (by omega), e5 _ (by omega) (by omega), q4, zu_eq])) (fun i hi => ee i (by omega) (by omega) (by omega) (by omega) (by omega) (by omega) (by omega))
      rw [hc] at r
      exact r))
    exact_mod_cast this⟩)
  exact ⟨zR_s (by omega) (by omega), yes, fun a => ⟨zR_s (by omega) (by omega), fun a16 => no a a16, fun a16 => xU.same h (h3 (by omega) a a16)⟩⟩
theorem m_addWord (h : MI σ m f sv hs inp) (h1 : ¬ 2 ≤ inp.length → mU σ m (eqF f) sv hs inp 1 (P 0)) (h2 : 2 ≤ inp.length → 0 ≤ attF f inp → mU σ m (eqF f) sv (pushH hs f) [] 0 (P (attF f inp))) (h3 : 2 ≤ inp.length → ¬ 0 ≤ attF f inp → ¬ f 1 < 16 → mU σ m (eqF f) sv hs inp 2 (P 0)) (h4 : 2 ≤ inp.length → ¬ 0 ≤ attF f inp → f 1 < 16 → mU σ m (uAdd f inp) sv (pushH hs f) [] 0 (P (f 1))) : vX7_addWord m P σ := by
  obtain ⟨l1, l2, l3⟩ := m_len h
  have z := mz h.1
  have w16 := h.wf.2.1
  have ab' := attF_b h.wf inp
  have hrow := h.row
  have go : 2 ≤ inp.length → (0 ≤ attF f inp ∨ f 1 < 16) → vX7_addWord_44 m P (attF f inp) σ := fun hl hc => by
    refine m_go0 (m_rem (h.thr 0) (fun τ e em e8 hh => ⟨zR_s (by omega) (by omega), fun a => ⟨by rw [z.2.2.2.1]; decide, fun s4 q4 => ?_⟩, fun a => ⟨by rw [z.1]; decide, ?_⟩⟩))
    · rw [show Int.toNat 0 = 0 from rfl] at q4
      have er : τ (m + 1) = f := by rw [e _ (by omega) (by omega)]; exact (h.thr 0).row
      exact MI.chgI (U := eqF f) h e em e8 hh (fun i b1 b2 => by rw [q4, zu_ne b2]) (by rw [q4, zu_eq]) (by rw [q4, zu_ne (by omega)]; exact er) rfl h.wf (h2 hl a)
    · have er : τ (m + 1) = f := by rw [e _ (by omega) (by omega)]; exact (h.thr 0).row
      have ein : τ (m + 4) = σ (m + 4) := by rw [e _ (by omega) (by omega), zu_ne (by omega)]
      obtain ⟨fk, fe⟩ := h.2.1.1.fr (τ := τ) ein
      obtain ⟨c, hc'⟩ : ∃ c : Nat, f 1 = (c : Int) := ⟨(f 1).toNat, by omega⟩
      have hcn : (f 1).toNat = c := by omega
      unfold vX7_wordAt
      try dsimp only
      rw [show Int.toNat 1 = 1 from rfl, er, hc', show ((483 : Int) + 15 * (c : Int)) = ((wa c : Nat) : Int) by unfold wa; omega]
      have hwa : wa c + 15 ≤ 723 := by unfold wa; omega
      have hwa3 : 483 ≤ wa c := by unfold wa; omega
      have := s7_copy (q' := wa c) (P := fun s6 => 1 < (zn (m + 1) : Int) ∧ (1 < (zn (m + 1) : Int) ∧ (∀ s7 : Sto, s7 = zu s6 (m + 1) 1 ((s6 (m + 1) 1) + 1) → (vX7_addWord_98 m P (c : Int) s7)))) fk (zf_6_s h.1) (by rw [z.1]; omega) (Or.inl (by omega)) (by
        refine ⟨by rw [z.1]; decide, by rw [z.1]; decide, fun s7 q7 => ⟨by rw [z.2.2.2.1]; decide, fun s8 q8 => ?_⟩⟩
        have sq := zc_setq (k' := m + 1) (q' := wa c) (N := 14) fk (by omega) (Or.inl (by omega))
        rw [fe, h.2.1.2] at sq
        generalize zc τ (m + 4) 0 (m + 1) (wa c) ((τ (m + 4) 0).toNat + 1) = s6 at sq q7
        rw [show Int.toNat 0 = 0 from rfl] at q8
        have eg : ∀ j, j ≠ 1 → s8 (m + 1) j = s6 (m + 1) j := fun j hj => by rw [q8, zu_ne (by omega), q7, zu_j hj]
        have o : ∀ i, ¬ (wa c ≤ i ∧ i ≤ wa c + 14) → s6 (m + 1) i = f i := fun i hi => by rw [sq.2.2.2 i (by omega), er]
        have u : uAdd f inp (s8 (m + 1)) := by
          refine ⟨by rw [q8, zu_ne (by omega), q7, zu_eq, o 1 (by omega)], ?_, fun i hi hi2 => ?_⟩
          · rw [hcn]
            exact isWd_on (n := 14) (isWd_setq sq) l2 (fun i a b => eg i (by omega))
          · rw [hcn] at hi2
            rw [eg i hi, o i (by omega)]
        have r := MI.chgI h e em e8 hh (fun i b1 b2 => by rw [q8, zu_ne b2, q7, zu_ne b1, sq.keep b1]) (by rw [q8, zu_eq]) rfl u (u.wf h.wf (by omega) ⟨hl, l2⟩ l3 (by omega)) (h4 hl a (by omega))
        rw [hc'] at r
        exact r)
      exact_mod_cast this
  have := sm_attested (k := m) (k1 := m + 4) (q := 0) (P := fun r1 s1 => 0 < (zn (m + 4) : Int) ∧ (zR (s1 (m + 4) (Int.toNat 0)) ∧ ((2 ≤ (s1 (m + 4) (Int.toNat 0))) → zR r1 ∧ ((0 ≤ r1) → vX7_addWord_44 m P r1 s1) ∧ ((¬ (0 ≤ r1)) → 1 < (zn (m + 1) : Int) ∧ (zR (s1 (m + 1) (Int.toNat 1)) ∧ ((¬ (s1 (m + 1) (Int.toNat 1)) = 16) → vX7_addWord_44 m P r1 s1) ∧ (((s1 (m + 1) (Int.toNat 1)) = 16) → vX7_addWord_45 m P r1 2 s1)))) ∧ ((¬ (2 ≤ (s1 (m + 4) (Int.toNat 0)))) → vX7_addWord_45 m P r1 1 s1))) h.1 (by rw [hrow]; exact h.wf) h.2.1.1 (by
    rw [hrow, h.2.1.2, show Int.toNat 0 = 0 from rfl, show Int.toNat 1 = 1 from rfl, l1]
    refine ⟨by rw [z.2.2.2.1]; decide, zR_s (by omega) (by omega), fun a => ⟨zR_s (by omega) (by omega), fun b => go (by omega) (Or.inl b), fun b => ⟨by rw [z.1]; decide, zR_s (by omega) (by omega), fun c => go (by omega) (Or.inr (by omega)), fun c => m_go1 (by decide) (mU.same h (h3 (by omega) b (by omega)))⟩⟩, fun a => m_go1 (by decide) (mU.same h (h1 (by omega)))⟩)
  exact this
/-! removeWord -/
def uRem (f : Nat → Int) (x : Nat) (g : Nat → Int) : Prop := g 1 = f 1 - 1 ∧ (∀ i, i ≠ 1 → (i < wa x ∨ 723 ≤ i) → i < 1743 → g i = f i) ∧ ∀ j : Nat, x ≤ j → (j : Int) + 1 < f 1 → isWd g (wa j) (fl f (wa (j + 1)))
theorem uRem.words {x : Nat} (hw : wfF f) (u : uRem f x g) (hx : (x : Int) < f 1) (w : Nat) (h : (w : Int) < g 1) : isWd g (wa w) (fl f (wa (if w < x then w else w + 1))) ∧ ((if w < x then w else w + 1 : Nat) : Int) < f 1 := by
  obtain ⟨u1, u2, u3⟩ := u
  have h16 := hw.2.1
  by_cases q : w < x
  · rw [if_pos q]
    have := wfW.on (g := g) (fun i a b => (u2 i (by unfold wa at a; omega) (by unfold wa at *; omega) (by unfold wa at b; omega)).symm) (hw.2.2.2.2.1 w (by omega))
    refine ⟨⟨?_, this.2⟩, by omega⟩
    rw [← this.2]
    unfold fl
    rw [seg_len]
    have := this.1.1
    omega
  · rw [if_neg q]
    exact ⟨u3 w (by omega) (by omega), by omega⟩
theorem uRem.wf {x : Nat} (hw : wfF f) (hx : (x : Int) < f 1) (u : uRem f x g) : wfF g := by
  have h16 := hw.2.1
  have ow := uRem.words hw u hx
  have hx4 : 483 ≤ wa x := by unfold wa; omega
  refine wf_wrd hw (fun i a b c => u.2.1 i a (by omega) c) (by have := u.1; omega) (fun w h => ?_) (fun w v h h' e => ?_)
  · obtain ⟨a, b⟩ := ow w h
    have ww := hw.2.2.2.2.1 _ b
    have hl : ((fl f (wa (if w < x then w else w + 1))).length : Int) = f (wa (if w < x then w else w + 1)) := by unfold fl; rw [seg_len]; have := ww.1; omega
    exact a.wd (by have := ww.1; omega) (by have := ww.2.1; omega) ww.2.2
  · obtain ⟨a, b⟩ := ow w h
    obtain ⟨a', b'⟩ := ow v h'
    rw [a.2, a'.2] at e
    have := hw.2.2.2.2.2.1 _ _ b b' e
    by_cases q : w < x
    · rw [if_pos q] at this
      by_cases q' : v < x
      · rw [if_pos q'] at this; exact this
      · rw [if_neg q'] at this; omega
    · rw [if_neg q] at this
      by_cases q' : v < x
      · rw [if_pos q'] at this; omega
      · rw [if_neg q'] at this; omega
/-- the slots behind gap move by one -/
theorem s_closeGap_2 {t gap c : Nat} (hz : zk t = 4) (hc : c ≤ zn (t + 1)) (h1 : ∀ τ, fr [t + 1, t + 2] σ τ → (∀ j, gap ≤ j → j + 1 < c → τ (t + 1) j = σ (t + 1) (j + 1) ∧ ∀ i, i < (zw t).toNat → τ (t + 2) ((zw t).toNat * j + i) = σ (t + 2) ((zw t).toNat * (j + 1) + i)) → (∀ j, j < gap → τ (t + 1) j = σ (t + 1) j) → (∀ q, q < (zw t).toNat * gap → τ (t + 2) q = σ (t + 2) q) → Q τ) :
    ∀ (n s : Nat) (τ : Sto), gap ≤ s → s < c → c - s < n + 1 → fr [t + 1, t + 2] σ τ → (∀ j, gap ≤ j → j < s → τ (t + 1) j = σ (t + 1) (j + 1) ∧ ∀ i, i < (zw t).toNat → τ (t + 2) ((zw t).toNat * j + i) = σ (t + 2) ((zw t).toNat * (j + 1) + i)) → (∀ j, (j < gap ∨ s ≤ j) → τ (t + 1) j = σ (t + 1) j) → (∀ q, (q < (zw t).toNat * gap ∨ (zw t).toNat * s ≤ q) → τ (t + 2) q = σ (t + 2) q) → vX5_closeGap_2 t Q n (c : Int) (s : Int) τ := by
  obtain ⟨w1, w2, w3, w4⟩ := tw hz
  obtain ⟨W, hW⟩ : ∃ W : Nat, zw t = (W : Int) := ⟨(zw t).toNat, by omega⟩
  have eW : (zw t).toNat = W := by omega
  rw [eW] at h1 ⊢
  rw [hW] at w1 w2 w3
  have w3' : zn (t + 2) = W * zn (t + 1) := by
    have : (zn (t + 2) : Int) = ((zn (t + 1) * W : Nat) : Int) := by rw [w3, Int.natCast_mul]
    rw [Nat.mul_comm]
    exact_mod_cast this
  intro n
  induction n with
  | zero => intro s τ a b c'; omega
  | succ n ih =>
    intro s τ hs hsc hn ef em el eo
    unfold vX5_closeGap_2 bX5_closeGap_2
    rw [hW]
    have m1 : W * (s + 1) ≤ W * zn (t + 1) := Nat.mul_le_mul_left _ (by omega)
    refine ⟨zR_s (by omega) (by omega), zR_s (by omega) (by omega), fun a => ?_, fun a => ⟨by omega, by omega, by omega, by omega, fun s1 q1 => ?_⟩⟩
    · exact h1 τ ef (fun j b d => em j b (by omega)) (fun j b => el j (Or.inl b)) (fun q b => eo q (Or.inl b))
    · have m2 : W * (s + 1 + 1) ≤ W * zn (t + 1) := Nat.mul_le_mul_left _ (by omega)
      have p1 : ((s : Int) + 1) * (W : Int) = ((W * (s + 1) : Nat) : Int) := by rw [Int.natCast_mul, Int.mul_comm]; rfl
      have p0 : (s : Int) * (W : Int) = ((W * s : Nat) : Int) := by rw [Int.natCast_mul, Int.mul_comm]
      have d1 : W * (s + 1) = W * s + W := Nat.mul_succ W s
      have d2 : W * (s + 1 + 1) = W * (s + 1) + W := Nat.mul_succ W (s + 1)
      rw [p1, p0]
      refine ⟨by omega, by omega, by omega, by rw [w3']; omega, by rw [w3']; omega, fun s2 q2 => ?_⟩
      rw [Int.toNat_natCast, Int.toNat_natCast, Int.toNat_natCast] at q2
      rw [show ((s : Int) + 1).toNat = s + 1 by omega, Int.toNat_natCast] at q1
      have l2 : ∀ j, s2 (t + 1) j = if j = s then σ (t + 1) (s + 1) else τ (t + 1) j := fun j => by
        rw [q2, zc_ne (by omega), q1]
        by_cases e : j = s
        · subst e; rw [zu_eq, if_pos rfl, el (j + 1) (Or.inr (by omega))]
        · rw [zu_j e, if_neg e]
      have r2 : ∀ q, s2 (t + 2) q = if W * s ≤ q ∧ q < W * s + W then τ (t + 2) (W * (s + 1) + (q - W * s)) else τ (t + 2) q := fun q => by
        rw [q2, zc_fun]
        simp only
        rw [q1, zu_ne (by omega)]
      have := ih (s + 1) s2 (by omega) (by omega) (by omega) (ef.trans (fun i hi => by
        rw [q2, zc_ne (fun z => hi (by simp [z])), q1, zu_ne (fun z => hi (by simp [z]))])) (fun j b d => by
        by_cases e : j = s
        · subst e
          refine ⟨by rw [l2, if_pos rfl], fun i hi => ?_⟩
          rw [r2, if_pos (by omega), eo _ (Or.inr (by omega))]
          congr 1
          omega
        · have dj : W * (j + 1) ≤ W * s := Nat.mul_le_mul_left _ (by omega)
          have dj1 : W * (j + 1) = W * j + W := Nat.mul_succ W j
          refine ⟨by rw [l2, if_neg e]; exact (em j b (by omega)).1, fun i hi => ?_⟩
          rw [r2, if_neg (by omega)]
          exact (em j b (by omega)).2 i hi) (fun j b => by
        rw [l2, if_neg (by omega)]
        exact el j (by omega)) (fun q b => by
        have : W * gap ≤ W * s := Nat.mul_le_mul_left _ hs
        rw [r2, if_neg (by omega)]
        exact eo q (by omega))
      exact_mod_cast this
theorem x_removeWord (h : XI σ k f sv hs inp) (hx : zR x) (h1 : ¬ isW f x → xU σ k (eqF f) sv hs inp (X 0)) (h2 : isW f x → xU σ k (uRem f x.toNat) sv (pushH hs f) inp (P (f 1 - 1))) : vX6_removeWord k x P X σ := by
  refine x_checkWord h hx (fun q => xU.same h (h1 q)) (fun q => ?_)
  obtain ⟨p, rfl⟩ : ∃ c : Nat, x = (c : Int) := ⟨x.toNat, by omega⟩
  rw [Int.toNat_natCast] at *
  have n := xn h.1
  have w16 := h.wf.2.1
  have hb := zf_5_state h.1
  have sw := st_w hb
  refine x_push h (fun τ e hst hh => ?_)
  have e9 : τ (k + 3) 9 = f 1 := by rw [e _ (by omega) (by omega)]; exact h.st.1.2.1
  obtain ⟨c, hc⟩ : ∃ c : Nat, f 1 = (c : Int) := ⟨(f 1).toNat, by omega⟩
  rw [e9, hc]
  refine ⟨c - p, ?_⟩
  have z14 : (zw (k + 3 + 15)).toNat = 14 := by rw [sw.2.2.2.2.1]; rfl
  refine s_closeGap_2 (σ := τ) (gap := p) sw.1.2.2.2.1 (by rw [n.2.2.2.2.2.2.2.1]; omega) (fun s4 ef em el eo s5 q5 => ?_) (c - p) p τ (Nat.le_refl _) (by omega) (by omega) fr.refl (fun j a b => by omega) (fun _ _ => rfl) (fun _ _ => rfl)
  rw [z14] at em eo
  have e4 : ∀ i, i ≠ k + 3 + 15 + 1 → i ≠ k + 3 + 15 + 2 → s4 i = τ i := fun i a b => ef i (by simp <;> omega)
  have e5 : ∀ i, i ≠ k + 3 → s5 i = s4 i := fun i hi => by rw [q5, zu_ne hi]
  have ee : ∀ i, (i < k + 47 ∨ k + 268 < i) → i ≠ k + 269 → i ≠ k + 3 → i ≠ k + 3 + 15 + 1 → i ≠ k + 3 + 15 + 2 → s5 i = σ i := fun i a0 a1 a2 a3 a4 => by rw [e5 i a2, e4 i a3 a4, e i a0 a1]
  have hp483 : 483 ≤ wa p := by unfold wa; omega
  have s39 : s5 (k + 3) 9 = f 1 - 1 := by rw [q5, zu_eq, e4 _ (by omega) (by omega), e9]
  have s3e : ∀ j, j ≠ 9 → s5 (k + 3) j = σ (k + 3) j := fun j hj => by rw [q5, zu_j hj, e4 _ (by omega) (by omega), e _ (by omega) (by omega)]
  have r := h2 q s5 (fun g u => h.new (fun i hi => ee i (by omega) (by omega) (by omega) (by omega) (by omega)) (by
    obtain ⟨a, b⟩ := h.2.1.1.fr (τ := s5) (ee _ (by omega) (by omega) (by omega) (by omega) (by omega)) (ee _ (by omega) (by omega) (by omega) (by omega) (by omega))
    exact ⟨a, by rw [b]; exact h.2.1.2⟩) (rep_wrd h.wf h.st (fun i a b c => u.2.1 i a (by omega) c) (s3e 0 (by decide)) (s3e 11 (by decide)) (by rw [s39, u.1]) (fun i hi => ee i (by omega) (by omega) (by omega) (by omega) (by omega)) (fun w hw => by
      obtain ⟨a, b⟩ := uRem.words h.wf u q.2 w hw
      have t := h.st.2.2.1 _ b
      have ww := h.wf.2.2.2.2.1 _ b
      have wb := ww.2.1
      have hl : ((fl f (wa (if w < p then w else w + 1))).length : Int) = f (wa (if w < p then w else w + 1)) := by unfold fl; rw [seg_len]; have := ww.1; omega
      have eτ1 : τ (k + 3 + 15 + 1) = σ (k + 3 + 15 + 1) := e _ (by omega) (by omega)
      have eτ2 : τ (k + 3 + 15 + 2) = σ (k + 3 + 15 + 2) := e _ (by omega) (by omega)
      have el5 : s5 (k + 3 + 15 + 1) = s4 (k + 3 + 15 + 1) := e5 _ (by omega)
      have er5 : s5 (k + 3 + 15 + 2) = s4 (k + 3 + 15 + 2) := e5 _ (by omega)
      by_cases c1 : w < p
      · rw [if_pos c1] at a t wb hl
        refine tw1_of (by rw [el5, el w c1, eτ1, t.1, hl]) ?_ a
        rw [← t.2]
        unfold tl
        rw [el5, er5, el w c1, eτ1, z14]
        refine seg_ext (fun i hi => ?_)
        rw [t.1] at hi
        rw [eo _ (by omega), eτ2]
      · rw [if_neg c1] at a t wb hl
        have mm := em w (by omega) (by have := u.1; omega)
        refine tw1_of (by rw [el5, mm.1, eτ1, t.1, hl]) ?_ a
        rw [← t.2]
        unfold tl
        rw [el5, er5, mm.1, eτ1, z14]
        refine seg_ext (fun i hi => ?_)
        rw [t.1] at hi
        rw [mm.2 i (by omega), eτ2])) (u.wf h.wf q.2) (hh.fr (fun i g1 g2 => by rw [e5 i (by omega), e4 i (by omega) (by omega)])) (by rw [e5 _ (by omega), e4 _ (by omega) (by omega)]; exact hst)) (fun i hi => ee i (by omega) (by omega) (by omega) (by omega) (by omega))
  rw [s39]
  exact r
theorem m_removeWord_32 {x0 c : Nat} (hm : zk m = 6) (hw : wfF f) (hc : f 1 = (c : Int)) (hx : x0 < c) (h1 : ∀ υ, (∀ i, i ≠ m + 1 → υ i = σ i) → uRem f x0 (υ (m + 1)) → P (f 1 - 1) υ) : ∀ (n w : Nat) (τ : Sto), x0 ≤ w → w + 1 ≤ c → c - w < n + 1 → (∀ i, i ≠ m + 1 → τ i = σ i) → (∀ i, (i < wa x0 ∨ wa w ≤ i) → τ (m + 1) i = f i) → (∀ j : Nat, x0 ≤ j → j < w → isWd (τ (m + 1)) (wa j) (fl f (wa (j + 1)))) → vX7_removeWord_32 m P n (w : Int) τ := by
  intro n
  induction n with
  | zero => intro w τ a b d; omega
  | succ n ih =>
    intro w τ hw0 hwc hn ef eo ew
    have z := mz hm
    have h16 := hw.2.1
    have hwa0 : 483 ≤ wa x0 := by unfold wa; omega
    have hwl : wa w + 15 ≤ 723 := by unfold wa; omega
    have hmn : wa x0 ≤ wa w := by unfold wa; omega
    have t1 : τ (m + 1) 1 = f 1 := eo 1 (by omega)
    unfold vX7_removeWord_32 bX7_removeWord_32
    rw [show Int.toNat 1 = 1 from rfl, t1, hc]
    refine ⟨by rw [z.1]; decide, zR_s (by omega) (by omega), zR_s (by omega) (by omega), fun a => ⟨by rw [z.1]; decide, by rw [z.1]; decide, fun s4 q4 => ⟨by rw [z.1]; decide, ?_⟩⟩, fun a => ?_⟩
    · have ewc : w + 1 = c := by omega
      have g1 : s4 (m + 1) 1 = f 1 - 1 := by rw [q4, zu_eq, hc]
      rw [g1]
      refine h1 s4 (fun i hi => by rw [q4, zu_ne hi]; exact ef i hi) ⟨g1, fun i a1 a2 a3 => by rw [q4, zu_j a1]; exact eo i (by omega), fun j a1 a2 => ?_⟩
      have wj := hw.2.2.2.2.1 (j + 1) (by omega)
      have hl : ((fl f (wa (j + 1))).length : Int) = f (wa (j + 1)) := by unfold fl; rw [seg_len]; have := wj.1; omega
      exact isWd_on (n := 14) (ew j a1 (by omega)) (by have := wj.2.1; omega) (fun i b1 b2 => by rw [q4, zu_j (by unfold wa at b1; omega)])
    · have ww := hw.2.2.2.2.1 (w + 1) (by omega)
      have hws : wa (w + 1) = wa w + 15 := by unfold wa; omega
      have hfl : fl (τ (m + 1)) (wa (w + 1)) = fl f (wa (w + 1)) := fl_on (n := 14) (fun i a b => (eo i (by omega)).symm) (by have := ww.2.1; omega)
      have fk : fok τ (m + 1) (wa (w + 1)) 14 := ⟨zf_6_s hm, by rw [eo _ (by omega)]; have := ww.1; omega, by rw [eo _ (by omega)]; exact ww.2.1, by decide, by rw [z.1]; unfold wa; omega, by rw [hfl]; exact ww.2.2⟩
      unfold vX7_wordAt
      try dsimp only
      rw [show ((483 : Int) + 15 * ((w : Int) + 1)) = ((wa (w + 1) : Nat) : Int) by unfold wa; omega, show ((483 : Int) + 15 * (w : Int)) = ((wa w : Nat) : Int) by unfold wa; omega]
      refine s7_copy fk (zf_6_s hm) (by rw [z.1]; omega) (Or.inr (by omega)) ?_
      have sq := zc_setq (k' := m + 1) (q' := wa w) (N := 14) fk (by omega) (Or.inr (by omega))
      generalize zc τ (m + 1) (wa (w + 1)) (m + 1) (wa w) ((τ (m + 1) (wa (w + 1))).toNat + 1) = s7 at sq
      rw [hfl] at sq
      have := ih (w + 1) s7 (by omega) (by omega) (by omega) (fun i hi => by rw [sq.keep hi]; exact ef i hi) (fun i hi => by rw [sq.2.2.2 i (by omega)]; exact eo i (by omega)) (fun j b1 b2 => by
        by_cases e : j = w
        · subst e; exact isWd_setq sq
        · have wj := hw.2.2.2.2.1 (j + 1) (by omega)
          have hl : ((fl f (wa (j + 1))).length : Int) = f (wa (j + 1)) := by unfold fl; rw [seg_len]; have := wj.1; omega
          exact isWd_on (n := 14) (ew j b1 (by omega)) (by have := wj.2.1; omega) (fun i c1 c2 => sq.2.2.2 i (by unfold wa at *; omega)))
      exact_mod_cast this
theorem m_removeWord (h : MI σ m f sv hs inp) (hx : zR x) (h1 : ¬ isW f x → mU σ m (eqF f) sv hs inp 1 (P 0)) (h2 : isW f x → mU σ m (uRem f x.toNat) sv (pushH hs f) inp 0 (P (f 1 - 1))) : vX7_removeWord m x P σ := by
  refine m_isWord h hx ⟨b2i_R _, fun w => m_go1 (by decide) (mU.same h (h1 (of_decide_eq_false (b2i_0.mp w)))), fun w => m_go0 ?_⟩
  have q := of_decide_eq_true (b2i_1.mp w)
  obtain ⟨p, rfl⟩ : ∃ c : Nat, x = (c : Int) := ⟨x.toNat, by omega⟩
  rw [Int.toNat_natCast] at *
  obtain ⟨c, hc⟩ : ∃ c : Nat, f 1 = (c : Int) := ⟨(f 1).toNat, by omega⟩
  refine m_rem (h.thr 0) (fun τ e em e8 hh => ⟨c - p, ?_⟩)
  have er : τ (m + 1) = f := by rw [e _ (by omega) (by omega)]; exact (h.thr 0).row
  exact m_removeWord_32 (σ := τ) h.1 h.wf hc (by omega) (fun υ a u => MI.chg h e em e8 hh a rfl u (u.wf h.wf q.2) (h2 q)) (c - p) p τ (Nat.le_refl _) (by omega) (by omega) (fun _ _ => rfl) (fun i _ => by rw [er]) (fun j a b => by omega)
end
