/-! PURE: the reference proposes hypotheses -/
section
variable {σ τ : Sto} {m p c w : Nat} {f : Nat → Int} {P Q : Sto → Prop} {PI : Int → Sto → Prop} {st v B : List Int} {F H F' H' : List (Nat × List Int)} {q q0 : Nat × List Int}
theorem s7_copyT {k k' q n : Nat} (ha : fok σ k q n) (hk' : zk k' = 8) (hz' : n < zn k') (hne : k ≠ k') (h : ∀ τ, setq σ τ k' 0 n (fl (σ k) q) → P τ) : vX7_copy k (q : Int) k' 0 P σ := by
  have := s7_copy (q' := 0) (P := P) ha hk' (by omega) (Or.inl hne) (h _ (zc_setq ha (Nat.le_refl _) (Or.inl hne)))
  exact_mod_cast this
theorem s7_copyF {k k' q' n : Nat} (ha : fok σ k 0 n) (hk' : zk k' = 8) (hz' : q' + n < zn k') (hne : k ≠ k') (h : ∀ τ, setq σ τ k' q' n (fl (σ k) 0) → P τ) : vX7_copy k 0 k' (q' : Int) P σ := by
  have := s7_copy (q := 0) (q' := q') (P := P) ha hk' hz' (Or.inl hne) (h _ (zc_setq ha (Nat.le_refl _) (Or.inl hne)))
  exact_mod_cast this
theorem s7_areSame0 {k k' q' n n' : Nat} (ha : fok σ k 0 n) (hb : fok σ k' q' n') (h : PI (b2i (decide (fl (σ k) 0 = fl (σ k') q'))) σ) : vX7_areSame k 0 k' (q' : Int) PI σ := by
  have := s7_areSame (q := 0) (P := PI) ha hb h
  exact_mod_cast this
theorem sm_isStem0 {k2 n : Nat} (hk : zk m = 6) (hw : wfF (σ (m + 1))) (hp : (p : Int) < σ (m + 1) 0) (ha : fok σ k2 0 n) (h : PI (b2i (alwF (σ (m + 1)) p (fl (σ k2) 0))) σ) : vX7_isStem m (p : Int) k2 0 PI σ := by
  have := sm_isStem (q := 0) (P := PI) hk hw hp ha h
  exact_mod_cast this
theorem s7_lastVowel0 {k n : Nat} (ha : fok σ k 0 n) (h : PI (lvow (fl (σ k) 0) + 1) σ) : vX7_lastVowel k 0 PI σ := by
  have := s7_lastVowel (q := 0) (P := PI) ha h
  exact_mod_cast this
theorem s7_put0 {k n N : Nat} {x : Int} (ha : fok σ k 0 n) (hlt : σ k 0 < N) (hzN : N < zn k) (h : ∀ τ, setq σ τ k 0 N (fl (σ k) 0 ++ [x]) → P τ) : vX7_put k 0 x P σ := by
  have := s7_put (q := 0) (P := P) ha hlt (by omega) h
  exact_mod_cast this
theorem m_proposes_74 (hm : zk m = 6) (e : σ (m + 1) = f) (hw : wfF f) (hp : (p : Int) < f 0) (hst : fok σ (m + 11) 0 10) (est : fl (σ (m + 11)) 0 = st) (halw : alwF f p st = true) (hL : frsM σ m (frms f p st)) (hE : fnd σ m f F H) (hlen : F.length < 2880) (hnew : ¬ (p, st) ∈ F)
    (h1 : ∀ τ F' H', pM σ τ m → τ (m + 11) = σ (m + 11) → fnd τ m f F' H' → (∀ q ∈ F, q ∈ F') → F'.length ≤ F.length + 1 → (isH f p st → (p, st) ∈ F') → P τ) :
    ∀ (n j : Nat), j ≤ (frms f p st).length → (frms f p st).length - j < n → vX7_proposes_74 m P n (p : Int) (((((frms f p st).take j).filter (fun l => decide (0 ≤ attF f l))).length : Nat) : Int) (j : Int) σ := by
  intro n
  induction n with
  | zero => intro j a b; omega
  | succ n ih =>
    intro j hj hn
    have z := mz hm
    have eb := expl_b (st := st) hw hp
    obtain ⟨e1, e2, e3, e4, e5, e6⟩ := id hE
    have fle : (((frms f p st).take j).filter (fun l => decide (0 ≤ attF f l))).length ≤ 6 := by
      have := List.length_filter_le (fun l => decide (0 ≤ attF f l)) ((frms f p st).take j)
      rw [List.length_take] at this
      omega
    unfold vX7_proposes_74 bX7_proposes_74
    rw [hL.1, e1]
    refine ⟨zR_s (by omega) (by omega), zR_s (by omega) (by omega), fun q => ⟨zR_s (by omega) (by omega), fun a => ⟨by omega, by rw [z.2.2.2.2.2.1]; omega, fun s3 q3 => ⟨by omega, by rw [z.2.2.2.2.2.2.1]; omega, fun s4 q4 => ⟨by omega, by rw [z.2.2.2.2.2.2.2.1]; omega, fun s5 q5 => ?_⟩⟩⟩, fun a => ?_⟩, fun q => ?_⟩
    · have et : (frms f p st).take j = frms f p st := List.take_of_length_le (by omega)
      rw [et] at a q4
      have hH : isH f p st := ⟨hp, by rw [← est]; exact hst.2.2.2.2.2, halw, by unfold expl; omega⟩
      rw [Int.toNat_natCast] at q3 q4 q5
      have n5 : ∀ i, i ≠ m + 6 → i ≠ m + 7 → i ≠ m + 8 → s5 i = σ i := fun i a b c => by rw [q5, zu_ne c, q4, zu_ne b, q3, zu_ne a]
      have ok5 := hst.fr (τ := s5) (n5 _ (by omega) (by omega) (by omega))
      rw [show (11 : Int) * (F.length : Int) = ((11 * F.length : Nat) : Int) by omega]
      refine s7_copyF ok5.1 (zf_6_stems hm) (by rw [z.2.2.2.2.2.2.2.2.1]; omega) (by omega) (fun s6 sq => ?_)
      rw [ok5.2, est] at sq
      have n6 : ∀ i, i ≠ m + 6 → i ≠ m + 7 → i ≠ m + 8 → i ≠ m + 9 → s6 i = σ i := fun i a b c d => by rw [sq.keep d, n5 i a b c]
      have hyp : ∀ h q', (F ++ [(p, st)])[h]? = some q' → hypM s6 m f h q' := fun h q' hh => by
        by_cases e : h = F.length
        · subst e
          rw [List.getElem?_append_right (Nat.le_refl _)] at hh
          simp at hh
          subst hh
          refine ⟨?_, ?_, ?_, sq.2.1, sq.2.2.1⟩
          · (rw [sq.keep (by omega), q5, zu_ne (by omega), q4, zu_ne (by omega), q3, zu_eq]) <;> rfl
          · (rw [sq.keep (by omega), q5, zu_ne (by omega), q4, zu_eq]) <;> rfl
          · (rw [sq.keep (by omega), q5, zu_eq, q4, zu_ne (by omega), q3, zu_ne (by omega), hL.1]) <;> rfl
        · have hl : h < F.length := by
            have := (List.getElem?_eq_some_iff.mp hh).1
            rw [List.length_append] at this
            simp at this
            omega
          rw [List.getElem?_append_left hl] at hh
          obtain ⟨a1, a2, a3, a4, a5⟩ := e4 h q' hh
          have bq := isH_b hw (e6 q' (List.mem_of_getElem? hh))
          have k9 : ∀ t, t < 11 * F.length → s6 (m + 9) t = σ (m + 9) t := fun t ht => by rw [sq.2.2.2 t (Or.inl ht), n5 _ (by omega) (by omega) (by omega)]
          refine ⟨?_, ?_, ?_, ?_, ?_⟩
          · rw [sq.keep (by omega), q5, zu_ne (by omega), q4, zu_ne (by omega), q3, zu_j e]; exact a1
          · rw [sq.keep (by omega), q5, zu_ne (by omega), q4, zu_j e, q3, zu_ne (by omega)]; exact a2
          · rw [sq.keep (by omega), q5, zu_j e, q4, zu_ne (by omega), q3, zu_ne (by omega)]; exact a3
          · rw [k9 _ (by omega)]; exact a4
          · rw [fl_on (f := σ (m + 9)) (g := s6 (m + 9)) (q := 11 * h) (n := 10) (fun t a b => (k9 t (by omega)).symm) (by rw [a4]; have := bq.2.2.1; omega)]; exact a5
      refine ⟨F.length + 1, m_proposes_164 (σ := s6) (F := F) (H := H) (q := (p, st)) (f := f) hm hw hlen e2 e6 hH hnew e5 (fun τ H'' a b hfd => h1 τ (F ++ [(p, st)]) H'' ⟨fun i hi => ?_, fun j j9 j17 => ?_⟩ ?_ hfd (fun q h => List.mem_append_left _ h) (by simp) (fun _ => by simp)) (F.length + 1) F.length s6 (by omega) (by rw [e2.length_eq]; exact Nat.le_refl _) (fun _ _ => rfl) ?_ hyp (fun i q' hi hq' => ?_) (fun i q' hi hq' => ?_)⟩
      · rw [a i (by omega) (by omega), n6 i (by omega) (by omega) (by omega) (by omega)]
      · rw [b j j9, n6 m (by omega) (by omega) (by omega) (by omega)]
      · rw [a _ (by omega) (by omega), n6 _ (by omega) (by omega) (by omega) (by omega)]
      · rw [n6 m (by omega) (by omega) (by omega) (by omega), e1]
      · obtain ⟨x, x1, x2⟩ := e3 i q' hq'
        exact ⟨x, by rw [n6 _ (by omega) (by omega) (by omega) (by omega)]; exact x1, x2⟩
      · have := (List.getElem?_eq_some_iff.mp hq').1
        have := e2.length_eq
        omega
    · have et : (frms f p st).take j = frms f p st := List.take_of_length_le (by omega)
      rw [et] at a
      exact h1 σ F H pM.refl rfl hE (fun _ h => h) (by omega) (fun h => by
        have := h.2.2.2
        unfold expl at this
        omega)
    · have hj2 : j < (frms f p st).length := by omega
      obtain ⟨o1, o2⟩ := hL.2 j _ (List.getElem?_eq_getElem hj2)
      have ab' := attF_b hw (frms f p st)[j]
      have tk : (frms f p st).take (j + 1) = (frms f p st).take j ++ [(frms f p st)[j]] := (List.take_append_getElem hj2).symm
      have hf : ([(frms f p st)[j]].filter (fun l => decide (0 ≤ attF f l))).length = if 0 ≤ attF f (frms f p st)[j] then 1 else 0 := by
        by_cases d : 0 ≤ attF f (frms f p st)[j] <;> simp [d]
      have next := ih (j + 1) (by omega) (by omega)
      rw [tk, List.filter_append, List.length_append, hf] at next
      rw [show (17 : Int) * (j : Int) = ((17 * j : Nat) : Int) by omega]
      refine sm_attested (k1 := m + 12) (q := 17 * j) hm (by rw [e]; exact hw) o1 ?_
      rw [e, o2]
      refine ⟨zR_s (by omega) (by omega), fun a => ?_, fun a => ?_⟩
      · rw [if_neg (by omega), Nat.add_zero] at next
        unfold vX7_proposes_103
        rw [Int.add_zero]
        exact_mod_cast next
      · rw [if_pos (by omega)] at next
        unfold vX7_proposes_103
        exact_mod_cast next
theorem m_proposes_16 (hm : zk m = 6) (e : σ (m + 1) = f) (hw : wfF f) (hp : (p : Int) < f 0) (hst : fok σ (m + 11) 0 10) (est : fl (σ (m + 11)) 0 = st) (h2 : 2 ≤ st.length) (halw : alwF f p st = true) (hE : fnd σ m f F H) (hlen : F.length < 2880)
    (h1 : ∀ τ F' H', pM σ τ m → τ (m + 11) = σ (m + 11) → fnd τ m f F' H' → (∀ q ∈ F, q ∈ F') → F'.length ≤ F.length + 1 → (isH f p st → (p, st) ∈ F') → P τ) :
    ∀ (n h : Nat), h ≤ F.length → F.length - h < n → (∀ i, i < h → F[i]? ≠ some (p, st)) → vX7_proposes_16 m P n (p : Int) (h : Int) σ := by
  intro n
  induction n with
  | zero => intro h a b; omega
  | succ n ih =>
    intro h hh hn hno
    have z := mz hm
    have p6 := hw.1
    obtain ⟨e1, e2, e3, e4, e5, e6⟩ := id hE
    unfold vX7_proposes_16 bX7_proposes_16
    rw [e1]
    refine ⟨zR_s (by omega) (by omega), zR_s (by omega) (by omega), fun q => ?_, fun q => ?_⟩
    · have hnew : ¬ (p, st) ∈ F := fun hmem => by
        obtain ⟨i, hi⟩ := List.mem_iff_getElem?.mp hmem
        have hl := (List.getElem?_eq_some_iff.mp hi).1
        exact hno i (by omega) hi
      refine m_findForms hm e hw hp hst est (by omega) (fun τ g hF => ⟨(frms f p st).length + 1, ?_⟩)
      have e11 : τ (m + 11) = σ (m + 11) := g.1 _ (by omega) (by omega) (by omega)
      have ok := hst.fr (τ := τ) e11
      have := m_proposes_74 (σ := τ) (P := P) hm (by rw [g.1 _ (by omega) (by omega) (by omega)]; exact e) hw hp ok.1 (ok.2.trans est) halw hF (hE.fr (g.2 9 (by decide)) (fun i a b => g.1 i (by omega) (by omega) (by omega))) hlen hnew (fun υ F' H' a b c d e' f' => h1 υ F' H' (g.toP.trans a) (b.trans e11) c d e' f') ((frms f p st).length + 1) 0 (by omega) (by omega)
      rw [List.take_zero, List.filter_nil, List.length_nil] at this
      exact_mod_cast this
    · have hi : h < F.length := by omega
      have hg := List.getElem?_eq_getElem hi
      have hH := e6 _ (List.mem_of_getElem? hg)
      have bq := isH_b hw hH
      obtain ⟨a1, a2, a3, a4, a5⟩ := id (e4 h _ hg)
      have next : F[h] ≠ (p, st) → vX7_proposes_16 m P n (p : Int) ((h : Int) + 1) σ := fun ne => by
        have := ih (h + 1) (by omega) (by omega) (fun i hi' => by
          by_cases x : i = h
          · subst x
            rw [hg]
            exact fun y => ne (Option.some.inj y)
          · exact hno i (by omega))
        exact_mod_cast this
      rw [Int.toNat_natCast, a1]
      refine ⟨by omega, by rw [z.2.2.2.2.2.1]; omega, zR_s (by omega) (by omega), zR_s (by omega) (by omega), fun ne => ?_, fun eq => ?_⟩
      · unfold vX7_proposes_54
        exact next (fun y => ne (by rw [y]))
      · rw [show (11 : Int) * (h : Int) = ((11 * h : Nat) : Int) by omega]
        refine s7_areSame0 hst (hyp_ok hm hw (by omega) (e4 h _ hg) hH) ?_
        rw [est, a5]
        refine ⟨b2i_R _, fun b => ?_, fun b => ?_⟩
        · unfold vX7_proposes_54
          exact next (fun y => of_decide_eq_false (b2i_0.mp b) (by rw [y]))
        · have e8 := of_decide_eq_true (b2i_1.mp b)
          have : F[h] = (p, st) := Prod.ext (by omega) e8.symm
          exact h1 σ F H pM.refl rfl hE (fun _ h => h) (by omega) (fun _ => by rw [← this]; exact List.getElem_mem hi)
theorem m_proposes {N : Nat} (hm : zk m = 6) (e : σ (m + 1) = f) (hw : wfF f) (hp : (p : Int) < f 0) (hst : fok σ (m + 11) 0 N) (est : fl (σ (m + 11)) 0 = st) (hE : fnd σ m f F H) (hlen : F.length < 2880)
    (h1 : ∀ τ F' H', pM σ τ m → τ (m + 11) = σ (m + 11) → fnd τ m f F' H' → (∀ q ∈ F, q ∈ F') → F'.length ≤ F.length + 1 → (isH f p st → (p, st) ∈ F') → P τ) : vX7_proposes m (p : Int) P σ := by
  refine sm_isStem0 hm (by rw [e]; exact hw) (by rw [e]; exact hp) hst ?_
  rw [e, est]
  refine ⟨b2i_R _, fun a => ⟨F.length + 1, ?_⟩, fun a => h1 σ F H pM.refl rfl hE (fun _ h => h) (by omega) (fun h => by
    have := h.2.2.1
    rw [b2i_0.mp a] at this
    exact absurd this (by decide))⟩
  have ha := b2i_1.mp a
  have hl : 2 ≤ st.length ∧ st.length ≤ 10 := by
    have h3 := ha
    unfold alwF alw at h3
    rw [Bool.and_eq_true] at h3
    exact of_decide_eq_true h3.1
  have ll := fl_len hst
  rw [est] at ll
  have z := mz hm
  have ok : fok σ (m + 11) 0 10 := ⟨hst.1, hst.2.1, by omega, by decide, by rw [z.2.2.2.2.2.2.2.2.2.2.1]; decide, hst.2.2.2.2.2⟩
  have := m_proposes_16 (P := P) hm e hw hp ok est hl.1 ha hE hlen h1 (F.length + 1) 0 (by omega) (by omega) (fun i hi => by omega)
  exact_mod_cast this
/-- the five vowels -/
theorem m_pf192 (hm : zk m = 6) (hw : wfF f) (hp : (p : Int) < f 0) {j : Nat} (hB : ab B) (hB18 : B.length ≤ 18) (hj : j < B.length) (hlen : F.length + 5 ≤ 2880)
    (h1 : ∀ τ F' H', pM σ τ m → fnd τ m f F' H' → (∀ q ∈ F, q ∈ F') → F'.length ≤ F.length + 5 → (∀ v, v < 5 → isH f p (B.set j (zvo v)) → (p, B.set j (zvo v)) ∈ F') → P τ) :
    ∀ (n v : Nat) (τ : Sto) (F' H' : List (Nat × List Int)), v ≤ 5 → 5 - v < n → τ (m + 1) = f → pM σ τ m → fnd τ m f F' H' → (∀ q ∈ F, q ∈ F') → F'.length ≤ F.length + v → (∀ v', v' < v → isH f p (B.set j (zvo v')) → (p, B.set j (zvo v')) ∈ F') → (fok τ (m + 11) 0 18 ∧ ∃ y, fl (τ (m + 11)) 0 = B.set j y) → vX7_proposesFrom_192 m P n (p : Int) ((j : Int) + 1) (v : Int) τ := by
  intro n
  induction n with
  | zero => intro v τ F' H' a1 a2; omega
  | succ n ih =>
    intro v τ F' H' a1 a2 e hg hE hsub hl hcov hwl
    have z := mz hm
    obtain ⟨ok, y, ey⟩ := hwl
    refine ⟨zR_s (by omega) (by omega), fun q => ?_, fun q => ⟨zR_s (by omega) (by omega), fun x => by omega, fun x => ?_⟩⟩
    · have : v = 5 := by omega
      subst this
      exact h1 τ F' H' hg hE hsub hl hcov
    · have hv := zvo_ab (j := v) (by omega)
      refine s7_vowel (by omega) (by omega) ⟨by omega, by rw [z.2.2.2.2.2.2.2.2.2.2.1]; omega, fun s8 q8 => ?_⟩
      rw [show ((j : Int) + 1).toNat = 0 + 1 + j by omega, Int.toNat_natCast] at q8
      have hs : setq τ τ (m + 11) 0 31 (B.set j y) := ⟨fr.refl, by rw [← fl_len ok, ey], ey, fun _ _ => rfl⟩
      have hs2 := setq_set (x := zvo v) hs (i := j) (by rw [List.length_set]; exact hj) (by rw [List.length_set]; omega)
      rw [← q8, List.set_set] at hs2
      have ok8 : fok s8 (m + 11) 0 18 := hs2.ok (zf_6_stem hm) (by rw [List.length_set]; exact hB18) (by decide) (by rw [z.2.2.2.2.2.2.2.2.2.2.1]; decide) (ab_set hB hv)
      have n8 : ∀ i, i ≠ m + 11 → s8 i = τ i := fun i a => by rw [q8, zu_ne a]
      have p8 : pM τ s8 m := ⟨fun i hi => n8 i (by omega), fun i _ _ => by rw [n8 m (by omega)]⟩
      refine m_proposes (F := F') (H := H') hm (by rw [n8 _ (by omega)]; exact e) hw hp ok8 hs2.2.2.1 (hE.fr (by rw [n8 m (by omega)]) (fun i a b => n8 i (by omega))) (by omega) (fun υ F2 H2 gu e11 hE2 hs2' hl2 hin => ?_)
      have okυ := ok8.fr (τ := υ) e11
      have := ih (v + 1) υ F2 H2 (by omega) (by omega) (by rw [gu.1 _ (by omega), n8 _ (by omega)]; exact e) (hg.trans (p8.trans gu)) hE2 (fun q h => hs2' q (hsub q h)) (by omega) (fun v' hv' h => by
        by_cases x : v' = v
        · subst x; exact hin h
        · exact hs2' _ (hcov v' (by omega) h)) ⟨okυ.1, zvo v, by rw [okυ.2]; exact hs2.2.2.1⟩
      exact_mod_cast this
theorem m_pf177_0 (hm : zk m = 6) (e : σ (m + 1) = f) (hw : wfF f) (hp : (p : Int) < f 0) (hst : fok σ (m + 11) 0 18) (est : fl (σ (m + 11)) 0 = B) (hE : fnd σ m f F H) (hlen : F.length + 5 ≤ 2880)
    (h1 : ∀ τ F' H', pM σ τ m → fnd τ m f F' H' → (∀ q ∈ F, q ∈ F') → F'.length ≤ F.length + 5 → (isH f p B → (p, B) ∈ F') → P τ) : vX7_proposesFrom_177 m P (p : Int) 0 σ := by
  refine ⟨zR_0, fun a => absurd rfl a, fun _ => m_proposes hm e hw hp hst est hE (by omega) (fun τ F' H' a b c d e' f' => ⟨1, ?_⟩)⟩
  exact ⟨zR_0, fun q => absurd q (by decide), fun _ => ⟨zR_0, fun _ => h1 τ F' H' a c d (by omega) f', fun q => absurd (Int.le_refl 0) q⟩⟩
theorem m_pf154 (hm : zk m = 6) (e : σ (m + 1) = f) (hw : wfF f) (hp : (p : Int) < f 0) (hc : (c : Int) < f (pa p)) (hst : fok σ (m + 11) 0 18) (est : fl (σ (m + 11)) 0 = B) (hE : fnd σ m f F H) (hlen : F.length + 5 ≤ 2880)
    (h1 : ∀ τ F' H', pM σ τ m → fnd τ m f F' H' → (∀ q ∈ F, q ∈ F') → F'.length ≤ F.length + 5 → (¬ f (ca p c) = 3 → isH f p B → (p, B) ∈ F') → (f (ca p c) = 3 → 0 ≤ lvow B → ∀ v, v < 5 → isH f p (B.set (lvow B).toNat (zvo v)) → (p, B.set (lvow B).toNat (zvo v)) ∈ F') → P τ) : vX7_proposesFrom_154 m P (p : Int) ((ca p c : Nat) : Int) σ := by
  have z := mz hm
  have p6 := hw.1
  have wp := hw.2.2.2.1 p hp
  have c6 := wp.1
  have wc := wp.2.2.2.2 c hc
  have k0 := wc.1
  have hca : ca p c < 500 := by unfold ca; omega
  have hab := hst.2.2.2.2.2
  rw [est] at hab
  have ll := fl_len hst
  rw [est] at ll
  have l18 := hst.2.2.1
  unfold vX7_proposesFrom_154
  rw [Int.toNat_natCast, e]
  refine ⟨by omega, by rw [z.1]; omega, zR_s (by omega) (by omega), fun k3 => m_pf177_0 hm e hw hp hst est hE hlen (fun τ F' H' a b c d f' => h1 τ F' H' a b c d (fun _ => f') (fun x => absurd x k3)), fun k3 => s7_lastVowel0 hst ?_⟩
  rw [est]
  have vb := lvow_b B
  by_cases v0 : lvow B < 0
  · rw [show lvow B + 1 = 0 by omega]
    exact m_pf177_0 hm e hw hp hst est hE hlen (fun τ F' H' a b c d f' => h1 τ F' H' a b c d (fun x => absurd k3 x) (fun _ x => by omega))
  · refine ⟨zR_s (by omega) (by omega), fun _ => ⟨6, ?_⟩, fun x => by omega⟩
    have := m_pf192 (σ := σ) (P := P) (F := F) (B := B) (j := (lvow B).toNat) hm hw hp hab (by omega) (by omega) hlen (fun τ F' H' a b c d f' => h1 τ F' H' a b c d (fun x => absurd k3 x) (fun _ _ => f')) 6 0 σ F H (by omega) (by omega) e pM.refl hE (fun _ h => h) (by omega) (fun v' hv' => by omega) ⟨hst, B.getD (lvow B).toNat 0, by
      rw [est]
      apply List.ext_getElem?
      intro i
      by_cases qi : i = (lvow B).toNat
      · subst qi
        rw [List.getElem?_set_self (by omega), List.getD_eq_getElem?_getD, List.getElem?_eq_getElem (by omega)]
        rfl
      · rw [List.getElem?_set_ne (Ne.symm qi)]⟩
    rw [show (((lvow B).toNat : Nat) : Int) = lvow B by omega] at this
    exact_mod_cast this
theorem m_pf120 (hm : zk m = 6) (e : σ (m + 1) = f) (hw : wfF f) (hp : (p : Int) < f 0) (hc : (c : Int) < f (pa p)) (hst : fok σ (m + 11) 0 18) (est : fl (σ (m + 11)) 0 = B) (hE : fnd σ m f F H) (hlen : F.length + 5 ≤ 2880)
    (h1 : ∀ τ F' H', pM σ τ m → fnd τ m f F' H' → (∀ q ∈ F, q ∈ F') → F'.length ≤ F.length + 5 → (f (ca p c) = 2 → isH f p (B.take (B.length - 1)) → (p, B.take (B.length - 1)) ∈ F') → (¬ f (ca p c) = 2 → ¬ f (ca p c) = 3 → isH f p B → (p, B) ∈ F') → (f (ca p c) = 3 → 0 ≤ lvow B → ∀ v, v < 5 → isH f p (B.set (lvow B).toNat (zvo v)) → (p, B.set (lvow B).toNat (zvo v)) ∈ F') → P τ) : vX7_proposesFrom_120 m P (p : Int) ((ca p c : Nat) : Int) σ := by
  have z := mz hm
  have p6 := hw.1
  have wp := hw.2.2.2.1 p hp
  have c6 := wp.1
  have wc := wp.2.2.2.2 c hc
  have k0 := wc.1
  have hca : ca p c < 500 := by unfold ca; omega
  have hab := hst.2.2.2.2.2
  rw [est] at hab
  have ll := fl_len hst
  rw [est] at ll
  have l18 := hst.2.2.1
  have n32 := z.2.2.2.2.2.2.2.2.2.2.1
  have hs : setq σ σ (m + 11) 0 31 B := ⟨fr.refl, by rw [← ll], est, fun _ _ => rfl⟩
  have e0 : Int.toNat 0 = 0 := rfl
  unfold vX7_proposesFrom_120
  rw [Int.toNat_natCast, e, e0]
  refine ⟨by omega, by rw [z.1]; omega, zR_s (by omega) (by omega), fun k2 => m_pf154 hm e hw hp hc hst est hE hlen (fun τ F' H' a b c d f1 f2 => h1 τ F' H' a b c d (fun x => absurd x k2) (fun _ => f1) f2), fun k2 => ⟨by omega, by omega, zR_s (by omega) (by omega), fun x => ⟨by omega, by omega, fun s12 q12 => ?_⟩, fun x => ⟨by omega, by omega, fun s12 q12 => ?_⟩⟩⟩
  · have hs2 := setq_drop hs (c := 0) (by decide) (by omega)
    rw [e0] at q12
    rw [← q12] at hs2
    have n12 : ∀ i, i ≠ m + 11 → s12 i = σ i := fun i a => by rw [q12, zu_ne a]
    have p12 : pM σ s12 m := ⟨fun i hi => n12 i (by omega), fun i _ _ => by rw [n12 m (by omega)]⟩
    have eB : B.take (B.length - Int.toNat 0) = B.take (B.length - 1) := by
      have : B = [] := List.length_eq_zero_iff.mp (by omega)
      rw [this]; rfl
    rw [eB] at hs2
    exact m_pf154 hm (by rw [n12 _ (by omega)]; exact e) hw hp hc (hs2.ok (n := 18) (zf_6_stem hm) (by rw [List.length_take]; omega) (by decide) (by rw [n32]; decide) (ab_take hab _)) hs2.2.2.1 (hE.fr (by rw [n12 m (by omega)]) (fun i a b => n12 i (by omega))) hlen (fun τ F' H' a b c d f1 f2 => h1 τ F' H' (p12.trans a) b c d (fun _ => f1 (by omega)) (fun x => absurd k2 x) (fun y => by omega))
  · have hs2 := setq_drop hs (c := 1) (by decide) (by omega)
    rw [e0] at q12
    rw [← q12] at hs2
    have n12 : ∀ i, i ≠ m + 11 → s12 i = σ i := fun i a => by rw [q12, zu_ne a]
    have p12 : pM σ s12 m := ⟨fun i hi => n12 i (by omega), fun i _ _ => by rw [n12 m (by omega)]⟩
    have eB : B.take (B.length - Int.toNat 1) = B.take (B.length - 1) := rfl
    rw [eB] at hs2
    exact m_pf154 hm (by rw [n12 _ (by omega)]; exact e) hw hp hc (hs2.ok (n := 18) (zf_6_stem hm) (by rw [List.length_take]; omega) (by decide) (by rw [n32]; decide) (ab_take hab _)) hs2.2.2.1 (hE.fr (by rw [n12 m (by omega)]) (fun i a b => n12 i (by omega))) hlen (fun τ F' H' a b c d f1 f2 => h1 τ F' H' (p12.trans a) b c d (fun _ => f1 (by omega)) (fun x => absurd k2 x) (fun y => by omega))
/-- the old ending behind the stem -/
theorem m_pf80 (hm : zk m = 6) (hn : fok σ (m + 1) (ca p c + 2) 4) (hca : ca p c < 500) (hl : B.length ≤ 14) (ha : ab B) (h : ∀ τ, setq σ τ (m + 11) 0 31 (B ++ fl (σ (m + 1)) (ca p c + 2)) → vX7_proposesFrom_120 m P (p : Int) ((ca p c : Nat) : Int) τ) : ∀ (n i : Nat) (τ : Sto), 1 ≤ i → (i : Int) ≤ σ (m + 1) (ca p c + 2) + 1 → σ (m + 1) (ca p c + 2) + 1 - i < n → setq σ τ (m + 11) 0 31 (B ++ (fl (σ (m + 1)) (ca p c + 2)).take (i - 1)) → vX7_proposesFrom_80 m P n (p : Int) ((ca p c : Nat) : Int) (i : Int) τ := by
  intro n
  induction n with
  | zero => intro i τ h1 h2 h3; omega
  | succ n ih =>
    intro i τ h1 h2 h3 hτ
    obtain ⟨hz, h0, hn4, h40, hzn, hab⟩ := id hn
    have z := mz hm
    have n32 := z.2.2.2.2.2.2.2.2.2.2.1
    have es : τ (m + 1) = σ (m + 1) := hτ.keep (by omega)
    have hlen := fl_len hn
    unfold vX7_proposesFrom_80 bX7_proposesFrom_80
    rw [es, show (((ca p c : Nat) : Int) + 2).toNat = ca p c + 2 by omega]
    refine ⟨by omega, by rw [z.1]; omega, zR_s (by omega) (by omega), zR_s (by omega) (by omega), fun w => ?_, fun w => ?_⟩
    · rw [List.take_of_length_le (by omega)] at hτ
      exact h τ hτ
    · rw [show (((ca p c : Nat) : Int) + 2 + (i : Int)).toNat = ca p c + 2 + i by omega]
      have hi : i - 1 < (fl (σ (m + 1)) (ca p c + 2)).length := by omega
      have hat := hn.at (i := i) h1 (by omega)
      have hfo : fok τ (m + 11) 0 18 := hτ.ok (zf_6_stem hm) (by rw [List.length_append, List.length_take]; omega) (by omega) (by rw [n32]; omega) (ab_app ha (ab_take hab _))
      refine ⟨by omega, by rw [z.1]; omega, ?_⟩
      refine s7_put0 (N := 31) (x := σ (m + 1) (ca p c + 2 + i)) hfo (by rw [hτ.2.1, List.length_append, List.length_take]; omega) (by rw [n32]; omega) (fun υ hυ => ?_)
      rw [hτ.2.2.1, List.append_assoc] at hυ
      have e : (fl (σ (m + 1)) (ca p c + 2)).take (i - 1) ++ [σ (m + 1) (ca p c + 2 + i)] = (fl (σ (m + 1)) (ca p c + 2)).take (i + 1 - 1) := by
        have e2 : (fl (σ (m + 1)) (ca p c + 2))[i - 1] = σ (m + 1) (ca p c + 2 + i) := by
          have g : (fl (σ (m + 1)) (ca p c + 2))[i - 1]? = some (σ (m + 1) (ca p c + 2 + i)) := by
            unfold fl
            rw [seg_get (by omega)]
            congr 2
            omega
          rw [List.getElem?_eq_getElem hi] at g
          exact Option.some.inj g
        rw [← e2, List.take_append_getElem hi]
        congr 1
        omega
      rw [e] at hυ
      have := ih (i + 1) υ (by omega) (by omega) (by omega) (hτ.trans hυ)
      exact_mod_cast this
theorem m_proposesFrom (hm : zk m = 6) (e : σ (m + 1) = f) (hw : wfF f) (hp : (p : Int) < f 0) (hc : (c : Int) < f (pa p)) (hwd : (w : Int) < f 1) (hE : fnd σ m f F H) (hlen : F.length + 5 ≤ 2880)
    (h1 : ∀ τ F' H', pM σ τ m → fnd τ m f F' H' → (∀ q ∈ F, q ∈ F') → F'.length ≤ F.length + 5 → cov f p c w F' → P τ) : vX7_proposesFrom m (p : Int) (c : Int) (w : Int) P σ := by
  have z := mz hm
  have n32 := z.2.2.2.2.2.2.2.2.2.2.1
  have p6 := hw.1
  have w16 := hw.2.1
  have wp := hw.2.2.2.1 p hp
  have c6 := wp.1
  have wc := wp.2.2.2.2 c hc
  have ww := hw.2.2.2.2.1 w hwd
  have k0 := wc.1
  have hca : ca p c < 500 := by unfold ca; omega
  have hwa : wa w < 720 := by unfold wa; omega
  have hll : ((fl f (wa w)).length : Int) = f (wa w) := by unfold fl; rw [seg_len]; have := ww.1; omega
  have l12 : ((fl f (ca p c + 7)).length : Int) = f (ca p c + 7) := by unfold fl; rw [seg_len]; have := wc.2.2.2.1.1; omega
  have l9 : ((fl f (ca p c + 2)).length : Int) = f (ca p c + 2) := by unfold fl; rw [seg_len]; have := wc.2.2.1.1; omega
  have hl14 := ww.2.1
  unfold vX7_proposesFrom vX7_cellAt vX7_paradigmAt vX7_wordAt
  try dsimp only
  rw [show ((3 : Int) + 80 * (p : Int) + 8 + 12 * (c : Int)) = ((ca p c : Nat) : Int) by unfold ca; omega, show ((483 : Int) + 15 * (w : Int)) = ((wa w : Nat) : Int) by unfold wa; omega, show ((ca p c : Nat) : Int) + 7 = ((ca p c + 7 : Nat) : Int) by omega]
  simp only [Int.toNat_natCast]
  have okw : fok σ (m + 1) (wa w) 14 := fok_of (n := 14) hm (by rw [e]; exact ww) (by decide) (by decide) (by omega)
  have ok7 : fok σ (m + 1) (ca p c + 7) 4 := fok_of (n := 4) hm (by rw [e]; exact wc.2.2.2.1) (by decide) (by decide) (by omega)
  have ok2 : fok σ (m + 1) (ca p c + 2) 4 := fok_of (n := 4) hm (by rw [e]; exact wc.2.2.1) (by decide) (by decide) (by omega)
  refine s7_endsIn okw ok7 ?_
  rw [e]
  refine ⟨b2i_R _, fun a => ?_, fun a => h1 σ F H pM.refl hE (fun _ h => h) (by omega) (fun st hh hb => absurd (bld_inv hb).1 (of_decide_eq_false (b2i_0.mp a)))⟩
  have hs := of_decide_eq_true (b2i_1.mp a)
  have hsl := hs.length_le
  refine s7_copyT okw (zf_6_stem hm) (by rw [n32]; decide) (by omega) (fun s5 h5 => ?_)
  rw [e] at h5
  have h5 : setq σ s5 (m + 11) 0 31 (fl f (wa w)) := ⟨h5.1, h5.2.1, h5.2.2.1, fun j hj => h5.2.2.2 j (by omega)⟩
  have e51 : s5 (m + 1) = f := by rw [h5.keep (by omega)]; exact e
  rw [e51]
  refine ⟨by rw [n32]; decide, by omega, by rw [z.1]; omega, by rw [n32]; decide, fun s6 q6 => ⟨by omega, by rw [z.1]; omega, ?_⟩⟩
  have h6 := setq_drop h5 (c := f (ca p c + 7)) (by omega) (by omega)
  have q6 : s6 = zu s5 (m + 11) 0 (s5 (m + 11) 0 - f (ca p c + 7)) := q6
  rw [← q6, show (f (ca p c + 7)).toNat = (fl f (ca p c + 7)).length by omega] at h6
  have h6 : setq σ s6 (m + 11) 0 31 (baseF f p c w) := h6
  have hBab : ab (baseF f p c w) := ab_take ww.2.2 _
  have hBl : (baseF f p c w).length ≤ 14 := by unfold baseF; rw [List.length_take]; omega
  have n6 : ∀ i, i ≠ m + 11 → s6 i = σ i := fun i a => h6.keep a
  have p6' : pM σ s6 m := ⟨fun i hi => n6 i (by omega), fun i _ _ => by rw [n6 m (by omega)]⟩
  have E6 : fnd s6 m f F H := hE.fr (by rw [n6 m (by omega)]) (fun i a b => n6 i (by omega))
  have e61 : s6 (m + 1) = f := by rw [n6 _ (by omega)]; exact e
  have ok6 : fok s6 (m + 11) 0 18 := h6.ok (zf_6_stem hm) (by omega) (by decide) (by rw [n32]; decide) hBab
  rw [e61]
  refine ⟨zR_s (by omega) (by omega), fun k1 => ?_, fun k1 => ⟨6, ?_⟩⟩
  · refine m_pf120 hm e61 hw hp hc ok6 h6.2.2.1 E6 hlen (fun τ F' H' a b d e' f1 f2 f3 => h1 τ F' H' (p6'.trans a) b d e' (fun st hh hb => ?_))
    have inv := bld_inv hb
    by_cases k2 : f (ca p c) = 2
    · have eb := inv.2.2.1 k2
      have hb2 := isH_b hw hh
      have e3 : (baseF f p c w).take ((baseF f p c w).length - 1) = st := by
        obtain ⟨t, x, ex⟩ : ∃ t x, st = t ++ [x] := by
          rcases List.eq_nil_or_concat st with z | ⟨t, x, z⟩
          · rw [z] at hb2; have := hb2.2.1; simp at this
          · exact ⟨t, x, by rw [z, List.concat_eq_append]⟩
        have e4 : st.getLast?.toList = [x] := by rw [ex]; simp
        rw [e4] at eb
        rw [eb]
        exact take_base (a := st) (n := [x])
      have := f1 k2
      rw [e3] at this
      exact this hh
    · by_cases k3 : f (ca p c) = 3
      · have hpr := wc.2.1 k3
        have i3 := bld_inv3 hpr hb k3
        obtain ⟨v, v5, ev⟩ := i3.2.2
        have := f3 k3 i3.1 v v5
        rw [← ev] at this
        exact this hh
      · have := f2 k2 k3
        rw [inv.2.2.2.2 k1 k2 k3] at this
        exact this hh
  · have k2 : ¬ f (ca p c) = 2 := by omega
    have k3 : ¬ f (ca p c) = 3 := by omega
    have ok26 : fok s6 (m + 1) (ca p c + 2) 4 := (ok2.fr (τ := s6) (n6 _ (by omega))).1
    have hs6 : setq s6 s6 (m + 11) 0 31 (baseF f p c w) := ⟨fr.refl, h6.2.1, h6.2.2.1, fun _ _ => rfl⟩
    have := m_pf80 (σ := s6) (P := P) (B := baseF f p c w) hm ok26 hca hBl hBab (fun τ hτ => by
      rw [e61] at hτ
      have nτ : ∀ i, i ≠ m + 11 → τ i = s6 i := fun i a => hτ.keep a
      have pτ : pM s6 τ m := ⟨fun i hi => nτ i (by omega), fun i _ _ => by rw [nτ m (by omega)]⟩
      refine m_pf120 hm (by rw [nτ _ (by omega)]; exact e61) hw hp hc (hτ.ok (zf_6_stem hm) (by rw [List.length_append]; have := wc.2.2.1.2.1; omega) (by decide) (by rw [n32]; decide) (ab_app hBab wc.2.2.1.2.2)) hτ.2.2.1 (E6.fr (by rw [nτ m (by omega)]) (fun i a b => nτ i (by omega))) hlen (fun υ F' H' a b d e' f1 f2 f3 => h1 υ F' H' (p6'.trans (pτ.trans a)) b d e' (fun st hh hb => ?_))
      have := f2 k2 k3
      rw [← (bld_inv hb).2.1 k1] at this
      exact this hh) 6 1 s6 (by omega) (by rw [e61]; have := wc.2.2.1.1; omega) (by rw [e61]; have := wc.2.2.1.2.1; omega) (by rw [Nat.sub_self, List.take_zero, List.append_nil]; exact hs6)
    exact_mod_cast this
end
