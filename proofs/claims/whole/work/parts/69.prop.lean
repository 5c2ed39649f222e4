/-! PURE: the reference ranks what it is proposed -/
theorem key_e {e u p e' u' p' : Nat} {l l' : List Int} (he : e ≤ 6) (he' : e' ≤ 6) (hu : u < 8) (hu' : u' < 8) (hp : p < 8) (hp' : p' < 8) (hl : l.length ≤ 10) (hl' : l'.length ≤ 10) (ha : ab l) (ha' : ab l') (h : e ≠ e') : keyN e u p l < keyN e' u' p' l' ↔ e' < e := by
  have b := pairN_lt hp hl ha
  have b' := pairN_lt hp' hl' ha'
  unfold keyN
  omega
theorem key_u {e u p u' p' : Nat} {l l' : List Int} (hp : p < 8) (hp' : p' < 8) (hl : l.length ≤ 10) (hl' : l'.length ≤ 10) (ha : ab l) (ha' : ab l') (h : u ≠ u') : keyN e u p l < keyN e u' p' l' ↔ u < u' := by
  have b := pairN_lt hp hl ha
  have b' := pairN_lt hp' hl' ha'
  unfold keyN
  omega
theorem key_l {e u p p' : Nat} {l l' : List Int} (hp : p < 8) (hp' : p' < 8) (hl : l.length ≤ 10) (hl' : l'.length ≤ 10) (ha : ab l) (ha' : ab l') (h : l.length ≠ l'.length) : keyN e u p l < keyN e u p' l' ↔ l'.length < l.length := by
  have b := lnum_50 hl ha
  have b' := lnum_50 hl' ha'
  unfold keyN pairN
  omega
theorem key_p {e u p p' : Nat} {l l' : List Int} (hl : l.length ≤ 10) (hl' : l'.length ≤ 10) (ha : ab l) (ha' : ab l') (hll : l.length = l'.length) (h : p ≠ p') : keyN e u p l < keyN e u p' l' ↔ p < p' := by
  have b := lnum_50 hl ha
  have b' := lnum_50 hl' ha'
  unfold keyN pairN
  rw [hll]
  omega
theorem key_w {e u p : Nat} {l l' : List Int} (hll : l.length = l'.length) : keyN e u p l < keyN e u p l' ↔ lnum l < lnum l' := by
  unfold keyN pairN
  rw [hll]
  omega
section
variable {σ τ : Sto} {m p c w : Nat} {f : Nat → Int} {P Q : Sto → Prop} {PI : Int → Sto → Prop} {st v : List Int} {F H F' H' : List (Nat × List Int)} {q q0 : Nat × List Int}
theorem m_compareWords_3 {k a b : Nat} (ha : fok σ k a 10) (hb : fok σ k b 10) (hl : σ k a = σ k b) (h : ∀ r, -1000 ≤ r → r ≤ 1000 → (r < 0 ↔ lnum (fl (σ k) a) < lnum (fl (σ k) b)) → PI r σ) : ∀ (n i : Nat), (i : Int) ≤ σ k a → σ k a + 1 - i < n → (∀ j, j < i → (fl (σ k) a)[j]? = (fl (σ k) b)[j]?) → vX7_compareWords_3 k k PI n (a : Int) (b : Int) ((i : Int) + 1) σ := by
  have la := fl_len ha
  have lb := fl_len hb
  obtain ⟨z1, z2, z3, z4, z5, z6⟩ := id ha
  obtain ⟨y1, y2, y3, y4, y5, y6⟩ := id hb
  have nk := zn_lt k
  intro n
  induction n with
  | zero => intro i a1 a2; omega
  | succ n ih =>
    intro i a1 a2 hp
    unfold vX7_compareWords_3 bX7_compareWords_3 vX7_compareWords_40 vX7_compareWords_56 vX7_compareWords_79
    rw [Int.toNat_natCast, Int.toNat_natCast, ← hl]
    refine ⟨by omega, by omega, zR_s (by omega) (by omega), zR_s (by omega) (by omega), fun e => ⟨by omega, by omega, zR_s (by omega) (by omega), zR_s (by omega) (by omega), fun _ => ⟨by omega, by omega, by omega, by omega, ?_⟩, fun e2 => absurd e e2⟩, fun e => ⟨by omega, by omega, zR_s (by omega) (by omega), zR_s (by omega) (by omega), fun e2 => absurd e2 e, fun _ => ?_⟩⟩
    · have eq : fl (σ k) a = fl (σ k) b := by
        apply List.ext_getElem?
        intro j
        rcases Nat.lt_or_ge j i with q | q
        · exact hp j q
        · rw [List.getElem?_eq_none (by omega), List.getElem?_eq_none (by omega)]
      exact h _ (by omega) (by omega) (by rw [eq]; omega)
    · have e1 : ((a : Int) + ((i : Int) + 1)).toNat = a + (i + 1) := by omega
      have e2 : ((b : Int) + ((i : Int) + 1)).toNat = b + (i + 1) := by omega
      rw [e1, e2]
      have l1 := ha.at (i := i + 1) (by omega) (by omega)
      have l2 := hb.at (i := i + 1) (by omega) (by omega)
      have g1 : (fl (σ k) a)[i]? = some (σ k (a + (i + 1))) := by
        unfold fl
        rw [seg_get (by omega)]
        congr 2
        omega
      have g2 : (fl (σ k) b)[i]? = some (σ k (b + (i + 1))) := by
        unfold fl
        rw [seg_get (by omega)]
        congr 2
        omega
      refine ⟨by omega, by omega, by omega, by omega, zR_s (by omega) (by omega), zR_s (by omega) (by omega), fun d => ⟨by omega, by omega, zR_s (by omega) (by omega), zR_s (by omega) (by omega), fun y => absurd y e, fun _ => ⟨by omega, by omega, zR_s (by omega) (by omega), zR_s (by omega) (by omega), fun _ => ⟨by omega, by omega, by omega, by omega, ?_⟩, fun y => absurd (by omega) y⟩⟩, fun d => ?_⟩
      · refine h _ (by omega) (by omega) ?_
        have d1 : (fl (σ k) a).getD i 0 = σ k (a + (i + 1)) := by rw [List.getD_eq_getElem?_getD, g1]; rfl
        have d2 : (fl (σ k) b).getD i 0 = σ k (b + (i + 1)) := by rw [List.getD_eq_getElem?_getD, g2]; rfl
        rcases Int.lt_trichotomy (σ k (a + (i + 1))) (σ k (b + (i + 1))) with t | t | t
        · have := lnum_at z6 y6 (by omega) (i := i) (by omega) hp (by rw [d1, d2]; exact t)
          omega
        · exact absurd t d
        · have := lnum_at y6 z6 (by omega) (i := i) (by omega) (fun j hj => (hp j hj).symm) (by rw [d1, d2]; exact t)
          omega
      · have := ih (i + 1) (by omega) (by omega) (fun j hj => by
          by_cases q : j = i
          · subst q; rw [g1, g2, d]
          · exact hp j (by omega))
        exact_mod_cast this
theorem hyp_ok {h : Nat} (hm : zk m = 6) (hw : wfF f) (hh : h < 2880) (hq : hypM σ m f h q) (hi : isH f q.1 q.2) : fok σ (m + 9) (11 * h) 10 := by
  have b := isH_b hw hi
  have z := mz hm
  exact ⟨zf_6_stems hm, by rw [hq.2.2.2.1]; omega, by rw [hq.2.2.2.1]; omega, by decide, by rw [z.2.2.2.2.2.2.2.2.1]; omega, by rw [hq.2.2.2.2]; exact b.2.2.2.1⟩
theorem m_isAhead {h o : Nat} (hm : zk m = 6) (hw : wfF f) (hh : h < 2880) (ho : o < 2880) (hq : hypM σ m f h q) (hq0 : hypM σ m f o q0) (hi : isH f q.1 q.2) (hi0 : isH f q0.1 q0.2) (h1 : PI (b2i (decide (keyF f q.1 q.2 < keyF f q0.1 q0.2))) σ) : vX7_isAhead m (h : Int) (o : Int) PI σ := by
  have b := isH_b hw hi
  have b0 := isH_b hw hi0
  have eb := expl_b (st := q.2) hw hi.1
  have eb0 := expl_b (st := q0.2) hw hi0.1
  have z := mz hm
  obtain ⟨a1, a2, a3, a4, a5⟩ := id hq
  obtain ⟨c1, c2, c3, c4, c5⟩ := id hq0
  have yes : ∀ (X : Prop), (keyF f q.1 q.2 < keyF f q0.1 q0.2 ↔ X) → X → PI 1 σ := fun X e x => by
    rw [decide_eq_true (e.mpr x)] at h1
    exact h1
  have no : ∀ (X : Prop), (keyF f q.1 q.2 < keyF f q0.1 q0.2 ↔ X) → ¬ X → PI 0 σ := fun X e x => by
    rw [decide_eq_false (fun y => x (e.mp y))] at h1
    exact h1
  unfold keyF at yes no
  unfold vX7_isAhead
  rw [show (11 : Int) * (h : Int) = ((11 * h : Nat) : Int) by omega, show (11 : Int) * (o : Int) = ((11 * o : Nat) : Int) by omega]
  simp only [Int.toNat_natCast]
  rw [a1, a2, a3, a4, c1, c2, c3, c4]
  refine ⟨by omega, by rw [z.2.2.2.2.2.2.1]; omega, by omega, by rw [z.2.2.2.2.2.2.1]; omega, zR_s (by omega) (by omega), zR_s (by omega) (by omega), fun e1 => ⟨by omega, by rw [z.2.2.2.2.2.2.2.1]; omega, by omega, by rw [z.2.2.2.2.2.2.1]; omega, by omega, by rw [z.2.2.2.2.2.2.2.1]; omega, by omega, by rw [z.2.2.2.2.2.2.1]; omega, zR_s (by omega) (by omega), zR_s (by omega) (by omega), fun e2 => ⟨by omega, by rw [z.2.2.2.2.2.2.2.2.1]; omega, by omega, by rw [z.2.2.2.2.2.2.2.2.1]; omega, zR_s (by omega) (by omega), zR_s (by omega) (by omega), fun e3 => ⟨by omega, by rw [z.2.2.2.2.2.1]; omega, by omega, by rw [z.2.2.2.2.2.1]; omega, zR_s (by omega) (by omega), zR_s (by omega) (by omega), fun e4 => ⟨q.2.length + 2, ?_⟩, fun e4 => ⟨by omega, by rw [z.2.2.2.2.2.1]; omega, by omega, by rw [z.2.2.2.2.2.1]; omega, zR_s (by omega) (by omega), zR_s (by omega) (by omega), fun d => ⟨Or.inl rfl, ?_⟩, fun d => ⟨Or.inr rfl, ?_⟩⟩⟩, fun e3 => ⟨by omega, by rw [z.2.2.2.2.2.2.2.2.1]; omega, by omega, by rw [z.2.2.2.2.2.2.2.2.1]; omega, zR_s (by omega) (by omega), zR_s (by omega) (by omega), fun d => ⟨Or.inl rfl, ?_⟩, fun d => ⟨Or.inr rfl, ?_⟩⟩⟩, fun e2 => ⟨zR_s (by omega) (by omega), zR_s (by omega) (by omega), fun d => ⟨Or.inl rfl, ?_⟩, fun d => ⟨Or.inr rfl, ?_⟩⟩⟩, fun e1 => ⟨by omega, by rw [z.2.2.2.2.2.2.1]; omega, by omega, by rw [z.2.2.2.2.2.2.1]; omega, zR_s (by omega) (by omega), zR_s (by omega) (by omega), fun d => ⟨Or.inl rfl, ?_⟩, fun d => ⟨Or.inr rfl, ?_⟩⟩⟩
  · have ok := hyp_ok hm hw hh hq hi
    have ok0 := hyp_ok hm hw ho hq0 hi0
    have ll : q.2.length = q0.2.length := by omega
    have ee : expl f q.1 q.2 = expl f q0.1 q0.2 := by omega
    have eu : (frms f q.1 q.2).length - expl f q.1 q.2 = (frms f q0.1 q0.2).length - expl f q0.1 q0.2 := by omega
    have ep : q.1 = q0.1 := by omega
    have kw := key_w (e := expl f q0.1 q0.2) (u := (frms f q0.1 q0.2).length - expl f q0.1 q0.2) (p := q0.1) ll
    have := m_compareWords_3 (PI := fun r1 s1 => zR r1 ∧ ((0 ≤ r1) → vX7_isAhead_194 m PI 0 s1) ∧ ((¬ (0 ≤ r1)) → vX7_isAhead_194 m PI 1 s1)) ok ok0 (by rw [a4, c4]; omega) (fun r r0 r1 hr => by
      rw [a5, c5] at hr
      refine ⟨zR_s (by omega) (by omega), fun d => ⟨Or.inl rfl, no (r < 0) (by rw [eu, ee, ep, kw, hr]) (by omega)⟩, fun d => ⟨Or.inr rfl, yes (r < 0) (by rw [eu, ee, ep, kw, hr]) (by omega)⟩⟩) (q.2.length + 2) 0 (by omega) (by omega) (fun j hj => by omega)
    exact_mod_cast this
  · have ee : expl f q.1 q.2 = expl f q0.1 q0.2 := by omega
    have eu : (frms f q.1 q.2).length - expl f q.1 q.2 = (frms f q0.1 q0.2).length - expl f q0.1 q0.2 := by omega
    rw [eu, ee] at no
    exact no _ (key_p b.2.2.1 b0.2.2.1 b.2.2.2.1 b0.2.2.2.1 (by omega) (by omega)) (by omega)
  · have ee : expl f q.1 q.2 = expl f q0.1 q0.2 := by omega
    have eu : (frms f q.1 q.2).length - expl f q.1 q.2 = (frms f q0.1 q0.2).length - expl f q0.1 q0.2 := by omega
    rw [eu, ee] at yes
    exact yes _ (key_p b.2.2.1 b0.2.2.1 b.2.2.2.1 b0.2.2.2.1 (by omega) (by omega)) (by omega)
  · have ee : expl f q.1 q.2 = expl f q0.1 q0.2 := by omega
    have eu : (frms f q.1 q.2).length - expl f q.1 q.2 = (frms f q0.1 q0.2).length - expl f q0.1 q0.2 := by omega
    rw [eu, ee] at no
    exact no _ (key_l (by omega) (by omega) b.2.2.1 b0.2.2.1 b.2.2.2.1 b0.2.2.2.1 (by omega)) (by omega)
  · have ee : expl f q.1 q.2 = expl f q0.1 q0.2 := by omega
    have eu : (frms f q.1 q.2).length - expl f q.1 q.2 = (frms f q0.1 q0.2).length - expl f q0.1 q0.2 := by omega
    rw [eu, ee] at yes
    exact yes _ (key_l (by omega) (by omega) b.2.2.1 b0.2.2.1 b.2.2.2.1 b0.2.2.2.1 (by omega)) (by omega)
  · have ee : expl f q.1 q.2 = expl f q0.1 q0.2 := by omega
    rw [ee] at no
    exact no _ (key_u (by omega) (by omega) b.2.2.1 b0.2.2.1 b.2.2.2.1 b0.2.2.2.1 (by omega)) (by omega)
  · have ee : expl f q.1 q.2 = expl f q0.1 q0.2 := by omega
    rw [ee] at yes
    exact yes _ (key_u (by omega) (by omega) b.2.2.1 b0.2.2.1 b.2.2.2.1 b0.2.2.2.1 (by omega)) (by omega)
  · exact no _ (key_e b.2.2.2.2.1 b0.2.2.2.2.1 b.2.2.2.2.2.1 b0.2.2.2.2.2.1 (by omega) (by omega) b.2.2.1 b0.2.2.1 b.2.2.2.1 b0.2.2.2.1 (by omega)) (by omega)
  · exact yes _ (key_e b.2.2.2.2.1 b0.2.2.2.2.1 b.2.2.2.2.2.1 b0.2.2.2.2.2.1 (by omega) (by omega) b.2.2.1 b0.2.2.1 b.2.2.2.1 b0.2.2.2.1 (by omega)) (by omega)
/-! proposals -/
def rkd (σ : Sto) (m : Nat) (F : List (Nat × List Int)) (i : Nat) (q : Nat × List Int) : Prop := ∃ h : Nat, σ (m + 10) i = (h : Int) ∧ F[h]? = some q
def fnd (σ : Sto) (m : Nat) (f : Nat → Int) (F H : List (Nat × List Int)) : Prop := σ m 9 = (F.length : Int) ∧ F.Perm H ∧ (∀ i q, H[i]? = some q → rkd σ m F i q) ∧ (∀ h q, F[h]? = some q → hypM σ m f h q) ∧ (∀ a b, a < b → b < H.length → kf f H a < kf f H b) ∧ ∀ q ∈ F, isH f q.1 q.2
def pM (σ τ : Sto) (m : Nat) : Prop := (∀ i, (i < m ∨ (m < i ∧ i < m + 5) ∨ m + 12 < i) → τ i = σ i) ∧ ∀ j, j ≠ 9 → j ≠ 17 → τ m j = σ m j
theorem pM.trans {σ τ υ : Sto} {m : Nat} (h : pM σ τ m) (h2 : pM τ υ m) : pM σ υ m := ⟨fun i hi => (h2.1 i hi).trans (h.1 i hi), fun j a b => (h2.2 j a b).trans (h.2 j a b)⟩
theorem pM.refl {σ : Sto} {m : Nat} : pM σ σ m := ⟨fun _ _ => rfl, fun _ _ _ => rfl⟩
theorem qM.toP {σ τ : Sto} {m : Nat} (h : qM σ τ m) : pM σ τ m := ⟨fun i hi => h.1 i (by omega) (by omega) (by omega), fun j _ b => h.2 j b⟩
theorem hypM.fr {h : Nat} (hq : hypM σ m f h q) (e : ∀ i, m + 6 ≤ i → i ≤ m + 9 → τ i = σ i) : hypM τ m f h q := by
  unfold hypM
  rw [e (m + 6) (by omega) (by omega), e (m + 7) (by omega) (by omega), e (m + 8) (by omega) (by omega), e (m + 9) (by omega) (by omega)]
  exact hq
theorem fnd.fr (h : fnd σ m f F H) (e9 : τ m 9 = σ m 9) (e : ∀ i, m + 6 ≤ i → i ≤ m + 10 → τ i = σ i) : fnd τ m f F H := by
  obtain ⟨h1, h2, h3, h4, h5, h6⟩ := h
  refine ⟨by rw [e9]; exact h1, h2, fun i q hq => ?_, fun i q hq => (h4 i q hq).fr (fun j a b => e j a (by omega)), h5, h6⟩
  obtain ⟨x, a, b⟩ := h3 i q hq
  exact ⟨x, by rw [e (m + 10) (by omega) (by omega)]; exact a, b⟩
/-- inserted at its place -/
def insH (H : List (Nat × List Int)) (pl : Nat) (q : Nat × List Int) : List (Nat × List Int) := H.take pl ++ q :: H.drop pl
theorem insH_at {pl : Nat} (hp : pl ≤ H.length) (i : Nat) : (insH H pl q)[i]? = if i < pl then H[i]? else if i = pl then some q else H[i - 1]? := by
  unfold insH
  have hl : (H.take pl).length = pl := by rw [List.length_take]; omega
  by_cases a : i < pl
  · rw [if_pos a, List.getElem?_append_left (by omega), List.getElem?_take_of_lt a]
  · rw [if_neg a, List.getElem?_append_right (by omega), hl]
    by_cases b : i = pl
    · subst b
      rw [if_pos rfl, Nat.sub_self]
      rfl
    · rw [if_neg b, show i - pl = (i - 1 - pl) + 1 by omega, List.getElem?_cons_succ, List.getElem?_drop]
      congr 1
      omega
theorem m_proposes_164 (hm : zk m = 6) (hw : wfF f) (hF : F.length < 2880) (hperm : F.Perm H) (hH : ∀ q ∈ F, isH f q.1 q.2) (hq : isH f q.1 q.2) (hnew : ¬ q ∈ F) (hs : ∀ a b, a < b → b < H.length → kf f H a < kf f H b)
    (h1 : ∀ τ H', (∀ i, i ≠ m → i ≠ m + 10 → τ i = σ i) → (∀ j, j ≠ 9 → τ m j = σ m j) → fnd τ m f (F ++ [q]) H' → P τ) :
    ∀ (n pl : Nat) (τ : Sto), pl < n → pl ≤ H.length → (∀ i, i ≠ m + 10 → τ i = σ i) → τ m 9 = (F.length : Int) → (∀ h q', (F ++ [q])[h]? = some q' → hypM τ m f h q') → (∀ i q', i < pl → H[i]? = some q' → rkd τ m F i q') → (∀ i q', pl ≤ i → H[i]? = some q' → rkd τ m F (i + 1) q' ∧ keyF f q.1 q.2 < keyF f q'.1 q'.2) → vX7_proposes_164 m P n (F.length : Int) (pl : Int) τ := by
  have z := mz hm
  have hl := hperm.length_eq
  -- the end: at place pl
  have fin : ∀ (pl : Nat) (τ : Sto), pl ≤ H.length → (∀ i, i ≠ m + 10 → τ i = σ i) → τ m 9 = (F.length : Int) → (∀ h q', (F ++ [q])[h]? = some q' → hypM τ m f h q') → (∀ i q', i < pl → H[i]? = some q' → rkd τ m F i q' ∧ keyF f q'.1 q'.2 < keyF f q.1 q.2) → (∀ i q', pl ≤ i → H[i]? = some q' → rkd τ m F (i + 1) q' ∧ keyF f q.1 q.2 < keyF f q'.1 q'.2) → vX7_proposes_208 m P (F.length : Int) (pl : Int) τ := by
    intro pl τ hpl ef e9 hyp hlo hhi
    refine ⟨by omega, by rw [z.2.2.2.2.2.2.2.2.2.1]; omega, fun s7 q7 s8 q8 => ?_⟩
    rw [Int.toNat_natCast] at q7
    have ne : ∀ i, i ≠ m → i ≠ m + 10 → s8 i = τ i := fun i a b => by rw [q8, zu_ne a, q7, zu_ne b]
    have e10 : ∀ i, i ≠ pl → s8 (m + 10) i = τ (m + 10) i := fun i a => by rw [q8, zu_ne (by omega), q7, zu_j a]
    have up : ∀ i q', rkd τ m F i q' → i ≠ pl → rkd s8 m (F ++ [q]) i q' := fun i q' ⟨x, a, b⟩ c => ⟨x, by rw [e10 i c]; exact a, by rw [List.getElem?_append_left (List.getElem?_eq_some_iff.mp b).1]; exact b⟩
    have il : (insH H pl q).length = H.length + 1 := by unfold insH; rw [List.length_append, List.length_cons, List.length_take, List.length_drop]; omega
    refine h1 s8 (insH H pl q) (fun i a b => by rw [ne i a b]; exact ef i b) (fun j hj => by rw [q8, zu_j hj, q7, zu_ne (by omega), ef m (by omega)]) ⟨?_, ?_, fun i q' hi => ?_, fun h q' hh => (hyp h q' hh).fr (fun i a b => ne i (by omega) (by omega)), fun a b hab hb => ?_, fun q' hq' => ?_⟩
    · rw [q8, zu_eq, q7, zu_ne (by omega), e9, List.length_append]
      rfl
    · have p1 : (F ++ [q]).Perm (q :: F) := List.perm_append_comm
      have p2 : (q :: F).Perm (q :: H) := hperm.cons q
      have p3 : (q :: H).Perm (insH H pl q) := by
        unfold insH
        have := List.perm_middle (a := q) (l₁ := H.take pl) (l₂ := H.drop pl)
        rw [List.take_append_drop] at this
        exact this.symm
      exact (p1.trans p2).trans p3
    · rw [insH_at hpl] at hi
      by_cases a : i < pl
      · rw [if_pos a] at hi
        exact up i q' (hlo i q' a hi).1 (by omega)
      · rw [if_neg a] at hi
        by_cases b : i = pl
        · subst b
          rw [if_pos rfl] at hi
          have := Option.some.inj hi
          subst this
          exact ⟨F.length, by rw [q8, zu_ne (by omega), q7, zu_eq], by rw [List.getElem?_append_right (Nat.le_refl _)]; simp⟩
        · rw [if_neg b] at hi
          have := (hhi (i - 1) q' (by omega) hi).1
          rw [show i - 1 + 1 = i by omega] at this
          exact up i q' this b
    · rw [il] at hb
      have ka : ∀ i, kf f (insH H pl q) i = if i < pl then kf f H i else if i = pl then keyF f q.1 q.2 else kf f H (i - 1) := fun i => by
        by_cases a : i < pl
        · rw [if_pos a]; unfold kf; rw [insH_at hpl, if_pos a]
        · rw [if_neg a]
          by_cases b : i = pl
          · rw [if_pos b]
            exact kf_some (by rw [insH_at hpl, if_neg a, if_pos b])
          · rw [if_neg b]; unfold kf; rw [insH_at hpl, if_neg a, if_neg b]
      have klo : ∀ i, i < pl → kf f H i < keyF f q.1 q.2 := fun i hi => by
        have hg := List.getElem?_eq_getElem (l := H) (i := i) (by omega)
        rw [kf_some hg]
        exact (hlo i _ hi hg).2
      have khi : ∀ i, pl ≤ i → i < H.length → keyF f q.1 q.2 < kf f H i := fun i hi hi2 => by
        have hg := List.getElem?_eq_getElem (l := H) (i := i) hi2
        rw [kf_some hg]
        exact (hhi i _ hi hg).2
      rw [ka, ka]
      by_cases a1 : a < pl
      · rw [if_pos a1]
        by_cases b1 : b < pl
        · rw [if_pos b1]; exact hs a b hab (by omega)
        · rw [if_neg b1]
          by_cases b2 : b = pl
          · rw [if_pos b2]; exact klo a a1
          · rw [if_neg b2]; exact hs a (b - 1) (by omega) (by omega)
      · rw [if_neg a1, if_neg (show ¬ b < pl by omega), if_neg (show ¬ b = pl by omega)]
        by_cases a2 : a = pl
        · rw [if_pos a2]; exact khi (b - 1) (by omega) (by omega)
        · rw [if_neg a2]; exact hs (a - 1) (b - 1) (by omega) (by omega)
    · rcases List.mem_append.mp hq' with h | h
      · exact hH q' h
      · rw [List.mem_singleton] at h
        rw [h]; exact hq
  intro n
  induction n with
  | zero => intro pl τ a; omega
  | succ n ih =>
    intro pl τ hn hpl ef e9 hyp hlo hhi
    refine ⟨zR_s (by omega) (by omega), fun a => fin pl τ hpl ef e9 hyp (fun i q' hi => by omega) hhi, fun a => ?_⟩
    have hg := List.getElem?_eq_getElem (l := H) (i := pl - 1) (by omega)
    obtain ⟨x, x1, x2⟩ := hlo (pl - 1) _ (by omega) hg
    have hxl := (List.getElem?_eq_some_iff.mp x2).1
    have x3 : (F ++ [q])[x]? = some H[pl - 1] := by rw [List.getElem?_append_left hxl]; exact x2
    have hiH : isH f H[pl - 1].1 H[pl - 1].2 := hH _ (List.mem_of_getElem? x2)
    have xq : (F ++ [q])[F.length]? = some q := by rw [List.getElem?_append_right (Nat.le_refl _)]; simp
    rw [show (pl : Int) - 1 = ((pl - 1 : Nat) : Int) by omega, Int.toNat_natCast, x1]
    refine ⟨by omega, by rw [z.2.2.2.2.2.2.2.2.2.1]; omega, m_isAhead hm hw hF (by omega) (hyp _ _ xq) (hyp _ _ x3) hq hiH ⟨b2i_R _, fun d => ?_, fun d => ⟨by omega, by rw [z.2.2.2.2.2.2.2.2.2.1]; omega, by omega, by rw [z.2.2.2.2.2.2.2.2.2.1]; omega, fun s10 q10 => ?_⟩⟩⟩
    · have hnl := of_decide_eq_false (b2i_0.mp d)
      have hne : keyF f q.1 q.2 ≠ keyF f H[pl - 1].1 H[pl - 1].2 := fun e => by
        have := keyF_inj hw hq hiH e
        have e2 : q = H[pl - 1] := Prod.ext this.1 this.2
        exact hnew (by rw [e2]; exact List.mem_of_getElem? x2)
      refine fin pl τ hpl ef e9 hyp (fun i q' hi hq' => ⟨hlo i q' hi hq', ?_⟩) hhi
      by_cases e : i = pl - 1
      · subst e
        rw [hg] at hq'
        have := Option.some.inj hq'
        subst this
        omega
      · have := hs i (pl - 1) (by omega) (by omega)
        rw [kf_some hq', kf_some hg] at this
        omega
    · have hlt := of_decide_eq_true (b2i_1.mp d)
      rw [Int.toNat_natCast, x1] at q10
      have ne : ∀ i, i ≠ m + 10 → s10 i = τ i := fun i a => by rw [q10, zu_ne a]
      have e10 : ∀ i, i ≠ pl → s10 (m + 10) i = τ (m + 10) i := fun i a => by rw [q10, zu_j a]
      have := ih (pl - 1) s10 (by omega) (by omega) (fun i a => by rw [ne i a]; exact ef i a) (by rw [ne m (by omega)]; exact e9) (fun h q' hh => (hyp h q' hh).fr (fun i a b => ne i (by omega))) (fun i q' hi hq' => by
        obtain ⟨y, y1, y2⟩ := hlo i q' (by omega) hq'
        exact ⟨y, by rw [e10 i (by omega)]; exact y1, y2⟩) (fun i q' hi hq' => by
        by_cases e : i = pl - 1
        · subst e
          rw [hg] at hq'
          have := Option.some.inj hq'
          subst this
          refine ⟨⟨x, ?_, x2⟩, hlt⟩
          rw [show pl - 1 + 1 = pl by omega, q10, zu_eq]
        · obtain ⟨⟨y, y1, y2⟩, y3⟩ := hhi i q' (by omega) hq'
          exact ⟨⟨y, by rw [e10 (i + 1) (by omega)]; exact y1, y2⟩, y3⟩)
      rw [show (pl : Int) + -1 = ((pl - 1 : Nat) : Int) by omega]
      exact this
end
