/-! PURE: what a state is: a row of the reference; how the class holds it -/
def ca (p c : Nat) : Nat := 3 + 80 * p + 8 + 12 * c
def la (k : Nat) : Nat := 723 + 102 * k
def ea (k c : Nat) : Nat := 723 + 102 * k + 12 + 15 * c
def wa (w : Nat) : Nat := 483 + 15 * w
def pa (p : Nat) : Nat := 3 + 80 * p
/-- a word at q of a row: its length from lo to hi, letters -/
def wd (f : Nat → Int) (q : Nat) (lo hi : Int) : Prop := lo ≤ f q ∧ f q ≤ hi ∧ ab (fl f q)
def wfC (f : Nat → Int) (p c : Nat) : Prop := (0 ≤ f (ca p c) ∧ f (ca p c) ≤ 3) ∧ (f (ca p c) = 3 → 0 ≤ f (ca p c + 1) ∧ f (ca p c + 1) ≤ 4) ∧ wd f (ca p c + 2) 0 4 ∧ wd f (ca p c + 7) 0 4 ∧ zR (f (ca p c + 1))
def wfP (f : Nat → Int) (p : Nat) : Prop := (0 ≤ f (pa p) ∧ f (pa p) ≤ 6) ∧ (0 ≤ f (pa p + 1) ∧ f (pa p + 1) ≤ 4) ∧ (f (pa p + 1) = 3 → 0 ≤ f (pa p + 2) ∧ f (pa p + 2) ≤ 100) ∧ (f (pa p + 1) = 4 → wd f (pa p + 3) 0 4) ∧ ∀ c : Nat, (c : Int) < f (pa p) → wfC f p c
def wfL (f : Nat → Int) (k : Nat) : Prop := (0 ≤ f (la k) ∧ f (la k) < f 0) ∧ wd f (la k + 1) 2 10 ∧ ∀ c : Nat, c < 6 → wd f (ea k c) 0 14
def wfF (f : Nat → Int) : Prop := (0 ≤ f 0 ∧ f 0 ≤ 6) ∧ (0 ≤ f 1 ∧ f 1 ≤ 16) ∧ (0 ≤ f 2 ∧ f 2 ≤ 10) ∧ (∀ p : Nat, (p : Int) < f 0 → wfP f p) ∧ (∀ w : Nat, (w : Int) < f 1 → wd f (wa w) 2 14) ∧ (∀ w v : Nat, (w : Int) < f 1 → (v : Int) < f 1 → fl f (wa w) = fl f (wa v) → w = v) ∧ ∀ k : Nat, (k : Int) < f 2 → wfL f k
/-- slot j of the table t holds the word at q of the row f -/
def tw1 (σ : Sto) (t j : Nat) (f : Nat → Int) (q : Nat) : Prop := σ (t + 1) j = f q ∧ tl σ t j = fl f q
def repC (σ : Sto) (b : Nat) (f : Nat → Int) (p c : Nat) : Prop := σ (b + 7) (6 * p + c) = f (ca p c) ∧ σ (b + 8) (6 * p + c) = f (ca p c + 1) ∧ tw1 σ (b + 9) (6 * p + c) f (ca p c + 2) ∧ tw1 σ (b + 12) (6 * p + c) f (ca p c + 7)
def repP (σ : Sto) (b : Nat) (f : Nat → Int) (p : Nat) : Prop := σ (b + 1) p = f (pa p) ∧ σ (b + 2) p = f (pa p + 1) ∧ σ (b + 3) p = f (pa p + 2) ∧ (f (pa p + 1) = 4 → tw1 σ (b + 4) p f (pa p + 3)) ∧ ∀ c : Nat, (c : Int) < f (pa p) → repC σ b f p c
def repL (σ : Sto) (b : Nat) (f : Nat → Int) (k : Nat) : Prop := σ (b + 18) k = ((pairN (f (la k)).toNat (fl f (la k + 1)) : Nat) : Int) ∧ ∀ c : Nat, c < 6 → tw1 σ (b + 19) (6 * k + c) f (ea k c)
/-- the class's state in the cells from b on is the row f -/
def repS (σ : Sto) (b : Nat) (f : Nat → Int) : Prop := (σ b 0 = f 0 ∧ σ b 9 = f 1 ∧ σ b 11 = f 2) ∧ (∀ p : Nat, p < 6 → ((p : Int) < f 0 → repP σ b f p) ∧ (f 0 ≤ (p : Int) → σ (b + 1) p = 0 ∧ σ (b + 2) p = 0 ∧ σ (b + 3) p = 0)) ∧ (∀ w : Nat, (w : Int) < f 1 → tw1 σ (b + 15) w f (wa w)) ∧ ∀ k : Nat, k < 10 → ((k : Int) < f 2 → repL σ b f k) ∧ (f 2 ≤ (k : Int) → ∀ c : Nat, c < 6 → σ (b + 20) (6 * k + c) = 0)
/-- the same row, as far as it is used -/
def eqR (f g : Nat → Int) : Prop := ∀ i, i < 1743 → f i = g i
theorem eqR.symm {f g : Nat → Int} (h : eqR f g) : eqR g f := fun i hi => (h i hi).symm
theorem eqR.trans {f g e : Nat → Int} (h : eqR f g) (h2 : eqR g e) : eqR f e := fun i hi => (h i hi).trans (h2 i hi)
theorem fl_eq {f g : Nat → Int} (h : eqR f g) {q : Nat} (hq : q < 1743) (hl : q + (f q).toNat < 1743) : fl g q = fl f q := by
  unfold fl
  rw [← h q hq]
  exact seg_ext (fun i hi => (h _ (by omega)).symm)
theorem wd.eq {f g : Nat → Int} (h : eqR f g) {q : Nat} {lo hi : Int} (hq : q < 1743) (hl : q + hi.toNat < 1743) (hw : wd f q lo hi) : wd g q lo hi := by
  obtain ⟨h1, h2, h3⟩ := hw
  exact ⟨by rw [← h q hq]; exact h1, by rw [← h q hq]; exact h2, by rw [fl_eq h hq (by omega)]; exact h3⟩
theorem wd.flE {f g : Nat → Int} (h : eqR f g) {q : Nat} {lo hi : Int} (hq : q < 1743) (hl : q + hi.toNat < 1743) (hw : wd f q lo hi) : fl g q = fl f q := fl_eq h hq (by have := hw.2.1; omega)
theorem wfC.eq {f g : Nat → Int} (h : eqR f g) {p c : Nat} (hp : p < 6) (hc : c < 6) (hw : wfC f p c) : wfC g p c := by
  obtain ⟨h1, h2, h3, h4, h5⟩ := hw
  have e0 := h (ca p c) (by unfold ca; omega)
  have e1 := h (ca p c + 1) (by unfold ca; omega)
  exact ⟨by rw [← e0]; exact h1, by rw [← e0, ← e1]; exact h2, h3.eq h (by unfold ca; omega) (by unfold ca; simp; omega), h4.eq h (by unfold ca; omega) (by unfold ca; simp; omega), by rw [← e1]; exact h5⟩
theorem wfP.eq {f g : Nat → Int} (h : eqR f g) {p : Nat} (hp : p < 6) (hw : wfP f p) : wfP g p := by
  obtain ⟨h1, h2, h3, h4, h5⟩ := hw
  have e0 := h (pa p) (by unfold pa; omega)
  have e1 := h (pa p + 1) (by unfold pa; omega)
  have e2 := h (pa p + 2) (by unfold pa; omega)
  exact ⟨by rw [← e0]; exact h1, by rw [← e1]; exact h2, by rw [← e1, ← e2]; exact h3, by rw [← e1]; exact fun z => (h4 z).eq h (by unfold pa; omega) (by unfold pa; simp; omega), fun c hc => (h5 c (by rw [e0]; exact hc)).eq h hp (by rw [← e0] at hc; omega)⟩
theorem wfF.eq {f g : Nat → Int} (h : eqR f g) (hw : wfF f) : wfF g := by
  obtain ⟨h1, h2, h3, h4, h5, h6, h7⟩ := hw
  have e0 := h 0 (by decide)
  have e1 := h 1 (by decide)
  have e2 := h 2 (by decide)
  have wb : ∀ w : Nat, (w : Int) < f 1 → w < 16 := fun w q => by omega
  refine ⟨by rw [← e0]; exact h1, by rw [← e1]; exact h2, by rw [← e2]; exact h3, fun p hp => (h4 p (by rw [e0]; exact hp)).eq h (by omega), fun w hw => (h5 w (by rw [e1]; exact hw)).eq h (by unfold wa; omega) (by unfold wa; simp; omega), fun w v hw hv e => ?_, fun k hk => ?_⟩
  · rw [← e1] at hw hv
    rw [(h5 w hw).flE h (by unfold wa; omega) (by unfold wa; simp; omega), (h5 v hv).flE h (by unfold wa; omega) (by unfold wa; simp; omega)] at e
    exact h6 w v hw hv e
  · rw [← e2] at hk
    obtain ⟨g1, g2, g3⟩ := h7 k hk
    have el := h (la k) (by unfold la; omega)
    exact ⟨by rw [← el, ← e0]; exact g1, g2.eq h (by unfold la; omega) (by unfold la; simp; omega), fun c hc => (g3 c hc).eq h (by unfold ea; omega) (by unfold ea; simp; omega)⟩
theorem tw1.eq {σ : Sto} {t j : Nat} {f g : Nat → Int} {q : Nat} {lo hi : Int} (h : eqR f g) (hq : q < 1743) (hl : q + hi.toNat < 1743) (hw : wd f q lo hi) (ht : tw1 σ t j f q) : tw1 σ t j g q := ⟨by rw [← h q hq]; exact ht.1, by rw [hw.flE h hq hl]; exact ht.2⟩
theorem repS.eq {σ : Sto} {b : Nat} {f g : Nat → Int} (h : eqR f g) (hw : wfF f) (hr : repS σ b f) : repS σ b g := by
  obtain ⟨h1, h2, h3, h4, h5, h6, h7⟩ := hw
  obtain ⟨r1, r2, r3, r4⟩ := hr
  have e0 := h 0 (by decide)
  have e1 := h 1 (by decide)
  have e2 := h 2 (by decide)
  refine ⟨by rw [← e0, ← e1, ← e2]; exact r1, fun p hp => ⟨fun hp2 => ?_, fun hp2 => (r2 p hp).2 (by rw [e0]; exact hp2)⟩, fun w hw => ?_, fun k hk => ⟨fun hk2 => ?_, fun hk2 => (r4 k hk).2 (by rw [e2]; exact hk2)⟩⟩
  · rw [← e0] at hp2
    obtain ⟨q1, q2, q3, q4, q5⟩ := (r2 p hp).1 hp2
    obtain ⟨w1, w2, w3, w4, w5⟩ := h4 p hp2
    have a0 := h (pa p) (by unfold pa; omega)
    have a1 := h (pa p + 1) (by unfold pa; omega)
    have a2 := h (pa p + 2) (by unfold pa; omega)
    refine ⟨by rw [← a0]; exact q1, by rw [← a1]; exact q2, by rw [← a2]; exact q3, by rw [← a1]; exact fun z => (q4 z).eq h (by unfold pa; omega) (by unfold pa; simp; omega) (w4 z), fun c hc => ?_⟩
    rw [← a0] at hc
    obtain ⟨c1, c2, c3, c4⟩ := q5 c hc
    obtain ⟨-, -, d3, d4, -⟩ := w5 c hc
    have hc6 : c < 6 := by omega
    exact ⟨by rw [← h (ca p c) (by unfold ca; omega)]; exact c1, by rw [← h (ca p c + 1) (by unfold ca; omega)]; exact c2, c3.eq h (by unfold ca; omega) (by unfold ca; simp; omega) d3, c4.eq h (by unfold ca; omega) (by unfold ca; simp; omega) d4⟩
  · rw [← e1] at hw
    exact (r3 w hw).eq h (by unfold wa; omega) (by unfold wa; simp; omega) (h5 w hw)
  · rw [← e2] at hk2
    obtain ⟨q1, q2⟩ := (r4 k hk).1 hk2
    obtain ⟨-, w2, w3⟩ := h7 k hk2
    exact ⟨by rw [← h (la k) (by unfold la; omega), w2.flE h (by unfold la; omega) (by unfold la; simp; omega)]; exact q1, fun c hc => (q2 c hc).eq h (by unfold ea; omega) (by unfold ea; simp; omega) (w3 c hc)⟩
/-- a table's slot is well made, from the row's word -/
theorem tw1.tok {σ : Sto} {t j : Nat} {f : Nat → Int} {q : Nat} {lo hi : Int} (h : tw1 σ t j f q) (hz : zk t = 4) (hj : j < zn (t + 1)) (hw : wd f q lo hi) (h0 : 0 ≤ lo) (hhi : hi ≤ zw t) : tok σ t j := ⟨hz, hj, by rw [h.1]; have := hw.1; omega, by rw [h.1]; have := hw.2.1; omega, by rw [h.2]; exact hw.2.2⟩
theorem rep_word {σ : Sto} {b : Nat} {f : Nat → Int} (hb : zk b = 2) (hr : repS σ b f) (hw : wfF f) {w : Nat} (h : (w : Int) < f 1) : tok σ (b + 15) w ∧ tl σ (b + 15) w = fl f (wa w) := by
  have s := st_w hb
  have hl : w < 16 := by have := hw.2.1; omega
  exact ⟨(hr.2.2.1 w h).tok s.1.2.2.2.1 (by rw [Nat.add_assoc, st_n hb 16 (by decide)]; exact hl) (hw.2.2.2.2.1 w h) (by decide) (by rw [s.2.2.2.2.1]; decide), (hr.2.2.1 w h).2⟩
theorem rep_cell {σ : Sto} {b : Nat} {f : Nat → Int} (hb : zk b = 2) (hr : repS σ b f) (hw : wfF f) {p c : Nat} (hp : (p : Int) < f 0) (hc : (c : Int) < f (pa p)) : repC σ b f p c ∧ wfC f p c ∧ p < 6 ∧ c < 6 ∧ tok σ (b + 9) (6 * p + c) ∧ tok σ (b + 12) (6 * p + c) := by
  have s := st_w hb
  have hp6 : p < 6 := by have := hw.1; omega
  have wp := hw.2.2.2.1 p hp
  have hc6 : c < 6 := by have := wp.1; omega
  have rc := ((hr.2.1 p hp6).1 hp).2.2.2.2 c hc
  have wc := wp.2.2.2.2 c hc
  exact ⟨rc, wc, hp6, hc6, rc.2.2.1.tok s.1.2.1 (by rw [Nat.add_assoc, st_n hb 10 (by decide)]; show _ < 36; omega) wc.2.2.1 (by decide) (by rw [s.2.2.1]; decide), rc.2.2.2.tok s.1.2.2.1 (by rw [Nat.add_assoc, st_n hb 13 (by decide)]; show _ < 36; omega) wc.2.2.2.1 (by decide) (by rw [s.2.2.2.1]; decide)⟩
/-- what the cell c of the paradigm p builds; whether a word is a stem of the paradigm; the place of a word in the list -/
def bldF (f : Nat → Int) (p c : Nat) (st : List Int) : Option (List Int) := bld (f (ca p c)) (f (ca p c + 1)) (fl f (ca p c + 2)) (fl f (ca p c + 7)) st
def alwF (f : Nat → Int) (p : Nat) (st : List Int) : Bool := alw (f (pa p + 1)) (f (pa p + 2)) (fl f (pa p + 3)) st
def attF (f : Nat → Int) (l : List Int) : Int := fidx (fun w => fl f (wa w)) l (f 1).toNat 0
theorem sx_build {σ : Sto} {b : Nat} {f : Nat → Int} {p c st fm : Nat} {P : Int → Sto → Prop} (hb : zk b = 2) (hr : repS σ b f) (hw : wfF f) (hp : (p : Int) < f 0) (hc : (c : Int) < f (pa p)) (hst : wok σ st 10) (hfm : zk fm = 3) (hd1 : st + 1 < fm) (hd2 : b + 21 < fm)
    (h0 : bldF f p c (wl σ st) = none → ∀ τ, fr [fm, fm + 1] σ τ → P 0 τ) (h1 : ∀ l τ, bldF f p c (wl σ st) = some l → setw σ τ fm l → wok τ fm 15 → P 1 τ) : vX3_build b ((6 * p + c : Nat) : Int) st fm P σ := by
  obtain ⟨rc, wc, hp6, hc6, t9, t12⟩ := rep_cell hb hr hw hp hc
  refine s_build hb t9 t12 (by omega) (by rw [rc.1]; exact wc.1) (by rw [rc.1, rc.2.1]; intro z; have := wc.2.1 z; omega) hst hfm hd1 hd2 ?_ ?_
  · rw [rc.1, rc.2.1, rc.2.2.1.2, rc.2.2.2.2]; exact h0
  · rw [rc.1, rc.2.1, rc.2.2.1.2, rc.2.2.2.2]; exact h1
theorem sx_allows {σ : Sto} {b : Nat} {f : Nat → Int} {p st n : Nat} {P : Int → Sto → Prop} (hb : zk b = 2) (hr : repS σ b f) (hw : wfF f) (hp : (p : Int) < f 0) (hst : wok σ st n) (h : P (b2i (alwF f p (wl σ st))) σ) : vX3_allows b (p : Int) st P σ := by
  have s := st_w hb
  have hp6 : p < 6 := by have := hw.1; omega
  obtain ⟨q1, q2, q3, q4, q5⟩ := (hr.2.1 p hp6).1 hp
  obtain ⟨w1, w2, w3, w4, w5⟩ := hw.2.2.2.1 p hp
  refine s_allows hb hp6 (by rw [q2]; exact w2) (by rw [q2, q3]; exact w3) (by rw [q2]; exact fun z => (q4 z).tok s.1.1 (by rw [Nat.add_assoc, st_n hb 5 (by decide)]; exact hp6) (w4 z) (by decide) (by rw [s.2.1]; decide)) hst ?_
  rw [q2, q3]
  by_cases z : f (pa p + 1) = 4
  · rw [(q4 z).2]
    exact h
  · have : alw (f (pa p + 1)) (f (pa p + 2)) (tl σ (b + 4) p) (wl σ st) = alwF f p (wl σ st) := by
      unfold alwF alw
      rw [if_neg z, if_neg z]
    rw [this]
    exact h
theorem fidx_congr {g g' : Nat → List Int} {l : List Int} : ∀ (n j : Nat), (∀ i, j ≤ i → i < j + n → g i = g' i) → fidx g l n j = fidx g' l n j := by
  intro n
  induction n with
  | zero => intro j _; rfl
  | succ n ih =>
    intro j h
    unfold fidx
    rw [h j (by omega) (by omega), ih (j + 1) (fun i h1 h2 => h i (by omega) (by omega))]
theorem sx_find {σ : Sto} {b : Nat} {f : Nat → Int} {w n : Nat} {P : Int → Sto → Prop} (hb : zk b = 2) (hr : repS σ b f) (hw : wfF f) (hst : wok σ w n) (h : P (attF f (wl σ w)) σ) : vX5_find (b + 15) w (σ b 9) P σ := by
  have h16 := hw.2.1
  rw [hr.1.2.1]
  have e : f 1 = (((f 1).toNat : Nat) : Int) := by omega
  rw [e]
  refine s_find (by rw [Nat.add_assoc, st_n hb 16 (by decide)]; show _ ≤ 16; omega) (fun j hj => (rep_word hb hr hw (w := j) (by omega)).1) hst ?_
  rw [fidx_congr (g' := fun w => fl f (wa w)) _ _ (fun i _ hi => (rep_word hb hr hw (w := i) (by omega)).2)]
  exact h
/-- the reference's words are well made -/
theorem fok_of {σ : Sto} {k q n : Nat} {lo : Int} (hk : zk k = 6) (hw : wd (σ (k + 1)) q lo n) (h0 : 0 ≤ lo) (hn : n ≤ 40) (hq : q + n < 1743) : fok σ (k + 1) q n := ⟨zf_6_s hk, by have := hw.1; omega, hw.2.1, hn, by rw [(mz hk).1]; exact hq, hw.2.2⟩
theorem sm_builds {σ : Sto} {k p c k3 q : Nat} {P : Int → Sto → Prop} (hk : zk k = 6) (hw : wfF (σ (k + 1))) (hp : (p : Int) < σ (k + 1) 0) (hc : (c : Int) < σ (k + 1) (pa p)) (hst : fok σ k3 q 10) (hne : k3 ≠ k + 5) (hl1 : 1 ≤ σ k3 q)
    (h0 : bldF (σ (k + 1)) p c (fl (σ k3) q) = none → ∀ τ, fr [k + 5] σ τ → P 0 τ) (h1 : ∀ l τ, bldF (σ (k + 1)) p c (fl (σ k3) q) = some l → setq σ τ (k + 5) 0 16 l → fok τ (k + 5) 0 15 → P 1 τ) : vX7_builds k (p : Int) (c : Int) k3 (q : Int) P σ := by
  have hp6 : p < 6 := by have := hw.1; omega
  have wp := hw.2.2.2.1 p hp
  have hc6 : c < 6 := by have := wp.1; omega
  have wc := wp.2.2.2.2 c hc
  exact s7_builds hk hp6 hc6 hst hne (fok_of hk wc.2.2.1 (by decide) (by decide) (by omega)) (fok_of hk wc.2.2.2.1 (by decide) (by decide) (by omega)) wc.1 wc.2.1 hl1 h0 h1
theorem sm_isStem {σ : Sto} {k p k2 q n : Nat} {P : Int → Sto → Prop} (hk : zk k = 6) (hw : wfF (σ (k + 1))) (hp : (p : Int) < σ (k + 1) 0) (ha : fok σ k2 q n) (h : P (b2i (alwF (σ (k + 1)) p (fl (σ k2) q))) σ) : vX7_isStem k (p : Int) k2 (q : Int) P σ := by
  have hp6 : p < 6 := by have := hw.1; omega
  have wp := hw.2.2.2.1 p hp
  exact s7_isStem hk hp6 ha wp.2.1 wp.2.2.1 (fun z => fok_of hk (wp.2.2.2.1 z) (by decide) (by decide) (by omega)) h
theorem sm_attested {σ : Sto} {k k1 q n : Nat} {P : Int → Sto → Prop} (hk : zk k = 6) (hw : wfF (σ (k + 1))) (ha : fok σ k1 q n) (h : P (attF (σ (k + 1)) (fl (σ k1) q)) σ) : vX7_attested k k1 (q : Int) P σ := by
  have h16 := hw.2.1
  exact s7_attested (nw := (σ (k + 1) 1).toNat) hk (by omega) (by omega) (fun w hw2 => fok_of hk (hw.2.2.2.2.1 w (by omega)) (by decide) (by decide) (by omega)) ha h
