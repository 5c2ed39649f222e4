/-! PURE: hypotheses; what class and reference hold together -/
/-- the different forms that the first c cells build -/
def frm1 (f : Nat → Int) (p : Nat) (st : List Int) : Nat → List (List Int)
  | 0 => []
  | c + 1 => match bldF f p c st with
    | none => frm1 f p st c
    | some l => if l ∈ frm1 f p st c then frm1 f p st c else frm1 f p st c ++ [l]
def frms (f : Nat → Int) (p : Nat) (st : List Int) : List (List Int) := frm1 f p st (f (pa p)).toNat
def expl (f : Nat → Int) (p : Nat) (st : List Int) : Nat := ((frms f p st).filter (fun l => decide (0 ≤ attF f l))).length
def keyF (f : Nat → Int) (p : Nat) (st : List Int) : Nat := keyN (expl f p st) ((frms f p st).length - expl f p st) p st
/-- a hypothesis -/
def isH (f : Nat → Int) (p : Nat) (st : List Int) : Prop := (p : Int) < f 0 ∧ ab st ∧ alwF f p st = true ∧ 0 < expl f p st
/-- whether a hypothesis explains a word -/
def exw (f : Nat → Int) (p : Nat) (st : List Int) (w : Nat) : Bool := decide ((w : Int) < f 1 ∧ fl f (wa w) ∈ frms f p st)
/-- the list of all hypotheses in their order -/
def isHL (f : Nat → Int) (H : List (Nat × List Int)) : Prop := (∀ (i j : Nat) (hi : i < H.length) (hj : j < H.length), i < j → keyF f H[i].1 H[i].2 < keyF f H[j].1 H[j].2) ∧ ∀ q, q ∈ H ↔ isH f q.1 q.2
/-- a set of numbers below n, a bit each -/
def bs (S : Nat → Bool) : Nat → Nat
  | 0 => 0
  | n + 1 => bs S n + (if S n then 2 ^ n else 0)
def rankX (σ : Sto) (k : Nat) (f : Nat → Int) : Prop := ∃ H, isHL f H ∧ H.length ≤ 2880 ∧ σ (k + 269) 2 = (H.length : Int) ∧ ∀ (i : Nat) (hi : i < H.length), σ (k + 269 + 1) i = ((keyF f H[i].1 H[i].2 : Nat) : Int) ∧ σ (k + 269 + 2) i = ((bs (exw f H[i].1 H[i].2) 16 : Nat) : Int)
/-- the reference's hypothesis number h is q -/
def hypM (σ : Sto) (m : Nat) (f : Nat → Int) (h : Nat) (q : Nat × List Int) : Prop := σ (m + 6) h = (q.1 : Int) ∧ σ (m + 7) h = ((expl f q.1 q.2 : Nat) : Int) ∧ σ (m + 8) h = (((frms f q.1 q.2).length : Nat) : Int) ∧ σ (m + 9) (11 * h) = (q.2.length : Int) ∧ fl (σ (m + 9)) (11 * h) = q.2
def rankM (σ : Sto) (m : Nat) (f : Nat → Int) : Prop := ∃ H F : List (Nat × List Int), isHL f H ∧ F.Perm H ∧ H.length ≤ 2880 ∧ σ m 9 = (H.length : Int) ∧ (∀ (i : Nat) (hi : i < H.length), ∃ h : Nat, σ (m + 10) i = (h : Int) ∧ F[h]? = some H[i]) ∧ ∀ h q, F[h]? = some q → hypM σ m f h q
def hsX (k nx n j : Nat) : Nat := k + 47 + 1 + 1 + 22 * ((nx + 10 - n + j) % 10)
def histX (σ : Sto) (k : Nat) (hs : List (Nat → Int)) : Prop := σ (k + 47) 2 = (hs.length : Int) ∧ hs.length ≤ 10 ∧ ∃ nx : Nat, nx < 10 ∧ σ (k + 47) 1 = (nx : Int) ∧ ∀ (j : Nat) (hj : j < hs.length), repS σ (hsX k nx hs.length j) hs[j] ∧ wfF hs[j]
def histM (σ : Sto) (m : Nat) (hs : List (Nat → Int)) : Prop := σ m 2 = (hs.length : Int) ∧ hs.length ≤ 10 ∧ ∀ (j : Nat) (hj : j < hs.length), eqR hs[j] (fun i => σ (m + 2) (1743 * j + i))
def savX (σ : Sto) (k : Nat) (sv : Option (Nat → Int)) : Prop := (sv = none ∧ σ k 3 = 0) ∨ ∃ g, sv = some g ∧ σ k 3 = 1 ∧ repS σ (k + 25) g ∧ wfF g
def savM (σ : Sto) (m : Nat) (sv : Option (Nat → Int)) : Prop := (sv = none ∧ σ m 4 = 0) ∨ ∃ g, sv = some g ∧ σ m 4 = 1 ∧ eqR g (σ (m + 3))
/-- what the class holds: the row f, what is saved, the history, the input -/
def XI (σ : Sto) (k : Nat) (f : Nat → Int) (sv : Option (Nat → Int)) (hs : List (Nat → Int)) (inp : List Int) : Prop := zk k = 5 ∧ (wok σ (k + 1) 14 ∧ wl σ (k + 1) = inp) ∧ (repS σ (k + 3) f ∧ wfF f) ∧ savX σ k sv ∧ histX σ k hs ∧ (σ (k + 269) 3 = 0 ∨ σ (k + 269) 3 = 1) ∧ (σ (k + 269) 3 = 0 → rankX σ k f)
/-- what the reference holds -/
def MI (σ : Sto) (m : Nat) (f : Nat → Int) (sv : Option (Nat → Int)) (hs : List (Nat → Int)) (inp : List Int) : Prop := zk m = 6 ∧ (fok σ (m + 4) 0 14 ∧ fl (σ (m + 4)) 0 = inp) ∧ (σ (m + 1) = f ∧ wfF f) ∧ savM σ m sv ∧ histM σ m hs ∧ (σ m 8 = 0 ∨ σ m 8 = 1) ∧ (σ m 8 = 1 → rankM σ m f)
theorem tw1.fr {σ τ : Sto} {t j : Nat} {f : Nat → Int} {q : Nat} (h : tw1 σ t j f q) (e1 : τ (t + 1) = σ (t + 1)) (e2 : τ (t + 2) = σ (t + 2)) : tw1 τ t j f q := ⟨by rw [e1]; exact h.1, by unfold tl; rw [e1, e2]; exact h.2⟩
theorem repS.fr {σ τ : Sto} {b : Nat} {f : Nat → Int} (h : repS σ b f) (e : ∀ i, b ≤ i → i ≤ b + 21 → τ i = σ i) : repS τ b f := by
  obtain ⟨r1, r2, r3, r4⟩ := h
  have e0 := e b (by omega) (by omega)
  have e1 := e (b + 1) (by omega) (by omega)
  have e2 := e (b + 2) (by omega) (by omega)
  have e3 := e (b + 3) (by omega) (by omega)
  have e5 := e (b + 4 + 1) (by omega) (by omega)
  have e6 := e (b + 4 + 2) (by omega) (by omega)
  have e7 := e (b + 7) (by omega) (by omega)
  have e8 := e (b + 8) (by omega) (by omega)
  have e10 := e (b + 9 + 1) (by omega) (by omega)
  have e11 := e (b + 9 + 2) (by omega) (by omega)
  have e13 := e (b + 12 + 1) (by omega) (by omega)
  have e14 := e (b + 12 + 2) (by omega) (by omega)
  have e16 := e (b + 15 + 1) (by omega) (by omega)
  have e17 := e (b + 15 + 2) (by omega) (by omega)
  have e18 := e (b + 18) (by omega) (by omega)
  have e20 := e (b + 19 + 1) (by omega) (by omega)
  have e21 := e (b + 19 + 2) (by omega) (by omega)
  refine ⟨by rw [e0]; exact r1, fun p hp => ⟨fun hp2 => ?_, fun hp2 => by rw [e1, e2, e3]; exact (r2 p hp).2 hp2⟩, fun w hw => (r3 w hw).fr e16 e17, fun k hk => ⟨fun hk2 => ?_, fun hk2 c hc => by rw [show b + 20 = b + 19 + 1 from rfl, e20]; exact (r4 k hk).2 hk2 c hc⟩⟩
  · obtain ⟨q1, q2, q3, q4, q5⟩ := (r2 p hp).1 hp2
    exact ⟨by rw [e1]; exact q1, by rw [e2]; exact q2, by rw [e3]; exact q3, fun z => (q4 z).fr e5 e6, fun c hc => ⟨by rw [e7]; exact (q5 c hc).1, by rw [e8]; exact (q5 c hc).2.1, (q5 c hc).2.2.1.fr e10 e11, (q5 c hc).2.2.2.fr e13 e14⟩⟩
  · obtain ⟨q1, q2⟩ := (r4 k hk).1 hk2
    exact ⟨by rw [e18]; exact q1, fun c hc => (q2 c hc).fr e20 e21⟩
/-- a copied state holds the same row -/
theorem tw1.cp {σ τ : Sto} {t u j : Nat} {f : Nat → Int} {q : Nat} (h : tw1 σ u j f q) (hz : zk t = 4) (hzu : zw u = zw t) (hj : j < zn (t + 1)) (hl : (f q).toNat ≤ (zw t).toNat) (e1 : ∀ i, i < zn (t + 1) → τ (t + 1) i = σ (u + 1) i) (e2 : ∀ i, i < zn (t + 2) → τ (t + 2) i = σ (u + 2) i) : tw1 τ t j f q := by
  obtain ⟨w1, w2, w3, w4⟩ := tw hz
  refine ⟨by rw [e1 j hj]; exact h.1, ?_⟩
  rw [← h.2]
  unfold tl
  rw [e1 j hj, hzu, h.1]
  refine seg_ext (fun i hi => e2 _ ?_)
  obtain ⟨t1, t2, t3⟩ := tpos (i := i) hz hj (by omega)
  rw [← t3]
  omega
theorem repS.cp {σ τ : Sto} {b c : Nat} {f : Nat → Int} (hb : zk b = 2) (hc : zk c = 2) (h : repS σ c f) (hw : wfF f) (e : cpS σ τ b c) : repS τ b f := by
  obtain ⟨r1, r2, r3, r4⟩ := h
  obtain ⟨h1, h2, h3, h4, h5, h6, h7⟩ := hw
  obtain ⟨-, ⟨f0, f9, f11⟩, eo⟩ := e
  have nb := st_n hb
  have wb := st_w hb
  have wc := st_w hc
  have n1 : zn (b + 1) = 6 := nb 1 (by decide)
  have n2 : zn (b + 2) = 6 := nb 2 (by decide)
  have n3 : zn (b + 3) = 6 := nb 3 (by decide)
  have n5 : zn (b + 4 + 1) = 6 := nb 5 (by decide)
  have n7 : zn (b + 7) = 36 := nb 7 (by decide)
  have n8 : zn (b + 8) = 36 := nb 8 (by decide)
  have n10 : zn (b + 9 + 1) = 36 := nb 10 (by decide)
  have n13 : zn (b + 12 + 1) = 36 := nb 13 (by decide)
  have n16 : zn (b + 15 + 1) = 16 := nb 16 (by decide)
  have n18 : zn (b + 18) = 10 := nb 18 (by decide)
  have n20 : zn (b + 19 + 1) = 60 := nb 20 (by decide)
  refine ⟨⟨by rw [f0]; exact r1.1, by rw [f9]; exact r1.2.1, by rw [f11]; exact r1.2.2⟩, fun p hp => ⟨fun hp2 => ?_, fun hp2 => ?_⟩, fun w hw => ?_, fun k hk => ⟨fun hk2 => ?_, fun hk2 i hi => ?_⟩⟩
  · obtain ⟨q1, q2, q3, q4, q5⟩ := (r2 p hp).1 hp2
    obtain ⟨w1, w2, w3, w4, w5⟩ := h4 p hp2
    refine ⟨by rw [eo 1 (by decide) (by decide) p (by rw [n1]; exact hp)]; exact q1, by rw [eo 2 (by decide) (by decide) p (by rw [n2]; exact hp)]; exact q2, by rw [eo 3 (by decide) (by decide) p (by rw [n3]; exact hp)]; exact q3, fun z => (q4 z).cp wb.1.1 (by rw [wb.2.1, wc.2.1]) (by rw [n5]; exact hp) (by rw [wb.2.1]; have := (w4 z).2.1; omega) (fun i hi => eo 5 (by decide) (by decide) i hi) (fun i hi => eo 6 (by decide) (by decide) i hi), fun i hi => ?_⟩
    obtain ⟨c1, c2, c3, c4⟩ := q5 i hi
    obtain ⟨-, -, d3, d4, -⟩ := w5 i hi
    have hi6 : 6 * p + i < 36 := by omega
    exact ⟨by rw [eo 7 (by decide) (by decide) _ (by rw [n7]; exact hi6)]; exact c1, by rw [eo 8 (by decide) (by decide) _ (by rw [n8]; exact hi6)]; exact c2, c3.cp wb.1.2.1 (by rw [wb.2.2.1, wc.2.2.1]) (by rw [n10]; exact hi6) (by rw [wb.2.2.1]; have := d3.2.1; omega) (fun i hi => eo 10 (by decide) (by decide) i hi) (fun i hi => eo 11 (by decide) (by decide) i hi), c4.cp wb.1.2.2.1 (by rw [wb.2.2.2.1, wc.2.2.2.1]) (by rw [n13]; exact hi6) (by rw [wb.2.2.2.1]; have := d4.2.1; omega) (fun i hi => eo 13 (by decide) (by decide) i hi) (fun i hi => eo 14 (by decide) (by decide) i hi)⟩
  · rw [eo 1 (by decide) (by decide) p (by rw [n1]; exact hp), eo 2 (by decide) (by decide) p (by rw [n2]; exact hp), eo 3 (by decide) (by decide) p (by rw [n3]; exact hp)]
    exact (r2 p hp).2 hp2
  · exact (r3 w hw).cp wb.1.2.2.2.1 (by rw [wb.2.2.2.2.1, wc.2.2.2.2.1]) (by rw [n16]; omega) (by rw [wb.2.2.2.2.1]; have := (h5 w hw).2.1; omega) (fun i hi => eo 16 (by decide) (by decide) i hi) (fun i hi => eo 17 (by decide) (by decide) i hi)
  · obtain ⟨q1, q2⟩ := (r4 k hk).1 hk2
    obtain ⟨-, w2, w3⟩ := h7 k hk2
    exact ⟨by rw [eo 18 (by decide) (by decide) k (by rw [n18]; exact hk)]; exact q1, fun i hi => (q2 i hi).cp wb.1.2.2.2.2 (by rw [wb.2.2.2.2.2, wc.2.2.2.2.2]) (by rw [n20]; omega) (by rw [wb.2.2.2.2.2]; have := (w3 i hi).2.1; omega) (fun i hi => eo 20 (by decide) (by decide) i hi) (fun i hi => eo 21 (by decide) (by decide) i hi)⟩
  · rw [eo 20 (by decide) (by decide) _ (by rw [show b + 20 = b + 19 + 1 from rfl, n20]; omega)]
    exact (r4 k hk).2 hk2 i hi
