/-! PURE: the lexemes change; the hypotheses stay -/
def eqH (f g : Nat → Int) : Prop := ∀ i, i ≠ 2 → i < 723 → g i = f i
theorem wf_lex {f g : Nat → Int} (hw : wfF f) (e : eqH f g) (h2 : 0 ≤ g 2 ∧ g 2 ≤ 10) (hl : ∀ k : Nat, (k : Int) < g 2 → wfL g k) : wfF g := by
  obtain ⟨w1, w2, w3, w4, w5, w6, w7⟩ := hw
  have e0 := e 0 (by decide) (by decide)
  have e1 := e 1 (by decide) (by decide)
  have ww : ∀ w : Nat, (w : Int) < f 1 → wd g (wa w) 2 14 ∧ fl g (wa w) = fl f (wa w) := fun w hw => wfW.on (fun i a b => (e i (by unfold wa at a; omega) (by unfold wa at b; omega)).symm) (w5 w hw)
  refine ⟨by rw [e0]; exact w1, by rw [e1]; exact w2, h2, fun p hp => ?_, fun w hw => (ww w (by rw [← e1]; exact hw)).1, fun w v hw hv q => ?_, hl⟩
  · rw [e0] at hp
    exact (w4 p hp).on (fun i a b => (e i (by unfold pa at a; omega) (by unfold pa at b; omega)).symm)
  · rw [e1] at hw hv
    rw [(ww w hw).2, (ww v hv).2] at q
    exact w6 w v hw hv q
theorem rep_lex {σ τ : Sto} {b : Nat} {f g : Nat → Int} (hw : wfF f) (hr : repS σ b f) (e : eqH f g) (e0 : τ b 0 = σ b 0) (e9 : τ b 9 = σ b 9) (h11 : τ b 11 = g 2) (eo : ∀ i, b + 1 ≤ i → i ≤ b + 17 → τ i = σ i) (hk : ∀ k : Nat, k < 10 → ((k : Int) < g 2 → repL τ b g k) ∧ (g 2 ≤ (k : Int) → ∀ c : Nat, c < 6 → τ (b + 20) (6 * k + c) = 0)) : repS τ b g := by
  obtain ⟨w1, w2, w3, w4, w5, w6, w7⟩ := hw
  obtain ⟨r1, r2, r3, r4⟩ := hr
  have f0 := e 0 (by decide) (by decide)
  have f1 := e 1 (by decide) (by decide)
  refine ⟨⟨by rw [e0, f0]; exact r1.1, by rw [e9, f1]; exact r1.2.1, h11⟩, fun p hp => ⟨fun hp2 => ?_, fun hp2 => ?_⟩, fun w hw => ?_, hk⟩
  · rw [f0] at hp2
    have r := (r2 p hp).1 hp2
    have r' : repP τ b f p := r.fr (by rw [eo _ (by omega) (by omega)]) (by rw [eo _ (by omega) (by omega)]) (by rw [eo _ (by omega) (by omega)]) (fun _ t => t.fr (eo _ (by omega) (by omega)) (eo _ (by omega) (by omega))) (fun c _ t => ⟨by rw [eo _ (by omega) (by omega)]; exact t.1, by rw [eo _ (by omega) (by omega)]; exact t.2.1, t.2.2.1.fr (eo _ (by omega) (by omega)) (eo _ (by omega) (by omega)), t.2.2.2.fr (eo _ (by omega) (by omega)) (eo _ (by omega) (by omega))⟩)
    exact r'.on (fun i a b => (e i (by unfold pa at a; omega) (by unfold pa at b; omega)).symm) (w4 p hp2)
  · rw [eo _ (by omega) (by omega), eo _ (by omega) (by omega), eo _ (by omega) (by omega)]
    exact (r2 p hp).2 (by rw [← f0]; exact hp2)
  · rw [f1] at hw
    exact tw1.on (n := 14) (fun i a c => (e i (by unfold wa at a; omega) (by unfold wa at c; omega)).symm) (w5 w hw) ((r3 w hw).fr (eo _ (by omega) (by omega)) (eo _ (by omega) (by omega)))
section
variable {f g : Nat → Int}
theorem bldF_H {p c : Nat} (hw : wfF f) (e : eqH f g) (hp : (p : Int) < f 0) (hc : (c : Int) < f (pa p)) (st : List Int) : bldF g p c st = bldF f p c st := by
  have w0 := hw.1
  have wp := hw.2.2.2.1 p hp
  have c6 := wp.1
  obtain ⟨-, -, d3, d4, -⟩ := wp.2.2.2.2 c hc
  have hca : ca p c + 12 ≤ 483 := by unfold ca; omega
  have hc3 : 3 ≤ ca p c := by unfold ca; omega
  unfold bldF
  rw [e (ca p c) (by omega) (by omega), e (ca p c + 1) (by omega) (by omega), fl_on (f := f) (g := g) (n := 4) (fun i a b => (e i (by omega) (by omega)).symm) (by have := d3.2.1; omega), fl_on (f := f) (g := g) (n := 4) (fun i a b => (e i (by omega) (by omega)).symm) (by have := d4.2.1; omega)]
theorem frm1_H {p : Nat} (hw : wfF f) (e : eqH f g) (hp : (p : Int) < f 0) (st : List Int) : ∀ n : Nat, (n : Int) ≤ f (pa p) → frm1 g p st n = frm1 f p st n := by
  intro n
  induction n with
  | zero => intro _; rfl
  | succ n ih =>
    intro hn
    have i := ih (by omega)
    have b := bldF_H hw e hp (c := n) (by omega) st
    show (match bldF g p n st with | none => frm1 g p st n | some l => if l ∈ frm1 g p st n then frm1 g p st n else frm1 g p st n ++ [l]) = (match bldF f p n st with | none => frm1 f p st n | some l => if l ∈ frm1 f p st n then frm1 f p st n else frm1 f p st n ++ [l])
    rw [b, i]
theorem frms_H {p : Nat} (hw : wfF f) (e : eqH f g) (hp : (p : Int) < f 0) (st : List Int) : frms g p st = frms f p st := by
  have w0 := hw.1
  have c6 := (hw.2.2.2.1 p hp).1
  unfold frms
  rw [e (pa p) (by unfold pa; omega) (by unfold pa; omega)]
  exact frm1_H hw e hp st _ (by omega)
theorem wfl_H {w : Nat} (hw : wfF f) (e : eqH f g) (h : (w : Int) < f 1) : fl g (wa w) = fl f (wa w) := by
  have w16 := hw.2.1
  have := (hw.2.2.2.2.1 w h).2.1
  exact fl_on (n := 14) (fun i a b => (e i (by unfold wa at a; omega) (by unfold wa at b; omega)).symm) (by omega)
theorem attF_H (hw : wfF f) (e : eqH f g) (l : List Int) : attF g l = attF f l := by
  have h0 := hw.2.1
  unfold attF
  rw [e 1 (by decide) (by decide)]
  exact fidx_congr _ _ (fun i _ hi => wfl_H hw e (by omega))
theorem alwF_H {p : Nat} (hw : wfF f) (e : eqH f g) (hp : (p : Int) < f 0) (st : List Int) : alwF g p st = alwF f p st := by
  have w0 := hw.1
  have wp := hw.2.2.2.1 p hp
  have hpa : pa p + 80 ≤ 483 := by unfold pa; omega
  have hp3 : 3 ≤ pa p := by unfold pa; omega
  unfold alwF
  rw [e (pa p + 1) (by omega) (by omega), e (pa p + 2) (by omega) (by omega)]
  by_cases z : f (pa p + 1) = 4
  · rw [fl_on (f := f) (g := g) (n := 4) (fun i a b => (e i (by omega) (by omega)).symm) (by have := (wp.2.2.2.1 z).2.1; omega)]
  · unfold alw
    rw [if_neg z, if_neg z]
theorem expl_H {p : Nat} (hw : wfF f) (e : eqH f g) (hp : (p : Int) < f 0) (st : List Int) : expl g p st = expl f p st := by
  unfold expl
  rw [frms_H hw e hp st]
  congr 1
  exact List.filter_congr (fun l _ => by rw [attF_H hw e l])
theorem keyF_H {p : Nat} (hw : wfF f) (e : eqH f g) (hp : (p : Int) < f 0) (st : List Int) : keyF g p st = keyF f p st := by
  unfold keyF
  rw [expl_H hw e hp st, frms_H hw e hp st]
theorem isH_H {p : Nat} (hw : wfF f) (e : eqH f g) (st : List Int) : isH g p st ↔ isH f p st := by
  have e0 := e 0 (by decide) (by decide)
  unfold isH
  rw [e0]
  constructor
  · rintro ⟨a, b, c, d⟩
    exact ⟨a, b, by rw [← alwF_H hw e a]; exact c, by rw [← expl_H hw e a]; exact d⟩
  · rintro ⟨a, b, c, d⟩
    exact ⟨a, b, by rw [alwF_H hw e a]; exact c, by rw [expl_H hw e a]; exact d⟩
theorem exw_H {p : Nat} (hw : wfF f) (e : eqH f g) (hp : (p : Int) < f 0) (st : List Int) (w : Nat) : exw g p st w = exw f p st w := by
  unfold exw
  rw [e 1 (by decide) (by decide), frms_H hw e hp st]
  apply decide_eq_decide.mpr
  constructor
  · rintro ⟨a, b⟩; exact ⟨a, by rw [← wfl_H hw e a]; exact b⟩
  · rintro ⟨a, b⟩; exact ⟨a, by rw [wfl_H hw e a]; exact b⟩
theorem isHL_H {H : List (Nat × List Int)} (hw : wfF f) (e : eqH f g) (h : isHL f H) : isHL g H := by
  obtain ⟨a, b⟩ := h
  have hp : ∀ q ∈ H, (q.1 : Int) < f 0 := fun q hq => ((b q).mp hq).1
  refine ⟨fun i j hi hj hij => ?_, fun q => ?_⟩
  · rw [keyF_H hw e (hp _ (List.getElem_mem hi)), keyF_H hw e (hp _ (List.getElem_mem hj))]
    exact a i j hi hj hij
  · rw [b q, isH_H hw e]
theorem rankX_H {σ : Sto} {k : Nat} (hw : wfF f) (e : eqH f g) (h : rankX σ k f) : rankX σ k g := by
  obtain ⟨H, h1, h2, h3, h4⟩ := h
  have hp : ∀ q ∈ H, (q.1 : Int) < f 0 := fun q hq => ((h1.2 q).mp hq).1
  refine ⟨H, isHL_H hw e h1, h2, h3, fun i hi => ?_⟩
  have hm := hp _ (List.getElem_mem hi)
  rw [keyF_H hw e hm, show exw g H[i].1 H[i].2 = exw f H[i].1 H[i].2 from funext (exw_H hw e hm H[i].2)]
  exact h4 i hi
theorem rankM_H {σ : Sto} {m : Nat} (hw : wfF f) (e : eqH f g) (h : rankM σ m f) : rankM σ m g := by
  obtain ⟨H, F, h1, h2, h3, h4, h5, h6⟩ := h
  have hp : ∀ q ∈ H, (q.1 : Int) < f 0 := fun q hq => ((h1.2 q).mp hq).1
  refine ⟨H, F, isHL_H hw e h1, h2, h3, h4, h5, fun i q hq => ?_⟩
  have hm := hp q (h2.mem_iff.mp (List.mem_of_getElem? hq))
  unfold hypM
  rw [expl_H hw e hm, frms_H hw e hm]
  exact h6 i q hq
end
/-! exceptions -/
def uExc (f : Nat → Int) (l c : Nat) (v : List Int) (g : Nat → Int) : Prop := isWd g (ea l c) v ∧ ∀ i, ¬ (ea l c ≤ i ∧ i < ea l c + 15) → g i = f i
def exsC (f : Nat → Int) (l c : Nat) (v : List Int) (j : Nat) (a : Int) : Int := if (if j = c then 0 < v.length else 0 < f (ea l j)) then a + 1 else a
def excS (f : Nat → Int) (l c : Nat) (v : List Int) : Int := lp (exsC f l c v) (lexN f l) 0 0
section
variable {σ τ : Sto} {k m : Nat} {f g : Nat → Int} {sv : Option (Nat → Int)} {hs : List (Nat → Int)} {inp inp' v : List Int} {P : Int → Sto → Prop} {X : Nat → Sto → Prop} {Q : Sto → Prop} {x y w kd pr : Int}
/-- there is such a row -/
theorem uExc_ex {l c : Nat} (hv : v.length ≤ 14) : ∃ g, uExc f l c v g := by
  refine ⟨fun i => if i = ea l c then (v.length : Int) else if ea l c < i ∧ i < ea l c + 15 then v.getD (i - ea l c - 1) 0 else f i, ⟨?_, ?_⟩, fun i hi => ?_⟩
  · exact if_pos rfl
  · unfold fl
    simp only [if_pos, Int.toNat_natCast]
    apply List.ext_getElem?
    intro i
    rcases Nat.lt_or_ge i v.length with q | q
    · rw [seg_get q, if_neg (by omega), if_pos (by omega), show ea l c + 1 + i - ea l c - 1 = i by omega, List.getD_eq_getElem?_getD, List.getElem?_eq_getElem q]
      rfl
    · rw [List.getElem?_eq_none (by rw [seg_len]; exact q), List.getElem?_eq_none q]
  · simp only
    rw [if_neg (by omega), if_neg (by omega)]
theorem uExc.H {l c : Nat} (u : uExc f l c v g) : eqH f g := fun i _ hi => u.2 i (by unfold ea; omega)
theorem ea_apart {l c l' c' : Nat} (hc : c < 6) (hc' : c' < 6) (h : ¬ (l = l' ∧ c = c')) : ea l c + 15 ≤ ea l' c' ∨ ea l' c' + 15 ≤ ea l c := by
  unfold ea
  rcases Nat.lt_trichotomy l l' with a | a | a <;> omega
theorem ea_la {l c l' i : Nat} (hc : c < 6) (h1 : la l' ≤ i) (h2 : i < la l' + 12) : ¬ (ea l c ≤ i ∧ i < ea l c + 15) := by
  unfold ea
  unfold la at h1 h2
  rcases Nat.lt_trichotomy l l' with a | a | a <;> omega
theorem uExc.ln {l c l' : Nat} (u : uExc f l c v g) (hw : wfF f) (hl' : (l' : Int) < f 2) (hc : c < 6) : g (la l') = f (la l') ∧ fl g (la l' + 1) = fl f (la l' + 1) ∧ lexN g l' = lexN f l' := by
  have a1 : ∀ i, la l' ≤ i → i < la l' + 12 → g i = f i := fun i a b => u.2 i (ea_la hc a b)
  have b := lexN_b hw hl'
  have w := (hw.2.2.2.2.2.2 l' hl').2.1
  have e1 := a1 (la l') (by omega) (by omega)
  refine ⟨e1, fl_on (n := 10) (fun i a b => (a1 i (by omega) (by omega)).symm) (by have := w.2.1; omega), ?_⟩
  unfold lexN lexP
  rw [e1]
  congr 1
  exact u.H _ (by unfold pa; omega) (by unfold pa; unfold lexP at b; omega)
theorem uExc.wf {l c : Nat} (u : uExc f l c v g) (hw : wfF f) (hl : (l : Int) < f 2) (hc : c < 6) (hv : v.length ≤ 14) (ha : ab v) : wfF g := by
  have h2 := hw.2.2.1
  have e2 : g 2 = f 2 := u.2 2 (by unfold ea; omega)
  have e0 : g 0 = f 0 := u.2 0 (by unfold ea; omega)
  refine wf_lex hw u.H (by rw [e2]; exact h2) (fun k hk => ?_)
  rw [e2] at hk
  obtain ⟨w1, w2, w3⟩ := hw.2.2.2.2.2.2 k hk
  obtain ⟨n1, n2, -⟩ := u.ln hw hk hc
  have a1 : ∀ i, la k ≤ i → i < la k + 12 → f i = g i := fun i a b => (u.2 i (ea_la hc a b)).symm
  refine ⟨by rw [n1, e0]; exact w1, (wd.on (n := 10) (fun i a b => a1 i (by omega) (by omega)) w2).1, fun j hj => ?_⟩
  by_cases q : l = k ∧ c = j
  · obtain ⟨rfl, rfl⟩ := q
    exact u.1.wd (by omega) (by omega) ha
  · have ap := ea_apart (l := l) (l' := k) hc hj q
    exact (wd.on (n := 14) (fun i a b => (u.2 i (by omega)).symm) (w3 j hj)).1
theorem uExc.rep {b l c : Nat} (u : uExc f l c v g) (hb : zk b = 2) (hw : wfF f) (hr : repS σ b f) (hl : (l : Int) < f 2) (hc : c < 6) (eb : τ b = σ b) (eo : ∀ i, b + 1 ≤ i → i ≤ b + 18 → τ i = σ i) (t1 : τ (b + 19 + 1) (6 * l + c) = (v.length : Int)) (t2 : tl τ (b + 19) (6 * l + c) = v) (tk : ∀ j, j ≠ 6 * l + c → tkeep σ τ (b + 19) j) (t3 : ∀ j, j ≠ 6 * l + c → τ (b + 20) j = σ (b + 20) j) : repS τ b g := by
  have h2 := hw.2.2.1
  have s := st_w hb
  have e2 : g 2 = f 2 := u.2 2 (by unfold ea; omega)
  refine rep_lex hw hr u.H (by rw [eb]) (by rw [eb]) (by rw [eb, e2]; exact hr.1.2.2) (fun i a b => eo i a (by omega)) (fun k hk => ⟨fun hk2 => ?_, fun hk2 j hj => ?_⟩)
  · rw [e2] at hk2
    obtain ⟨n1, n2, -⟩ := u.ln hw hk2 hc
    have r := (hr.2.2.2 k hk).1 hk2
    refine ⟨by rw [n1, n2, eo _ (by omega) (by omega)]; exact r.1, fun j hj => ?_⟩
    have w3 := exc_wd hw hk2 hj
    by_cases q : l = k ∧ c = j
    · obtain ⟨rfl, rfl⟩ := q
      exact tw1_of t1 t2 u.1
    · have ap := ea_apart (l := l) (l' := k) hc hj q
      exact tw1.on (n := 14) (fun i a b => (u.2 i (by omega)).symm) w3 (tk _ (by omega) _ _ (by rw [s.2.2.2.2.2]; exact w3.2.1) (r.2 j hj))
  · rw [e2] at hk2
    rw [t3 _ (by omega)]
    exact (hr.2.2.2 k hk).2 hk2 j hj
theorem uExc.cnt {l c : Nat} (u : uExc f l c v g) (hw : wfF f) (hl : (l : Int) < f 2) (hc : c < 6) : excF g l = excS f l c v := by
  unfold excF excS
  rw [(u.ln hw hl hc).2.2]
  have b := lexN_b hw hl
  refine lp_congr _ _ _ (fun i _ hi a => ?_)
  unfold excC exsC
  by_cases q : i = c
  · subst q
    have e : (0 < g (ea l i)) ↔ (0 < v.length) := by rw [u.1.1]; omega
    by_cases z : 0 < v.length
    · rw [if_pos (e.mpr z), if_pos (by rw [if_pos rfl]; exact z)]
    · rw [if_neg (fun y => z (e.mp y)), if_neg (by rw [if_pos rfl]; exact z)]
  · have ap := ea_apart (l := l) (l' := l) (c := c) (c' := i) hc (by omega) (by omega)
    rw [u.2 (ea l i) (by omega)]
    by_cases z : 0 < f (ea l i)
    · rw [if_pos z, if_pos (by rw [if_neg q]; exact z)]
    · rw [if_neg z, if_neg (by rw [if_neg q]; exact z)]
/-- the class, new, the ranking as it was -/
theorem XI.newL (h : XI σ k f sv hs inp) {hs' : List (Nat → Int)} (e : ∀ i, (i = k ∨ (k + 25 ≤ i ∧ i ≤ k + 46) ∨ (k + 269 ≤ i ∧ i ≤ k + 271)) → τ i = σ i) (hin : wok τ (k + 1) 14 ∧ wl τ (k + 1) = inp') (hr : repS τ (k + 3) g) (hw : wfF g) (hh : histX τ k hs') (eh : eqH f g) : XI τ k g sv hs' inp' := by
  have e269 := e (k + 269) (by omega)
  exact ⟨h.1, hin, ⟨hr, hw⟩, h.2.2.2.1.fr (e k (Or.inl rfl)) (fun i g1 g2 => e i (Or.inr (Or.inl ⟨g1, g2⟩))), hh, by rw [e269]; exact h.2.2.2.2.2.1, fun z => rankX_H h.wf eh ((h.2.2.2.2.2.2 (by rw [← e269]; exact z)).fr (by rw [e269]) (fun i g1 g2 => e i (by omega)))⟩
theorem isLC_n {l c : Nat} (q : isLC f (l : Int) (c : Int)) (hw : wfF f) : (l : Int) < f 2 ∧ c < lexN f l ∧ c < 6 := by
  have hc := q.2.2.2
  rw [Int.toNat_natCast] at hc
  have b := lexN_b hw q.1.2
  have : c < lexN f l := by unfold lexN lexP; omega
  exact ⟨q.1.2, this, by omega⟩
theorem isLC_nat (q : isLC f x y) : ∃ l c : Nat, x = (l : Int) ∧ y = (c : Int) := ⟨x.toNat, y.toNat, by have := q.1.1; omega, by have := q.2.2.1; omega⟩
theorem x_setException (h : XI σ k f sv hs inp) (hx : zR x) (hy : zR y) (h1 : ¬ isLC f x y → xU σ k (eqF f) sv hs inp (X 0)) (h2 : isLC f x y → ¬ 2 ≤ inp.length → xU σ k (eqF f) sv hs inp (X 1)) (h3 : isLC f x y → 2 ≤ inp.length → xU σ k (uExc f x.toNat y.toNat inp) sv (pushH hs f) [] (P (excS f x.toNat y.toNat inp))) : vX6_setException k x y P X σ := by
  obtain ⟨l1, l2, l3⟩ := x_len h
  refine x_checkLexemeCell h hx hy (fun q => xU.same h (h1 q)) (fun q => ?_)
  obtain ⟨l, c, rfl, rfl⟩ := isLC_nat q
  obtain ⟨hl, hc, c6⟩ := isLC_n q h.wf
  rw [Int.toNat_natCast, Int.toNat_natCast] at *
  have n := xn h.1
  have hb := zf_5_state h.1
  have sw := st_w hb
  have l10 := (h.lex hl).1
  rw [l1]
  refine ⟨zR_s (by omega) (by omega), fun z => x_push0 h (fun s2 hX e2 => ?_), fun z => xU.same h (h2 q (by omega))⟩
  unfold vX6_cellSlot
  dsimp only
  rw [show (l : Int) * 6 + (c : Int) = ((6 * l + c : Nat) : Int) by omega]
  have len2 := (x_len hX).1
  rw [len2]
  have := s_put (t := k + 3 + 19) (j := 6 * l + c) (w := k + 1) (fm := 0) (to := inp.length) (σ := s2) (P := fun s4 => vX4_clear (k + 1) (fun s5 => vX3_exceptionCount (k + 3) (l : Int) (fun r6 s6 => P r6 s6) s5) s4) sw.1.2.2.2.2 (by rw [n.2.2.2.2.2.2.2.2.2.1]; omega) hX.2.1.1 (by omega) (by rw [len2]; omega) (by rw [sw.2.2.2.2.2]; omega) ⟨by omega, by omega, by omega, by omega⟩ (fun s4 h4 => s_clear (fun s5 h5 => by
    rw [hX.2.1.2, List.drop_zero, Nat.sub_zero, List.take_length] at h4
    have e5 : ∀ i, i ≠ k + 1 → i ≠ k + 1 + 1 → s5 i = s4 i := fun i a b => h5.1 i (by simp <;> omega)
    have e4 : ∀ i, i ≠ k + 3 + 19 + 1 → i ≠ k + 3 + 19 + 2 → s4 i = s2 i := fun i a b => h4.1 i (by simp <;> omega)
    have ee : ∀ i, (i < k + 47 ∨ k + 268 < i) → i ≠ k + 1 → i ≠ k + 1 + 1 → i ≠ k + 3 + 19 + 1 → i ≠ k + 3 + 19 + 2 → s5 i = σ i := fun i a0 a1 a2 a3 a4 => by rw [e5 i a1 a2, e4 i a3 a4, e2 i a0]
    have all : ∀ g, uExc f l c inp g → XI s5 k g sv (pushH hs f) [] := fun g u => h.newL (fun i hi => ee i (by omega) (by omega) (by omega) (by omega) (by omega)) ⟨h5.ok h.2.1.1.1 (by simp) (by decide) ab_nil, h5.2.1⟩ (u.rep hb h.wf h.st hl c6 (ee _ (by omega) (by omega) (by omega) (by omega) (by omega)) (fun i a b => ee i (by omega) (by omega) (by omega) (by omega) (by omega)) (by rw [e5 _ (by omega) (by omega)]; exact h4.2.1) (by
        unfold tl
        rw [e5 _ (by omega) (by omega), e5 _ (by omega) (by omega)]
        exact h4.2.2.1) (fun j hj => ((tkeep_fr (e2 _ (by omega)) (e2 _ (by omega))).trans (tkeep_sett h4 hj)).trans (tkeep_fr (e5 _ (by omega) (by omega)) (e5 _ (by omega) (by omega)))) (fun j hj => by
        rw [show k + 3 + 20 = k + 3 + 19 + 1 from rfl, e5 _ (by omega) (by omega), h4.2.2.2.1 j hj, e2 _ (by omega)])) (u.wf h.wf hl c6 l2 l3) (hX.2.2.2.2.1.fr (fun i a b => by rw [e5 i (by omega) (by omega), e4 i (by omega) (by omega)])) u.H
    obtain ⟨g0, u0⟩ := uExc_ex (f := f) (l := l) (c := c) (v := inp) l2
    have e2g : g0 2 = f 2 := u0.2 2 (by unfold ea; omega)
    refine x_exceptionCount (all g0 u0) (by rw [e2g]; exact hl) ?_
    rw [u0.cnt h.wf hl c6]
    exact h3 q (by omega) s5 all (fun i hi => ee i (by omega) (by omega) (by omega) (by omega) (by omega))))
  exact_mod_cast this
theorem x_clearException (h : XI σ k f sv hs inp) (hx : zR x) (hy : zR y) (h1 : ¬ isLC f x y → xU σ k (eqF f) sv hs inp (X 0)) (h2 : isLC f x y → ¬ 0 < f (ea x.toNat y.toNat) → xU σ k (eqF f) sv hs inp (X 3)) (h3 : isLC f x y → 0 < f (ea x.toNat y.toNat) → xU σ k (uExc f x.toNat y.toNat []) sv (pushH hs f) inp (P (excS f x.toNat y.toNat []))) : vX6_clearException k x y P X σ := by
  refine x_checkLexemeCell h hx hy (fun q => xU.same h (h1 q)) (fun q => ?_)
  obtain ⟨l, c, rfl, rfl⟩ := isLC_nat q
  obtain ⟨hl, hc, c6⟩ := isLC_n q h.wf
  rw [Int.toNat_natCast, Int.toNat_natCast] at *
  have n := xn h.1
  have hb := zf_5_state h.1
  have sw := st_w hb
  have l10 := (h.lex hl).1
  refine x_hasEx h hl c6 ⟨b2i_R _, fun z => x_push0 h (fun s2 hX e2 => ?_), fun z => xU.same h (h2 q (of_decide_eq_false (b2i_0.mp z)))⟩
  have z := of_decide_eq_true (b2i_1.mp z)
  unfold vX3_dropException vX6_cellSlot
  dsimp only
  rw [show (l : Int) * 6 + (c : Int) = ((6 * l + c : Nat) : Int) by omega, Int.toNat_natCast]
  refine ⟨by omega, by omega, fun s4 q4 => ?_⟩
  have e4 : ∀ i, i ≠ k + 3 + 19 + 1 → s4 i = s2 i := fun i a => by rw [q4, zu_ne a]
  have ee : ∀ i, (i < k + 47 ∨ k + 268 < i) → i ≠ k + 3 + 19 + 1 → s4 i = σ i := fun i a0 a1 => by rw [e4 i a1, e2 i a0]
  have all : ∀ g, uExc f l c [] g → XI s4 k g sv (pushH hs f) inp := fun g u => h.newL (fun i hi => ee i (by omega) (by omega)) (by
      obtain ⟨a, b⟩ := h.2.1.1.fr (τ := s4) (ee _ (by omega) (by omega)) (ee _ (by omega) (by omega))
      exact ⟨a, by rw [b]; exact h.2.1.2⟩) (u.rep hb h.wf h.st hl c6 (ee _ (by omega) (by omega)) (fun i a b => ee i (by omega) (by omega)) (by rw [q4, zu_eq]; rfl) (by unfold tl; rw [q4, zu_eq]; rfl) (fun j hj f' q' hl' ht => by
        have a : s4 (k + 3 + 19 + 1) j = σ (k + 3 + 19 + 1) j := by rw [q4, zu_j hj, e2 _ (by omega)]
        refine ⟨by rw [a]; exact ht.1, ?_⟩
        rw [← ht.2]
        unfold tl
        rw [a, ee _ (by omega) (by omega)]) (fun j hj => by rw [show k + 3 + 20 = k + 3 + 19 + 1 from rfl, q4, zu_j hj, e2 _ (by omega)])) (u.wf h.wf hl c6 (by simp) ab_nil) (hX.2.2.2.2.1.fr (fun i a b => e4 i (by omega))) u.H
  obtain ⟨g0, u0⟩ := uExc_ex (f := f) (l := l) (c := c) (v := []) (by simp)
  have e2g : g0 2 = f 2 := u0.2 2 (by unfold ea; omega)
  refine x_exceptionCount (all g0 u0) (by rw [e2g]; exact hl) ?_
  rw [u0.cnt h.wf hl c6]
  exact h3 q z s4 all (fun i hi => ee i (by omega) (by omega))
theorem m_setException (h : MI σ m f sv hs inp) (hx : zR x) (hy : zR y) (h1 : ¬ isLC f x y → mU σ m (eqF f) sv hs inp 1 (P 0)) (h2 : isLC f x y → ¬ 2 ≤ inp.length → mU σ m (eqF f) sv hs inp 2 (P 0)) (h3 : isLC f x y → 2 ≤ inp.length → mU σ m (uExc f x.toNat y.toNat inp) sv (pushH hs f) [] 0 (P (excS f x.toNat y.toNat inp))) : vX7_setException m x y P σ := by
  obtain ⟨l1, l2, l3⟩ := m_len h
  have z := mz h.1
  refine m_hasCell h hx hy ⟨b2i_R _, fun q => ⟨by rw [z.2.2.2.1]; decide, ?_⟩, fun q => m_go1 (by decide) (mU.same h (h1 (of_decide_eq_false (b2i_0.mp q))))⟩
  have q := of_decide_eq_true (b2i_1.mp q)
  obtain ⟨l, c, rfl, rfl⟩ := isLC_nat q
  obtain ⟨hl, hc, c6⟩ := isLC_n q h.wf
  rw [Int.toNat_natCast, Int.toNat_natCast] at *
  have l10 := h.wf.2.2.1
  have el := ea_lt (l := l) (c := c) (by omega) c6
  have e3 : 723 ≤ ea l c := by unfold ea; omega
  rw [show Int.toNat 0 = 0 from rfl, l1]
  refine ⟨zR_s (by omega) (by omega), fun a => m_go0 (m_rem (h.thr 0) (fun τ e em e8 hh => ?_)), fun a => m_go1 (by decide) (mU.same h (h2 q (by omega)))⟩
  have er : τ (m + 1) = f := by rw [e _ (by omega) (by omega)]; exact (h.thr 0).row
  have ein : τ (m + 4) = σ (m + 4) := by rw [e _ (by omega) (by omega), zu_ne (by omega)]
  obtain ⟨fk, fe⟩ := h.2.1.1.fr (τ := τ) ein
  unfold vX7_exceptionAt vX7_lexemeAt
  dsimp only
  rw [show ((723 : Int) + 102 * (l : Int) + 12 + 15 * (c : Int)) = ((ea l c : Nat) : Int) by unfold ea; omega]
  have := s7_copy (q' := ea l c) (P := fun s5 => 0 < (zn (m + 4) : Int) ∧ (∀ s6 : Sto, s6 = zu s5 (m + 4) (Int.toNat 0) 0 → (vX7_exceptionMany m (l : Int) (fun r7 s7 => P r7 s7) s6))) fk (zf_6_s h.1) (by rw [z.1]; omega) (Or.inl (by omega)) (by
    have sq := zc_setq (k' := m + 1) (q' := ea l c) (N := 14) fk (by omega) (Or.inl (by omega))
    rw [fe, h.2.1.2] at sq
    generalize zc τ (m + 4) 0 (m + 1) (ea l c) ((τ (m + 4) 0).toNat + 1) = s5 at sq
    refine ⟨by rw [z.2.2.2.1]; decide, fun s6 q6 => ?_⟩
    rw [show Int.toNat 0 = 0 from rfl] at q6
    have eg : s6 (m + 1) = s5 (m + 1) := by rw [q6, zu_ne (by omega)]
    have u : uExc f l c inp (s6 (m + 1)) := by
      rw [eg]
      exact ⟨isWd_setq sq, fun i hi => by rw [sq.2.2.2 i (by omega), er]⟩
    have wg := u.wf h.wf hl c6 l2 l3
    have e2g : s6 (m + 1) 2 = f 2 := u.2 2 (by omega)
    refine m_exceptionMany h.1 rfl wg (by rw [e2g]; exact hl) ?_
    rw [u.cnt h.wf hl c6]
    exact MI.chgI h e em e8 hh (fun i b1 b2 => by rw [q6, zu_ne b2, sq.keep b1]) (by rw [q6, zu_eq]) rfl u wg (h3 q (by omega)))
  exact_mod_cast this
theorem m_clearException (h : MI σ m f sv hs inp) (hx : zR x) (hy : zR y) (h1 : ¬ isLC f x y → mU σ m (eqF f) sv hs inp 1 (P 0)) (h2 : isLC f x y → ¬ 0 < f (ea x.toNat y.toNat) → mU σ m (eqF f) sv hs inp 2 (P 0)) (h3 : isLC f x y → 0 < f (ea x.toNat y.toNat) → mU σ m (uExc f x.toNat y.toNat []) sv (pushH hs f) inp 0 (P (excS f x.toNat y.toNat []))) : vX7_clearException m x y P σ := by
  have z := mz h.1
  refine m_hasCell h hx hy ⟨b2i_R _, fun q => ?_, fun q => m_go1 (by decide) (mU.same h (h1 (of_decide_eq_false (b2i_0.mp q))))⟩
  have q := of_decide_eq_true (b2i_1.mp q)
  obtain ⟨l, c, rfl, rfl⟩ := isLC_nat q
  obtain ⟨hl, hc, c6⟩ := isLC_n q h.wf
  rw [Int.toNat_natCast, Int.toNat_natCast] at *
  have l10 := h.wf.2.2.1
  have el := ea_lt (l := l) (c := c) (by omega) c6
  have e3 : 723 ≤ ea l c := by unfold ea; omega
  have ww := exc_wd h.wf hl c6
  have w1 := ww.1
  have w2 := ww.2.1
  unfold vX7_exceptionAt vX7_lexemeAt
  dsimp only
  rw [show ((723 : Int) + 102 * (l : Int) + 12 + 15 * (c : Int)) = ((ea l c : Nat) : Int) by unfold ea; omega, Int.toNat_natCast, h.row]
  refine ⟨by omega, by rw [z.1]; omega, zR_s (by omega) (by omega), fun a => m_go0 (m_rem (h.thr 0) (fun τ e em e8 hh => ?_)), fun a => m_go1 (by decide) (mU.same h (h2 q (by omega)))⟩
  have er : τ (m + 1) = f := by rw [e _ (by omega) (by omega)]; exact (h.thr 0).row
  unfold vX7_exceptionAt vX7_lexemeAt
  dsimp only
  rw [show ((723 : Int) + 102 * (l : Int) + 12 + 15 * (c : Int)) = ((ea l c : Nat) : Int) by unfold ea; omega, Int.toNat_natCast]
  refine ⟨by omega, by rw [z.1]; omega, fun s6 q6 => ?_⟩
  have u : uExc f l c [] (s6 (m + 1)) := ⟨isWd_0 (by rw [q6, zu_eq]), fun i hi => by rw [q6, zu_j (by omega), er]⟩
  have wg := u.wf h.wf hl c6 (by simp) ab_nil
  have e2g : s6 (m + 1) 2 = f 2 := u.2 2 (by omega)
  refine m_exceptionMany h.1 rfl wg (by rw [e2g]; exact hl) ?_
  rw [u.cnt h.wf hl c6]
  exact MI.chg h e em e8 hh (fun i b1 => by rw [q6, zu_ne b1]) rfl u wg (h3 q (by omega))
end
