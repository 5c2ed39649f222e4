/-! PURE: addCell of the reference -/
section
variable {σ τ : Sto} {k m : Nat} {f g : Nat → Int} {sv : Option (Nat → Int)} {hs : List (Nat → Int)} {inp inp' : List Int} {P : Int → Sto → Prop} {X : Nat → Sto → Prop} {Q : Sto → Prop} {x y w kd pr : Int}
theorem isWd_setq {k q N : Nat} {l : List Int} (h : setq σ τ k q N l) : isWd (τ k) q l := ⟨h.2.1, h.2.2.1⟩
theorem isWd_on {q n : Nat} {l : List Int} (h : isWd f q l) (hl : l.length ≤ n) (e : ∀ i, q ≤ i → i ≤ q + n → g i = f i) : isWd g q l := by
  have e0 := e q (by omega) (by omega)
  refine ⟨by rw [e0]; exact h.1, ?_⟩
  rw [← h.2]
  exact fl_on (n := n) (fun i a b => (e i a b).symm) (by rw [h.1]; omega)
theorem m_addCell_126 {p c at' o : Nat} (hm : zk m = 6) (hin : isWd (σ (m + 4)) 0 inp) (ha : ab inp) (hl : inp.length ≤ 14) (ho : o ≤ 4) (hno : inp.length - o ≤ 4) (hp : p < 6) (hat : at' + 12 ≤ 483) (hpa : pa p < at')
    (h1 : ∀ τ υ, (∀ i, i ≠ m + 1 → τ i = σ i) → isWd (τ (m + 1)) (at' + 2) (inp.take o) → isWd (τ (m + 1)) (at' + 7) (inp.drop o) → (∀ i, ¬ (at' + 2 ≤ i ∧ i < at' + 12) → τ (m + 1) i = σ (m + 1) i) → υ = zu (zu τ (m + 1) (pa p) (τ (m + 1) (pa p) + 1)) (m + 4) 0 0 → P (c : Int) υ) :
    ∀ (n j : Nat) (τ : Sto), j ≤ inp.length → inp.length - j < n → (∀ i, i ≠ m + 1 → τ i = σ i) → isWd (τ (m + 1)) (at' + 2) ((inp.take j).take o) → isWd (τ (m + 1)) (at' + 7) ((inp.take j).drop o) → (∀ i, ¬ (at' + 2 ≤ i ∧ i < at' + 12) → τ (m + 1) i = σ (m + 1) i) → vX7_addCell_126 m P n (p : Int) (c : Int) (at' : Int) (o : Int) ((j : Int) + 1) τ := by
  intro n
  induction n with
  | zero => intro j τ a b; omega
  | succ n ih =>
    intro j τ hj hn ef w2 w7 eo
    have z := mz hm
    have e4 : τ (m + 4) = σ (m + 4) := ef _ (by omega)
    have hp3 : 3 ≤ pa p := by unfold pa; omega
    unfold vX7_addCell_126 bX7_addCell_126
    rw [show Int.toNat 0 = 0 from rfl, e4, hin.1]
    refine ⟨by rw [z.2.2.2.1]; decide, zR_s (by omega) (by omega), zR_s (by omega) (by omega), fun q => ?_, fun q => ?_⟩
    · have ej : j = inp.length := by omega
      subst ej
      rw [List.take_length] at w2 w7
      unfold vX7_paradigmAt
      try dsimp only
      rw [show ((3 : Int) + 80 * (p : Int)) = ((pa p : Nat) : Int) by unfold pa; omega, Int.toNat_natCast]
      refine ⟨by omega, by rw [z.1]; omega, by omega, by rw [z.1]; omega, fun s13 e13 => ⟨by rw [z.2.2.2.1]; decide, fun s14 e14 => ?_⟩⟩
      exact h1 τ s14 ef w2 w7 eo (by rw [e14, e13])
    · have hj2 : j < inp.length := by omega
      have hx := ha inp[j] (List.getElem_mem hj2)
      have ei : σ (m + 4) (j + 1) = inp[j] := by
        have g : (fl (σ (m + 4)) 0)[j]? = some (σ (m + 4) (0 + 1 + j)) := by
          unfold fl
          rw [seg_get (by rw [hin.1]; omega)]
        rw [hin.2, List.getElem?_eq_getElem hj2] at g
        rw [Option.some.inj g]
        congr 1
        omega
      have e1 : ((j : Int) + 1).toNat = j + 1 := by omega
      have tk : inp.take (j + 1) = inp.take j ++ [inp[j]] := (List.take_append_getElem hj2).symm
      -- one letter to the word at q
      refine ⟨zR_s (by omega) (by omega), zR_s (by omega) (by omega), fun q2 => ⟨by omega, by rw [z.2.2.2.1]; omega, ?_⟩, fun q2 => ⟨by omega, by rw [z.2.2.2.1]; omega, ?_⟩⟩
      · rw [e1, e4, ei]
        have l7 : ((inp.take j).drop o).length = j - o := by rw [List.length_drop, List.length_take]; omega
        have hf : fok τ (m + 1) (at' + 7) 4 := ⟨zf_6_s hm, by rw [w7.1]; omega, by rw [w7.1, l7]; omega, by decide, by rw [z.1]; omega, by rw [w7.2]; exact ab_drop (ab_take ha _) _⟩
        have := s7_put (N := 4) (x := inp[j]) (P := fun s15 => vX7_addCell_126 m P n (p : Int) (c : Int) (at' : Int) (o : Int) ((j : Int) + 1 + 1) s15) hf (by rw [w7.1, l7]; omega) (by rw [z.1]; omega) (fun υ hυ => by
          rw [w7.2] at hυ
          have nw : isWd (υ (m + 1)) (at' + 7) ((inp.take (j + 1)).drop o) := by
            rw [tk, List.drop_append_of_le_length (by rw [List.length_take]; omega)]
            exact isWd_setq hυ
          have := ih (j + 1) υ (by omega) (by omega) (fun i hi => by rw [hυ.keep hi]; exact ef i hi) (by
            have e : (inp.take (j + 1)).take o = (inp.take j).take o := by
              rw [tk, List.take_append_of_le_length (by rw [List.length_take]; omega)]
            rw [e]
            exact isWd_on (n := 4) w2 (by rw [List.length_take]; omega) (fun i a b => hυ.2.2.2 i (by omega))) nw (fun i hi => by rw [hυ.2.2.2 i (by omega)]; exact eo i hi)
          exact_mod_cast this)
        exact_mod_cast this
      · rw [e1, e4, ei]
        have l2 : ((inp.take j).take o).length = j := by rw [List.length_take, List.length_take]; omega
        have hf : fok τ (m + 1) (at' + 2) 4 := ⟨zf_6_s hm, by rw [w2.1]; omega, by rw [w2.1, l2]; omega, by decide, by rw [z.1]; omega, by rw [w2.2]; exact ab_take (ab_take ha _) _⟩
        have := s7_put (N := 4) (x := inp[j]) (P := fun s15 => vX7_addCell_126 m P n (p : Int) (c : Int) (at' : Int) (o : Int) ((j : Int) + 1 + 1) s15) hf (by rw [w2.1, l2]; omega) (by rw [z.1]; omega) (fun υ hυ => by
          rw [w2.2] at hυ
          have nw : isWd (υ (m + 1)) (at' + 2) ((inp.take (j + 1)).take o) := by
            rw [List.take_of_length_le (by rw [List.length_take]; omega), tk]
            rw [List.take_of_length_le (by rw [List.length_take]; omega)] at hυ
            exact isWd_setq hυ
          have := ih (j + 1) υ (by omega) (by omega) (fun i hi => by rw [hυ.keep hi]; exact ef i hi) nw (by
            have e : (inp.take (j + 1)).drop o = (inp.take j).drop o := by
              rw [List.drop_of_length_le (by rw [List.length_take]; omega), List.drop_of_length_le (by rw [List.length_take]; omega)]
            rw [e]
            exact isWd_on (n := 4) w7 (by rw [List.length_drop, List.length_take]; omega) (fun i a b => hυ.2.2.2 i (by omega))) (fun i hi => by rw [hυ.2.2.2 i (by omega)]; exact eo i hi)
          exact_mod_cast this)
        exact_mod_cast this
/-- a changed row of the reference, behind remember; the input is taken -/
theorem MI.chgI {τ υ : Sto} {g : Nat → Int} {c : Int} {U : (Nat → Int) → Prop} (h : MI σ m f sv hs inp) (e : ∀ i, i ≠ m → i ≠ m + 2 → τ i = zu σ m 7 c i) (em : ∀ j, j ≠ 2 → j ≠ 8 → τ m j = zu σ m 7 c m j) (e8 : τ m 8 = 0) (hh : histM τ m (pushH hs f)) (eu : ∀ i, i ≠ m + 1 → i ≠ m + 4 → υ i = τ i) (hi0 : υ (m + 4) 0 = 0) (hg : υ (m + 1) = g) (hu : U g) (hw : wfF g) (q : mU σ m U sv (pushH hs f) [] c Q) : Q υ := by
  have ht := h.thr c
  have z := mz h.1
  have w0 := isWd_0 hi0
  refine q υ g hu (ht.new (by rw [eu _ (by omega) (by omega), e _ (by omega) (by omega)]) (by rw [eu _ (by omega) (by omega), em 4 (by decide) (by decide)]) ⟨⟨zf_6_input h.1, by omega, by omega, by decide, by rw [z.2.2.2.1]; decide, by rw [w0.2]; exact ab_nil⟩, w0.2⟩ hg hw (hh.fr (by rw [eu _ (by omega) (by omega)]) (eu _ (by omega) (by omega))) (by rw [eu _ (by omega) (by omega)]; exact e8)) (fun i hi => by rw [eu i (by omega) (by omega), e i (by omega) (by omega), zu_ne (by omega)]) (by rw [eu _ (by omega) (by omega), em 7 (by decide) (by decide), zu_eq])
theorem m_isGoodCell (h : MI σ m f sv hs inp) (hk : zR kd) (hq : zR pr) (h1 : goodC inp kd pr → P 1 σ) (h0 : ¬ goodC inp kd pr → P 0 σ) : vX7_isGoodCell m kd pr P σ := by
  obtain ⟨l1, l2, l3⟩ := m_len h
  have z := mz h.1
  have mid : ∀ y : Int, 0 ≤ y → y ≤ 4 → ((goodC inp kd pr) ↔ (0 ≤ pr ∧ pr ≤ y) ∧ inp.length ≤ 4) → vX7_isGoodCell_71 m P y 0 pr σ := fun y y0 y4 hy => by
    refine s7_in (zQ_R hq) (zQ_s (by decide) (by decide)) (zQ_s (by omega) (by omega)) ⟨b2i_R _, fun a => ⟨Or.inl rfl, h0 (fun g => (of_decide_eq_false (b2i_0.mp a)) (hy.mp g).1)⟩, fun a => ⟨by rw [z.2.2.2.1]; decide, ?_⟩⟩
    rw [show Int.toNat 0 = 0 from rfl, l1]
    have a := of_decide_eq_true (b2i_1.mp a)
    exact ⟨zR_s (by omega) (by omega), fun b => ⟨Or.inl rfl, h0 (fun g => by have := (hy.mp g).2; omega)⟩, fun b => ⟨Or.inr rfl, h1 (hy.mpr ⟨a, by omega⟩)⟩⟩
  unfold vX7_isGoodCell
  rw [show Int.toNat 0 = 0 from rfl, l1]
  refine ⟨hk, fun q => ⟨hk, s7_in (zQ_R hk) (zQ_s (by decide) (by decide)) (zQ_s (by decide) (by decide)) ⟨b2i_R _, fun a => ⟨Or.inl rfl, h0 (fun g => (of_decide_eq_false (b2i_0.mp a)) (by unfold goodC at g; omega))⟩, fun a => ⟨hq, hk, fun b => mid 0 (by decide) (by decide) ?_, fun b => mid 4 (by decide) (by decide) ?_⟩⟩⟩, fun q => ⟨hq, by rw [z.2.2.2.1]; decide, zR_s (by omega) (by omega), s7_in (zQ_R hq) (zQ_s (by decide) (by decide)) (zQ_s (by omega) (by omega)) ⟨b2i_R _, fun a => ⟨Or.inl rfl, h0 (fun g => (of_decide_eq_false (b2i_0.mp a)) (by unfold goodC at g; omega))⟩, fun a => ⟨hq, fun b => ⟨Or.inl rfl, h0 (fun g => by unfold goodC at g; omega)⟩, fun b => ⟨by rw [z.2.2.2.1]; decide, ?_⟩⟩⟩⟩⟩
  · have a := of_decide_eq_true (b2i_1.mp a)
    unfold goodC
    omega
  · unfold goodC
    omega
  · rw [l1]
    have a := of_decide_eq_true (b2i_1.mp a)
    exact ⟨zR_s (by omega) (by omega), fun c => ⟨Or.inl rfl, h0 (fun g => by unfold goodC at g; omega)⟩, fun c => ⟨Or.inr rfl, h1 (by unfold goodC; omega)⟩⟩
theorem m_addCell (h : MI σ m f sv hs inp) (hx : zR x) (hk : zR kd) (hq : zR pr) (h1 : ¬ isP f x → mU σ m (eqF f) sv hs inp 1 (P 0)) (h2 : isP f x → ¬ goodC inp kd pr → mU σ m (eqF f) sv hs inp 2 (P 0)) (h3 : isP f x → goodC inp kd pr → ¬ f (pa x.toNat) < 6 → mU σ m (eqF f) sv hs inp 3 (P 0)) (h4 : isP f x → goodC inp kd pr → f (pa x.toNat) < 6 → mU σ m (uCell f x.toNat kd pr inp) sv (pushH hs f) [] 0 (P (f (pa x.toNat)))) : vX7_addCell m x kd pr P σ := by
  refine m_isParadigm h hx ⟨b2i_R _, fun q => ?_, fun q => m_go1 (by decide) (mU.same h (h1 (of_decide_eq_false (b2i_0.mp q))))⟩
  have q := of_decide_eq_true (b2i_1.mp q)
  obtain ⟨p, rfl⟩ := isP_toNat q
  have z := mz h.1
  have w0 := h.wf.1
  have wp := h.wf.2.2.2.1 p q.2
  have w1 := wp.1
  simp only [Int.toNat_natCast] at *
  refine m_isGoodCell h hk hq (fun gd => ⟨zRl rfl, fun _ => ?_, fun a => absurd a (by decide)⟩) (fun gd => ⟨zR_0, fun a => absurd rfl a, fun _ => m_go1 (by decide) (mU.same h (h2 q gd))⟩)
  refine m_cellMany h.1 h.row (by omega) ⟨zR_s (by omega) (by omega), fun c => m_go0 ?_, fun c => m_go1 (by decide) (mU.same h (h3 q gd (by omega)))⟩
  obtain ⟨l1, l2, l3⟩ := m_len h
  obtain ⟨o1, o2, o3, o4, o5, o6, o7, o8⟩ := gd.old
  refine m_rem (h.thr 0) (fun τ e em e8 hh => ?_)
  have er : τ (m + 1) = f := by rw [e _ (by omega) (by omega)]; exact (h.thr 0).row
  refine m_cellMany h.1 er (by omega) ?_
  unfold vX7_cellAt vX7_paradigmAt
  try dsimp only
  obtain ⟨n, hn⟩ : ∃ n : Nat, f (pa p) = (n : Int) := ⟨(f (pa p)).toNat, by omega⟩
  have hnn : (f (pa p)).toNat = n := by omega
  rw [hn, show ((3 : Int) + 80 * (p : Int) + 8 + 12 * (n : Int)) = ((ca p n : Nat) : Int) by unfold ca; omega]
  have ci := ca_in (p := p) (c := n) (by omega)
  have hpl : pa p + 80 ≤ 483 := by unfold pa; omega
  have tail : ∀ y : Nat, y = oldC kd pr → vX7_addCell_82 m P (p : Int) kd pr (n : Int) ((ca p n : Nat) : Int) (y : Int) τ := fun y ey => by
    subst ey
    refine ⟨by omega, by rw [z.1]; omega, fun s8 q8 => ⟨by omega, by rw [z.1]; omega, fun s9 q9 => ⟨by omega, by rw [z.1]; omega, fun s10 q10 => ⟨by omega, by rw [z.1]; omega, fun s11 q11 => ⟨inp.length + 1, ?_⟩⟩⟩⟩⟩
    rw [Int.toNat_natCast] at q8
    rw [show (((ca p n : Nat) : Int) + 1).toNat = ca p n + 1 by omega] at q9
    rw [show (((ca p n : Nat) : Int) + 2).toNat = ca p n + 2 by omega] at q10
    rw [show (((ca p n : Nat) : Int) + 7).toNat = ca p n + 7 by omega] at q11
    have ne : ∀ i, i ≠ m + 1 → s11 i = τ i := fun i hi => by rw [q11, zu_ne hi, q10, zu_ne hi, q9, zu_ne hi, q8, zu_ne hi]
    have v : ∀ j, j ≠ ca p n + 7 → j ≠ ca p n + 2 → j ≠ ca p n + 1 → j ≠ ca p n → s11 (m + 1) j = f j := fun j a b c d => by rw [q11, zu_j a, q10, zu_j b, q9, zu_j c, q8, zu_j d, er]
    have hin : isWd (s11 (m + 4)) 0 inp := by
      have : s11 (m + 4) = σ (m + 4) := by rw [ne _ (by omega), e _ (by omega) (by omega), zu_ne (by omega)]
      rw [this]
      exact ⟨l1, h.2.1.2⟩
    have := m_addCell_126 (P := P) (σ := s11) (c := n) (p := p) (at' := ca p n) (o := oldC kd pr) h.1 hin l3 l2 o1 o3 (by omega) (by omega) (by omega) (fun τ' υ a1 a2 a3 a4 a5 => by
      have eg : ∀ j, j ≠ pa p → υ (m + 1) j = τ' (m + 1) j := fun j hj => by rw [a5, zu_ne (by omega), zu_j hj]
      have g0 : υ (m + 1) (pa p) = f (pa p) + 1 := by
        rw [a5, zu_ne (by omega), zu_eq, a4 _ (by omega), v _ (by omega) (by omega) (by omega) (by omega)]
      have u : uCell f p kd pr inp (υ (m + 1)) := by
        refine ⟨g0, ⟨?_, ?_⟩, ?_, ?_, fun i hi hi2 => ?_⟩
        · rw [hnn, eg _ (by omega), a4 _ (by omega), q11, zu_j (by omega), q10, zu_j (by omega), q9, zu_j (by omega), q8, zu_eq]
        · rw [hnn, eg _ (by omega), a4 _ (by omega), q11, zu_j (by omega), q10, zu_j (by omega), q9, zu_eq]
        · rw [hnn]
          exact isWd_on (n := 4) a2 (by rw [List.length_take]; omega) (fun i b1 b2 => eg i (by omega))
        · rw [hnn]
          exact isWd_on (n := 4) a3 (by rw [List.length_drop]; omega) (fun i b1 b2 => eg i (by omega))
        · rw [hnn] at hi2
          rw [eg i hi, a4 _ (by omega), v _ (by omega) (by omega) (by omega) (by omega)]
      have r := MI.chgI h e em e8 hh (fun i b1 b2 => by rw [a5, zu_ne b2, zu_ne b1, a1 i b1, ne i b1]) (by rw [a5, zu_eq]) rfl u (upd1_wf h.wf q.2 (fun i hi => u.2.2.2.2 i (by omega) (by rw [hnn]; omega)) (u.wp wp (by omega) gd l3)) (h4 q gd (by omega))
      rw [hn] at r
      exact r) (inp.length + 1) 0 s11 (by omega) (by omega) (fun _ _ => rfl) (by rw [List.take_zero, List.take_nil]; exact isWd_0 (by rw [q11, zu_j (by omega), q10, zu_eq])) (by rw [List.take_zero, List.drop_nil]; exact isWd_0 (by rw [q11, zu_eq])) (fun _ _ => rfl)
    exact_mod_cast this
  refine ⟨hk, fun a => ?_, fun a => ?_⟩
  · have := tail 0 (by unfold oldC; rw [if_neg a])
    exact_mod_cast this
  · have := tail pr.toNat (by unfold oldC; rw [if_pos a])
    rw [Int.toNat_of_nonneg (by unfold goodC at gd; omega)] at this
    exact this
end
