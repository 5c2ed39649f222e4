/-! PURE: addCell -/
def goodC (inp : List Int) (kd pr : Int) : Prop := (kd = 1 ∧ 0 ≤ pr ∧ pr ≤ (inp.length : Int) ∧ pr ≤ 4 ∧ (inp.length : Int) - pr ≤ 4) ∨ ((kd = 0 ∨ kd = 2) ∧ pr = 0 ∧ inp.length ≤ 4) ∨ (kd = 3 ∧ 0 ≤ pr ∧ pr ≤ 4 ∧ inp.length ≤ 4)
def oldC (kd pr : Int) : Nat := if kd = 1 then pr.toNat else 0
def uCell (f : Nat → Int) (p : Nat) (kd pr : Int) (inp : List Int) (g : Nat → Int) : Prop := g (pa p) = f (pa p) + 1 ∧ (g (ca p (f (pa p)).toNat) = kd ∧ g (ca p (f (pa p)).toNat + 1) = pr) ∧ isWd g (ca p (f (pa p)).toNat + 2) (inp.take (oldC kd pr)) ∧ isWd g (ca p (f (pa p)).toNat + 7) (inp.drop (oldC kd pr)) ∧ ∀ i, i ≠ pa p → ¬ (ca p (f (pa p)).toNat ≤ i ∧ i < ca p (f (pa p)).toNat + 12) → g i = f i
theorem goodC.old {inp : List Int} {kd pr : Int} (h : goodC inp kd pr) : oldC kd pr ≤ 4 ∧ oldC kd pr ≤ inp.length ∧ inp.length - oldC kd pr ≤ 4 ∧ 0 ≤ kd ∧ kd ≤ 3 ∧ (kd = 3 → 0 ≤ pr ∧ pr ≤ 4) ∧ -100 ≤ pr ∧ pr ≤ 100 := by
  unfold oldC
  rcases h with ⟨a, b, c, d, e⟩ | ⟨a, b, c⟩ | ⟨a, b, c, d⟩
  · rw [if_pos a]; omega
  · rw [if_neg (by omega)]; omega
  · rw [if_neg (by omega)]; omega
theorem ab_drop {l : List Int} (h : ab l) (n : Nat) : ab (l.drop n) := fun x hx => h x (List.mem_of_mem_drop hx)
section
variable {σ τ : Sto} {k m : Nat} {f g : Nat → Int} {sv : Option (Nat → Int)} {hs : List (Nat → Int)} {inp inp' : List Int} {P : Int → Sto → Prop} {X : Nat → Sto → Prop} {Q : Sto → Prop} {x y w kd pr : Int}
theorem ca_lt {p c d : Nat} (h : c < d) : ca p c + 12 ≤ ca p d := by unfold ca; omega
theorem uCell.wp {p : Nat} (hw : wfP f p) (h6 : f (pa p) < 6) (hg : goodC inp kd pr) (ha : ab inp) (u : uCell f p kd pr inp g) : wfP g p := by
  obtain ⟨u1, ⟨u2, u3⟩, u4, u5, u6⟩ := u
  obtain ⟨a1, a2, a3, a4, a5⟩ := hw
  obtain ⟨o1, o2, o3, o4, o5, o6, o7, o8⟩ := hg.old
  have ci := ca_in (p := p) (c := (f (pa p)).toNat) (by omega)
  have e1 := u6 (pa p + 1) (by omega) (by omega)
  have e2 := u6 (pa p + 2) (by omega) (by omega)
  refine ⟨by omega, by omega, by rw [e1, e2]; exact a3, fun z => (wd.on (n := 4) (fun i a b => (u6 i (by omega) (by omega)).symm) (a4 (by rw [← e1]; exact z))).1, fun c hc => ?_⟩
  by_cases q : c = (f (pa p)).toNat
  · subst q
    refine ⟨by rw [u2]; exact ⟨o4, o5⟩, by rw [u2, u3]; exact o6, u4.wd (by simp) ?_ (ab_take ha _), u5.wd (by simp) ?_ (ab_drop ha _), by rw [u3]; exact zR_s (by omega) (by omega)⟩
    · rw [List.length_take]; omega
    · rw [List.length_drop]; omega
  · have ci2 := ca_in (p := p) (c := c) (by omega)
    have cl := ca_lt (p := p) (c := c) (d := (f (pa p)).toNat) (by omega)
    exact (a5 c (by omega)).on (fun i a b => (u6 i (by omega) (by omega)).symm)
theorem uCell.rp {b p : Nat} (hb : zk b = 2) (hw : wfP f p) (h6 : f (pa p) < 6) (u : uCell f p kd pr inp g) (hr : repP σ b f p) (hp : p < 6)
    (e1 : τ (b + 1) p = σ (b + 1) p + 1) (e2 : τ (b + 2) = σ (b + 2)) (e3 : τ (b + 3) = σ (b + 3)) (e5 : τ (b + 4 + 1) = σ (b + 4 + 1)) (e6 : τ (b + 4 + 2) = σ (b + 4 + 2))
    (e7 : τ (b + 7) (6 * p + (f (pa p)).toNat) = kd ∧ ∀ j, j ≠ 6 * p + (f (pa p)).toNat → τ (b + 7) j = σ (b + 7) j) (e8 : τ (b + 8) (6 * p + (f (pa p)).toNat) = pr ∧ ∀ j, j ≠ 6 * p + (f (pa p)).toNat → τ (b + 8) j = σ (b + 8) j)
    (e9 : τ (b + 9 + 1) (6 * p + (f (pa p)).toNat) = ((inp.take (oldC kd pr)).length : Int) ∧ tl τ (b + 9) (6 * p + (f (pa p)).toNat) = inp.take (oldC kd pr) ∧ ∀ j, j ≠ 6 * p + (f (pa p)).toNat → tkeep σ τ (b + 9) j)
    (e12 : τ (b + 12 + 1) (6 * p + (f (pa p)).toNat) = ((inp.drop (oldC kd pr)).length : Int) ∧ tl τ (b + 12) (6 * p + (f (pa p)).toNat) = inp.drop (oldC kd pr) ∧ ∀ j, j ≠ 6 * p + (f (pa p)).toNat → tkeep σ τ (b + 12) j) : repP τ b g p := by
  obtain ⟨u1, ⟨u2, u3⟩, u4, u5, u6⟩ := u
  obtain ⟨a1, a2, a3, a4, a5⟩ := hw
  obtain ⟨q1, q2, q3, q4, q5⟩ := hr
  have s := st_w hb
  have ci := ca_in (p := p) (c := (f (pa p)).toNat) (by omega)
  have f1 := u6 (pa p + 1) (by omega) (by omega)
  have f2 := u6 (pa p + 2) (by omega) (by omega)
  refine ⟨by rw [e1, u1, q1], by rw [f1, e2]; exact q2, by rw [f2, e3]; exact q3, fun z => ?_, fun c hc => ?_⟩
  · rw [f1] at z
    exact tw1.on (n := 4) (fun i a b => (u6 i (by omega) (by omega)).symm) (a4 z) ((q4 z).fr e5 e6)
  · by_cases q : c = (f (pa p)).toNat
    · subst q
      exact ⟨by rw [e7.1, u2], by rw [e8.1, u3], tw1_of e9.1 e9.2.1 u4, tw1_of e12.1 e12.2.1 u5⟩
    · have ci2 := ca_in (p := p) (c := c) (by omega)
      have cl := ca_lt (p := p) (c := c) (d := (f (pa p)).toNat) (by omega)
      have t := q5 c (by omega)
      have wc := a5 c (by omega)
      have t2 : repC τ b f p c := ⟨by rw [e7.2 _ (by omega)]; exact t.1, by rw [e8.2 _ (by omega)]; exact t.2.1, e9.2.2 _ (by omega) _ _ (by rw [s.2.2.1]; have := wc.2.2.1.2.1; omega) t.2.2.1, e12.2.2 _ (by omega) _ _ (by rw [s.2.2.2.1]; have := wc.2.2.2.1.2.1; omega) t.2.2.2⟩
      exact t2.on (fun i a b => (u6 i (by omega) (by omega)).symm) wc
theorem x_addCell_34 {p : Nat} (h : XI σ k f sv hs inp) (hp : (p : Int) < f 0) (hg : goodC inp kd pr) (h2 : ¬ f (pa p) < 6 → xU σ k (eqF f) sv hs inp (X 2)) (h3 : f (pa p) < 6 → xU σ k (uCell f p kd pr inp) sv (pushH hs f) [] (P (f (pa p)))) : vX6_addCell_34 k P X (p : Int) kd pr ((oldC kd pr : Nat) : Int) σ := by
  obtain ⟨p6, rp, wp⟩ := h.par hp
  obtain ⟨l1, l2, l3⟩ := x_len h
  obtain ⟨o1, o2, o3, o4, o5, o6, o7, o8⟩ := hg.old
  have n := xn h.1
  have w1 := wp.1
  have hb := zf_5_state h.1
  have sw := st_w hb
  unfold vX6_addCell_34
  rw [l1, Int.toNat_natCast, rp.1]
  refine ⟨zR_s (by omega) (by omega), fun z => by omega, fun z => ⟨zR_s (by omega) (by omega), fun z2 => ⟨by omega, by omega, zR_s (by omega) (by omega), fun z3 => ?_, fun z3 => xU.same h (h2 z3)⟩, fun z2 => by omega⟩⟩
  refine x_push h (fun τ e hst hh => ?_)
  have e4 : τ (k + 3 + 1) = σ (k + 3 + 1) := e _ (by omega) (by omega)
  unfold vX3_newCell vX6_cellSlot
  try dsimp only
  simp only [Int.toNat_natCast]
  rw [e4, rp.1]
  obtain ⟨c, hc⟩ : ∃ c : Nat, f (pa p) = (c : Int) := ⟨(f (pa p)).toNat, by omega⟩
  have hcn : (f (pa p)).toNat = c := by omega
  rw [hc]
  have es : (p : Int) * 6 + (c : Int) = ((6 * p + c : Nat) : Int) := by omega
  rw [es, Int.toNat_natCast]
  refine ⟨by omega, by omega, by omega, by omega, fun s2 q2 => ⟨by omega, by omega, fun s4 q4 => ⟨by omega, by omega, by omega, by omega, fun s5 q5 => ?_⟩⟩⟩
  have ne5 : ∀ i, i ≠ k + 3 + 7 → i ≠ k + 3 + 8 → i ≠ k + 3 + 1 → s5 i = τ i := fun i a b d => by rw [q5, zu_ne d, q4, zu_ne b, q2, zu_ne a]
  have in5 : wok s5 (k + 1) 14 ∧ wl s5 (k + 1) = inp := by
    obtain ⟨a, b⟩ := h.2.1.1.fr (τ := s5) (by rw [ne5 _ (by omega) (by omega) (by omega), e _ (by omega) (by omega)]) (by rw [ne5 _ (by omega) (by omega) (by omega), e _ (by omega) (by omega)])
    exact ⟨a, by rw [b]; exact h.2.1.2⟩
  have len5 : s5 (k + 1) 1 = (inp.length : Int) := by rw [← wl_len in5.1, in5.2]
  have := s_put (t := k + 3 + 9) (j := 6 * p + c) (w := k + 1) (fm := 0) (to := oldC kd pr) (σ := s5) (P := fun s7 => vX5_put (k + 3 + 12) (((6 * p + c : Nat) : Int)) (k + 1) ((oldC kd pr : Nat) : Int) (s7 (k + 1) 1) (fun s8 => vX4_clear (k + 1) (fun s9 => P (c : Int) s9) s8) s7) sw.1.2.1 (by rw [n.2.2.2.2.2.1]; omega) in5.1 (by omega) (by rw [len5]; omega) (by rw [sw.2.2.1]; omega) ⟨by omega, by omega, by omega, by omega⟩ (fun s7 h7 => by
    rw [in5.2, List.drop_zero, Nat.sub_zero] at h7
    have in7 : wok s7 (k + 1) 14 ∧ wl s7 (k + 1) = inp := by
      obtain ⟨a, b⟩ := in5.1.fr (τ := s7) (h7.1 _ (by simp <;> omega)) (h7.1 _ (by simp <;> omega))
      exact ⟨a, by rw [b]; exact in5.2⟩
    have len7 : s7 (k + 1) 1 = (inp.length : Int) := by rw [← wl_len in7.1, in7.2]
    rw [len7]
    refine s_put (fm := oldC kd pr) (to := inp.length) sw.1.2.2.1 (by rw [n.2.2.2.2.2.2.1]; omega) in7.1 (by omega) (by rw [len7]; omega) (by rw [sw.2.2.2.1]; omega) ⟨by omega, by omega, by omega, by omega⟩ (fun s8 h8 => s_clear (fun s9 h9 => ?_))
    rw [in7.2, List.take_of_length_le (by rw [List.length_drop]; omega)] at h8
    have ee : ∀ i, (i < k + 47 ∨ k + 268 < i) → i ≠ k + 269 → i ≠ k + 1 → i ≠ k + 1 + 1 → i ≠ k + 3 + 1 → i ≠ k + 3 + 7 → i ≠ k + 3 + 8 → i ≠ k + 3 + 9 + 1 → i ≠ k + 3 + 9 + 2 → i ≠ k + 3 + 12 + 1 → i ≠ k + 3 + 12 + 2 → s9 i = σ i := fun i a1 a2 a3 a4 a5 a6 a7 a8 a9 a10 a11 => by
      rw [h9.1 i (by simp <;> omega), h8.1 i (by simp <;> omega), h7.1 i (by simp <;> omega), ne5 i a6 a7 a5, e i a1 a2]
    have e9x : ∀ i, i ≠ k + 1 → i ≠ k + 1 + 1 → s9 i = s8 i := fun i a b => h9.1 i (by simp <;> omega)
    have e8x : ∀ i, i ≠ k + 3 + 12 + 1 → i ≠ k + 3 + 12 + 2 → s8 i = s7 i := fun i a b => h8.1 i (by simp <;> omega)
    have e7x : ∀ i, i ≠ k + 3 + 9 + 1 → i ≠ k + 3 + 9 + 2 → s7 i = s5 i := fun i a b => h7.1 i (by simp <;> omega)
    have v1 : ∀ j, s9 (k + 3 + 1) j = if j = p then f (pa p) + 1 else σ (k + 3 + 1) j := fun j => by
      rw [e9x _ (by omega) (by omega), e8x _ (by omega) (by omega), e7x _ (by omega) (by omega), q5]
      by_cases a : j = p
      · subst a
        rw [zu_eq, if_pos rfl, q4, zu_ne (by omega), q2, zu_ne (by omega), e4, rp.1]
      · rw [zu_j a, if_neg a, q4, zu_ne (by omega), q2, zu_ne (by omega), e4]
    have v7 : ∀ j, s9 (k + 3 + 7) j = if j = 6 * p + c then kd else σ (k + 3 + 7) j := fun j => by
      rw [e9x _ (by omega) (by omega), e8x _ (by omega) (by omega), e7x _ (by omega) (by omega), q5, zu_ne (by omega), q4, zu_ne (by omega), q2]
      by_cases a : j = 6 * p + c
      · subst a
        rw [zu_eq, if_pos rfl]
      · rw [zu_j a, if_neg a, e _ (by omega) (by omega)]
    have v8 : ∀ j, s9 (k + 3 + 8) j = if j = 6 * p + c then pr else σ (k + 3 + 8) j := fun j => by
      rw [e9x _ (by omega) (by omega), e8x _ (by omega) (by omega), e7x _ (by omega) (by omega), q5, zu_ne (by omega), q4]
      by_cases a : j = 6 * p + c
      · subst a
        rw [zu_eq, if_pos rfl]
      · rw [zu_j a, if_neg a, q2, zu_ne (by omega), e _ (by omega) (by omega)]
    have s59 : ∀ j, tkeep σ s5 (k + 3 + 9) j := fun j => tkeep_fr (by rw [ne5 _ (by omega) (by omega) (by omega), e _ (by omega) (by omega)]) (by rw [ne5 _ (by omega) (by omega) (by omega), e _ (by omega) (by omega)])
    have s79 : ∀ j, tkeep s7 s9 (k + 3 + 9) j := fun j => tkeep_fr (by rw [e9x _ (by omega) (by omega), e8x _ (by omega) (by omega)]) (by rw [e9x _ (by omega) (by omega), e8x _ (by omega) (by omega)])
    have s7c : ∀ j, tkeep σ s7 (k + 3 + 12) j := fun j => tkeep_fr (by rw [e7x _ (by omega) (by omega), ne5 _ (by omega) (by omega) (by omega), e _ (by omega) (by omega)]) (by rw [e7x _ (by omega) (by omega), ne5 _ (by omega) (by omega) (by omega), e _ (by omega) (by omega)])
    have s8c : ∀ j, tkeep s8 s9 (k + 3 + 12) j := fun j => tkeep_fr (e9x _ (by omega) (by omega)) (e9x _ (by omega) (by omega))
    have t9 : ∀ j, j ≠ 6 * p + c → tkeep σ s9 (k + 3 + 9) j := fun j hj => ((s59 j).trans (tkeep_sett h7 hj)).trans (s79 j)
    have t12 : ∀ j, j ≠ 6 * p + c → tkeep σ s9 (k + 3 + 12) j := fun j hj => ((s7c j).trans (tkeep_sett h8 hj)).trans (s8c j)
    have r := h3 z3 s9 (fun g u => h.new (fun i hi => ee i (by omega) (by omega) (by omega) (by omega) (by omega) (by omega) (by omega) (by omega) (by omega) (by omega) (by omega)) ⟨h9.ok h.2.1.1.1 (by simp) (by decide) ab_nil, h9.2.1⟩ (upd1_rep hb h.wf h.st hp (fun i hi => u.2.2.2.2 i (by omega) (by have := ca_in (p := p) (c := (f (pa p)).toNat) (by omega); omega)) (u.rp hb wp z3 rp p6 (by rw [v1, if_pos rfl, rp.1]) (ee _ (by omega) (by omega) (by omega) (by omega) (by omega) (by omega) (by omega) (by omega) (by omega) (by omega) (by omega)) (ee _ (by omega) (by omega) (by omega) (by omega) (by omega) (by omega) (by omega) (by omega) (by omega) (by omega) (by omega)) (ee _ (by omega) (by omega) (by omega) (by omega) (by omega) (by omega) (by omega) (by omega) (by omega) (by omega) (by omega)) (ee _ (by omega) (by omega) (by omega) (by omega) (by omega) (by omega) (by omega) (by omega) (by omega) (by omega) (by omega)) (by rw [hcn]; exact ⟨by rw [v7, if_pos rfl], fun j hj => by rw [v7, if_neg hj]⟩) (by rw [hcn]; exact ⟨by rw [v8, if_pos rfl], fun j hj => by rw [v8, if_neg hj]⟩) (by
        rw [hcn]
        refine ⟨by rw [e9x _ (by omega) (by omega), e8x _ (by omega) (by omega)]; exact h7.2.1, ?_, t9⟩
        unfold tl
        rw [e9x _ (by omega) (by omega), e8x _ (by omega) (by omega), e9x _ (by omega) (by omega), e8x _ (by omega) (by omega)]
        exact h7.2.2.1) (by
        rw [hcn]
        refine ⟨by rw [e9x _ (by omega) (by omega)]; exact h8.2.1, ?_, t12⟩
        unfold tl
        rw [e9x _ (by omega) (by omega), e9x _ (by omega) (by omega)]
        exact h8.2.2.1)) (ee _ (by omega) (by omega) (by omega) (by omega) (by omega) (by omega) (by omega) (by omega) (by omega) (by omega) (by omega)) (fun i g1 g2 => ee i (by omega) (by omega) (by omega) (by omega) (by omega) (by omega) (by omega) (by omega) (by omega) (by omega) (by omega)) (fun j hj hne => ⟨⟨by rw [v1, if_neg hne], by rw [ee _ (by omega) (by omega) (by omega) (by omega) (by omega) (by omega) (by omega) (by omega) (by omega) (by omega) (by omega)], by rw [ee _ (by omega) (by omega) (by omega) (by omega) (by omega) (by omega) (by omega) (by omega) (by omega) (by omega) (by omega)]⟩, tkeep_fr (ee _ (by omega) (by omega) (by omega) (by omega) (by omega) (by omega) (by omega) (by omega) (by omega) (by omega) (by omega)) (ee _ (by omega) (by omega) (by omega) (by omega) (by omega) (by omega) (by omega) (by omega) (by omega) (by omega) (by omega)), fun d hd => ⟨by rw [v7, if_neg (by omega)], by rw [v8, if_neg (by omega)], t9 _ (by omega), t12 _ (by omega)⟩⟩)) (upd1_wf h.wf hp (fun i hi => u.2.2.2.2 i (by omega) (by have := ca_in (p := p) (c := (f (pa p)).toNat) (by omega); omega)) (u.wp wp z3 hg l3)) (hh.fr (fun i g1 g2 => by rw [e9x _ (by omega) (by omega), e8x _ (by omega) (by omega), e7x _ (by omega) (by omega), ne5 i (by omega) (by omega) (by omega)])) (by rw [e9x _ (by omega) (by omega), e8x _ (by omega) (by omega), e7x _ (by omega) (by omega), ne5 _ (by omega) (by omega) (by omega)]; exact hst)) (fun i hi => ee i (by omega) (by omega) (by omega) (by omega) (by omega) (by omega) (by omega) (by omega) (by omega) (by omega) (by omega))
    rw [hc] at r
    exact r)
  exact_mod_cast this
theorem x_addCell (h : XI σ k f sv hs inp) (hx : zR x) (hk : zR kd) (hq : zR pr) (h1 : ¬ isP f x → xU σ k (eqF f) sv hs inp (X 0)) (h2 : isP f x → ¬ goodC inp kd pr → xU σ k (eqF f) sv hs inp (X 1)) (h3 : isP f x → goodC inp kd pr → ¬ f (pa x.toNat) < 6 → xU σ k (eqF f) sv hs inp (X 2)) (h4 : isP f x → goodC inp kd pr → f (pa x.toNat) < 6 → xU σ k (uCell f x.toNat kd pr inp) sv (pushH hs f) [] (P (f (pa x.toNat)))) : vX6_addCell k x kd pr P X σ := by
  refine x_checkParadigm h hx (fun q => xU.same h (h1 q)) (fun q => ?_)
  obtain ⟨p, rfl⟩ := isP_toNat q
  obtain ⟨l1, l2, l3⟩ := x_len h
  simp only [Int.toNat_natCast] at *
  -- the lengths decide
  have bad : ¬ goodC inp kd pr → X 1 σ := fun b => xU.same h (h2 q b)
  have go : ∀ y : Nat, y = oldC kd pr → ((kd = 1 ∧ 0 ≤ pr ∧ pr ≤ (inp.length : Int)) ∨ ((kd = 0 ∨ kd = 2) ∧ pr = 0) ∨ (kd = 3 ∧ 0 ≤ pr ∧ pr ≤ 4)) → vX6_addCell_34 k P X (p : Int) kd pr (y : Int) σ := fun y ey hc => by
    subst ey
    by_cases g : goodC inp kd pr
    · exact x_addCell_34 h q.2 g (h3 q g) (h4 q g)
    · unfold vX6_addCell_34
      rw [l1]
      have : oldC kd pr ≤ 14 := by unfold oldC; split <;> omega
      refine ⟨zR_s (by omega) (by omega), fun z => bad g, fun z => ⟨zR_s (by omega) (by omega), fun z2 => absurd ?_ g, fun z2 => bad g⟩⟩
      unfold goodC
      unfold oldC at z z2
      by_cases c1 : kd = 1
      · rw [if_pos c1] at z z2; omega
      · rw [if_neg c1] at z z2; omega
  have one : ∀ (c : (kd = 1 ∧ 0 ≤ pr ∧ pr ≤ (inp.length : Int)) ∨ ((kd = 0 ∨ kd = 2) ∧ pr = 0) ∨ (kd = 3 ∧ 0 ≤ pr ∧ pr ≤ 4)), zR 1 ∧ ((¬ (1 : Int) = 0) → zR kd ∧ ((¬ kd = 1) → vX6_addCell_34 k P X (p : Int) kd pr 0 σ) ∧ ((kd = 1) → vX6_addCell_34 k P X (p : Int) kd pr pr σ)) ∧ (((1 : Int) = 0) → X 1 σ) := fun c =>
    ⟨zRl rfl, fun _ => ⟨hk, fun z => by have := go 0 (by unfold oldC; rw [if_neg z]) c; exact_mod_cast this, fun z => by have := go pr.toNat (by unfold oldC; rw [if_pos z]) c; rw [Int.toNat_of_nonneg (by omega)] at this; exact this⟩, fun z => absurd z (by decide)⟩
  have zero : ¬ goodC inp kd pr → zR 0 ∧ ((¬ (0 : Int) = 0) → zR kd ∧ ((¬ kd = 1) → vX6_addCell_34 k P X (p : Int) kd pr 0 σ) ∧ ((kd = 1) → vX6_addCell_34 k P X (p : Int) kd pr pr σ)) ∧ (((0 : Int) = 0) → X 1 σ) := fun b => ⟨zR_0, fun z => absurd rfl z, fun _ => bad b⟩
  unfold vX6_isCellParameter vX6_isCellParameter_61 vX6_isCellParameter_62 vX6_isCellParameter_76 vX6_isCellParameter_77 vX6_isCellParameter_41
  rw [l1]
  refine ⟨hk, fun z => ⟨hq, fun z2 => ⟨Or.inl rfl, zero (by unfold goodC; omega)⟩, fun z2 => ⟨Or.inr rfl, one (by omega)⟩⟩, fun z => ⟨hq, fun z2 => ⟨Or.inl rfl, zero (by unfold goodC; omega)⟩, fun z2 => ⟨hq, zR_s (by omega) (by omega), fun z3 => ⟨Or.inl rfl, zero (by unfold goodC; omega)⟩, fun z3 => ⟨Or.inr rfl, one (by omega)⟩⟩⟩, fun z => ⟨hq, fun z2 => ⟨Or.inl rfl, zero (by unfold goodC; omega)⟩, fun z2 => ⟨Or.inr rfl, one (by omega)⟩⟩, fun z => ⟨hq, fun z2 => ⟨Or.inl rfl, zero (by unfold goodC; omega)⟩, fun z2 => ⟨hq, fun z3 => ⟨Or.inl rfl, zero (by unfold goodC; omega)⟩, fun z3 => ⟨Or.inr rfl, one (by omega)⟩⟩⟩, fun z => zero (by unfold goodC; omega)⟩
end
