/-! PURE: cells of paradigms, conditions -/
theorem tok.fr {σ τ : Sto} {t j : Nat} (h : tok σ t j) (e1 : τ (t + 1) = σ (t + 1)) (e2 : τ (t + 2) = σ (t + 2)) : tok τ t j ∧ tl τ t j = tl σ t j := by
  have e : tl τ t j = tl σ t j := by unfold tl; rw [e1, e2]
  obtain ⟨h1, h2, h3, h4, h5⟩ := h
  exact ⟨⟨h1, h2, by rw [e1]; exact h3, by rw [e1]; exact h4, by rw [e]; exact h5⟩, e⟩
theorem wok.fr {σ τ : Sto} {k n : Nat} (h : wok σ k n) (e1 : τ k = σ k) (e2 : τ (k + 1) = σ (k + 1)) : wok τ k n ∧ wl τ k = wl σ k := by
  have e : wl τ k = wl σ k := by unfold wl; rw [e1, e2]
  obtain ⟨h1, h2, h3, h4, h5⟩ := h
  exact ⟨⟨h1, by rw [e1]; exact h2, by rw [e1]; exact h3, h4, by rw [e]; exact h5⟩, e⟩
theorem ab_app {l l' : List Int} (h : ab l) (h' : ab l') : ab (l ++ l') := fun x hx => (List.mem_append.mp hx).elim (h x) (h' x)
theorem ab_take {l : List Int} (h : ab l) (n : Nat) : ab (l.take n) := fun x hx => h x (List.mem_of_mem_take hx)
theorem ab_nil : ab [] := fun _ h => nomatch h
/-- what a cell builds from a stem -/
def bld (kind prm : Int) (old new st : List Int) : Option (List Int) :=
  if kind = 1 then (if old <:+ st then some (st.take (st.length - old.length) ++ new) else none)
  else if kind = 2 then some (st ++ st.getLast?.toList ++ new)
  else if kind = 3 then (if lvow st < 0 then none else some (st.set (lvow st).toNat (zvo prm.toNat) ++ new))
  else some (st ++ new)
theorem zvo_ab {j : Nat} (h : j < 5) : 97 ≤ zvo j ∧ zvo j ≤ 122 := (show ∀ j, j < 5 → 97 ≤ zvo j ∧ zvo j ≤ 122 by decide) j h
theorem setw.fr2 {σ τ υ : Sto} {k : Nat} {l l' : List Int} (h : setw σ τ k l) (h2 : setw τ υ k l') : setw σ υ k l' := ⟨h.1.trans h2.1, h2.2⟩
theorem wl_setw_len {σ τ : Sto} {k : Nat} {l : List Int} (h : setw σ τ k l) : τ k 1 = (l.length : Int) := h.2.2
/-- one letter of a word is replaced -/
theorem setw_set {σ τ : Sto} {k i : Nat} {x : Int} {l : List Int} (h : setw σ τ k l) (hi : i < l.length) : setw σ (zu τ (k + 1) i x) k (l.set i x) := by
  refine ⟨h.1.trans (fr_zu (by simp)), ?_, ?_⟩
  · rw [← h.2.1]
    unfold wl
    rw [zu_ne (by omega : k ≠ k + 1), h.2.2, Int.toNat_natCast]
    apply List.ext_getElem?
    intro j
    rcases Nat.lt_or_ge j l.length with q | q
    · rw [seg_get q, Nat.zero_add]
      by_cases e : j = i
      · subst e
        rw [zu_eq, List.getElem?_set_self (by rw [seg_len]; exact q)]
      · rw [zu_j e, List.getElem?_set_ne (Ne.symm e), seg_get q, Nat.zero_add]
    · rw [List.getElem?_eq_none (by rw [seg_len]; exact q), List.getElem?_eq_none (by rw [List.length_set, seg_len]; exact q)]
  · rw [zu_ne (by omega : k ≠ k + 1), h.2.2, List.length_set]
theorem last_mem {l : List Int} {x : Int} (h : x ∈ l.getLast?.toList) : x ∈ l := by
  cases hl : l.getLast? with
  | none => rw [hl] at h; simp at h
  | some y =>
    rw [hl] at h
    simp at h
    subst h
    exact List.mem_of_getLast? hl
theorem last_len (l : List Int) : l.getLast?.toList.length ≤ 1 := by cases l.getLast? <;> simp
theorem ab_set {l : List Int} {i : Nat} {x : Int} (h : ab l) (hx : 97 ≤ x ∧ x ≤ 122) : ab (l.set i x) := fun y hy => by
  rcases List.mem_or_eq_of_mem_set hy with q | q
  · exact h y q
  · rw [q]; exact hx
theorem s_build {b slot st fm : Nat} {P : Int → Sto → Prop} {σ : Sto} (hb : zk b = 2) (ho : tok σ (b + 9) slot) (hn : tok σ (b + 12) slot) (hsl : slot < 36)
    (hk : 0 ≤ σ (b + 7) slot ∧ σ (b + 7) slot ≤ 3) (hp : σ (b + 7) slot = 3 → 0 ≤ σ (b + 8) slot ∧ σ (b + 8) slot < 5) (hst : wok σ st 10) (hfm : zk fm = 3) (hd1 : st + 1 < fm) (hd2 : b + 21 < fm)
    (h0 : bld (σ (b + 7) slot) (σ (b + 8) slot) (tl σ (b + 9) slot) (tl σ (b + 12) slot) (wl σ st) = none → ∀ τ, fr [fm, fm + 1] σ τ → P 0 τ)
    (h1 : ∀ l τ, bld (σ (b + 7) slot) (σ (b + 8) slot) (tl σ (b + 9) slot) (tl σ (b + 12) slot) (wl σ st) = some l → setw σ τ fm l → wok τ fm 15 → P 1 τ) : vX3_build b (slot : Int) st fm P σ := by
  have n7 : zn (b + 7) = 36 ∧ zn (b + 8) = 36 ∧ zn (b + 9 + 1) = 36 := zk_all (P := fun b => zk b = 2 → zn (b + 7) = 36 ∧ zn (b + 8) = 36 ∧ zn (b + 9 + 1) = 36) (by decide +kernel) hb (by decide) hb
  have w9 : zw (b + 9) = 4 ∧ zw (b + 12) = 4 := zk_all (P := fun b => zk b = 2 → zw (b + 9) = 4 ∧ zw (b + 12) = 4) (by decide +kernel) hb (by decide) hb
  have hlst := wl_len hst
  have hlo := tl_len ho
  have hln := tl_len hn
  -- the suffix behind a word in fm
  have key : ∀ (l : List Int) (τ : Sto), setw σ τ fm l → l.length ≤ 11 → ab l → bld (σ (b + 7) slot) (σ (b + 8) slot) (tl σ (b + 9) slot) (tl σ (b + 12) slot) (wl σ st) = some (l ++ tl σ (b + 12) slot) → vX3_build_124 b st fm P (slot : Int) τ := by
    intro l τ hτ hl hal hbl
    have hf := hτ.1
    obtain ⟨hn', en⟩ := hn.fr (τ := τ) (hf _ (by simp; omega)) (hf _ (by simp; omega))
    have hw' : wok τ fm 11 := hτ.ok hfm hl (by omega) hal
    have hwd := hn'.2.2.2.1
    rw [w9.2] at hwd
    refine s_addTo hn' hw' (by rw [hτ.2.2]; omega) ⟨by omega, by omega⟩ (fun υ hυ => ?_)
    rw [hτ.2.1, en] at hυ
    have hall := hτ.fr2 hυ
    refine h1 _ υ hbl hall (hall.ok hfm ?_ (by omega) (ab_app hal hn.2.2.2.2))
    have hwd2 := hn.2.2.2.1
    rw [w9.2] at hwd2
    rw [List.length_append]
    omega
  unfold vX3_build
  refine s_become hfm hst (by omega) (by omega) (by omega) (fun τ hτ => ?_)
  have hf := hτ.1
  have e7 : τ (b + 7) = σ (b + 7) := hf _ (by simp; omega)
  have e8 : τ (b + 8) = σ (b + 8) := hf _ (by simp; omega)
  have est : τ st = σ st := hf _ (by simp; omega)
  have est1 : τ (st + 1) = σ (st + 1) := hf _ (by simp; omega)
  obtain ⟨ho', eo⟩ := ho.fr (τ := τ) (hf _ (by simp; omega)) (hf _ (by simp; omega))
  obtain ⟨hst', estl⟩ := hst.fr (τ := τ) est est1
  simp only [Int.toNat_natCast, e7, est, est1]
  refine ⟨by omega, by rw [n7.1]; omega, zR_s (by omega) (by omega), fun z => ?_, fun z => ?_, fun z => ?_, fun z => ?_⟩
  · refine s_isEndOf ho' hst' ?_
    rw [eo, estl]
    refine ⟨b2i_R _, fun z2 => ⟨by omega, by rw [n7.2.2]; omega, ?_⟩, fun z2 => ?_⟩
    · have hs : tl σ (b + 9) slot <:+ wl σ st := by
        by_cases q : tl σ (b + 9) slot <:+ wl σ st
        · exact q
        · exact absurd (by rw [decide_eq_false q]; rfl) z2
      have h9 : τ (b + 9 + 1) = σ (b + 9 + 1) := hf _ (by simp; omega)
      have hwo := ho.2.2.2.1
      have ho0 := ho.2.2.1
      rw [w9.1] at hwo
      have hwf : wok τ fm 10 := hτ.ok hfm (by have := hst.2.2.1; omega) (by omega) hst.2.2.2.2
      rw [h9]
      refine s_dropLast hwf ho0 (by omega) (fun υ hυ => ?_)
      rw [hτ.2.1, show (σ (b + 9 + 1) slot).toNat = (tl σ (b + 9) slot).length by omega] at hυ
      refine key _ υ (hτ.fr2 hυ) ?_ (ab_take hst.2.2.2.2 _) (by rw [bld, if_pos z, if_pos hs])
      rw [List.length_take]
      have := hst.2.2.1
      omega
    · have hs : ¬ tl σ (b + 9) slot <:+ wl σ st := of_decide_eq_false (b2i_0.mp z2)
      exact h0 (by rw [bld, if_pos z, if_neg hs]) τ hf
  · have hr : zR (σ st 1) := zR_s (by have := hst.2.1; omega) (by have := hst.2.2.1; omega)
    have hb2 : bld (σ (b + 7) slot) (σ (b + 8) slot) (tl σ (b + 9) slot) (tl σ (b + 12) slot) (wl σ st) = some ((wl σ st ++ (wl σ st).getLast?.toList) ++ tl σ (b + 12) slot) := by
      rw [bld, if_neg (by omega), if_pos z]
    refine ⟨hr, fun z2 => ?_, fun z2 => ?_⟩
    · have : wl σ st = [] := List.length_eq_zero_iff.mp (by have := hst.2.1; omega)
      rw [this] at hb2 hτ
      exact key [] τ hτ (by simp) ab_nil (by rw [this]; exact hb2)
    · have hat := hst.at (i := (σ st 1 - 1).toNat) (by omega)
      have hwf : wok τ fm 10 := hτ.ok hfm (by have := hst.2.2.1; omega) (by omega) hst.2.2.2.2
      refine ⟨by omega, by rw [wn hst.1]; have := hst.2.2.1; omega, s_add hwf (by rw [hτ.2.2]; have := hst.2.2.1; omega) (by omega) (by omega) (fun υ hυ => ?_)⟩
      rw [hτ.2.1] at hυ
      have e : [σ (st + 1) (σ st 1 - 1).toNat] = (wl σ st).getLast?.toList := by rw [wl_last hst (by omega)]; rfl
      rw [e] at hυ
      refine key _ υ (hτ.fr2 hυ) ?_ (ab_app hst.2.2.2.2 (fun x hx => hst.2.2.2.2 x (last_mem hx))) hb2
      rw [List.length_append]
      have := last_len (wl σ st)
      have := hst.2.2.1
      omega
  · refine s_lastVowel hst' ?_
    rw [estl]
    have hv := lvow_b (wl σ st)
    have hpz := hp z
    have hzv := zvo_ab (j := (σ (b + 8) slot).toNat) (by omega)
    rw [e8]
    refine ⟨zR_s (by omega) (by have := hst.2.2.1; omega), fun z2 => ⟨by omega, by rw [n7.2.1]; omega, hpz.1, hpz.2, z2, by rw [wn hfm]; have := hst.2.2.1; omega, by omega, by omega, fun s7 e => ?_⟩, fun z2 => ?_⟩
    · subst e
      refine key _ _ (setw_set hτ (by omega)) ?_ (ab_set hst.2.2.2.2 hzv) ?_
      · rw [List.length_set]
        have := hst.2.2.1
        omega
      · rw [bld, if_neg (by omega), if_neg (by omega), if_pos z, if_neg (by omega)]
    · exact h0 (by rw [bld, if_neg (by omega), if_neg (by omega), if_pos z, if_pos (by omega)]) τ hf
  · refine key _ τ hτ (by have := hst.2.2.1; omega) hst.2.2.2.2 (by rw [bld, if_neg (by omega), if_neg (by omega), if_neg (by omega)])
/-- whether a word is a stem that fulfills a condition -/
def alw (kind prm : Int) (ce st : List Int) : Bool :=
  decide (2 ≤ st.length ∧ st.length ≤ 10) && (if kind = 1 then evow st else if kind = 2 then !evow st else if kind = 3 then decide (prm ≤ (st.length : Int)) else if kind = 4 then decide (ce <:+ st) else true)
theorem s_allows {b p st n : Nat} {P : Int → Sto → Prop} {σ : Sto} (hb : zk b = 2) (hp : p < 6) (hk : 0 ≤ σ (b + 2) p ∧ σ (b + 2) p ≤ 4) (hq : σ (b + 2) p = 3 → 0 ≤ σ (b + 3) p ∧ σ (b + 3) p ≤ 100) (hc : σ (b + 2) p = 4 → tok σ (b + 4) p) (hst : wok σ st n)
    (h : P (b2i (alw (σ (b + 2) p) (σ (b + 3) p) (tl σ (b + 4) p) (wl σ st))) σ) : vX3_allows b (p : Int) st P σ := by
  have nn : zn (b + 2) = 6 ∧ zn (b + 3) = 6 := zk_all (P := fun b => zk b = 2 → zn (b + 2) = 6 ∧ zn (b + 3) = 6) (by decide +kernel) hb (by decide) hb
  have hl := wl_len hst
  refine s_isStem hst ⟨b2i_R _, fun z => ?_, fun z => ?_⟩
  · have hs : decide (2 ≤ (wl σ st).length ∧ (wl σ st).length ≤ 10) = true := by
      cases hq : decide (2 ≤ (wl σ st).length ∧ (wl σ st).length ≤ 10)
      · exact absurd (by rw [hq]; rfl) z
      · rfl
    rw [alw, hs, Bool.true_and] at h
    simp only [Int.toNat_natCast]
    refine ⟨by omega, by rw [nn.1]; omega, zR_s (by omega) (by omega), fun z1 => ?_, fun z1 => ?_, fun z1 => ?_, fun z1 => ?_, fun z1 => ?_⟩
    · rw [if_pos z1] at h
      exact s_endsInVowel hst ⟨b2i_01 _, h⟩
    · rw [if_neg (by omega), if_pos z1] at h
      refine s_endsInVowel hst ⟨b2i_R _, fun z2 => ⟨Or.inl rfl, ?_⟩, fun z2 => ⟨Or.inr rfl, ?_⟩⟩
      · cases he : evow (wl σ st)
        · exact absurd (by rw [he]; rfl) z2
        · rw [he] at h; exact h
      · rw [b2i_0.mp z2] at h; exact h
    · rw [if_neg (by omega), if_neg (by omega), if_pos z1] at h
      have hr := hst.2.1
      have hr2 := hst.2.2.1
      have hr3 := hst.2.2.2.1
      have hq1 := hq z1
      refine ⟨by omega, by rw [nn.2]; omega, zR_s (by omega) (by omega), zR_s (by omega) (by omega), fun z2 => ⟨Or.inl rfl, ?_⟩, fun z2 => ⟨Or.inr rfl, ?_⟩⟩
      · rw [decide_eq_false (by omega)] at h; exact h
      · rw [decide_eq_true (by omega)] at h; exact h
    · rw [if_neg (by omega), if_neg (by omega), if_neg (by omega), if_pos z1] at h
      exact s_isEndOf (hc z1) hst ⟨b2i_01 _, h⟩
    · rw [if_neg (by omega), if_neg (by omega), if_neg (by omega), if_neg (by omega)] at h
      exact h
  · have hs := b2i_0.mp z
    rw [alw, hs, Bool.false_and] at h
    exact h
