/-! PURE: from forms back to stems; all stems are offered -/
theorem isv_zvo {j : Nat} (h : j < 5) : isv (zvo j) = true := (show ∀ j, j < 5 → isv (zvo j) = true by decide) j h
theorem zvo_of {x : Int} (h : isv x = true) : ∃ v, v < 5 ∧ x = zvo v := by
  unfold isv at h
  simp only [Bool.or_eq_true, beq_iff_eq] at h
  rcases h with (((h | h) | h) | h) | h
  · exact ⟨0, by decide, h⟩
  · exact ⟨1, by decide, h⟩
  · exact ⟨2, by decide, h⟩
  · exact ⟨3, by decide, h⟩
  · exact ⟨4, by decide, h⟩
theorem lvow_at : ∀ (n : Nat) (l : List Int), l.length = n → 0 ≤ lvow l → ∃ x, l[(lvow l).toNat]? = some x ∧ isv x = true := by
  intro n
  induction n with
  | zero => intro l hl h; have := lvow_b l; omega
  | succ n ih =>
    intro l hl h
    rcases List.eq_nil_or_concat l with rfl | ⟨l, x, rfl⟩
    · simp at hl
    · rw [List.concat_eq_append] at *
      rw [lvow_snoc] at h ⊢
      have hl' : l.length = n := by rw [List.length_append] at hl; simpa using hl
      cases hx : isv x
      · rw [hx, if_neg (by decide)] at h
        rw [if_neg (by decide)]
        have b := lvow_b l
        obtain ⟨y, h1, h2⟩ := ih l hl' h
        exact ⟨y, by rw [List.getElem?_append_left (by omega)]; exact h1, h2⟩
      · rw [if_pos rfl, Int.toNat_natCast]
        exact ⟨x, by simp, hx⟩
theorem lvow_set {x : Int} (hx : isv x = true) : ∀ (n : Nat) (l : List Int), l.length = n → 0 ≤ lvow l → lvow (l.set (lvow l).toNat x) = lvow l := by
  intro n
  induction n with
  | zero => intro l hl h; have := lvow_b l; omega
  | succ n ih =>
    intro l hl h
    rcases List.eq_nil_or_concat l with rfl | ⟨l, y, rfl⟩
    · simp at hl
    · rw [List.concat_eq_append] at *
      have hl' : l.length = n := by rw [List.length_append] at hl; simpa using hl
      rw [lvow_snoc] at h ⊢
      cases hy : isv y
      · rw [hy, if_neg (by decide)] at h
        rw [if_neg (by decide)]
        have b := lvow_b l
        rw [List.set_append_left _ _ (by omega), lvow_snoc, hy, if_neg (by decide)]
        exact ih l hl' h
      · rw [if_pos rfl, Int.toNat_natCast, List.set_append_right _ _ (Nat.le_refl _), Nat.sub_self]
        show lvow (l ++ [x]) = _
        rw [lvow_snoc, hx, if_pos rfl]
theorem take_base {a n : List Int} : (a ++ n).take ((a ++ n).length - n.length) = a := by
  rw [List.length_append, Nat.add_sub_cancel, List.take_left]
theorem suf_take {o s : List Int} (h : o <:+ s) : s.take (s.length - o.length) ++ o = s := by
  obtain ⟨t, rfl⟩ := h
  rw [take_base]
def baseF (f : Nat → Int) (p c w : Nat) : List Int := (fl f (wa w)).take ((fl f (wa w)).length - (fl f (ca p c + 7)).length)
section
variable {σ τ : Sto} {r b p c w : Nat} {f : Nat → Int} {P Q : Sto → Prop} {st : List Int} {L L' : List (Nat × List Int)}
/-- where a form comes from -/
theorem bld_inv (h : bldF f p c st = some (fl f (wa w))) : fl f (ca p c + 7) <:+ fl f (wa w) ∧ (f (ca p c) = 1 → st = baseF f p c w ++ fl f (ca p c + 2)) ∧ (f (ca p c) = 2 → baseF f p c w = st ++ st.getLast?.toList) ∧ (f (ca p c) = 3 → 0 ≤ lvow st ∧ baseF f p c w = st.set (lvow st).toNat (zvo (f (ca p c + 1)).toNat)) ∧ (¬ f (ca p c) = 1 → ¬ f (ca p c) = 2 → ¬ f (ca p c) = 3 → baseF f p c w = st) := by
  unfold bldF bld at h
  by_cases k1 : f (ca p c) = 1
  · rw [if_pos k1] at h
    by_cases s : fl f (ca p c + 2) <:+ st
    · rw [if_pos s] at h
      have e := Option.some.inj h
      refine ⟨⟨_, e⟩, fun _ => ?_, fun z => by omega, fun z => by omega, fun z => absurd k1 z⟩
      unfold baseF
      rw [← e, take_base]
      exact (suf_take s).symm
    · rw [if_neg s] at h; exact absurd h (by simp)
  · rw [if_neg k1] at h
    by_cases k2 : f (ca p c) = 2
    · rw [if_pos k2] at h
      have e := Option.some.inj h
      refine ⟨⟨_, e⟩, fun z => absurd z k1, fun _ => ?_, fun z => by omega, fun _ z => absurd k2 z⟩
      unfold baseF
      rw [← e, take_base]
    · rw [if_neg k2] at h
      by_cases k3 : f (ca p c) = 3
      · rw [if_pos k3] at h
        by_cases v : lvow st < 0
        · rw [if_pos v] at h; exact absurd h (by simp)
        · rw [if_neg v] at h
          have e := Option.some.inj h
          refine ⟨⟨_, e⟩, fun z => absurd z k1, fun z => absurd z k2, fun _ => ⟨by omega, ?_⟩, fun _ _ z => absurd k3 z⟩
          unfold baseF
          rw [← e, take_base]
      · rw [if_neg k3] at h
        have e := Option.some.inj h
        refine ⟨⟨_, e⟩, fun z => absurd z k1, fun z => absurd z k2, fun z => absurd z k3, fun _ _ _ => ?_⟩
        unfold baseF
        rw [← e, take_base]
/-- with the vowel changed back -/
theorem bld_inv3 (hpr : 0 ≤ f (ca p c + 1) ∧ f (ca p c + 1) ≤ 4) (h : bldF f p c st = some (fl f (wa w))) (k3 : f (ca p c) = 3) : 0 ≤ lvow (baseF f p c w) ∧ (baseF f p c w)[(lvow (baseF f p c w)).toNat]? = some (zvo (f (ca p c + 1)).toNat) ∧ ∃ v, v < 5 ∧ st = (baseF f p c w).set (lvow (baseF f p c w)).toNat (zvo v) := by
  obtain ⟨h0, e⟩ := (bld_inv h).2.2.2.1 k3
  have hv := isv_zvo (j := (f (ca p c + 1)).toNat) (by omega)
  have el := lvow_set hv _ st rfl h0
  rw [← e] at el
  obtain ⟨x, x1, x2⟩ := lvow_at _ st rfl h0
  obtain ⟨v, v5, ev⟩ := zvo_of x2
  have hb := lvow_b st
  refine ⟨by omega, ?_, v, v5, ?_⟩
  · rw [el, e, List.getElem?_set_self (by omega)]
  · rw [el, e, List.set_set, ← ev]
    apply List.ext_getElem?
    intro i
    by_cases q : i = (lvow st).toNat
    · subst q
      rw [List.getElem?_set_self (by omega), x1]
    · rw [List.getElem?_set_ne (Ne.symm q)]
def cov (f : Nat → Int) (p c w : Nat) (L : List (Nat × List Int)) : Prop := ∀ st, isH f p st → bldF f p c st = some (fl f (wa w)) → (p, st) ∈ L
theorem s_endsInDouble {k n : Nat} {P : Int → Sto → Prop} (hk : wok σ k n) (h0 : ¬ (1 < σ k 1 ∧ σ (k + 1) (σ k 1 - 1).toNat = σ (k + 1) (σ k 1 - 2).toNat) → P 0 σ) (h1 : (1 < σ k 1 ∧ σ (k + 1) (σ k 1 - 1).toNat = σ (k + 1) (σ k 1 - 2).toNat) → P 1 σ) : vX4_endsInDouble k P σ := by
  obtain ⟨hz, a0, a1, a2, ha⟩ := id hk
  refine ⟨zR_s (by omega) (by omega), fun z => ⟨Or.inl rfl, h0 (fun q => by omega)⟩, fun z => ?_⟩
  have l1 := hk.at (i := (σ k 1 - 1).toNat) (by omega)
  have l2 := hk.at (i := (σ k 1 - 2).toNat) (by omega)
  refine ⟨by omega, by rw [wn hz]; omega, by omega, by rw [wn hz]; omega, zR_s (by omega) (by omega), zR_s (by omega) (by omega), fun q => ⟨Or.inl rfl, h0 (fun y => q y.2)⟩, fun q => ⟨Or.inr rfl, h1 ⟨by omega, q⟩⟩⟩
/-- the five vowels -/
theorem x_offerStems_186 (hr : zk r = 1) (hb : zk b = 2) (hbr : b + 21 < r) (hw : wfF f) (hp : (p : Int) < f 0) {B : List Int} {j : Nat} (hB : ab B) (hB18 : B.length ≤ 18) (hj : j < B.length) (hlen : L.length + 5 ≤ 2880)
    (h1 : ∀ τ L', gR σ τ r → ents τ r f L' → (∀ q ∈ L, q ∈ L') → L'.length ≤ L.length + 5 → (∀ v, v < 5 → isH f p (B.set j (zvo v)) → (p, B.set j (zvo v)) ∈ L') → Q τ) :
    ∀ (n v : Nat) (τ : Sto) (L' : List (Nat × List Int)), v ≤ 5 → 5 - v < n → repS τ b f → gR σ τ r → ents τ r f L' → (∀ q ∈ L, q ∈ L') → L'.length ≤ L.length + v → (∀ v', v' < v → isH f p (B.set j (zvo v')) → (p, B.set j (zvo v')) ∈ L') → (wok τ (r + 3) 18 ∧ ∃ y, wl τ (r + 3) = B.set j y) → vX1_offerStems_186 r b Q n (p : Int) (j : Int) (v : Int) τ := by
  intro n
  induction n with
  | zero => intro v τ L' a1 a2; omega
  | succ n ih =>
    intro v τ L' a1 a2 hrep hg hE hsub hl hcov hwl
    have K := hy_k hr
    obtain ⟨ok, y, ey⟩ := hwl
    refine ⟨zR_s (by omega) (by omega), fun z => ?_, fun z => ?_⟩
    · have : v = 5 := by omega
      subst this
      exact h1 τ L' hg hE hsub hl hcov
    · have hv := zvo_ab (j := v) (by omega)
      rw [Int.toNat_natCast, Int.toNat_natCast]
      have n18 : zn (r + 3 + 1) = 18 := wn K.1.1
      refine ⟨by omega, by omega, by omega, by omega, by omega, by omega, fun s12 q12 => ?_⟩
      have hs : setw τ τ (r + 3) (B.set j y) := ⟨fr.refl, ey, by rw [← wl_len ok, ey]⟩
      have hs2 := setw_set (x := zvo v) hs (i := j) (by rw [List.length_set]; exact hj)
      rw [← q12, List.set_set] at hs2
      have ok12 : wok s12 (r + 3) 18 := hs2.ok K.1.1 (by rw [List.length_set]; exact hB18) (by decide) (ab_set hB hv)
      have g12 : gR τ s12 r := ⟨fun i hi => by rw [q12, zu_ne (by omega)], fun i _ => by rw [q12, zu_ne (by omega)]⟩
      refine x_offer (L := L') hr hb hbr (hrep.fr (fun i b1 b2 => by rw [q12, zu_ne (by omega)])) hw hp ok12 (hE.fr (by rw [q12, zu_ne (by omega)]) (by rw [q12, zu_ne (by omega)]) (by rw [q12, zu_ne (by omega)])) (by omega) (fun υ L2 gu e3 e4 hE2 hs2' hl2 hin => ?_)
      rw [hs2.2.1] at hin
      have okυ := ok12.fr (τ := υ) e3 e4
      have := ih (v + 1) υ L2 (by omega) (by omega) (hrep.fr (fun i b1 b2 => by rw [gu.1 i (by omega), q12, zu_ne (by omega)])) (hg.trans (g12.trans gu)) hE2 (fun q h => hs2' q (hsub q h)) (by omega) (fun v' hv' h => by
        by_cases e : v' = v
        · subst e; exact hin h
        · exact hs2' _ (hcov v' (by omega) h)) ⟨okυ.1, zvo v, by rw [okυ.2]; exact hs2.2.1⟩
      exact_mod_cast this
theorem x_offerStems (hr : zk r = 1) (hb : zk b = 2) (hbr : b + 21 < r) (hrep : repS σ b f) (hw : wfF f) (hp : (p : Int) < f 0) (hc : (c : Int) < f (pa p)) (hwd : (w : Int) < f 1) (hE : ents σ r f L) (hlen : L.length + 5 ≤ 2880)
    (h1 : ∀ τ L', gR σ τ r → ents τ r f L' → (∀ q ∈ L, q ∈ L') → L'.length ≤ L.length + 5 → cov f p c w L' → Q τ) : vX1_offerStems r b (p : Int) (c : Int) (w : Int) Q σ := by
  have K := hy_k hr
  have sw := st_w hb
  obtain ⟨rc, wc, p6, c6, t9, t12⟩ := rep_cell hb hrep hw hp hc
  have ww := hw.2.2.2.2.1 w hwd
  have n7 : zn (b + 7) = 36 ∧ zn (b + 8) = 36 ∧ zn (b + 12 + 1) = 36 := ⟨st_n hb 7 (by decide), st_n hb 8 (by decide), st_n hb 13 (by decide)⟩
  have hll : ((fl f (wa w)).length : Int) = f (wa w) := by unfold fl; rw [seg_len]; have := ww.1; omega
  have hl14 := ww.2.1
  have hab := ww.2.2
  unfold vX1_offerStems vX6_cellSlot
  dsimp only
  rw [show (p : Int) * 6 + (c : Int) = ((6 * p + c : Nat) : Int) by omega]
  simp only [Int.toNat_natCast]
  refine s_clear (fun s2 h2 => ?_)
  have g2 : gR σ s2 r := ⟨fun i hi => h2.1 i (by simp <;> omega), fun j _ => by rw [h2.1 r (by simp <;> omega)]⟩
  have rep2 : repS s2 b f := hrep.fr (fun i a1 a2 => g2.1 i (by omega))
  obtain ⟨tkw, tew⟩ := rep_word hb rep2 hw hwd
  have tw1w := (rep2.2.2.1 w hwd).1
  have ok2 : wok s2 (r + 3) 0 := h2.ok K.1.1 (by simp) (by decide) ab_nil
  refine s_addTo tkw ok2 (by rw [h2.2.2, tw1w]; simp; omega) ⟨by omega, by omega⟩ (fun s3 h3 => ?_)
  rw [h2.2.1, List.nil_append, tew] at h3
  have g3 : gR s2 s3 r := ⟨fun i hi => h3.1 i (by simp <;> omega), fun j _ => by rw [h3.1 r (by simp <;> omega)]⟩
  have rep3 : repS s3 b f := rep2.fr (fun i a1 a2 => g3.1 i (by omega))
  have ok3 : wok s3 (r + 3) 14 := h3.ok K.1.1 (by omega) (by decide) hab
  obtain ⟨rc3, -, -, -, t93, t123⟩ := rep_cell hb rep3 hw hp hc
  have E3 : ents s3 r f L := hE.fr (by rw [h3.1 r (by simp <;> omega), h2.1 r (by simp <;> omega)]) (by rw [h3.1 _ (by simp <;> omega), h2.1 _ (by simp <;> omega)]) (by rw [h3.1 _ (by simp <;> omega), h2.1 _ (by simp <;> omega)])
  refine s_isEndOf t123 ok3 ?_
  rw [h3.2.1, rc3.2.2.2.2]
  refine ⟨b2i_R _, fun q => ⟨by omega, by rw [n7.2.2]; omega, ?_⟩, fun q => ?_⟩
  · have hs := of_decide_eq_true (b2i_1.mp q)
    have hsl := hs.length_le
    have d12 := wc.2.2.2.1
    have d9 := wc.2.2.1
    have l12 : ((fl f (ca p c + 7)).length : Int) = f (ca p c + 7) := by unfold fl; rw [seg_len]; have := d12.1; omega
    have l9 : ((fl f (ca p c + 2)).length : Int) = f (ca p c + 2) := by unfold fl; rw [seg_len]; have := d9.1; omega
    rw [rc3.2.2.2.1]
    refine s_dropLast ok3 d12.1 (by have := d12.2.1; omega) (fun s5 h5 => ?_)
    rw [h3.2.1, show (f (ca p c + 7)).toNat = (fl f (ca p c + 7)).length by omega] at h5
    have h5 : setw s3 s5 (r + 3) (baseF f p c w) := h5
    have g5 : gR s3 s5 r := ⟨fun i hi => h5.1 i (by simp <;> omega), fun j _ => by rw [h5.1 r (by simp <;> omega)]⟩
    have rep5 : repS s5 b f := rep3.fr (fun i a1 a2 => g5.1 i (by omega))
    have E5 : ents s5 r f L := E3.fr (by rw [h5.1 r (by simp <;> omega)]) (h5.1 _ (by simp <;> omega)) (h5.1 _ (by simp <;> omega))
    obtain ⟨rc5, -, -, -, t95, -⟩ := rep_cell hb rep5 hw hp hc
    have hBab : ab (baseF f p c w) := ab_take hab _
    have hBl : (baseF f p c w).length ≤ 14 := by unfold baseF; rw [List.length_take]; omega
    have ok5 : wok s5 (r + 3) 14 := h5.ok K.1.1 hBl (by decide) hBab
    have G5 : gR σ s5 r := g2.trans (g3.trans g5)
    rw [rc5.1]
    have k0 := wc.1
    refine ⟨by omega, by rw [n7.1]; omega, zR_s (by omega) (by omega), fun k1 => ?_, fun k2 => ?_, fun k3 => ?_, fun kk => ?_⟩
    · refine s_addTo t95 ok5 (by rw [h5.2.2, rc5.2.2.1.1]; have := d9.2.1; omega) ⟨by omega, by omega⟩ (fun s6 h6 => ?_)
      rw [h5.2.1, rc5.2.2.1.2] at h6
      have g6 : gR s5 s6 r := ⟨fun i hi => h6.1 i (by simp <;> omega), fun j _ => by rw [h6.1 r (by simp <;> omega)]⟩
      have ok6 : wok s6 (r + 3) 18 := h6.ok K.1.1 (by rw [List.length_append]; have := d9.2.1; omega) (by decide) (ab_app hBab d9.2.2)
      refine x_offer (L := L) hr hb hbr (rep5.fr (fun i a1 a2 => g6.1 i (by omega))) hw hp ok6 (E5.fr (by rw [h6.1 r (by simp <;> omega)]) (h6.1 _ (by simp <;> omega)) (h6.1 _ (by simp <;> omega))) (by omega) (fun υ L2 gu _ _ hE2 hs2 hl2 hin => h1 υ L2 (G5.trans (g6.trans gu)) hE2 hs2 (by omega) (fun st hh hb' => ?_))
      rw [h6.2.1, ← (bld_inv hb').2.1 k1] at hin
      exact hin hh
    · refine s_endsInDouble ok5 (fun nd => ⟨zR_0, fun _ => h1 s5 L G5 E5 (fun _ h => h) (by omega) (fun st hh hb' => absurd ?_ nd), fun a => absurd rfl a⟩) (fun yd => ⟨zRl rfl, fun a => absurd a (by decide), fun _ => s_dropLast ok5 (by decide) (by decide) (fun s9 h9 => ?_)⟩)
      · have e := (bld_inv hb').2.2.1 k2
        have hb2 := isH_b hw hh
        obtain ⟨t, x, ex⟩ : ∃ t x, st = t ++ [x] := by
          rcases List.eq_nil_or_concat st with z | ⟨t, x, z⟩
          · rw [z] at hb2; have := hb2.2.1; simp at this
          · exact ⟨t, x, by rw [z, List.concat_eq_append]⟩
        have e2 : baseF f p c w = t ++ [x] ++ [x] := by rw [e, ex]; simp
        have ln : s5 (r + 3) 1 = ((t.length + 2 : Nat) : Int) := by rw [h5.2.2, e2]; simp <;> omega
        have at1 : ∀ i, i < t.length + 2 → s5 (r + 3 + 1) i = ((t ++ [x] ++ [x])[i]?).getD 0 := fun i hi => by
          have : (wl s5 (r + 3))[i]? = some (s5 (r + 3 + 1) i) := by
            unfold wl
            rw [seg_get (by omega), Nat.zero_add]
          rw [← e2, ← h5.2.1, this]
          rfl
        refine ⟨by omega, ?_⟩
        rw [show (s5 (r + 3) 1 - 1).toNat = t.length + 1 by omega, show (s5 (r + 3) 1 - 2).toNat = t.length by omega, at1 _ (by omega), at1 _ (by omega)]
        simp
      · rw [h5.2.1] at h9
        have g9 : gR s5 s9 r := ⟨fun i hi => h9.1 i (by simp <;> omega), fun j _ => by rw [h9.1 r (by simp <;> omega)]⟩
        have ok9 : wok s9 (r + 3) 18 := h9.ok K.1.1 (by rw [List.length_take]; omega) (by decide) (ab_take hBab _)
        refine x_offer (L := L) hr hb hbr (rep5.fr (fun i a1 a2 => g9.1 i (by omega))) hw hp ok9 (E5.fr (by rw [h9.1 r (by simp <;> omega)]) (h9.1 _ (by simp <;> omega)) (h9.1 _ (by simp <;> omega))) (by omega) (fun υ L2 gu _ _ hE2 hs2 hl2 hin => h1 υ L2 (G5.trans (g9.trans gu)) hE2 hs2 (by omega) (fun st hh hb' => ?_))
        have e := (bld_inv hb').2.2.1 k2
        have hb2 := isH_b hw hh
        have e3 : (baseF f p c w).take ((baseF f p c w).length - Int.toNat 1) = st := by
          obtain ⟨t, x, ex⟩ : ∃ t x, st = t ++ [x] := by
            rcases List.eq_nil_or_concat st with z | ⟨t, x, z⟩
            · rw [z] at hb2; have := hb2.2.1; simp at this
            · exact ⟨t, x, by rw [z, List.concat_eq_append]⟩
          have e4 : st.getLast?.toList = [x] := by rw [ex]; simp
          rw [e4] at e
          rw [e]
          have := take_base (a := st) (n := [x])
          exact this
        rw [h9.2.1, e3] at hin
        exact hin hh
    · have hpr := wc.2.1 k3
      refine s_lastVowel ok5 ?_
      rw [h5.2.1]
      have vb := lvow_b (baseF f p c w)
      refine ⟨zR_s (by omega) (by omega), fun z => h1 s5 L G5 E5 (fun _ h => h) (by omega) (fun st hh hb' => ?_), fun z => ⟨by omega, by rw [wn K.1.1]; omega, by omega, by rw [n7.2.1]; omega, by rw [rc5.2.1]; exact hpr.1, by rw [rc5.2.1]; omega, ?_⟩⟩
      · have := (bld_inv3 hpr hb' k3).1
        omega
      · have hzv := zvo_ab (j := (f (ca p c + 1)).toNat) (by omega)
        have hat := ok5.at (i := (lvow (baseF f p c w)).toNat) (by rw [h5.2.2]; omega)
        have eat : (baseF f p c w)[(lvow (baseF f p c w)).toNat]? = some (s5 (r + 3 + 1) (lvow (baseF f p c w)).toNat) := by
          have : (wl s5 (r + 3))[(lvow (baseF f p c w)).toNat]? = some (s5 (r + 3 + 1) (lvow (baseF f p c w)).toNat) := by
            unfold wl
            rw [seg_get (by rw [h5.2.2]; omega), Nat.zero_add]
          rw [h5.2.1] at this
          exact this
        rw [rc5.2.1]
        refine ⟨zR_s (by omega) (by omega), zR_s (by omega) (by omega), fun y => h1 s5 L G5 E5 (fun _ h => h) (by omega) (fun st hh hb' => ?_), fun y => ⟨6, ?_⟩⟩
        · have := (bld_inv3 hpr hb' k3).2.1
          rw [eat] at this
          exact absurd (Option.some.inj this) y
        · have := x_offerStems_186 (σ := s5) (Q := Q) (L := L) (B := baseF f p c w) (j := (lvow (baseF f p c w)).toNat) hr hb hbr hw hp hBab (by omega) (by omega) hlen (fun υ L2 gu hE2 hs2 hl2 hin => h1 υ L2 (G5.trans gu) hE2 hs2 hl2 (fun st hh hb' => by
            obtain ⟨v, v5, ev⟩ := (bld_inv3 hpr hb' k3).2.2
            rw [ev] at hh ⊢
            exact hin v v5 hh)) 6 0 s5 L (by omega) (by omega) rep5 gR.refl E5 (fun _ h => h) (by omega) (fun v' hv' => by omega) ⟨⟨ok5.1, ok5.2.1, by rw [h5.2.2]; omega, by decide, ok5.2.2.2.2⟩, s5 (r + 3 + 1) (lvow (baseF f p c w)).toNat, by
              rw [h5.2.1]
              apply List.ext_getElem?
              intro i
              by_cases qi : i = (lvow (baseF f p c w)).toNat
              · subst qi
                rw [eat, List.getElem?_set_self (by omega)]
              · rw [List.getElem?_set_ne (Ne.symm qi)]⟩
          rw [show (((lvow (baseF f p c w)).toNat : Nat) : Int) = lvow (baseF f p c w) by omega] at this
          exact_mod_cast this
    · refine x_offer (L := L) hr hb hbr rep5 hw hp ⟨ok5.1, ok5.2.1, by rw [h5.2.2]; omega, by decide, ok5.2.2.2.2⟩ E5 (by omega) (fun υ L2 gu _ _ hE2 hs2 hl2 hin => h1 υ L2 (G5.trans gu) hE2 hs2 (by omega) (fun st hh hb' => ?_))
      rw [h5.2.1, (bld_inv hb').2.2.2.2 (by omega) (by omega) (by omega)] at hin
      exact hin hh
  · have hs := of_decide_eq_false (b2i_0.mp q)
    exact h1 s3 L (g2.trans g3) E3 (fun _ h => h) (by omega) (fun st hh hb' => absurd (bld_inv hb').1 hs)
/-- all before (p, c, w) is covered -/
def dn (f : Nat → Int) (p c w : Nat) (L : List (Nat × List Int)) : Prop := (∀ p' c' w' : Nat, p' < p → (c' : Int) < f (pa p') → (w' : Int) < f 1 → cov f p' c' w' L) ∧ (∀ c' w' : Nat, c' < c → (w' : Int) < f 1 → cov f p c' w' L) ∧ (∀ w', w' < w → cov f p c w' L) ∧ L.length ≤ 5 * (96 * p + 16 * c + w)
theorem cov.mono (h : cov f p c w L) (hs : ∀ q ∈ L, q ∈ L') : cov f p c w L' := fun st a b => hs _ (h st a b)
theorem dn.step (h : dn f p c w L) (hs : ∀ q ∈ L, q ∈ L') (hl : L'.length ≤ L.length + 5) (hc : cov f p c w L') : dn f p c (w + 1) L' := by
  obtain ⟨a, b, d, e⟩ := h
  refine ⟨fun p' c' w' h1 h2 h3 => (a p' c' w' h1 h2 h3).mono hs, fun c' w' h1 h2 => (b c' w' h1 h2).mono hs, fun w' h1 => ?_, by omega⟩
  by_cases q : w' = w
  · subst q; exact hc
  · exact (d w' (by omega)).mono hs
theorem dn.cell (h : dn f p c w L) (hw : wfF f) (e : (w : Int) = f 1) : dn f p (c + 1) 0 L := by
  obtain ⟨a, b, d, l⟩ := h
  have := hw.2.1
  refine ⟨a, fun c' w' h1 h2 => ?_, fun w' h1 => by omega, by omega⟩
  by_cases q : c' = c
  · subst q; exact d w' (by omega)
  · exact b c' w' (by omega) h2
theorem dn.par (h : dn f p c 0 L) (hc6 : c ≤ 6) (e : (c : Int) = f (pa p)) : dn f (p + 1) 0 0 L := by
  obtain ⟨a, b, d, l⟩ := h
  refine ⟨fun p' c' w' h1 h2 h3 => ?_, fun c' w' h1 => by omega, fun w' h1 => by omega, by omega⟩
  by_cases q : p' = p
  · subst q; exact b c' w' (by omega) h3
  · exact a p' c' w' (by omega) h2 h3
theorem dn_all (hw : wfF f) (h : dn f p 0 0 L) (e : (p : Int) = f 0) {q : Nat × List Int} (hq : isH f q.1 q.2) : q ∈ L := by
  obtain ⟨h1, h2, h3, h4⟩ := id hq
  unfold expl at h4
  obtain ⟨l, hl⟩ := List.exists_mem_of_length_pos h4
  rw [List.mem_filter] at hl
  have ha := of_decide_eq_true hl.2
  have hp := attF_pos ha
  have c0 := (hw.2.2.2.1 q.1 h1).1
  have hm := hl.1
  unfold frms at hm
  rw [frm1_mem] at hm
  obtain ⟨c, c1, c2⟩ := hm
  exact h.1 q.1 c (attF f l).toNat (by omega) (by omega) hp.2 q.2 hq (by rw [hp.1]; exact c2)
end
