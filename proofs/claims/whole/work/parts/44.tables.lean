/-! PURE: writing tables, copying states, unpacking stems -/
theorem s_unpackStem_12 {x p k : Nat} {l : List Int} {P : Sto → Prop} {σ : Sto} (hp : p < 8) (hl : l.length ≤ 10) (ha : ab l) (hx : x < 64) (hk : zk k = 3) (h : ∀ τ, setw σ τ k l → P τ) : ∀ (n m : Nat) (τ : Sto), m ≤ l.length → l.length - m < n → setw σ τ k (l.take m) → vX2_unpackStem_12 k P n ((x * 2 ^ 57 + pairN p l : Nat) : Int) (l.length : Int) (m : Int) τ := by
  intro n
  induction n with
  | zero => intro m τ h1 h2; omega
  | succ n ih =>
    intro m τ h1 h2 hτ
    refine ⟨zR_s (by omega) (by omega), zR_s (by omega) (by omega), fun z => ?_, fun z => ?_⟩
    · rw [List.take_of_length_le (by omega)] at hτ
      exact h τ hτ
    · have hm : m < l.length := by omega
      have hxm := ha l[m] (List.getElem_mem hm)
      refine s_letterOfStem hp hl ha hx hm ?_
      have hw : wok τ k 10 := hτ.ok hk (by rw [List.length_take]; omega) (by omega) (ab_take ha m)
      refine s_add hw (by rw [hτ.2.2, List.length_take]; omega) (by omega) (by omega) (fun υ hυ => ?_)
      rw [hτ.2.1, List.take_append_getElem hm] at hυ
      have := ih (m + 1) υ (by omega) (by omega) (hτ.fr2 hυ)
      exact_mod_cast this
theorem s_unpackStem {x p k : Nat} {l : List Int} {P : Sto → Prop} {σ : Sto} (hp : p < 8) (hl : l.length ≤ 10) (ha : ab l) (hx : x < 64) (hk : zk k = 3) (h : ∀ τ, setw σ τ k l → P τ) : vX2_unpackStem ((x * 2 ^ 57 + pairN p l : Nat) : Int) k P σ :=
  s_stemLength hp hl ha hx (s_clear (fun τ hτ => ⟨l.length + 1, by
    have := s_unpackStem_12 hp hl ha hx hk h (l.length + 1) 0 τ (by omega) (by omega) hτ
    exact_mod_cast this⟩))
/-- slot j of the table t becomes l; the other slots stay -/
def sett (σ τ : Sto) (t j : Nat) (l : List Int) : Prop := fr [t + 1, t + 2] σ τ ∧ τ (t + 1) j = (l.length : Int) ∧ tl τ t j = l ∧ (∀ i, i ≠ j → τ (t + 1) i = σ (t + 1) i) ∧ ∀ q, (q < (zw t).toNat * j ∨ (zw t).toNat * (j + 1) ≤ q) → τ (t + 2) q = σ (t + 2) q
theorem sett.other {σ τ : Sto} {t j : Nat} {l : List Int} (h : sett σ τ t j l) {i : Nat} (hi : i ≠ j) (hlen : (σ (t + 1) i).toNat ≤ (zw t).toNat) : tl τ t i = tl σ t i := by
  unfold tl
  rw [h.2.2.2.1 i hi]
  refine seg_ext (fun q hq => h.2.2.2.2 _ ?_)
  rcases Nat.lt_or_ge i j with a | a
  · left
    have : (zw t).toNat * (i + 1) ≤ (zw t).toNat * j := Nat.mul_le_mul_left _ a
    rw [Nat.mul_succ] at this
    omega
  · right
    have : (zw t).toNat * (j + 1) ≤ (zw t).toNat * i := Nat.mul_le_mul_left _ (by omega)
    omega
theorem s_put_25 {t j w n0 fm to : Nat} {P : Sto → Prop} {σ : Sto} (hz : zk t = 4) (hj : j < zn (t + 1)) (hw : wok σ w n0) (hft : fm ≤ to) (hto : (to : Int) ≤ σ w 1) (hwd : (to : Int) - fm ≤ zw t) (hd : t + 2 ≠ w + 1 ∧ t + 2 ≠ w ∧ t + 1 ≠ w ∧ t + 1 ≠ w + 1)
    (h : ∀ τ, sett σ τ t j ((wl σ w).drop fm |>.take (to - fm)) → P τ) : ∀ (n m : Nat) (τ : Sto), fm ≤ m → m ≤ to → to - m < n → fr [t + 2] σ τ → (∀ q, (q < (zw t).toNat * j ∨ (zw t).toNat * (j + 1) ≤ q) → τ (t + 2) q = σ (t + 2) q) → (∀ i, i < m - fm → τ (t + 2) ((zw t).toNat * j + i) = σ (w + 1) (fm + i)) → vX5_put_25 t w P n (j : Int) (fm : Int) (to : Int) ((j : Int) * zw t - fm) (m : Int) τ := by
  intro n
  induction n with
  | zero => intro m τ a0 a1 a2; omega
  | succ n ih =>
    intro m τ a0 a1 a2 hf ho hm
    obtain ⟨hzw, hw0, hwn, hn18, hwa⟩ := id hw
    obtain ⟨w1, w2, w3, w4⟩ := tw hz
    have ew : τ (w + 1) = σ (w + 1) := hf _ (by simp; omega)
    refine ⟨zR_s (by omega) (by omega), zR_s (by omega) (by omega), fun z => ⟨by omega, by omega, fun s1 e1 => ?_⟩, fun z => ?_⟩
    · simp only [Int.toNat_natCast] at e1
      subst e1
      have em : m = to := by omega
      subst em
      have hlen : (((wl σ w).drop fm).take (m - fm)).length = m - fm := by
        rw [List.length_take, List.length_drop]
        have := wl_len hw
        omega
      refine h _ ⟨fun i hi => ?_, ?_, ?_, fun i hi => ?_, fun q hq => ?_⟩
      · rw [zu_ne (fun q => hi (by simp [q]))]
        exact hf i (fun q => hi (by simp at q; simp [q]))
      · rw [zu_eq, hlen]; omega
      · unfold tl
        rw [zu_eq, zu_ne (by omega : t + 2 ≠ t + 1), show ((m : Int) - (fm : Int)).toNat = m - fm by omega]
        apply List.ext_getElem?
        intro i
        rcases Nat.lt_or_ge i (m - fm) with q | q
        · rw [seg_get q, hm i q, List.getElem?_take_of_lt q, List.getElem?_drop]
          unfold wl
          rw [seg_get (by omega), Nat.zero_add]
        · rw [List.getElem?_eq_none (by rw [seg_len]; exact q), List.getElem?_eq_none (by rw [hlen]; exact q)]
      · rw [zu_j hi, hf _ (by simp)]
      · rw [zu_ne (by omega : t + 2 ≠ t + 1)]
        exact ho q hq
    · have hp := tpos (i := m - fm) hz hj (by omega)
      have ep : (j : Int) * zw t - (fm : Int) + (m : Int) = (j : Int) * zw t + ((m - fm : Nat) : Int) := by omega
      have hat := hw.at (i := m) (by omega)
      simp only [Int.toNat_natCast]
      rw [ep, hp.2.2, ew]
      refine ⟨by omega, by rw [wn hzw]; omega, hp.1, hp.2.1, by omega, by omega, fun s2 e2 => ?_⟩
      subst e2
      have := ih (m + 1) (zu τ (t + 2) ((zw t).toNat * j + (m - fm)) (σ (w + 1) m)) (by omega) (by omega) (by omega) (hf.trans (fr_zu (by simp))) (fun q hq => by
        rw [zu_j (by rw [Nat.mul_succ] at hq; omega)]
        exact ho q hq) (fun i hi => by
        rcases Nat.lt_or_ge i (m - fm) with q | q
        · rw [zu_j (by omega)]; exact hm i q
        · have : i = m - fm := by omega
          subst this
          rw [zu_eq]
          congr 1
          omega)
      exact_mod_cast this
theorem s_put {t j w n0 fm to : Nat} {P : Sto → Prop} {σ : Sto} (hz : zk t = 4) (hj : j < zn (t + 1)) (hw : wok σ w n0) (hft : fm ≤ to) (hto : (to : Int) ≤ σ w 1) (hwd : (to : Int) - fm ≤ zw t) (hd : t + 2 ≠ w + 1 ∧ t + 2 ≠ w ∧ t + 1 ≠ w ∧ t + 1 ≠ w + 1)
    (h : ∀ τ, sett σ τ t j ((wl σ w).drop fm |>.take (to - fm)) → P τ) : vX5_put t (j : Int) w (fm : Int) (to : Int) P σ := by
  obtain ⟨hzw, hw0, hwn, hn18, hwa⟩ := id hw
  obtain ⟨w1, w2, w3, w4⟩ := tw hz
  exact ⟨zR_s (by omega) (by omega), zR_s (by omega) (by omega), fun z => ⟨to - fm + 1, s_put_25 hz hj hw hft hto hwd hd h (to - fm + 1) fm σ (Nat.le_refl _) hft (by omega) fr.refl (fun _ _ => rfl) (fun i hi => by omega)⟩, fun z => by omega⟩
/-- the cells of a state -/
theorem st_n {b : Nat} (h : zk b = 2) : ∀ o, o < 22 → zn (b + o) = ([0, 6, 6, 6, 0, 6, 24, 36, 36, 0, 36, 144, 0, 36, 144, 0, 16, 224, 10, 0, 60, 840] : List Nat).getD o 0 := zk_all (P := fun b => zk b = 2 → ∀ o, o < 22 → zn (b + o) = ([0, 6, 6, 6, 0, 6, 24, 36, 36, 0, 36, 144, 0, 36, 144, 0, 16, 224, 10, 0, 60, 840] : List Nat).getD o 0) (by decide +kernel) h (by decide) h
theorem st_w {b : Nat} (h : zk b = 2) : (zk (b + 4) = 4 ∧ zk (b + 9) = 4 ∧ zk (b + 12) = 4 ∧ zk (b + 15) = 4 ∧ zk (b + 19) = 4) ∧ zw (b + 4) = 4 ∧ zw (b + 9) = 4 ∧ zw (b + 12) = 4 ∧ zw (b + 15) = 14 ∧ zw (b + 19) = 14 := zk_all (P := fun b => zk b = 2 → (zk (b + 4) = 4 ∧ zk (b + 9) = 4 ∧ zk (b + 12) = 4 ∧ zk (b + 15) = 4 ∧ zk (b + 19) = 4) ∧ zw (b + 4) = 4 ∧ zw (b + 9) = 4 ∧ zw (b + 12) = 4 ∧ zw (b + 15) = 14 ∧ zw (b + 19) = 14) (by decide +kernel) h (by decide) h
/-- the state in the cells from b on is in τ as that from c on was in σ; nothing else has changed -/
def cpS (σ τ : Sto) (b c : Nat) : Prop := (∀ i, (i < b ∨ b + 21 < i) → τ i = σ i) ∧ (τ b 0 = σ c 0 ∧ τ b 9 = σ c 9 ∧ τ b 11 = σ c 11) ∧ ∀ o, 1 ≤ o → o < 22 → ∀ j, j < zn (b + o) → τ (b + o) j = σ (c + o) j
def cpI (σ τ : Sto) (b c : Nat) (S F : List Nat) : Prop := (∀ i, (i < b ∨ b + 21 < i) → τ i = σ i) ∧ (∀ j ∈ F, τ b j = σ c j) ∧ ∀ o ∈ S, ∀ j, j < zn (b + o) → τ (b + o) j = σ (c + o) j
theorem cpI.zc {σ τ : Sto} {b c : Nat} {S F : List Nat} (h : cpI σ τ b c S F) (hd : c + 21 < b ∨ b + 21 < c) (o n : Nat) (ho : 1 ≤ o) (ho2 : o < 22) (hn : n = zn (b + o)) : cpI σ (zc τ (c + o) 0 (b + o) 0 n) b c (o :: S) F := by
  subst hn
  refine ⟨fun i hi => by rw [zc_ne (by omega)]; exact h.1 i hi, fun j hj => by rw [zc_ne (by omega)]; exact h.2.1 j hj, fun o' ho' j hj => ?_⟩
  by_cases e : o' = o
  · subst e
    rw [zc_fun]
    simp only [Nat.zero_le, true_and, Nat.zero_add, Nat.sub_zero]
    rw [if_pos hj, h.1 (c + o') (by omega)]
  · rw [zc_ne (by omega)]
    rcases List.mem_cons.mp ho' with q | q
    · exact absurd q e
    · exact h.2.2 o' q j hj
theorem cpI.zu {σ τ : Sto} {b c : Nat} {S F : List Nat} (h : cpI σ τ b c S F) (hd : c + 21 < b ∨ b + 21 < c) (hS : ∀ o ∈ S, 1 ≤ o) (j : Nat) : cpI σ (zu τ b j (τ c j)) b c S (j :: F) := by
  refine ⟨fun i hi => by rw [zu_ne (by omega)]; exact h.1 i hi, fun j' hj' => ?_, fun o ho j' hj' => by rw [zu_ne (by have := hS o ho; omega)]; exact h.2.2 o ho j' hj'⟩
  by_cases e : j' = j
  · subst e
    rw [zu_eq, h.1 c (by omega)]
  · rw [zu_j e]
    rcases List.mem_cons.mp hj' with q | q
    · exact absurd q e
    · exact h.2.1 j' q
theorem s_tcopy {σ τ : Sto} {b c o : Nat} {S F : List Nat} {P : Sto → Prop} (hb : zk b = 2) (hc : zk c = 2) (hd : c + 21 < b ∨ b + 21 < c) (h : cpI σ τ b c S F) (ho : o + 2 < 22) (hk : ∀ τ', cpI σ τ' b c ((o + 2) :: (o + 1) :: S) F → P τ') : vX5_copyFrom (b + o) (c + o) P τ := by
  have e1 : zn (c + o + 1) = zn (b + o + 1) := by rw [Nat.add_assoc, Nat.add_assoc, st_n hb _ (by omega), st_n hc _ (by omega)]
  have e2 : zn (c + o + 2) = zn (b + o + 2) := by rw [Nat.add_assoc, Nat.add_assoc, st_n hb _ (by omega), st_n hc _ (by omega)]
  refine ⟨by omega, by omega, by omega, fun s1 q1 => ⟨by omega, by omega, by omega, fun s2 q2 => ?_⟩⟩
  subst q2
  subst q1
  simp only [Int.toNat_natCast, Int.toNat_zero]
  exact hk _ ((h.zc hd (o + 1) _ (by omega) (by omega) rfl).zc hd (o + 2) _ (by omega) (by omega) rfl)
theorem s_copyFrom {σ : Sto} {b c : Nat} {P : Sto → Prop} (hb : zk b = 2) (hc : zk c = 2) (hd : c + 21 < b ∨ b + 21 < c) (h : ∀ τ, cpS σ τ b c → P τ) : vX3_copyFrom b c P σ := by
  have nb := st_n hb
  have nc := st_n hc
  have i0 : cpI σ σ b c [] [] := ⟨fun _ _ => rfl, fun _ h => absurd h List.not_mem_nil, fun _ h => absurd h List.not_mem_nil⟩
  intro s1 q1
  have i1 := i0.zu hd (fun _ h => absurd h List.not_mem_nil) 0
  rw [← q1] at i1
  have e6 : Int.toNat 6 = 6 := rfl
  have e0 : Int.toNat 0 = 0 := rfl
  have e10 : Int.toNat 10 = 10 := rfl
  refine ⟨by rw [nc 1 (by decide)]; decide, by rw [nb 1 (by decide)]; decide, fun s2 q2 => ?_⟩
  have i2 := i1.zc hd 1 6 (by decide) (by decide) (nb 1 (by decide)).symm
  rw [e6, e0] at q2
  rw [← q2] at i2
  refine ⟨by rw [nc 2 (by decide)]; decide, by rw [nb 2 (by decide)]; decide, fun s3 q3 => ?_⟩
  have i3 := i2.zc hd 2 6 (by decide) (by decide) (nb 2 (by decide)).symm
  rw [e6, e0] at q3
  rw [← q3] at i3
  refine ⟨by rw [nc 3 (by decide)]; decide, by rw [nb 3 (by decide)]; decide, fun s4 q4 => ?_⟩
  have i4 := i3.zc hd 3 6 (by decide) (by decide) (nb 3 (by decide)).symm
  rw [e6, e0] at q4
  rw [← q4] at i4
  refine s_tcopy hb hc hd i4 (by decide) (fun s5 i5 => ?_)
  have z7 : zn (c + 7) = zn (b + 7) := by rw [nb 7 (by decide), nc 7 (by decide)]
  have z8 : zn (c + 8) = zn (b + 8) := by rw [nb 8 (by decide), nc 8 (by decide)]
  refine ⟨by omega, by omega, by omega, fun s6 q6 => ?_⟩
  have i6 := i5.zc hd 7 _ (by decide) (by decide) rfl
  rw [Int.toNat_natCast, e0] at q6
  rw [← q6] at i6
  refine ⟨by omega, by omega, by omega, fun s7 q7 => ?_⟩
  have i7 := i6.zc hd 8 _ (by decide) (by decide) rfl
  rw [Int.toNat_natCast, e0] at q7
  rw [← q7] at i7
  refine s_tcopy hb hc hd i7 (by decide) (fun s8 i8 => s_tcopy hb hc hd i8 (by decide) (fun s9 i9 s10 q10 => ?_))
  have i10 := i9.zu hd (by decide) 9
  rw [← q10] at i10
  refine s_tcopy hb hc hd i10 (by decide) (fun s11 i11 s12 q12 => ?_)
  have i12 := i11.zu hd (by decide) 11
  rw [← q12] at i12
  refine ⟨by rw [nc 18 (by decide)]; decide, by rw [nb 18 (by decide)]; decide, fun s13 q13 => ?_⟩
  have i13 := i12.zc hd 18 10 (by decide) (by decide) (nb 18 (by decide)).symm
  rw [e10, e0] at q13
  rw [← q13] at i13
  refine s_tcopy hb hc hd i13 (by decide) (fun s14 i14 => h s14 ⟨i14.1, ⟨i14.2.1 0 (by decide), i14.2.1 9 (by decide), i14.2.1 11 (by decide)⟩, fun o h1 h2 j hj => ?_⟩)
  by_cases hm : o ∈ [19 + 2, 19 + 1, 18, 15 + 2, 15 + 1, 12 + 2, 12 + 1, 9 + 2, 9 + 1, 8, 7, 4 + 2, 4 + 1, 3, 2, 1]
  · exact i14.2.2 o hm j hj
  · rw [nb o h2] at hj
    have : o = 4 ∨ o = 9 ∨ o = 12 ∨ o = 15 ∨ o = 19 := by simp at hm; omega
    rcases this with rfl | rfl | rfl | rfl | rfl <;> exact absurd hj (Nat.not_lt_zero _)
