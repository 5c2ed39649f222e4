/-! PURE: sorting the hypotheses; each once -/
def kf (f : Nat → Int) (V : List (Nat × List Int)) (a : Nat) : Nat := ((V[a]?).map (fun q => keyF f q.1 q.2)).getD 0
theorem kf_some {f : Nat → Int} {V : List (Nat × List Int)} {a : Nat} {q : Nat × List Int} (h : V[a]? = some q) : kf f V a = keyF f q.1 q.2 := by unfold kf; rw [h, Option.map_some, Option.getD_some]
/-- the arrays hold V, but for place pl -/
def arrH (σ : Sto) (r : Nat) (f : Nat → Int) (V : List (Nat × List Int)) (pl : Nat) : Prop := ∀ i q, i ≠ pl → V[i]? = some q → σ (r + 1) i = ((keyF f q.1 q.2 : Nat) : Int) ∧ σ (r + 2) i = ((bs (exw f q.1 q.2) 16 : Nat) : Int)
def arr (σ : Sto) (r : Nat) (f : Nat → Int) (V : List (Nat × List Int)) : Prop := ∀ i q, V[i]? = some q → σ (r + 1) i = ((keyF f q.1 q.2 : Nat) : Int) ∧ σ (r + 2) i = ((bs (exw f q.1 q.2) 16 : Nat) : Int)
def eR (σ τ : Sto) (r : Nat) : Prop := ∀ i, i ≠ r + 1 → i ≠ r + 2 → τ i = σ i
theorem eR.trans {σ τ υ : Sto} {r : Nat} (h : eR σ τ r) (h2 : eR τ υ r) : eR σ υ r := fun i a b => (h2 i a b).trans (h i a b)
theorem eR.refl {σ : Sto} {r : Nat} : eR σ σ r := fun _ _ _ => rfl
def srt (f : Nat → Int) (V : List (Nat × List Int)) (n : Nat) : Prop := ∀ a b, a < b → b < n → kf f V a ≤ kf f V b
section
variable {σ τ : Sto} {r b : Nat} {f : Nat → Int} {P Q : Sto → Prop} {L V : List (Nat × List Int)} {K7 : Int → Sto → Prop} {K13 : Int → Int → Sto → Prop}
theorem kf_lt (hw : wfF f) {q : Nat × List Int} (h : isH f q.1 q.2) : keyF f q.1 q.2 < 2 ^ 63 := by
  have b := isH_b hw h
  exact keyN_lt (by omega) (by omega) b.2.2.1 b.2.2.2.1
theorem zQ_key (hw : wfF f) {q : Nat × List Int} (h : isH f q.1 q.2) : zQ ((keyF f q.1 q.2 : Nat) : Int) := by
  have := kf_lt hw h
  unfold zQ
  omega
theorem sort_exit {g i pl : Nat} {q0 : Nat × List Int} (hr : zk r = 1) (hpl : pl < 2880) (hq : V[pl]? = some q0) (ha : arrH τ r f V pl) (h1 : ∀ υ, eR τ υ r → arr υ r f V → K13 (g : Int) ((i : Int) + 1) υ) : vX1_sort_100 r P K7 K13 (g : Int) (i : Int) ((keyF f q0.1 q0.2 : Nat) : Int) ((bs (exw f q0.1 q0.2) 16 : Nat) : Int) (pl : Int) τ := by
  have K := hy_k hr
  refine ⟨by omega, by omega, fun s1 q1 => ⟨by omega, by omega, fun s2 q2 => ?_⟩⟩
  rw [Int.toNat_natCast] at q1 q2
  refine h1 s2 (fun j a b => by rw [q2, zu_ne b, q1, zu_ne a]) (fun j q hj => ?_)
  by_cases e : j = pl
  · subst e
    rw [hq] at hj
    have := Option.some.inj hj
    subst this
    exact ⟨by rw [q2, zu_ne (by omega), q1, zu_eq], by rw [q2, zu_eq]⟩
  · have := ha j q e hj
    exact ⟨by rw [q2, zu_ne (by omega), q1, zu_j e]; exact this.1, by rw [q2, zu_j e, q1, zu_ne (by omega)]; exact this.2⟩
theorem x_sort_39 {g i : Nat} {q0 : Nat × List Int} (hr : zk r = 1) (hw : wfF f) (hg : 1 ≤ g) (hg2 : g ≤ L.length) (hN : L.length ≤ 2880) (hi : i < L.length) (hH : ∀ q ∈ L, isH f q.1 q.2)
    (h1 : ∀ τ V, eR σ τ r → V.Perm L → arr τ r f V → (g = 1 → srt f V (i + 1)) → K13 (g : Int) ((i : Int) + 1) τ) :
    ∀ (n pl : Nat) (τ : Sto) (V : List (Nat × List Int)), pl < n → pl ≤ i → V.Perm L → eR σ τ r → V[pl]? = some q0 → arrH τ r f V pl → (g = 1 → (∀ a b, a < b → b ≤ i → a ≠ pl → b ≠ pl → kf f V a ≤ kf f V b) ∧ ∀ b, pl < b → b ≤ i → keyF f q0.1 q0.2 < kf f V b) → vX1_sort_39 r P K7 K13 n (g : Int) (i : Int) ((keyF f q0.1 q0.2 : Nat) : Int) ((bs (exw f q0.1 q0.2) 16 : Nat) : Int) (pl : Int) τ := by
  intro n
  induction n with
  | zero => intro pl τ V a; omega
  | succ n ih =>
    intro pl τ V hn hpi hp he hq ha hs
    have K := hy_k hr
    have hl := hp.length_eq
    have hq0 : isH f q0.1 q0.2 := hH q0 (hp.mem_iff.mp (List.mem_of_getElem? hq))
    refine ⟨zR_s (by omega) (by omega), zR_s (by omega) (by omega), fun z => ?_, fun z => ?_⟩
    · refine sort_exit hr (by omega) hq ha (fun υ e A => h1 υ V (he.trans e) hp A (fun g1 a b hab hb => ?_))
      obtain ⟨s1, s2⟩ := hs g1
      have kq := kf_some (f := f) hq
      have pl0 : pl = 0 := by omega
      by_cases ea : a = pl
      · rw [ea, kq]; exact Nat.le_of_lt (s2 b (by omega) (by omega))
      · exact s1 a b hab (by omega) ea (by omega)
    · have hpg : pl - g < V.length := by omega
      have e1 : (pl : Int) - (g : Int) = ((pl - g : Nat) : Int) := by omega
      rw [e1, Int.toNat_natCast]
      have hqg : V[pl - g]? = some V[pl - g] := List.getElem?_eq_getElem hpg
      have A := ha (pl - g) _ (by omega) hqg
      have hqH : isH f V[pl - g].1 V[pl - g].2 := hH _ (hp.mem_iff.mp (List.getElem_mem hpg))
      rw [A.1]
      refine ⟨by omega, by omega, zQ_key hw hqH, zQ_key hw hq0, fun c => ?_, fun c => ⟨by omega, by omega, by omega, by omega, fun s3 q3 => ⟨by omega, by omega, by omega, by omega, fun s4 q4 => ?_⟩⟩⟩
      · have hle : keyF f V[pl - g].1 V[pl - g].2 ≤ keyF f q0.1 q0.2 := by
          unfold zcmp at c
          split at c
          · omega
          · split at c <;> omega
        refine sort_exit hr (by omega) hq ha (fun υ e A => h1 υ V (he.trans e) hp A (fun g1 a b hab hb => ?_))
        obtain ⟨s1, s2⟩ := hs g1
        have kq := kf_some (f := f) hq
        have kg := kf_some (f := f) hqg
        by_cases ea : a = pl
        · rw [ea, kq]; exact Nat.le_of_lt (s2 b (by omega) (by omega))
        · by_cases eb : b = pl
          · rw [eb, kq]
            by_cases ea2 : a = pl - g
            · rw [ea2, kg]; exact hle
            · have := s1 a (pl - g) (by omega) (by omega) ea (by omega)
              omega
          · exact s1 a b hab (by omega) ea eb
      · have hgt : keyF f q0.1 q0.2 < keyF f V[pl - g].1 V[pl - g].2 := by
          unfold zcmp at c
          split at c
          · omega
          · split at c <;> omega
        rw [Int.toNat_natCast] at q3 q4
        have hpl : pl < V.length := by omega
        have eq0 : V[pl] = q0 := by
          rw [List.getElem?_eq_getElem hpl] at hq
          exact Option.some.inj hq
        let V' := (V.set pl V[pl - g]).set (pl - g) V[pl]
        have hp' : V'.Perm L := (List.set_set_perm hpl hpg).trans hp
        have v1 : V'[pl - g]? = some q0 := by
          show ((V.set pl V[pl - g]).set (pl - g) V[pl])[pl - g]? = _
          rw [List.getElem?_set_self (by rw [List.length_set]; exact hpg), eq0]
        have v2 : V'[pl]? = some V[pl - g] := by
          show ((V.set pl V[pl - g]).set (pl - g) V[pl])[pl]? = _
          rw [List.getElem?_set_ne (by omega), List.getElem?_set_self hpl]
        have v3 : ∀ j, j ≠ pl → j ≠ pl - g → V'[j]? = V[j]? := fun j a b => by
          show ((V.set pl V[pl - g]).set (pl - g) V[pl])[j]? = _
          rw [List.getElem?_set_ne (Ne.symm b), List.getElem?_set_ne (Ne.symm a)]
        have := ih (pl - g) s4 V' (by omega) (by omega) hp' (he.trans (fun j a b => by rw [q4, zu_ne b, q3, zu_ne a])) v1 (fun j q hj hv => by
          by_cases e : j = pl
          · subst e
            rw [v2] at hv
            have := Option.some.inj hv
            subst this
            refine ⟨by rw [q4, zu_ne (by omega), q3, zu_eq], ?_⟩
            rw [q4, zu_eq, q3, zu_ne (by omega)]
            exact A.2
          · rw [v3 j e hj] at hv
            have := ha j q e hv
            exact ⟨by rw [q4, zu_ne (by omega), q3, zu_j e]; exact this.1, by rw [q4, zu_j e, q3, zu_ne (by omega)]; exact this.2⟩) (fun g1 => by
          obtain ⟨s1, s2⟩ := hs g1
          have kq : kf f V' (pl - g) = keyF f q0.1 q0.2 := kf_some v1
          have kp : kf f V' pl = kf f V (pl - g) := by rw [kf_some v2, kf_some hqg]
          have ko : ∀ j, j ≠ pl → j ≠ pl - g → kf f V' j = kf f V j := fun j a b => by unfold kf; rw [v3 j a b]
          have kg := kf_some (f := f) hqg
          subst g1
          refine ⟨fun a b hab hb ea eb => ?_, fun b hb1 hb2 => ?_⟩
          · by_cases a1 : a = pl
            · rw [a1, kp, ko b (by omega) eb]
              exact s1 (pl - 1) b (by omega) hb (by omega) (by omega)
            · by_cases b1 : b = pl
              · rw [b1, kp, ko a a1 ea]
                exact s1 a (pl - 1) (by omega) (by omega) a1 (by omega)
              · rw [ko a a1 ea, ko b b1 eb]
                exact s1 a b hab hb a1 b1
          · by_cases b1 : b = pl
            · rw [b1, kp, kg]; exact hgt
            · rw [ko b b1 (by omega)]
              exact s2 b (by omega) hb2)
        exact this
theorem x_sort_13 {g : Nat} (hr : zk r = 1) (hw : wfF f) (hg : 1 ≤ g) (hgN : g ≤ L.length) (hN : L.length ≤ 2880) (hH : ∀ q ∈ L, isH f q.1 q.2) (hc : σ r 2 = (L.length : Int))
    (h1 : ∀ τ V, eR σ τ r → V.Perm L → arr τ r f V → (g = 1 → srt f V L.length) → K7 (Int.tdiv (g : Int) 2) τ) :
    ∀ (n i : Nat) (τ : Sto) (V : List (Nat × List Int)), L.length - i < n → i ≤ L.length → V.Perm L → eR σ τ r → arr τ r f V → (g = 1 → srt f V i) → vX1_sort_13 r P K7 n (g : Int) (i : Int) τ := by
  intro n
  induction n with
  | zero => intro i τ V a; omega
  | succ n ih =>
    intro i τ V hn hi hp he ha hs
    have K := hy_k hr
    have e2 : τ r 2 = (L.length : Int) := by rw [he r (by omega) (by omega)]; exact hc
    unfold vX1_sort_13 bX1_sort_13
    rw [e2]
    refine ⟨zR_s (by omega) (by omega), zR_s (by omega) (by omega), fun z => ⟨zR_s (by omega) (by omega), ?_⟩, fun z => ⟨by omega, by omega, by omega, by omega, i + 1, ?_⟩⟩
    · have ei : i = L.length := by omega
      subst ei
      exact h1 τ V he hp ha hs
    · have hl := hp.length_eq
      have hiv : i < V.length := by omega
      have hq : V[i]? = some V[i] := List.getElem?_eq_getElem hiv
      have A := ha i _ hq
      rw [Int.toNat_natCast, A.1, A.2]
      exact x_sort_39 (σ := σ) hr hw hg hgN hN (by omega) hH (fun υ V2 e p2 A2 s2 => by
        have := ih (i + 1) υ V2 (by omega) (by omega) p2 e A2 s2
        exact_mod_cast this) (i + 1) i τ V (by omega) (Nat.le_refl _) hp he hq (fun j q _ hj => ha j q hj) (fun g1 => ⟨fun a b hab hb ea eb => hs g1 a b hab (by omega), fun b hb1 hb2 => by omega⟩)
theorem x_sort_7 (hr : zk r = 1) (hw : wfF f) (hN : L.length ≤ 2880) (hH : ∀ q ∈ L, isH f q.1 q.2) (hc : σ r 2 = (L.length : Int)) (h1 : ∀ τ V, eR σ τ r → V.Perm L → arr τ r f V → srt f V L.length → Q τ) : ∀ (n g : Nat) (τ : Sto) (V : List (Nat × List Int)), g < n → g ≤ L.length → V.Perm L → eR σ τ r → arr τ r f V → (g = 0 → srt f V L.length) → vX1_sort_7 r Q n (g : Int) τ := by
  intro n
  induction n with
  | zero => intro g τ V a; omega
  | succ n ih =>
    intro g τ V hn hgN hp he ha hs
    refine ⟨zR_s (by omega) (by omega), fun z => ?_, fun z => ⟨L.length + 1, ?_⟩⟩
    · exact h1 τ V he hp ha (hs (by omega))
    · have e2 : τ r 2 = (L.length : Int) := by rw [he r (by omega) (by omega)]; exact hc
      refine x_sort_13 (σ := τ) hr hw (by omega) hgN hN hH e2 (fun υ V2 e p2 A2 s2 => ?_) (L.length + 1) g τ V (by omega) hgN hp eR.refl ha (fun g1 a b hab hb => by omega)
      have ed : Int.tdiv (g : Int) 2 = ((g / 2 : Nat) : Int) := rfl
      rw [ed]
      exact ih (g / 2) υ V2 (by omega) (by omega) p2 (he.trans e) A2 (fun g0 => s2 (by omega))
theorem x_sort (hr : zk r = 1) (hw : wfF f) (hN : L.length ≤ 2880) (hE : ents σ r f L) (h1 : ∀ τ V, eR σ τ r → V.Perm L → arr τ r f V → srt f V L.length → Q τ) : vX1_sort r Q σ := by
  unfold vX1_sort
  rw [hE.1]
  refine ⟨zR_s (by omega) (by omega), L.length / 2 + 1, ?_⟩
  have ed : Int.tdiv (L.length : Int) 2 = ((L.length / 2 : Nat) : Int) := rfl
  rw [ed]
  exact x_sort_7 (σ := σ) hr hw hN hE.2.2 hE.1 h1 (L.length / 2 + 1) (L.length / 2) σ L (by omega) (by omega) (List.Perm.refl _) eR.refl hE.2.1 (fun g0 a b hab hb => by omega)
/-! each once -/
theorem drop_34 {V H : List (Nat × List Int)} {i : Nat} {q : Nat × List Int} {K4 : Int → Int → Sto → Prop} (hr : zk r = 1) (hV : V.length ≤ 2880) (hH : H.length ≤ i) (hq : V[i]? = some q) (hA : ∀ j q, i ≤ j → V[j]? = some q → τ (r + 1) j = ((keyF f q.1 q.2 : Nat) : Int) ∧ τ (r + 2) j = ((bs (exw f q.1 q.2) 16 : Nat) : Int)) (hB : arr τ r f H)
    (h1 : ∀ υ, eR τ υ r → (∀ j q, i + 1 ≤ j → V[j]? = some q → υ (r + 1) j = ((keyF f q.1 q.2 : Nat) : Int) ∧ υ (r + 2) j = ((bs (exw f q.1 q.2) 16 : Nat) : Int)) → arr υ r f (H ++ [q]) → K4 ((H.length : Int) + 1) ((i : Int) + 1) υ) : vX1_dropRepeated_34 r P K4 (H.length : Int) (i : Int) τ := by
  have K := hy_k hr
  have hi := (List.getElem?_eq_some_iff.mp hq).1
  refine ⟨by omega, by omega, by omega, by omega, fun s2 q2 => ⟨by omega, by omega, by omega, by omega, fun s3 q3 => ?_⟩⟩
  rw [Int.toNat_natCast, Int.toNat_natCast] at q2 q3
  have Ai := hA i q (Nat.le_refl _) hq
  have v1 : ∀ j, s3 (r + 1) j = if j = H.length then ((keyF f q.1 q.2 : Nat) : Int) else τ (r + 1) j := fun j => by
    rw [q3, zu_ne (by omega), q2]
    by_cases e : j = H.length
    · subst e; rw [zu_eq, if_pos rfl]; exact Ai.1
    · rw [zu_j e, if_neg e]
  have v2 : ∀ j, s3 (r + 2) j = if j = H.length then ((bs (exw f q.1 q.2) 16 : Nat) : Int) else τ (r + 2) j := fun j => by
    rw [q3]
    by_cases e : j = H.length
    · subst e; rw [zu_eq, if_pos rfl, q2, zu_ne (by omega)]; exact Ai.2
    · rw [zu_j e, if_neg e, q2, zu_ne (by omega)]
  refine h1 s3 (fun j a b => by rw [q3, zu_ne b, q2, zu_ne a]) (fun j q' hj hq' => by rw [v1, v2, if_neg (by omega), if_neg (by omega)]; exact hA j q' (by omega) hq') (fun j q' hq' => ?_)
  by_cases e : j = H.length
  · subst e
    rw [List.getElem?_append_right (Nat.le_refl _)] at hq'
    simp at hq'
    subst hq'
    exact ⟨by rw [v1, if_pos rfl], by rw [v2, if_pos rfl]⟩
  · have hj : j < H.length := by
      have := (List.getElem?_eq_some_iff.mp hq').1
      rw [List.length_append] at this
      simp at this
      omega
    rw [List.getElem?_append_left hj] at hq'
    rw [v1, v2, if_neg e, if_neg e]
    exact hB j q' hq'
theorem x_drop_4 {V : List (Nat × List Int)} (hr : zk r = 1) (hw : wfF f) (hV : V.length ≤ 2880) (hIH : ∀ q ∈ V, isH f q.1 q.2) (hS : srt f V V.length) (hc : σ r 2 = (V.length : Int))
    (h1 : ∀ τ H, (∀ i, i ≠ r → i ≠ r + 1 → i ≠ r + 2 → τ i = σ i) → (∀ j, j ≠ 2 → τ r j = σ r j) → τ r 2 = (H.length : Int) → arr τ r f H → (∀ a b, a < b → b < H.length → kf f H a < kf f H b) → (∀ q, q ∈ H ↔ q ∈ V) → H.length ≤ V.length → Q τ) :
    ∀ (n i : Nat) (τ : Sto) (H : List (Nat × List Int)), V.length - i < n → i ≤ V.length → H.length ≤ i → eR σ τ r → (∀ j q, i ≤ j → V[j]? = some q → τ (r + 1) j = ((keyF f q.1 q.2 : Nat) : Int) ∧ τ (r + 2) j = ((bs (exw f q.1 q.2) 16 : Nat) : Int)) → arr τ r f H → (∀ a b, a < b → b < H.length → kf f H a < kf f H b) → (∀ q, q ∈ H ↔ ∃ j, j < i ∧ V[j]? = some q) → vX1_dropRepeated_4 r Q n (H.length : Int) (i : Int) τ := by
  intro n
  induction n with
  | zero => intro i τ H a; omega
  | succ n ih =>
    intro i τ H hn hi hHi he hA hB hHs hmem
    have K := hy_k hr
    have e2 : τ r 2 = (V.length : Int) := by rw [he r (by omega) (by omega)]; exact hc
    unfold vX1_dropRepeated_4 bX1_dropRepeated_4
    rw [e2]
    refine ⟨zR_s (by omega) (by omega), zR_s (by omega) (by omega), fun z s1 q1 => ?_, fun z => ⟨zR_s (by omega) (by omega), fun k0 => ?_, fun k0 => ?_⟩⟩
    · refine h1 s1 H (fun j a b c => by rw [q1, zu_ne a]; exact he j b c) (fun j hj => by rw [q1, zu_j hj, he r (by omega) (by omega)]) (by rw [q1, zu_eq]) (fun j q hj => by rw [q1, zu_ne (by omega), zu_ne (by omega)]; exact hB j q hj) hHs (fun q => ?_) (by omega)
      rw [hmem q]
      constructor
      · rintro ⟨j, _, hj⟩; exact List.mem_of_getElem? hj
      · intro h
        obtain ⟨j, hj, ej⟩ := List.getElem_of_mem h
        exact ⟨j, by omega, by rw [List.getElem?_eq_getElem hj, ej]⟩
    · have hiV : i < V.length := by omega
      have hq : V[i]? = some V[i] := List.getElem?_eq_getElem hiV
      refine drop_34 hr hV hHi hq hA hB (fun υ e A' B' => ?_)
      have hH0 : H = [] := List.length_eq_zero_iff.mp (by omega)
      subst hH0
      have hi0 : i = 0 := by
        rcases Nat.eq_zero_or_pos i with h | h
        · exact h
        · have := (hmem V[0]).mpr ⟨0, h, List.getElem?_eq_getElem (by omega)⟩
          exact absurd this List.not_mem_nil
      have := ih (i + 1) υ ([] ++ [V[i]]) (by omega) (by omega) (by simp) (he.trans e) A' B' (fun a b hab hb => by simp at hb; omega) (fun q => by
        rw [List.nil_append, List.mem_singleton]
        constructor
        · intro h; exact ⟨i, by omega, by rw [h]; exact hq⟩
        · rintro ⟨j, hj, hj2⟩
          have : j = i := by omega
          subst this
          rw [hq] at hj2
          exact (Option.some.inj hj2).symm)
      exact_mod_cast this
    · have hiV : i < V.length := by omega
      have hq : V[i]? = some V[i] := List.getElem?_eq_getElem hiV
      have hHl : H.length - 1 < H.length := by omega
      have hl : H[H.length - 1]? = some H[H.length - 1] := List.getElem?_eq_getElem hHl
      have Ai := hA i _ (Nat.le_refl _) hq
      have Bl := hB _ _ hl
      have e1 : (H.length : Int) - 1 = ((H.length - 1 : Nat) : Int) := by omega
      obtain ⟨jl, hjl, ejl⟩ := (hmem H[H.length - 1]).mp (List.getElem_mem hHl)
      have hHi1 : isH f V[i].1 V[i].2 := hIH _ (List.getElem_mem hiV)
      have hHl1 : isH f H[H.length - 1].1 H[H.length - 1].2 := hIH _ (List.mem_of_getElem? ejl)
      rw [e1, Int.toNat_natCast, Int.toNat_natCast, Ai.1, Bl.1]
      refine ⟨by omega, by omega, by omega, by omega, zQ_key hw hHi1, zQ_key hw hHl1, fun c => ?_, fun c => ?_⟩
      · have ek : keyF f V[i].1 V[i].2 = keyF f H[H.length - 1].1 H[H.length - 1].2 := by
          unfold zcmp at c
          split at c
          · omega
          · split at c <;> omega
        have eq := keyF_inj hw hHi1 hHl1 ek
        have eq2 : V[i] = H[H.length - 1] := Prod.ext eq.1 eq.2
        have := ih (i + 1) τ H (by omega) (by omega) (by omega) he (fun j q hj hq' => hA j q (by omega) hq') hB hHs (fun q => by
          rw [hmem q]
          constructor
          · rintro ⟨j, hj, h⟩; exact ⟨j, by omega, h⟩
          · rintro ⟨j, hj, h⟩
            by_cases e : j = i
            · subst e
              rw [hq] at h
              have := Option.some.inj h
              exact ⟨jl, hjl, by rw [ejl, ← eq2, this]⟩
            · exact ⟨j, by omega, h⟩)
        exact_mod_cast this
      · have ne : keyF f V[i].1 V[i].2 ≠ keyF f H[H.length - 1].1 H[H.length - 1].2 := fun e => c (by
          unfold zcmp
          rw [if_neg (by omega), if_pos (by omega)])
        have le : kf f V jl ≤ kf f V i := hS jl i hjl hiV
        rw [kf_some ejl, kf_some hq] at le
        refine drop_34 hr hV hHi hq hA hB (fun υ e A' B' => ?_)
        have ll : (H ++ [V[i]]).length = H.length + 1 := by rw [List.length_append]; rfl
        have := ih (i + 1) υ (H ++ [V[i]]) (by omega) (by omega) (by omega) (he.trans e) A' B' (fun a b hab hb => by
          rw [ll] at hb
          have ka : kf f (H ++ [V[i]]) a = kf f H a := by unfold kf; rw [List.getElem?_append_left (by omega)]
          rw [ka]
          by_cases eb : b = H.length
          · subst eb
            have kb : kf f (H ++ [V[i]]) H.length = keyF f V[i].1 V[i].2 := kf_some (by rw [List.getElem?_append_right (Nat.le_refl _)]; simp)
            rw [kb]
            have kl := kf_some (f := f) hl
            by_cases ea : a = H.length - 1
            · rw [ea, kl]; omega
            · have := hHs a (H.length - 1) (by omega) (by omega)
              omega
          · have kb : kf f (H ++ [V[i]]) b = kf f H b := by unfold kf; rw [List.getElem?_append_left (by omega)]
            rw [kb]
            exact hHs a b hab (by omega)) (fun q => by
          rw [List.mem_append, List.mem_singleton, hmem q]
          constructor
          · rintro (⟨j, hj, h⟩ | h)
            · exact ⟨j, by omega, h⟩
            · exact ⟨i, by omega, by rw [h]; exact hq⟩
          · rintro ⟨j, hj, h⟩
            by_cases e : j = i
            · subst e
              rw [hq] at h
              exact Or.inr (Option.some.inj h).symm
            · exact Or.inl ⟨j, by omega, h⟩)
        rw [ll] at this
        exact_mod_cast this
/-- sorting and dropping: the list of all -/
theorem x_sortdrop (hr : zk r = 1) (hw : wfF f) (hN : L.length ≤ 2880) (hE : ents σ r f L) (hall : ∀ q : Nat × List Int, isH f q.1 q.2 → q ∈ L)
    (h1 : ∀ τ H, gR σ τ r → isHL f H → H.length ≤ 2880 → τ r 2 = (H.length : Int) → arr τ r f H → Q τ) : vX1_sort r (fun s3 => vX1_dropRepeated r (fun s4 => Q s4) s3) σ := by
  refine x_sort hr hw hN hE (fun τ V e p A S => ⟨V.length + 1, ?_⟩)
  have hl := p.length_eq
  rw [← hl] at S
  have := x_drop_4 (σ := τ) (Q := Q) (V := V) hr hw (by omega) (fun q hq => hE.2.2 q (p.mem_iff.mp hq)) S (by rw [e r (by omega) (by omega), hl]; exact hE.1) (fun υ H u1 u2 u3 u4 u5 u6 u7 => by
    refine h1 υ H ⟨fun i hi => by rw [u1 i (by omega) (by omega) (by omega), e i (by omega) (by omega)], fun j hj => by rw [u2 j hj, e r (by omega) (by omega)]⟩ ⟨fun i j hi hj hij => ?_, fun q => ?_⟩ (by omega) u3 u4
    · have := u5 i j hij hj
      rw [kf_some (List.getElem?_eq_getElem hi), kf_some (List.getElem?_eq_getElem hj)] at this
      exact this
    · rw [u6 q, p.mem_iff]
      exact ⟨fun h => hE.2.2 q h, fun h => hall q h⟩) (V.length + 1) 0 τ [] (by omega) (by omega) (by simp) eR.refl (fun j q _ hj => A j q hj) (fun j q hj => absurd hj (by simp)) (fun a b _ hb => absurd hb (by simp)) (fun q => ⟨fun h => absurd h List.not_mem_nil, fun ⟨j, hj, _⟩ => absurd hj (Nat.not_lt_zero j)⟩)
  exact_mod_cast this
end
