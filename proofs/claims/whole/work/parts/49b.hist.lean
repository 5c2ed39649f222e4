/-! PURE: the history, saving -/
def pushH (hs : List (Nat → Int)) (f : Nat → Int) : List (Nat → Int) := if hs.length = 10 then hs.tail ++ [f] else hs ++ [f]
theorem pushH_len {hs : List (Nat → Int)} {f : Nat → Int} (h : hs.length ≤ 10) : (pushH hs f).length = if hs.length = 10 then 10 else hs.length + 1 := by
  unfold pushH
  split
  · next q => rw [List.length_append, List.length_tail, q]; rfl
  · rw [List.length_append]; rfl
theorem hist_zk {k i : Nat} (hk : zk k = 5) (hi : i < 10) : zk (k + 47 + 1 + 1 + 22 * i) = 2 := by
  have h0 := zf_5_history hk
  have h1 := zf_0_entries h0
  have hn : zn (k + 47 + 1) = 10 := zk_all (P := fun k => zk k = 11 → zn k = 10) (by decide +kernel) h1 (by decide) h1
  have := zf_el (i := (i : Int)) h1 (by omega) (by rw [hn]; omega)
  simpa using this
theorem s_push {σ : Sto} {k : Nat} {f : Nat → Int} {hs : List (Nat → Int)} {P : Sto → Prop} (hk : zk k = 5) (hr : repS σ (k + 3) f) (hw : wfF f) (hh : histX σ k hs)
    (h : ∀ τ, (∀ i, (i < k + 47 ∨ k + 268 < i) → τ i = σ i) → histX τ k (pushH hs f) → P τ) : vX0_push (k + 47) (k + 3) P σ := by
  obtain ⟨h2, h10, nx, hnx, h1, hj⟩ := hh
  have h0 := zf_5_history hk
  have hE := zf_0_entries h0
  have hn : zn (k + 47 + 1) = 10 := zk_all (P := fun k => zk k = 11 → zn k = 10) (by decide +kernel) hE (by decide) hE
  have hz := hist_zk hk hnx
  unfold vX0_push
  rw [h1, Int.toNat_natCast]
  refine ⟨by omega, by rw [hn]; omega, s_copyFrom hz (zf_5_state hk) (by omega) (fun s1 c1 => ?_)⟩
  have hc := c1.1
  have e47 : s1 (k + 47) = σ (k + 47) := hc _ (by omega)
  have hnew := hr.cp hz (zf_5_state hk) hw c1
  rw [e47, h1]
  -- both ways to the end
  have fin : ∀ y : Nat, y < 10 → y = (nx + 1) % 10 → vX0_push_35 (k + 47) (k + 3) P (y : Int) s1 := by
    intro y hy ey s2 q2
    subst q2
    rw [zu_j (by decide), e47, h2]
    refine ⟨zR_s (by omega) (by omega), fun s3 q3 => ?_⟩
    subst q3
    have hlen := pushH_len (f := f) h10
    refine h _ (fun i hi => by rw [zu_ne (by omega), zu_ne (by omega)]; exact hc i (by omega)) ⟨?_, by rw [hlen]; split <;> omega, y, hy, ?_, fun j hjl => ?_⟩
    · rw [zu_eq, hlen]
      split
      · next q => rw [if_pos (by omega)]; rfl
      · next q => rw [if_neg (by omega)]; omega
    · rw [zu_j (by decide), zu_eq]
    · have fr1 : ∀ b g, k + 47 < b → repS s1 b g → repS (zu (zu s1 (k + 47) 1 (y : Int)) (k + 47) 2 (if 10 < (hs.length : Int) + 1 then 10 else (hs.length : Int) + 1)) b g := fun b g hb hr => hr.fr (fun i h1 h2 => by rw [zu_ne (by omega), zu_ne (by omega)])
      by_cases q : hs.length = 10
      · have el : (pushH hs f).length = 10 := by rw [hlen, if_pos q]
        have e : pushH hs f = hs.tail ++ [f] := by unfold pushH; rw [if_pos q]
        rw [el] at hjl ⊢
        by_cases q9 : j = 9
        · subst q9
          have e2 : (pushH hs f)[9] = f := by
            simp only [e]
            rw [List.getElem_append_right (by rw [List.length_tail, q]; decide)]
            simp
          rw [e2]
          refine ⟨fr1 _ _ (by unfold hsX; omega) ?_, hw⟩
          have : hsX k y 10 9 = k + 47 + 1 + 1 + 22 * nx := by unfold hsX; omega
          rw [this]
          exact hnew
        · have hj1 : j + 1 < hs.length := by omega
          have e2 : (pushH hs f)[j] = hs[j + 1] := by
            simp only [e]
            rw [List.getElem_append_left (by rw [List.length_tail, q]; omega)]
            simp
          rw [e2]
          have old := hj (j + 1) hj1
          refine ⟨fr1 _ _ (by unfold hsX; omega) ?_, old.2⟩
          have : hsX k y 10 j = hsX k nx hs.length (j + 1) := by unfold hsX; rw [q]; omega
          rw [this]
          refine old.1.fr (fun i g1 g2 => hc i ?_)
          unfold hsX at g1 g2
          rw [q] at g1 g2
          omega
      · have el : (pushH hs f).length = hs.length + 1 := by rw [hlen, if_neg q]
        have e : pushH hs f = hs ++ [f] := by unfold pushH; rw [if_neg q]
        rw [el] at hjl ⊢
        by_cases q9 : j = hs.length
        · subst q9
          have e2 : (pushH hs f)[hs.length] = f := by simp only [e]; simp
          rw [e2]
          refine ⟨fr1 _ _ (by unfold hsX; omega) ?_, hw⟩
          have : hsX k y (hs.length + 1) hs.length = k + 47 + 1 + 1 + 22 * nx := by unfold hsX; omega
          rw [this]
          exact hnew
        · have hj1 : j < hs.length := by omega
          have e2 : (pushH hs f)[j] = hs[j] := by
            simp only [e]
            rw [List.getElem_append_left hj1]
          rw [e2]
          have old := hj j hj1
          refine ⟨fr1 _ _ (by unfold hsX; omega) ?_, old.2⟩
          have : hsX k y (hs.length + 1) j = hsX k nx hs.length j := by unfold hsX; omega
          rw [this]
          refine old.1.fr (fun i g1 g2 => hc i ?_)
          unfold hsX at g1 g2
          omega
  refine ⟨zR_s (by omega) (by omega), fun z => ?_, fun z => ?_⟩
  · exact fin 0 (by decide) (by omega)
  · have := fin (nx + 1) (by omega) (by omega)
    exact_mod_cast this
theorem s_pop {σ : Sto} {k : Nat} {hs : List (Nat → Int)} {P : Sto → Prop} (hk : zk k = 5) (hh : histX σ k hs) (hne : hs.length ≠ 0)
    (h : ∀ τ g, hs.getLast? = some g → (∀ i, i ≠ k + 47 → (i < k + 3 ∨ k + 24 < i) → τ i = σ i) → repS τ (k + 3) g → wfF g → histX τ k hs.dropLast → τ (k + 47) 2 = ((hs.length - 1 : Nat) : Int) → P τ) : vX0_pop (k + 47) (k + 3) P σ := by
  obtain ⟨h2, h10, nx, hnx, h1, hj⟩ := hh
  have h0 := zf_5_history hk
  have hE := zf_0_entries h0
  have hn : zn (k + 47 + 1) = 10 := zk_all (P := fun k => zk k = 11 → zn k = 10) (by decide +kernel) hE (by decide) hE
  have fin : ∀ y : Nat, y < 10 → y = (nx + 9) % 10 → vX0_pop_19 (k + 47) (k + 3) P (y : Int) σ := by
    intro y hy ey s1 q1 s2 q2
    subst q2
    subst q1
    rw [zu_j (by decide), zu_eq, Int.toNat_natCast, zu_j (by decide), h2]
    refine ⟨by omega, by rw [hn]; omega, s_copyFrom (zf_5_state hk) (hist_zk hk hy) (by omega) (fun s3 c3 => ?_)⟩
    have hc := c3.1
    have lastg : hs.getLast? = some (hs[hs.length - 1]) := by rw [List.getLast?_eq_getElem?, List.getElem?_eq_getElem (by omega)]
    have old := hj (hs.length - 1) (by omega)
    have eb : hsX k nx hs.length (hs.length - 1) = k + 47 + 1 + 1 + 22 * y := by unfold hsX; omega
    rw [eb] at old
    have frz : ∀ b g, k + 47 < b → repS σ b g → repS (zu (zu σ (k + 47) 1 (y : Int)) (k + 47) 2 ((hs.length : Int) - 1)) b g := fun b g hb hr => hr.fr (fun i h1 h2 => by rw [zu_ne (by omega), zu_ne (by omega)])
    have new := (frz _ _ (by omega) old.1).cp (zf_5_state hk) (hist_zk hk hy) old.2 c3
    refine h s3 _ lastg (fun i hi1 hi2 => by rw [hc i hi2, zu_ne hi1, zu_ne hi1]) new old.2 ⟨?_, by rw [List.length_dropLast]; omega, y, hy, ?_, fun j hjl => ?_⟩ ?_
    · rw [hc _ (by omega), zu_eq, List.length_dropLast]; omega
    · rw [hc _ (by omega), zu_j (by decide), zu_eq]
    · have hjl' := hjl
      rw [List.length_dropLast] at hjl'
      have oldj := hj j (by omega)
      have e : hsX k y hs.dropLast.length j = hsX k nx hs.length j := by rw [List.length_dropLast]; unfold hsX; omega
      rw [List.getElem_dropLast, e]
      refine ⟨(frz _ _ (by unfold hsX; omega) oldj.1).fr (fun i g1 g2 => hc i ?_), oldj.2⟩
      unfold hsX at g1
      omega
    · rw [hc _ (by omega), zu_eq]; omega
  unfold vX0_pop
  rw [h1]
  refine ⟨zR_s (by omega) (by omega), fun z => ?_, fun z => ?_⟩
  · exact fin 9 (by decide) (by omega)
  · have := fin (nx - 1) (by omega) (by omega)
    rw [show ((nx - 1 : Nat) : Int) = (nx : Int) - 1 by omega] at this
    exact this
/-- the reference remembers -/
theorem s7_remember {σ : Sto} {m : Nat} {hs : List (Nat → Int)} {P : Sto → Prop} (hm : zk m = 6) (hh : histM σ m hs)
    (h : ∀ τ, (∀ i, i ≠ m → i ≠ m + 2 → τ i = σ i) → (∀ j, j ≠ 2 → j ≠ 8 → τ m j = σ m j) → τ m 8 = 0 → histM τ m (pushH hs (σ (m + 1))) → P τ) : vX7_remember m P σ := by
  obtain ⟨h2, h10, hj⟩ := hh
  have z := mz hm
  have hlen := pushH_len (f := σ (m + 1)) h10
  -- the end, with n rows remembered
  have fin : ∀ (τ : Sto) (n : Nat), n ≤ 9 → τ m 2 = (n : Int) → (∀ i, i ≠ m → i ≠ m + 2 → τ i = σ i) → (∀ j, j ≠ 2 → τ m j = σ m j) → (pushH hs (σ (m + 1))).length = n + 1 → (∀ j, (hj : j < n) → ∀ (hj2 : j < (pushH hs (σ (m + 1))).length), eqR (pushH hs (σ (m + 1)))[j] (fun i => τ (m + 2) (1743 * j + i))) → (∀ (hj2 : n < (pushH hs (σ (m + 1))).length), (pushH hs (σ (m + 1)))[n] = σ (m + 1)) → vX7_remember_37 m P τ := by
    intro τ n hn e2 hf hfm hl hold hnew
    unfold vX7_remember_37
    rw [e2]
    refine ⟨by omega, by rw [z.1]; decide, by rw [z.2.1]; omega, fun s1 q1 s2 q2 s3 q3 => ?_⟩
    subst q3
    subst q2
    subst q1
    have en : (1743 * (n : Int)).toNat = 1743 * n := by omega
    rw [en, show Int.toNat 0 = 0 from rfl, show Int.toNat 1743 = 1743 from rfl, zc_ne (by omega : m ≠ m + 2), e2]
    refine h _ (fun i hi1 hi2 => by rw [zu_ne hi1, zu_ne hi1, zc_ne hi2]; exact hf i hi1 hi2) (fun j hj1 hj2 => by rw [zu_j hj2, zu_j hj1, zc_ne (by omega : m ≠ m + 2)]; exact hfm j hj1) (by rw [zu_eq]) ⟨by rw [zu_j (by decide), zu_eq, hl]; omega, by omega, fun j hjl i hi => ?_⟩
    rw [zu_ne (by omega : m + 2 ≠ m), zu_ne (by omega : m + 2 ≠ m), zc_fun]
    simp only
    by_cases q : j = n
    · subst q
      rw [if_pos (by omega), hf (m + 1) (by omega) (by omega), hnew hjl]
      congr 1
      omega
    · rw [if_neg (by omega)]
      exact hold j (by omega) hjl i hi
  unfold vX7_remember
  rw [h2]
  refine ⟨zR_s (by omega) (by omega), fun w => ?_, fun w => ⟨by rw [z.2.1]; decide, by rw [z.2.1]; decide, fun s4 q4 s5 q5 => ?_⟩⟩
  · have e : pushH hs (σ (m + 1)) = hs ++ [σ (m + 1)] := by unfold pushH; rw [if_neg (by omega)]
    refine fin σ hs.length (by omega) h2 (fun _ _ _ => rfl) (fun _ _ => rfl) (by rw [e]; simp) (fun j hj1 hj2 => ?_) (fun hj2 => by simp only [e]; simp)
    have : (pushH hs (σ (m + 1)))[j] = hs[j] := by simp only [e]; rw [List.getElem_append_left hj1]
    rw [this]
    exact hj j hj1
  · subst q5
    subst q4
    have hl : hs.length = 10 := by omega
    have e : pushH hs (σ (m + 1)) = hs.tail ++ [σ (m + 1)] := by unfold pushH; rw [if_pos hl]
    rw [show Int.toNat 0 = 0 from rfl, show Int.toNat 1743 = 1743 from rfl, show Int.toNat 15687 = 15687 from rfl, zc_ne (by omega : m ≠ m + 2), h2]
    refine fin _ 9 (by omega) (by rw [zu_eq]; omega) (fun i hi1 hi2 => by rw [zu_ne hi1, zc_ne hi2]) (fun j hj1 => by rw [zu_j hj1, zc_ne (by omega : m ≠ m + 2)]) (by rw [e]; simp [hl]) (fun j hj1 hj2 i hi => ?_) (fun hj2 => ?_)
    · have : (pushH hs (σ (m + 1)))[j] = hs[j + 1] := by
        simp only [e]
        rw [List.getElem_append_left (by rw [List.length_tail, hl]; omega)]
        simp
      rw [this, zu_ne (by omega : m + 2 ≠ m), zc_fun]
      simp only
      rw [if_pos (by omega)]
      have := hj (j + 1) (by omega) i hi
      simp only at this
      rw [this]
      congr 1
      omega
    · simp only [e]
      rw [List.getElem_append_right (by rw [List.length_tail, hl]; decide)]
      simp
