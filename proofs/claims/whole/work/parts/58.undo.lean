/-! PURE: undo, save, restore -/
section
variable {σ τ : Sto} {k m : Nat} {f g : Nat → Int} {sv : Option (Nat → Int)} {hs : List (Nat → Int)} {inp inp' : List Int} {P : Int → Sto → Prop} {X : Nat → Sto → Prop} {Q : Sto → Prop} {x y w kd pr : Int}
theorem x_undo (h : XI σ k f sv hs inp) (h1 : hs.length = 0 → xU σ k (eqF f) sv hs inp (X 3)) (h2 : ∀ g, hs.getLast? = some g → xU σ k (eqR g) sv hs.dropLast inp (P ((hs.length - 1 : Nat) : Int))) : vX6_undo k P X σ := by
  have hh := h.2.2.2.2.1
  have e2 := hh.1
  have l10 := hh.2.1
  unfold vX6_undo
  rw [e2]
  refine ⟨zR_s (by omega) (by omega), fun a => ?_, fun a => xU.same h (h1 (by omega))⟩
  refine s_pop h.1 hh (by omega) (fun τ g hg e hr hw hh2 hc s2 q2 => ?_)
  have e' : ∀ i, i ≠ k + 269 → s2 i = τ i := fun i hi => by rw [q2, zu_ne hi]
  rw [e' _ (by omega), hc]
  refine h2 g hg s2 (fun g' hg' => h.new (fun i hi => by rw [e' i (by omega), e i (by omega) (by omega)]) (by
    obtain ⟨a, b⟩ := h.2.1.1.fr (τ := s2) (by rw [e' _ (by omega), e _ (by omega) (by omega)]) (by rw [e' _ (by omega), e _ (by omega) (by omega)])
    exact ⟨a, by rw [b]; exact h.2.1.2⟩) ((hr.fr (fun i g1 g2 => e' i (by omega))).eq hg' hw) (hw.eq hg') (hh2.fr (fun i g1 g2 => e' i (by omega))) (by rw [q2, zu_eq])) (fun i hi => by rw [e' i (by omega), e i (by omega) (by omega)])
theorem hist_wf (h : XI σ k f sv hs inp) {g : Nat → Int} (hg : g ∈ hs) : wfF g := by
  obtain ⟨-, -, nx, -, -, hj⟩ := h.2.2.2.2.1
  obtain ⟨j, hjl, e⟩ := List.getElem_of_mem hg
  rw [← e]
  exact (hj j hjl).2
theorem m_undo (h : MI σ m f sv hs inp) (hwf : ∀ g ∈ hs, wfF g) (h1 : hs.length = 0 → mU σ m (eqF f) sv hs inp 1 (P 0)) (h2 : ∀ g, hs.getLast? = some g → mU σ m (eqR g) sv hs.dropLast inp 0 (P ((hs.length - 1 : Nat) : Int))) : vX7_undo m P σ := by
  have hh := h.hist
  have e2 := hh.1
  have l10 := hh.2.1
  have z := mz h.1
  unfold vX7_undo
  rw [e2]
  refine ⟨zR_s (by omega) (by omega), fun a => m_go0 ?_, fun a => m_go1 (by decide) (mU.same h (h1 (by omega)))⟩
  intro s2 q2
  have v2 : s2 m 2 = ((hs.length - 1 : Nat) : Int) := by rw [q2, zu_eq, zu_j (by decide), e2]; omega
  rw [v2, show ((1743 : Int) * ((hs.length - 1 : Nat) : Int)) = ((1743 * (hs.length - 1) : Nat) : Int) by omega, Int.toNat_natCast, show Int.toNat 0 = 0 from rfl, show Int.toNat 1743 = 1743 from rfl]
  refine ⟨by omega, by rw [z.2.1]; omega, by rw [z.1]; omega, fun s3 q3 s4 q4 => ?_⟩
  have lastg : hs.getLast? = some (hs[hs.length - 1]) := by rw [List.getLast?_eq_getElem?, List.getElem?_eq_getElem (by omega)]
  have e4m : ∀ j, j ≠ 8 → j ≠ 2 → j ≠ 7 → s4 m j = σ m j := fun j a b c => by rw [q4, zu_j a, q3, zc_ne (by omega), q2, zu_j b, zu_j c]
  have e4 : ∀ i, i ≠ m → i ≠ m + 1 → s4 i = σ i := fun i a b => by rw [q4, zu_ne a, q3, zc_ne b, q2, zu_ne a, zu_ne a]
  have v42 : s4 m 2 = ((hs.length - 1 : Nat) : Int) := by rw [q4, zu_j (by decide), q3, zc_ne (by omega), v2]
  rw [v42]
  have er : eqR (hs[hs.length - 1]) (s4 (m + 1)) := fun i hi => by
    have o := hh.2.2 (hs.length - 1) (by omega) i hi
    simp only at o
    rw [o, q4, zu_ne (by omega), q3, zc_fun]
    simp only
    rw [if_pos (by omega), q2, zu_ne (by omega), zu_ne (by omega)]
    congr 1
  refine h2 _ lastg s4 (s4 (m + 1)) er ((h.thr 0).new (by rw [e4 _ (by omega) (by omega), zu_ne (by omega)]) (by rw [e4m 4 (by decide) (by decide) (by decide), zu_j (by decide)]) (by
    obtain ⟨a, b⟩ := h.2.1.1.fr (τ := s4) (e4 _ (by omega) (by omega))
    exact ⟨a, by rw [b]; exact h.2.1.2⟩) rfl ((hwf _ (List.getElem_mem _)).eq er) ⟨by rw [v42, List.length_dropLast], by rw [List.length_dropLast]; omega, fun j hj => ?_⟩ (by rw [q4, zu_eq])) (fun i hi => e4 i (by omega) (by omega)) (by rw [q4, zu_j (by decide), q3, zc_ne (by omega), q2, zu_j (by decide), zu_eq])
  rw [List.getElem_dropLast, e4 _ (by omega) (by omega)]
  rw [List.length_dropLast] at hj
  exact hh.2.2 j (by omega)
theorem x_save (h : XI σ k f sv hs inp) (h1 : xU σ k (eqF f) (some f) hs inp (P (f 2))) : vX6_save k P σ := by
  refine s_copyFrom (zf_5_savedState h.1) (zf_5_state h.1) (by omega) (fun τ hc s2 q2 => ?_)
  have e : ∀ i, i ≠ k → (i < k + 25 ∨ k + 46 < i) → s2 i = σ i := fun i a b => by rw [q2, zu_ne a]; exact hc.1 i (by omega)
  have hr : repS s2 (k + 25) f := (h.st.cp (zf_5_savedState h.1) (zf_5_state h.1) h.wf hc).fr (fun i g1 g2 => by rw [q2, zu_ne (by omega)])
  have e269 := e (k + 269) (by omega) (by omega)
  rw [e _ (by omega) (by omega), h.st.1.2.2]
  refine h1 s2 (fun g hg => ?_) (fun i hi => e i (by omega) (by omega))
  cases hg
  obtain ⟨a, b⟩ := h.2.1.1.fr (τ := s2) (e _ (by omega) (by omega)) (e _ (by omega) (by omega))
  exact ⟨h.1, ⟨a, by rw [b]; exact h.2.1.2⟩, ⟨h.st.fr (fun i g1 g2 => e i (by omega) (by omega)), h.wf⟩, Or.inr ⟨f, rfl, by rw [q2, zu_eq], hr, h.wf⟩, h.2.2.2.2.1.fr (fun i g1 g2 => e i (by omega) (by omega)), by rw [e269]; exact h.2.2.2.2.2.1, fun z => (h.2.2.2.2.2.2 (by rw [← e269]; exact z)).fr (by rw [e269]) (fun i g1 g2 => e i (by omega) (by omega))⟩
theorem m_save (h : MI σ m f sv hs inp) (h1 : mU σ m (eqF f) (some f) hs inp 0 (P (f 2))) : vX7_save m P σ := by
  have z := mz h.1
  intro s1 q1
  refine ⟨by rw [z.1]; omega, by rw [z.2.2.1]; omega, fun s2 q2 s3 q3 => ⟨by rw [z.1]; decide, ?_⟩⟩
  rw [show Int.toNat 0 = 0 from rfl, show Int.toNat 1743 = 1743 from rfl] at q2
  have e3m : ∀ j, j ≠ 4 → j ≠ 7 → s3 m j = σ m j := fun j a b => by rw [q3, zu_j a, q2, zc_ne (by omega), q1, zu_j b]
  have e3 : ∀ i, i ≠ m → i ≠ m + 3 → s3 i = σ i := fun i a b => by rw [q3, zu_ne a, q2, zc_ne b, q1, zu_ne a]
  have er : s3 (m + 1) = f := by rw [e3 _ (by omega) (by omega)]; exact h.row
  rw [show Int.toNat 2 = 2 from rfl, er]
  obtain ⟨a, b⟩ := h.2.1.1.fr (τ := s3) (e3 _ (by omega) (by omega))
  refine h1 s3 f rfl ⟨h.1, ⟨a, by rw [b]; exact h.2.1.2⟩, ⟨er, h.wf⟩, Or.inr ⟨f, rfl, by rw [q3, zu_eq], fun i hi => ?_⟩, h.hist.fr (e3m 2 (by decide) (by decide)) (e3 _ (by omega) (by omega)), by rw [e3m 8 (by decide) (by decide)]; exact h.2.2.2.2.2.1, fun w => (h.2.2.2.2.2.2 (by rw [← e3m 8 (by decide) (by decide)]; exact w)).fr (e3m 9 (by decide) (by decide)) (fun i g1 g2 => e3 i (by omega) (by omega))⟩ (fun i hi => e3 i (by omega) (by omega)) (by rw [q3, zu_j (by decide), q2, zc_ne (by omega), q1, zu_eq])
  rw [q3, zu_ne (by omega), q2, zc_fun]
  simp only
  rw [if_pos (by omega), q1, zu_ne (by omega), h.row]
  congr 1
  omega
theorem x_restore (h : XI σ k f sv hs inp) (h1 : sv = none → xU σ k (eqF f) sv hs inp (X 2)) (h2 : ∀ g, sv = some g → xU σ k (eqR g) sv [] inp (P (g 2))) : vX6_restore k P X σ := by
  have hsv := h.2.2.2.1
  have e3r : σ k 3 = 0 ∨ σ k 3 = 1 := by
    rcases hsv with ⟨-, a⟩ | ⟨g, -, a, -⟩
    · exact Or.inl a
    · exact Or.inr a
  refine ⟨zR_s (by omega) (by omega), fun a => ?_, fun a => ?_⟩
  · rcases hsv with ⟨-, b⟩ | ⟨g, eg, b, hr, hw⟩
    · exact absurd b a
    · refine s_copyFrom (zf_5_state h.1) (zf_5_savedState h.1) (by omega) (fun s1 hc s2 q2 s3 q3 => ?_)
      have e3 : ∀ i, i ≠ k + 269 → i ≠ k + 47 → s3 i = s1 i := fun i a b => by rw [q3, zu_ne a, q2, zu_ne b]
      have ee : ∀ i, i ≠ k + 269 → i ≠ k + 47 → (i < k + 3 ∨ k + 24 < i) → s3 i = σ i := fun i a b c => by rw [e3 i a b]; exact hc.1 i (by omega)
      have hr' : repS s3 (k + 3) g := (hr.cp (zf_5_state h.1) (zf_5_savedState h.1) hw hc).fr (fun i g1 g2 => e3 i (by omega) (by omega))
      rw [hr'.1.2.2]
      refine h2 g eg s3 (fun g' hg' => h.new (fun i hi => ee i (by omega) (by omega) (by omega)) (by
        obtain ⟨a, b⟩ := h.2.1.1.fr (τ := s3) (ee _ (by omega) (by omega) (by omega)) (ee _ (by omega) (by omega) (by omega))
        exact ⟨a, by rw [b]; exact h.2.1.2⟩) (hr'.eq hg' hw) (hw.eq hg') ⟨by rw [q3, zu_ne (by omega), q2, zu_eq]; rfl, by simp, ?_⟩ (by rw [q3, zu_eq])) (fun i hi => ee i (by omega) (by omega) (by omega))
      obtain ⟨-, -, nx, n1, n2, -⟩ := h.2.2.2.2.1
      exact ⟨nx, n1, by rw [q3, zu_ne (by omega), q2, zu_j (by decide), hc.1 _ (by omega)]; exact n2, fun j hj => absurd hj (by simp)⟩
  · rcases hsv with ⟨b, -⟩ | ⟨g, eg, b, hr, hw⟩
    · exact xU.same h (h1 b)
    · omega
theorem sav_wf (h : XI σ k f sv hs inp) {g : Nat → Int} (e : sv = some g) : wfF g := by
  rcases h.2.2.2.1 with ⟨a, -⟩ | ⟨g', eg, -, -, hw⟩
  · rw [a] at e; exact absurd e (by simp)
  · rw [eg] at e
    cases e
    exact hw
theorem m_restore (h : MI σ m f sv hs inp) (hwf : ∀ g, sv = some g → wfF g) (h1 : sv = none → mU σ m (eqF f) sv hs inp 1 (P 0)) (h2 : ∀ g, sv = some g → mU σ m (eqR g) sv [] inp 0 (P (g 2))) : vX7_restore m P σ := by
  have hsv := h.2.2.2.1
  have z := mz h.1
  have e4r : σ m 4 = 0 ∨ σ m 4 = 1 := by
    rcases hsv with ⟨-, a⟩ | ⟨g, -, a, -⟩
    · exact Or.inl a
    · exact Or.inr a
  refine ⟨zR_s (by omega) (by omega), fun a => ?_, fun a => ?_⟩
  · rcases hsv with ⟨b, -⟩ | ⟨g, eg, b, er⟩
    · exact m_go1 (by decide) (mU.same h (h1 b))
    · omega
  · rcases hsv with ⟨-, b⟩ | ⟨g, eg, b, er⟩
    · exact absurd b a
    · refine m_go0 ⟨by rw [z.2.2.1]; omega, by rw [z.1]; omega, fun s2 q2 s3 q3 s4 q4 => ⟨by rw [z.1]; decide, ?_⟩⟩
      rw [show Int.toNat 0 = 0 from rfl, show Int.toNat 1743 = 1743 from rfl] at q2
      have e4m : ∀ j, j ≠ 8 → j ≠ 2 → j ≠ 7 → s4 m j = σ m j := fun j a b c => by rw [q4, zu_j a, q3, zu_j b, q2, zc_ne (by omega), zu_j c]
      have e4 : ∀ i, i ≠ m → i ≠ m + 1 → s4 i = σ i := fun i a b => by rw [q4, zu_ne a, q3, zu_ne a, q2, zc_ne b, zu_ne a]
      have er' : eqR g (s4 (m + 1)) := fun i hi => by
        rw [er i hi, q4, zu_ne (by omega), q3, zu_ne (by omega), q2, zc_fun]
        simp only
        rw [if_pos (by omega), zu_ne (by omega)]
        congr 1
        omega
      rw [show Int.toNat 2 = 2 from rfl, ← er' 2 (by decide)]
      exact h2 g eg s4 (s4 (m + 1)) er' ((h.thr 0).new (by rw [e4 _ (by omega) (by omega), zu_ne (by omega)]) (by rw [e4m 4 (by decide) (by decide) (by decide), zu_j (by decide)]) (by
        obtain ⟨a, b⟩ := h.2.1.1.fr (τ := s4) (e4 _ (by omega) (by omega))
        exact ⟨a, by rw [b]; exact h.2.1.2⟩) rfl ((hwf g eg).eq er') ⟨by rw [q4, zu_j (by decide), q3, zu_eq]; rfl, by simp, fun j hj => absurd hj (by simp)⟩ (by rw [q4, zu_eq])) (fun i hi => e4 i (by omega) (by omega)) (by rw [q4, zu_j (by decide), q3, zu_j (by decide), q2, zc_ne (by omega), zu_eq])
end
