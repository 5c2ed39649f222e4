/-! InflectionGuesserLaw.append(LInflectionGuesser;C[J)I -/
def vL_append (k0 : Nat) (x1 : Int) (k2 : Nat) (P : Int → Sto → Prop) (σ : Sto) : Prop :=
  vX6_append k0 x1 (fun r1 s1 =>
  zR r1 ∧
  (0 < (zn k2 : Int) ∧
  (∀ s2 : Sto, s2 = zu s1 k2 (Int.toNat 0) r1 →
  (P 0 s2)))) (fun i s9 => (i = 0 → False) ∧ (i = 1 → P 1 s9) ∧ (i = 2 → P 2 s9) ∧ (i = 3 → False)) σ
/-! InflectionGuesserLaw.inputLetter(LInflectionGuesser;I[J)I -/
def vL_inputLetter (k0 : Nat) (x1 : Int) (k2 : Nat) (P : Int → Sto → Prop) (σ : Sto) : Prop :=
  vX6_inputLetter k0 x1 (fun r1 s1 =>
  zR r1 ∧
  (0 < (zn k2 : Int) ∧
  (∀ s2 : Sto, s2 = zu s1 k2 (Int.toNat 0) r1 →
  (P 0 s2)))) (fun i s9 => (i = 0 → P 1 s9) ∧ (i = 1 → False) ∧ (i = 2 → False) ∧ (i = 3 → False)) σ
/-! InflectionGuesserLaw.addParadigm(LInflectionGuesser;[J)I -/
def vL_addParadigm (k0 : Nat) (k1 : Nat) (P : Int → Sto → Prop) (σ : Sto) : Prop :=
  vX6_addParadigm k0 (fun r1 s1 =>
  zR r1 ∧
  (0 < (zn k1 : Int) ∧
  (∀ s2 : Sto, s2 = zu s1 k1 (Int.toNat 0) r1 →
  (P 0 s2)))) (fun i s9 => (i = 0 → False) ∧ (i = 1 → False) ∧ (i = 2 → P 1 s9) ∧ (i = 3 → False)) σ
/-! InflectionGuesserLaw.addCell(LInflectionGuesser;III[J)I -/
def vL_addCell (k0 : Nat) (x1 : Int) (x2 : Int) (x3 : Int) (k4 : Nat) (P : Int → Sto → Prop) (σ : Sto) : Prop :=
  vX6_addCell k0 x1 x2 x3 (fun r1 s1 =>
  zR r1 ∧
  (0 < (zn k4 : Int) ∧
  (∀ s2 : Sto, s2 = zu s1 k4 (Int.toNat 0) r1 →
  (P 0 s2)))) (fun i s9 => (i = 0 → P 1 s9) ∧ (i = 1 → P 2 s9) ∧ (i = 2 → P 3 s9) ∧ (i = 3 → False)) σ
/-! InflectionGuesserLaw.removeLastCell(LInflectionGuesser;I[J)I -/
def vL_removeLastCell (k0 : Nat) (x1 : Int) (k2 : Nat) (P : Int → Sto → Prop) (σ : Sto) : Prop :=
  vX6_removeLastCell k0 x1 (fun r1 s1 =>
  zR r1 ∧
  (0 < (zn k2 : Int) ∧
  (∀ s2 : Sto, s2 = zu s1 k2 (Int.toNat 0) r1 →
  (P 0 s2)))) (fun i s9 => (i = 0 → P 1 s9) ∧ (i = 1 → False) ∧ (i = 2 → False) ∧ (i = 3 → P 2 s9)) σ
/-! InflectionGuesserLaw.cellCount(LInflectionGuesser;I[J)I -/
def vL_cellCount (k0 : Nat) (x1 : Int) (k2 : Nat) (P : Int → Sto → Prop) (σ : Sto) : Prop :=
  vX6_cellCount k0 x1 (fun r1 s1 =>
  zR r1 ∧
  (0 < (zn k2 : Int) ∧
  (∀ s2 : Sto, s2 = zu s1 k2 (Int.toNat 0) r1 →
  (P 0 s2)))) (fun i s9 => (i = 0 → P 1 s9) ∧ (i = 1 → False) ∧ (i = 2 → False) ∧ (i = 3 → False)) σ
/-! InflectionGuesserLaw.cell(LInflectionGuesser;III[J)I -/
def vL_cell (k0 : Nat) (x1 : Int) (x2 : Int) (x3 : Int) (k4 : Nat) (P : Int → Sto → Prop) (σ : Sto) : Prop :=
  vX6_cell k0 x1 x2 x3 (fun r1 s1 =>
  zR r1 ∧
  (0 < (zn k4 : Int) ∧
  (∀ s2 : Sto, s2 = zu s1 k4 (Int.toNat 0) r1 →
  (P 0 s2)))) (fun i s9 => (i = 0 → P 1 s9) ∧ (i = 1 → P 2 s9) ∧ (i = 2 → False) ∧ (i = 3 → False)) σ
/-! InflectionGuesserLaw.setCondition(LInflectionGuesser;III[J)I -/
def vL_setCondition (k0 : Nat) (x1 : Int) (x2 : Int) (x3 : Int) (k4 : Nat) (P : Int → Sto → Prop) (σ : Sto) : Prop :=
  vX6_setCondition k0 x1 x2 x3 (fun r1 s1 =>
  zR r1 ∧
  (0 < (zn k4 : Int) ∧
  (∀ s2 : Sto, s2 = zu s1 k4 (Int.toNat 0) r1 →
  (P 0 s2)))) (fun i s9 => (i = 0 → P 1 s9) ∧ (i = 1 → P 2 s9) ∧ (i = 2 → False) ∧ (i = 3 → False)) σ
/-! InflectionGuesserLaw.fulfills(LInflectionGuesser;I[J)I -/
def vL_fulfills_15 (k0 : Nat) (k2 : Nat) (P : Int → Sto → Prop) (y0 y1 : Int) (σ : Sto) : Prop :=
  0 ≤ y1 ∧ y1 < (zn k2 : Int) ∧
  (∀ s2 : Sto, s2 = zu σ k2 (Int.toNat y1) y0 →
  (P 0 s2))
def vL_fulfills (k0 : Nat) (x1 : Int) (k2 : Nat) (P : Int → Sto → Prop) (σ : Sto) : Prop :=
  vX6_fulfills k0 x1 (fun r1 s1 =>
  zR r1 ∧
  ((r1 = 0) →
  vL_fulfills_15 k0 k2 P 0 0 s1) ∧
  ((¬ (r1 = 0)) →
  vL_fulfills_15 k0 k2 P 1 0 s1)) (fun i s9 => (i = 0 → P 1 s9) ∧ (i = 1 → False) ∧ (i = 2 → False) ∧ (i = 3 → False)) σ
/-! InflectionGuesserLaw.inflect(LInflectionGuesser;II[J)I -/
def vL_inflect (k0 : Nat) (x1 : Int) (x2 : Int) (k3 : Nat) (P : Int → Sto → Prop) (σ : Sto) : Prop :=
  vX6_inflect k0 x1 x2 (fun r1 s1 =>
  zR r1 ∧
  (0 < (zn k3 : Int) ∧
  (∀ s2 : Sto, s2 = zu s1 k3 (Int.toNat 0) r1 →
  (P 0 s2)))) (fun i s9 => (i = 0 → P 1 s9) ∧ (i = 1 → False) ∧ (i = 2 → P 2 s9) ∧ (i = 3 → P 3 s9)) σ
/-! InflectionGuesserLaw.addWord(LInflectionGuesser;[J)I -/
def vL_addWord (k0 : Nat) (k1 : Nat) (P : Int → Sto → Prop) (σ : Sto) : Prop :=
  vX6_addWord k0 (fun r1 s1 =>
  zR r1 ∧
  (0 < (zn k1 : Int) ∧
  (∀ s2 : Sto, s2 = zu s1 k1 (Int.toNat 0) r1 →
  (P 0 s2)))) (fun i s9 => (i = 0 → False) ∧ (i = 1 → P 1 s9) ∧ (i = 2 → P 2 s9) ∧ (i = 3 → False)) σ
/-! InflectionGuesserLaw.removeWord(LInflectionGuesser;I[J)I -/
def vL_removeWord (k0 : Nat) (x1 : Int) (k2 : Nat) (P : Int → Sto → Prop) (σ : Sto) : Prop :=
  vX6_removeWord k0 x1 (fun r1 s1 =>
  zR r1 ∧
  (0 < (zn k2 : Int) ∧
  (∀ s2 : Sto, s2 = zu s1 k2 (Int.toNat 0) r1 →
  (P 0 s2)))) (fun i s9 => (i = 0 → P 1 s9) ∧ (i = 1 → False) ∧ (i = 2 → False) ∧ (i = 3 → False)) σ
/-! InflectionGuesserLaw.wordLength(LInflectionGuesser;I[J)I -/
def vL_wordLength (k0 : Nat) (x1 : Int) (k2 : Nat) (P : Int → Sto → Prop) (σ : Sto) : Prop :=
  vX6_wordLength k0 x1 (fun r1 s1 =>
  zR r1 ∧
  (0 < (zn k2 : Int) ∧
  (∀ s2 : Sto, s2 = zu s1 k2 (Int.toNat 0) r1 →
  (P 0 s2)))) (fun i s9 => (i = 0 → P 1 s9) ∧ (i = 1 → False) ∧ (i = 2 → False) ∧ (i = 3 → False)) σ
/-! InflectionGuesserLaw.wordLetter(LInflectionGuesser;II[J)I -/
def vL_wordLetter (k0 : Nat) (x1 : Int) (x2 : Int) (k3 : Nat) (P : Int → Sto → Prop) (σ : Sto) : Prop :=
  vX6_wordLetter k0 x1 x2 (fun r1 s1 =>
  zR r1 ∧
  (0 < (zn k3 : Int) ∧
  (∀ s2 : Sto, s2 = zu s1 k3 (Int.toNat 0) r1 →
  (P 0 s2)))) (fun i s9 => (i = 0 → P 1 s9) ∧ (i = 1 → False) ∧ (i = 2 → False) ∧ (i = 3 → False)) σ
/-! InflectionGuesserLaw.longestEnding(LInflectionGuesser;I[J)I -/
def vL_longestEnding (k0 : Nat) (x1 : Int) (k2 : Nat) (P : Int → Sto → Prop) (σ : Sto) : Prop :=
  vX6_longestEnding k0 x1 (fun r1 s1 =>
  zR r1 ∧
  (0 < (zn k2 : Int) ∧
  (∀ s2 : Sto, s2 = zu s1 k2 (Int.toNat 0) r1 →
  (P 0 s2)))) (fun i s9 => (i = 0 → P 1 s9) ∧ (i = 1 → False) ∧ (i = 2 → False) ∧ (i = 3 → P 2 s9)) σ
/-! InflectionGuesserLaw.endings(LInflectionGuesser;I[J)I -/
def vL_endings (k0 : Nat) (x1 : Int) (k2 : Nat) (P : Int → Sto → Prop) (σ : Sto) : Prop :=
  vX6_endings k0 x1 (fun r1 s1 =>
  zR r1 ∧
  (0 < (zn k2 : Int) ∧
  (∀ s2 : Sto, s2 = zu s1 k2 (Int.toNat 0) r1 →
  (P 0 s2)))) (fun i s9 => (i = 0 → P 1 s9) ∧ (i = 1 → False) ∧ (i = 2 → False) ∧ (i = 3 → False)) σ
/-! InflectionGuesserLaw.hypothesis(LInflectionGuesser;II[J)I -/
def vL_hypothesis (k0 : Nat) (x1 : Int) (x2 : Int) (k3 : Nat) (P : Int → Sto → Prop) (σ : Sto) : Prop :=
  vX6_hypothesis k0 x1 x2 (fun r1 s1 =>
  zR r1 ∧
  (0 < (zn k3 : Int) ∧
  (∀ s2 : Sto, s2 = zu s1 k3 (Int.toNat 0) r1 →
  (P 0 s2)))) (fun i s9 => (i = 0 → P 1 s9) ∧ (i = 1 → P 2 s9) ∧ (i = 2 → False) ∧ (i = 3 → False)) σ
/-! InflectionGuesserLaw.stemLetter(LInflectionGuesser;II[J)I -/
def vL_stemLetter (k0 : Nat) (x1 : Int) (x2 : Int) (k3 : Nat) (P : Int → Sto → Prop) (σ : Sto) : Prop :=
  vX6_stemLetter k0 x1 x2 (fun r1 s1 =>
  zR r1 ∧
  (0 < (zn k3 : Int) ∧
  (∀ s2 : Sto, s2 = zu s1 k3 (Int.toNat 0) r1 →
  (P 0 s2)))) (fun i s9 => (i = 0 → P 1 s9) ∧ (i = 1 → False) ∧ (i = 2 → False) ∧ (i = 3 → False)) σ
/-! InflectionGuesserLaw.explains(LInflectionGuesser;II[J)I -/
def vL_explains_16 (k0 : Nat) (k3 : Nat) (P : Int → Sto → Prop) (y0 y1 : Int) (σ : Sto) : Prop :=
  0 ≤ y1 ∧ y1 < (zn k3 : Int) ∧
  (∀ s2 : Sto, s2 = zu σ k3 (Int.toNat y1) y0 →
  (P 0 s2))
def vL_explains (k0 : Nat) (x1 : Int) (x2 : Int) (k3 : Nat) (P : Int → Sto → Prop) (σ : Sto) : Prop :=
  vX6_explains k0 x1 x2 (fun r1 s1 =>
  zR r1 ∧
  ((r1 = 0) →
  vL_explains_16 k0 k3 P 0 0 s1) ∧
  ((¬ (r1 = 0)) →
  vL_explains_16 k0 k3 P 1 0 s1)) (fun i s9 => (i = 0 → P 1 s9) ∧ (i = 1 → False) ∧ (i = 2 → False) ∧ (i = 3 → False)) σ
/-! InflectionGuesserLaw.explanations(LInflectionGuesser;I[J)I -/
def vL_explanations (k0 : Nat) (x1 : Int) (k2 : Nat) (P : Int → Sto → Prop) (σ : Sto) : Prop :=
  vX6_explanations k0 x1 (fun r1 s1 =>
  zR r1 ∧
  (0 < (zn k2 : Int) ∧
  (∀ s2 : Sto, s2 = zu s1 k2 (Int.toNat 0) r1 →
  (P 0 s2)))) (fun i s9 => (i = 0 → P 1 s9) ∧ (i = 1 → False) ∧ (i = 2 → False) ∧ (i = 3 → False)) σ
/-! InflectionGuesserLaw.attestedShare(LInflectionGuesser;I[D)I -/
def vL_attestedShare (k0 : Nat) (x1 : Int) (k2 : Nat) (P : Int → Sto → Prop) (σ : Sto) : Prop :=
  vX6_attestedShare k0 x1 (fun r1 s1 =>
  0 < (zn k2 : Int) ∧
  (∀ s2 : Sto, s2 = zu s1 k2 (Int.toNat 0) r1 →
  (P 0 s2))) (fun i s9 => (i = 0 → P 1 s9) ∧ (i = 1 → False) ∧ (i = 2 → False) ∧ (i = 3 → False)) σ
/-! InflectionGuesserLaw.accept(LInflectionGuesser;I[J)I -/
def vL_accept (k0 : Nat) (x1 : Int) (k2 : Nat) (P : Int → Sto → Prop) (σ : Sto) : Prop :=
  vX6_accept k0 x1 (fun r1 s1 =>
  zR r1 ∧
  (0 < (zn k2 : Int) ∧
  (∀ s2 : Sto, s2 = zu s1 k2 (Int.toNat 0) r1 →
  (P 0 s2)))) (fun i s9 => (i = 0 → P 1 s9) ∧ (i = 1 → False) ∧ (i = 2 → P 2 s9) ∧ (i = 3 → False)) σ
/-! InflectionGuesserLaw.lexeme(LInflectionGuesser;II[J)I -/
def vL_lexeme (k0 : Nat) (x1 : Int) (x2 : Int) (k3 : Nat) (P : Int → Sto → Prop) (σ : Sto) : Prop :=
  vX6_lexeme k0 x1 x2 (fun r1 s1 =>
  zR r1 ∧
  (0 < (zn k3 : Int) ∧
  (∀ s2 : Sto, s2 = zu s1 k3 (Int.toNat 0) r1 →
  (P 0 s2)))) (fun i s9 => (i = 0 → P 1 s9) ∧ (i = 1 → P 2 s9) ∧ (i = 2 → False) ∧ (i = 3 → False)) σ
/-! InflectionGuesserLaw.takeStem(LInflectionGuesser;I[J)I -/
def vL_takeStem (k0 : Nat) (x1 : Int) (k2 : Nat) (P : Int → Sto → Prop) (σ : Sto) : Prop :=
  vX6_takeStem k0 x1 (fun r1 s1 =>
  zR r1 ∧
  (0 < (zn k2 : Int) ∧
  (∀ s2 : Sto, s2 = zu s1 k2 (Int.toNat 0) r1 →
  (P 0 s2)))) (fun i s9 => (i = 0 → P 1 s9) ∧ (i = 1 → False) ∧ (i = 2 → False) ∧ (i = 3 → False)) σ
/-! InflectionGuesserLaw.setException(LInflectionGuesser;II[J)I -/
def vL_setException (k0 : Nat) (x1 : Int) (x2 : Int) (k3 : Nat) (P : Int → Sto → Prop) (σ : Sto) : Prop :=
  vX6_setException k0 x1 x2 (fun r1 s1 =>
  zR r1 ∧
  (0 < (zn k3 : Int) ∧
  (∀ s2 : Sto, s2 = zu s1 k3 (Int.toNat 0) r1 →
  (P 0 s2)))) (fun i s9 => (i = 0 → P 1 s9) ∧ (i = 1 → P 2 s9) ∧ (i = 2 → False) ∧ (i = 3 → False)) σ
/-! InflectionGuesserLaw.clearException(LInflectionGuesser;II[J)I -/
def vL_clearException (k0 : Nat) (x1 : Int) (x2 : Int) (k3 : Nat) (P : Int → Sto → Prop) (σ : Sto) : Prop :=
  vX6_clearException k0 x1 x2 (fun r1 s1 =>
  zR r1 ∧
  (0 < (zn k3 : Int) ∧
  (∀ s2 : Sto, s2 = zu s1 k3 (Int.toNat 0) r1 →
  (P 0 s2)))) (fun i s9 => (i = 0 → P 1 s9) ∧ (i = 1 → False) ∧ (i = 2 → False) ∧ (i = 3 → P 2 s9)) σ
/-! InflectionGuesserLaw.takeForm(LInflectionGuesser;II[J)I -/
def vL_takeForm (k0 : Nat) (x1 : Int) (x2 : Int) (k3 : Nat) (P : Int → Sto → Prop) (σ : Sto) : Prop :=
  vX6_takeForm k0 x1 x2 (fun r1 s1 =>
  zR r1 ∧
  (0 < (zn k3 : Int) ∧
  (∀ s2 : Sto, s2 = zu s1 k3 (Int.toNat 0) r1 →
  (P 0 s2)))) (fun i s9 => (i = 0 → P 1 s9) ∧ (i = 1 → False) ∧ (i = 2 → False) ∧ (i = 3 → P 2 s9)) σ
/-! InflectionGuesserLaw.hasForm(LInflectionGuesser;II[J)I -/
def vL_hasForm_16 (k0 : Nat) (k3 : Nat) (P : Int → Sto → Prop) (y0 y1 : Int) (σ : Sto) : Prop :=
  0 ≤ y1 ∧ y1 < (zn k3 : Int) ∧
  (∀ s2 : Sto, s2 = zu σ k3 (Int.toNat y1) y0 →
  (P 0 s2))
def vL_hasForm (k0 : Nat) (x1 : Int) (x2 : Int) (k3 : Nat) (P : Int → Sto → Prop) (σ : Sto) : Prop :=
  vX6_hasForm k0 x1 x2 (fun r1 s1 =>
  zR r1 ∧
  ((r1 = 0) →
  vL_hasForm_16 k0 k3 P 0 0 s1) ∧
  ((¬ (r1 = 0)) →
  vL_hasForm_16 k0 k3 P 1 0 s1)) (fun i s9 => (i = 0 → P 1 s9) ∧ (i = 1 → False) ∧ (i = 2 → False) ∧ (i = 3 → False)) σ
/-! InflectionGuesserLaw.missing(LInflectionGuesser;I[J)I -/
def vL_missing (k0 : Nat) (x1 : Int) (k2 : Nat) (P : Int → Sto → Prop) (σ : Sto) : Prop :=
  vX6_missing k0 x1 (fun r1 s1 =>
  zR r1 ∧
  (0 < (zn k2 : Int) ∧
  (∀ s2 : Sto, s2 = zu s1 k2 (Int.toNat 0) r1 →
  (P 0 s2)))) (fun i s9 => (i = 0 → P 1 s9) ∧ (i = 1 → False) ∧ (i = 2 → False) ∧ (i = 3 → False)) σ
/-! InflectionGuesserLaw.missingCell(LInflectionGuesser;II[J)I -/
def vL_missingCell (k0 : Nat) (x1 : Int) (x2 : Int) (k3 : Nat) (P : Int → Sto → Prop) (σ : Sto) : Prop :=
  vX6_missingCell k0 x1 x2 (fun r1 s1 =>
  zR r1 ∧
  (0 < (zn k3 : Int) ∧
  (∀ s2 : Sto, s2 = zu s1 k3 (Int.toNat 0) r1 →
  (P 0 s2)))) (fun i s9 => (i = 0 → P 1 s9) ∧ (i = 1 → False) ∧ (i = 2 → False) ∧ (i = 3 → P 2 s9)) σ
/-! InflectionGuesserLaw.lexemesOf(LInflectionGuesser;I[J)I -/
def vL_lexemesOf (k0 : Nat) (x1 : Int) (k2 : Nat) (P : Int → Sto → Prop) (σ : Sto) : Prop :=
  vX6_lexemesOf k0 x1 (fun r1 s1 =>
  zR r1 ∧
  (0 < (zn k2 : Int) ∧
  (∀ s2 : Sto, s2 = zu s1 k2 (Int.toNat 0) r1 →
  (P 0 s2)))) (fun i s9 => (i = 0 → P 1 s9) ∧ (i = 1 → False) ∧ (i = 2 → False) ∧ (i = 3 → False)) σ
/-! InflectionGuesserLaw.undo(LInflectionGuesser;[J)I -/
def vL_undo (k0 : Nat) (k1 : Nat) (P : Int → Sto → Prop) (σ : Sto) : Prop :=
  vX6_undo k0 (fun r1 s1 =>
  zR r1 ∧
  (0 < (zn k1 : Int) ∧
  (∀ s2 : Sto, s2 = zu s1 k1 (Int.toNat 0) r1 →
  (P 0 s2)))) (fun i s9 => (i = 0 → False) ∧ (i = 1 → False) ∧ (i = 2 → False) ∧ (i = 3 → P 1 s9)) σ
/-! InflectionGuesserLaw.restore(LInflectionGuesser;[J)I -/
def vL_restore (k0 : Nat) (k1 : Nat) (P : Int → Sto → Prop) (σ : Sto) : Prop :=
  vX6_restore k0 (fun r1 s1 =>
  zR r1 ∧
  (0 < (zn k1 : Int) ∧
  (∀ s2 : Sto, s2 = zu s1 k1 (Int.toNat 0) r1 →
  (P 0 s2)))) (fun i s9 => (i = 0 → False) ∧ (i = 1 → False) ∧ (i = 2 → P 1 s9) ∧ (i = 3 → False)) σ
