/-! InflectionGuesserModel.thrown()I -/
def vX7_thrown (k0 : Nat) (P : Int → Sto → Prop) (σ : Sto) : Prop :=
  P (σ k0 7) σ
/-! InflectionGuesserModel.in(JJJ)Z -/
def vX7_in_18 (P : Int → Sto → Prop) (y0 : Int) (σ : Sto) : Prop :=
  (y0 = 0 ∨ y0 = 1) ∧ P y0 σ
def vX7_in_17 (P : Int → Sto → Prop) (σ : Sto) : Prop :=
  vX7_in_18 P 0 σ
def vX7_in (x0 : Int) (x2 : Int) (x4 : Int) (P : Int → Sto → Prop) (σ : Sto) : Prop :=
  zQ x0 ∧ zQ x2 ∧
  ((((zcmp x0 x2) < 0) →
  vX7_in_17 P σ) ∧
  ((¬ ((zcmp x0 x2) < 0)) →
  zQ x0 ∧ zQ x4 ∧
  (((0 < (zcmp x0 x4)) →
  vX7_in_17 P σ) ∧
  ((¬ (0 < (zcmp x0 x4))) →
  vX7_in_18 P 1 σ))))
/-! InflectionGuesserModel.isVowel(I)Z -/
def vX7_isVowel_35 (P : Int → Sto → Prop) (y0 : Int) (σ : Sto) : Prop :=
  (y0 = 0 ∨ y0 = 1) ∧ P y0 σ
def vX7_isVowel_30 (P : Int → Sto → Prop) (σ : Sto) : Prop :=
  vX7_isVowel_35 P 1 σ
def vX7_isVowel (x0 : Int) (P : Int → Sto → Prop) (σ : Sto) : Prop :=
  zR x0 ∧
  ((x0 = 97) →
  vX7_isVowel_30 P σ) ∧
  ((¬ (x0 = 97)) →
  zR x0 ∧
  ((x0 = 101) →
  vX7_isVowel_30 P σ) ∧
  ((¬ (x0 = 101)) →
  zR x0 ∧
  ((x0 = 105) →
  vX7_isVowel_30 P σ) ∧
  ((¬ (x0 = 105)) →
  zR x0 ∧
  ((x0 = 111) →
  vX7_isVowel_30 P σ) ∧
  ((¬ (x0 = 111)) →
  zR x0 ∧
  ((¬ x0 = 117) →
  vX7_isVowel_35 P 0 σ) ∧
  ((x0 = 117) →
  vX7_isVowel_30 P σ)))))
/-! InflectionGuesserModel.vowel(I)I -/
def vX7_vowel_41 (P : Int → Sto → Prop) (y0 : Int) (σ : Sto) : Prop :=
  P y0 σ
def vX7_vowel (x0 : Int) (P : Int → Sto → Prop) (σ : Sto) : Prop :=
  zR x0 ∧
  ((¬ x0 = 0) →
  zR x0 ∧
  ((¬ x0 = 1) →
  zR x0 ∧
  ((¬ x0 = 2) →
  zR x0 ∧
  ((¬ x0 = 3) →
  vX7_vowel_41 P 117 σ) ∧
  ((x0 = 3) →
  vX7_vowel_41 P 111 σ)) ∧
  ((x0 = 2) →
  vX7_vowel_41 P 105 σ)) ∧
  ((x0 = 1) →
  vX7_vowel_41 P 101 σ)) ∧
  ((x0 = 0) →
  vX7_vowel_41 P 97 σ)
/-! InflectionGuesserModel.areSame([II[II)Z -/
def vX7_areSame_60 (k0 : Nat) (k2 : Nat) (P : Int → Sto → Prop) (x4 : Int) (σ : Sto) : Prop :=
  (x4 = 0 ∨ x4 = 1) ∧ P x4 σ
def vX7_areSame_52 (k0 : Nat) (k2 : Nat) (P : Int → Sto → Prop) (K19 : Int → Int → Int → Int → Sto → Prop) (x1 x3 x5 y0 : Int) (σ : Sto) : Prop :=
  K19 x1 x3 y0 (x5 + 1) σ
def bX7_areSame_19 (k0 : Nat) (k2 : Nat) (P : Int → Sto → Prop) (K19 : Int → Int → Int → Int → Sto → Prop) (x1 x3 x4 x5 : Int) (σ : Sto) : Prop :=
  0 ≤ x1 ∧ x1 < (zn k0 : Int) ∧
  (zR x5 ∧ zR (σ k0 (Int.toNat x1)) ∧
  (((σ k0 (Int.toNat x1)) < x5) →
  vX7_areSame_60 k0 k2 P x4 σ) ∧
  ((¬ ((σ k0 (Int.toNat x1)) < x5)) →
  zR x4 ∧
  ((x4 = 0) →
  vX7_areSame_60 k0 k2 P x4 σ) ∧
  ((¬ (x4 = 0)) →
  0 ≤ (x1 + x5) ∧ (x1 + x5) < (zn k0 : Int) ∧
  (0 ≤ (x3 + x5) ∧ (x3 + x5) < (zn k2 : Int) ∧
  (zR (σ k0 (Int.toNat (x1 + x5))) ∧ zR (σ k2 (Int.toNat (x3 + x5))) ∧
  ((¬ (σ k0 (Int.toNat (x1 + x5))) = (σ k2 (Int.toNat (x3 + x5)))) →
  vX7_areSame_52 k0 k2 P K19 x1 x3 x5 0 σ) ∧
  (((σ k0 (Int.toNat (x1 + x5))) = (σ k2 (Int.toNat (x3 + x5)))) →
  vX7_areSame_52 k0 k2 P K19 x1 x3 x5 1 σ))))))
def vX7_areSame_19 (k0 : Nat) (k2 : Nat) (P : Int → Sto → Prop) : Nat → Int → Int → Int → Int → Sto → Prop
  | 0 => fun _ _ _ _ _ => False
  | n + 1 => bX7_areSame_19 k0 k2 P (vX7_areSame_19 k0 k2 P n)
def vX7_areSame_14 (k0 : Nat) (k2 : Nat) (P : Int → Sto → Prop) (x1 x3 y0 : Int) (σ : Sto) : Prop :=
  ∃ n, vX7_areSame_19 k0 k2 P n x1 x3 y0 1 σ
def vX7_areSame (k0 : Nat) (x1 : Int) (k2 : Nat) (x3 : Int) (P : Int → Sto → Prop) (σ : Sto) : Prop :=
  0 ≤ x1 ∧ x1 < (zn k0 : Int) ∧
  (0 ≤ x3 ∧ x3 < (zn k2 : Int) ∧
  (zR (σ k0 (Int.toNat x1)) ∧ zR (σ k2 (Int.toNat x3)) ∧
  ((¬ (σ k0 (Int.toNat x1)) = (σ k2 (Int.toNat x3))) →
  vX7_areSame_14 k0 k2 P x1 x3 0 σ) ∧
  (((σ k0 (Int.toNat x1)) = (σ k2 (Int.toNat x3))) →
  vX7_areSame_14 k0 k2 P x1 x3 1 σ)))
/-! InflectionGuesserModel.endsIn([II[II)Z -/
def vX7_endsIn_68 (k0 : Nat) (k2 : Nat) (P : Int → Sto → Prop) (x4 : Int) (σ : Sto) : Prop :=
  (x4 = 0 ∨ x4 = 1) ∧ P x4 σ
def vX7_endsIn_60 (k0 : Nat) (k2 : Nat) (P : Int → Sto → Prop) (K19 : Int → Int → Int → Int → Sto → Prop) (x1 x3 x5 y0 : Int) (σ : Sto) : Prop :=
  K19 x1 x3 y0 (x5 + 1) σ
def bX7_endsIn_19 (k0 : Nat) (k2 : Nat) (P : Int → Sto → Prop) (K19 : Int → Int → Int → Int → Sto → Prop) (x1 x3 x4 x5 : Int) (σ : Sto) : Prop :=
  0 ≤ x3 ∧ x3 < (zn k2 : Int) ∧
  (zR x5 ∧ zR (σ k2 (Int.toNat x3)) ∧
  (((σ k2 (Int.toNat x3)) ≤ x5) →
  vX7_endsIn_68 k0 k2 P x4 σ) ∧
  ((¬ ((σ k2 (Int.toNat x3)) ≤ x5)) →
  zR x4 ∧
  ((x4 = 0) →
  vX7_endsIn_68 k0 k2 P x4 σ) ∧
  ((¬ (x4 = 0)) →
  0 ≤ x1 ∧ x1 < (zn k0 : Int) ∧
  (0 ≤ ((x1 + (σ k0 (Int.toNat x1))) - x5) ∧ ((x1 + (σ k0 (Int.toNat x1))) - x5) < (zn k0 : Int) ∧
  (0 ≤ x3 ∧ x3 < (zn k2 : Int) ∧
  (0 ≤ ((x3 + (σ k2 (Int.toNat x3))) - x5) ∧ ((x3 + (σ k2 (Int.toNat x3))) - x5) < (zn k2 : Int) ∧
  (zR (σ k0 (Int.toNat ((x1 + (σ k0 (Int.toNat x1))) - x5))) ∧ zR (σ k2 (Int.toNat ((x3 + (σ k2 (Int.toNat x3))) - x5))) ∧
  ((¬ (σ k0 (Int.toNat ((x1 + (σ k0 (Int.toNat x1))) - x5))) = (σ k2 (Int.toNat ((x3 + (σ k2 (Int.toNat x3))) - x5)))) →
  vX7_endsIn_60 k0 k2 P K19 x1 x3 x5 0 σ) ∧
  (((σ k0 (Int.toNat ((x1 + (σ k0 (Int.toNat x1))) - x5))) = (σ k2 (Int.toNat ((x3 + (σ k2 (Int.toNat x3))) - x5)))) →
  vX7_endsIn_60 k0 k2 P K19 x1 x3 x5 1 σ))))))))
def vX7_endsIn_19 (k0 : Nat) (k2 : Nat) (P : Int → Sto → Prop) : Nat → Int → Int → Int → Int → Sto → Prop
  | 0 => fun _ _ _ _ _ => False
  | n + 1 => bX7_endsIn_19 k0 k2 P (vX7_endsIn_19 k0 k2 P n)
def vX7_endsIn_14 (k0 : Nat) (k2 : Nat) (P : Int → Sto → Prop) (x1 x3 y0 : Int) (σ : Sto) : Prop :=
  ∃ n, vX7_endsIn_19 k0 k2 P n x1 x3 y0 0 σ
def vX7_endsIn (k0 : Nat) (x1 : Int) (k2 : Nat) (x3 : Int) (P : Int → Sto → Prop) (σ : Sto) : Prop :=
  0 ≤ x1 ∧ x1 < (zn k0 : Int) ∧
  (0 ≤ x3 ∧ x3 < (zn k2 : Int) ∧
  (zR (σ k0 (Int.toNat x1)) ∧ zR (σ k2 (Int.toNat x3)) ∧
  (((σ k0 (Int.toNat x1)) < (σ k2 (Int.toNat x3))) →
  vX7_endsIn_14 k0 k2 P x1 x3 0 σ) ∧
  ((¬ ((σ k0 (Int.toNat x1)) < (σ k2 (Int.toNat x3)))) →
  vX7_endsIn_14 k0 k2 P x1 x3 1 σ)))
/-! InflectionGuesserModel.copy([II[II)V -/
def bX7_copy_3 (k0 : Nat) (k2 : Nat) (P : Sto → Prop) (K3 : Int → Int → Int → Sto → Prop) (x1 x3 x4 : Int) (σ : Sto) : Prop :=
  0 ≤ x1 ∧ x1 < (zn k0 : Int) ∧
  (zR x4 ∧ zR (σ k0 (Int.toNat x1)) ∧
  (((σ k0 (Int.toNat x1)) < x4) →
  P σ) ∧
  ((¬ ((σ k0 (Int.toNat x1)) < x4)) →
  0 ≤ (x1 + x4) ∧ (x1 + x4) < (zn k0 : Int) ∧
  (0 ≤ (x3 + x4) ∧ (x3 + x4) < (zn k2 : Int) ∧
  (∀ s1 : Sto, s1 = zu σ k2 (Int.toNat (x3 + x4)) (σ k0 (Int.toNat (x1 + x4))) →
  (K3 x1 x3 (x4 + 1) s1)))))
def vX7_copy_3 (k0 : Nat) (k2 : Nat) (P : Sto → Prop) : Nat → Int → Int → Int → Sto → Prop
  | 0 => fun _ _ _ _ => False
  | n + 1 => bX7_copy_3 k0 k2 P (vX7_copy_3 k0 k2 P n)
def vX7_copy (k0 : Nat) (x1 : Int) (k2 : Nat) (x3 : Int) (P : Sto → Prop) (σ : Sto) : Prop :=
  ∃ n, vX7_copy_3 k0 k2 P n x1 x3 0 σ
/-! InflectionGuesserModel.lastVowel([II)I -/
def vX7_lastVowel_25 (k0 : Nat) (P : Int → Sto → Prop) (x2 : Int) (σ : Sto) : Prop :=
  P x2 σ
def bX7_lastVowel_4 (k0 : Nat) (P : Int → Sto → Prop) (K4 : Int → Int → Sto → Prop) (x1 x2 : Int) (σ : Sto) : Prop :=
  zR x2 ∧
  ((x2 ≤ 0) →
  vX7_lastVowel_25 k0 P x2 σ) ∧
  ((¬ (x2 ≤ 0)) →
  0 ≤ (x1 + x2) ∧ (x1 + x2) < (zn k0 : Int) ∧
  (vX7_isVowel (σ k0 (Int.toNat (x1 + x2))) (fun r1 s1 =>
  zR r1 ∧
  ((¬ r1 = 0) →
  vX7_lastVowel_25 k0 P x2 s1) ∧
  ((r1 = 0) →
  K4 x1 (x2 + (-1)) s1)) σ))
def vX7_lastVowel_4 (k0 : Nat) (P : Int → Sto → Prop) : Nat → Int → Int → Sto → Prop
  | 0 => fun _ _ _ => False
  | n + 1 => bX7_lastVowel_4 k0 P (vX7_lastVowel_4 k0 P n)
def vX7_lastVowel (k0 : Nat) (x1 : Int) (P : Int → Sto → Prop) (σ : Sto) : Prop :=
  0 ≤ x1 ∧ x1 < (zn k0 : Int) ∧
  (∃ n, vX7_lastVowel_4 k0 P n x1 (σ k0 (Int.toNat x1)) σ)
/-! InflectionGuesserModel.put([III)V -/
def vX7_put (k0 : Nat) (x1 : Int) (x2 : Int) (P : Sto → Prop) (σ : Sto) : Prop :=
  0 ≤ x1 ∧ x1 < (zn k0 : Int) ∧
  (0 ≤ x1 ∧ x1 < (zn k0 : Int) ∧
  (∀ s1 : Sto, s1 = zu σ k0 (Int.toNat x1) ((σ k0 (Int.toNat x1)) + 1) →
  (0 ≤ x1 ∧ x1 < (zn k0 : Int) ∧
  (0 ≤ (x1 + (s1 k0 (Int.toNat x1))) ∧ (x1 + (s1 k0 (Int.toNat x1))) < (zn k0 : Int) ∧
  (∀ s2 : Sto, s2 = zu s1 k0 (Int.toNat (x1 + (s1 k0 (Int.toNat x1)))) x2 →
  (P s2))))))
/-! InflectionGuesserModel.isParadigm(I)Z -/
def vX7_isParadigm (k0 : Nat) (x1 : Int) (P : Int → Sto → Prop) (σ : Sto) : Prop :=
  zR x1 ∧
  (0 < (zn (k0 + 1) : Int) ∧
  (zR ((σ (k0 + 1) (Int.toNat 0)) - 1) ∧
  (vX7_in x1 0 ((σ (k0 + 1) (Int.toNat 0)) - 1) (fun r1 s1 =>
  (r1 = 0 ∨ r1 = 1) ∧ P r1 s1) σ)))
/-! InflectionGuesserModel.paradigmAt(I)I -/
def vX7_paradigmAt (x0 : Int) (P : Int → Sto → Prop) (σ : Sto) : Prop :=
  P (3 + (80 * x0)) σ
/-! InflectionGuesserModel.cellMany(I)I -/
def vX7_cellMany (k0 : Nat) (x1 : Int) (P : Int → Sto → Prop) (σ : Sto) : Prop :=
  vX7_paradigmAt x1 (fun r1 s1 =>
  0 ≤ r1 ∧ r1 < (zn (k0 + 1) : Int) ∧
  (P (s1 (k0 + 1) (Int.toNat r1)) s1)) σ
/-! InflectionGuesserModel.isCell(II)Z -/
def vX7_isCell_30 (k0 : Nat) (P : Int → Sto → Prop) (y0 : Int) (σ : Sto) : Prop :=
  (y0 = 0 ∨ y0 = 1) ∧ P y0 σ
def vX7_isCell_29 (k0 : Nat) (P : Int → Sto → Prop) (σ : Sto) : Prop :=
  vX7_isCell_30 k0 P 0 σ
def vX7_isCell (k0 : Nat) (x1 : Int) (x2 : Int) (P : Int → Sto → Prop) (σ : Sto) : Prop :=
  vX7_isParadigm k0 x1 (fun r1 s1 =>
  zR r1 ∧
  ((r1 = 0) →
  vX7_isCell_29 k0 P s1) ∧
  ((¬ (r1 = 0)) →
  zR x2 ∧
  (vX7_cellMany k0 x1 (fun r2 s2 =>
  zR (r2 - 1) ∧
  (vX7_in x2 0 (r2 - 1) (fun r3 s3 =>
  zR r3 ∧
  ((r3 = 0) →
  vX7_isCell_29 k0 P s3) ∧
  ((¬ (r3 = 0)) →
  vX7_isCell_30 k0 P 1 s3)) s2)) s1))) σ
/-! InflectionGuesserModel.cellAt(II)I -/
def vX7_cellAt (x0 : Int) (x1 : Int) (P : Int → Sto → Prop) (σ : Sto) : Prop :=
  vX7_paradigmAt x0 (fun r1 s1 =>
  P ((r1 + 8) + (12 * x1)) s1) σ
/-! InflectionGuesserModel.isWord(I)Z -/
def vX7_isWord (k0 : Nat) (x1 : Int) (P : Int → Sto → Prop) (σ : Sto) : Prop :=
  zR x1 ∧
  (1 < (zn (k0 + 1) : Int) ∧
  (zR ((σ (k0 + 1) (Int.toNat 1)) - 1) ∧
  (vX7_in x1 0 ((σ (k0 + 1) (Int.toNat 1)) - 1) (fun r1 s1 =>
  (r1 = 0 ∨ r1 = 1) ∧ P r1 s1) σ)))
/-! InflectionGuesserModel.wordAt(I)I -/
def vX7_wordAt (x0 : Int) (P : Int → Sto → Prop) (σ : Sto) : Prop :=
  P (483 + (15 * x0)) σ
/-! InflectionGuesserModel.isLexeme(I)Z -/
def vX7_isLexeme (k0 : Nat) (x1 : Int) (P : Int → Sto → Prop) (σ : Sto) : Prop :=
  zR x1 ∧
  (2 < (zn (k0 + 1) : Int) ∧
  (zR ((σ (k0 + 1) (Int.toNat 2)) - 1) ∧
  (vX7_in x1 0 ((σ (k0 + 1) (Int.toNat 2)) - 1) (fun r1 s1 =>
  (r1 = 0 ∨ r1 = 1) ∧ P r1 s1) σ)))
/-! InflectionGuesserModel.lexemeAt(I)I -/
def vX7_lexemeAt (x0 : Int) (P : Int → Sto → Prop) (σ : Sto) : Prop :=
  P (723 + (102 * x0)) σ
/-! InflectionGuesserModel.exceptionAt(II)I -/
def vX7_exceptionAt (x0 : Int) (x1 : Int) (P : Int → Sto → Prop) (σ : Sto) : Prop :=
  vX7_lexemeAt x0 (fun r1 s1 =>
  P ((r1 + 12) + (15 * x1)) s1) σ
/-! InflectionGuesserModel.hasCell(II)Z -/
def vX7_hasCell_30 (k0 : Nat) (P : Int → Sto → Prop) (y0 : Int) (σ : Sto) : Prop :=
  (y0 = 0 ∨ y0 = 1) ∧ P y0 σ
def vX7_hasCell_29 (k0 : Nat) (P : Int → Sto → Prop) (σ : Sto) : Prop :=
  vX7_hasCell_30 k0 P 0 σ
def vX7_hasCell (k0 : Nat) (x1 : Int) (x2 : Int) (P : Int → Sto → Prop) (σ : Sto) : Prop :=
  vX7_isLexeme k0 x1 (fun r1 s1 =>
  zR r1 ∧
  ((r1 = 0) →
  vX7_hasCell_29 k0 P s1) ∧
  ((¬ (r1 = 0)) →
  vX7_lexemeAt x1 (fun r2 s2 =>
  0 ≤ r2 ∧ r2 < (zn (k0 + 1) : Int) ∧
  (vX7_isCell k0 (s2 (k0 + 1) (Int.toNat r2)) x2 (fun r3 s3 =>
  zR r3 ∧
  ((r3 = 0) →
  vX7_hasCell_29 k0 P s3) ∧
  ((¬ (r3 = 0)) →
  vX7_hasCell_30 k0 P 1 s3)) s2)) s1)) σ
/-! InflectionGuesserModel.attested([II)I -/
def bX7_attested_2 (k0 : Nat) (k1 : Nat) (P : Int → Sto → Prop) (K2 : Int → Int → Sto → Prop) (x2 x3 : Int) (σ : Sto) : Prop :=
  1 < (zn (k0 + 1) : Int) ∧
  (zR x3 ∧ zR (σ (k0 + 1) (Int.toNat 1)) ∧
  (((σ (k0 + 1) (Int.toNat 1)) ≤ x3) →
  P (-1) σ) ∧
  ((¬ ((σ (k0 + 1) (Int.toNat 1)) ≤ x3)) →
  vX7_wordAt x3 (fun r1 s1 =>
  vX7_areSame k1 x2 (k0 + 1) r1 (fun r2 s2 =>
  zR r2 ∧
  ((r2 = 0) →
  K2 x2 (x3 + 1) s2) ∧
  ((¬ (r2 = 0)) →
  P x3 s2)) s1) σ))
def vX7_attested_2 (k0 : Nat) (k1 : Nat) (P : Int → Sto → Prop) : Nat → Int → Int → Sto → Prop
  | 0 => fun _ _ _ => False
  | n + 1 => bX7_attested_2 k0 k1 P (vX7_attested_2 k0 k1 P n)
def vX7_attested (k0 : Nat) (k1 : Nat) (x2 : Int) (P : Int → Sto → Prop) (σ : Sto) : Prop :=
  ∃ n, vX7_attested_2 k0 k1 P n x2 0 σ
/-! InflectionGuesserModel.remember()V -/
def vX7_remember_37 (k0 : Nat) (P : Sto → Prop) (σ : Sto) : Prop :=
  0 ≤ (1743 * (σ k0 2)) ∧ 0 + 1743 ≤ (zn (k0 + 1) : Int) ∧ (1743 * (σ k0 2)) + 1743 ≤ (zn (k0 + 2) : Int) ∧
  (∀ s1 : Sto, s1 = zc σ (k0 + 1) (Int.toNat 0) (k0 + 2) (Int.toNat (1743 * (σ k0 2))) (Int.toNat 1743) →
  (∀ s2 : Sto, s2 = zu s1 k0 2 ((s1 k0 2) + 1) →
  (∀ s3 : Sto, s3 = zu s2 k0 8 0 →
  (P s3))))
def vX7_remember (k0 : Nat) (P : Sto → Prop) (σ : Sto) : Prop :=
  zR (σ k0 2) ∧
  ((¬ (σ k0 2) = 10) →
  vX7_remember_37 k0 P σ) ∧
  (((σ k0 2) = 10) →
  1743 + 15687 ≤ (zn (k0 + 2) : Int) ∧ 0 + 15687 ≤ (zn (k0 + 2) : Int) ∧
  (∀ s4 : Sto, s4 = zc σ (k0 + 2) (Int.toNat 1743) (k0 + 2) (Int.toNat 0) (Int.toNat 15687) →
  (∀ s5 : Sto, s5 = zu s4 k0 2 ((s4 k0 2) - 1) →
  (vX7_remember_37 k0 P s5))))
/-! InflectionGuesserModel.undo()I -/
def vX7_undo_13 (k0 : Nat) (P : Int → Sto → Prop) (y0 : Int) (σ : Sto) : Prop :=
  ∀ s1 : Sto, s1 = zu σ k0 7 y0 →
  (zR (s1 k0 7) ∧
  (((s1 k0 7) ≤ 0) →
  ∀ s2 : Sto, s2 = zu s1 k0 2 ((s1 k0 2) - 1) →
  (0 ≤ (1743 * (s2 k0 2)) ∧ (1743 * (s2 k0 2)) + 1743 ≤ (zn (k0 + 2) : Int) ∧ 0 + 1743 ≤ (zn (k0 + 1) : Int) ∧
  (∀ s3 : Sto, s3 = zc s2 (k0 + 2) (Int.toNat (1743 * (s2 k0 2))) (k0 + 1) (Int.toNat 0) (Int.toNat 1743) →
  (∀ s4 : Sto, s4 = zu s3 k0 8 0 →
  (P (s4 k0 2) s4))))) ∧
  ((¬ ((s1 k0 7) ≤ 0)) →
  P 0 s1))
def vX7_undo (k0 : Nat) (P : Int → Sto → Prop) (σ : Sto) : Prop :=
  zR (σ k0 2) ∧
  ((¬ (σ k0 2) = 0) →
  vX7_undo_13 k0 P 0 σ) ∧
  (((σ k0 2) = 0) →
  vX7_undo_13 k0 P 1 σ)
/-! InflectionGuesserModel.save()I -/
def vX7_save (k0 : Nat) (P : Int → Sto → Prop) (σ : Sto) : Prop :=
  ∀ s1 : Sto, s1 = zu σ k0 7 0 →
  (0 + 1743 ≤ (zn (k0 + 1) : Int) ∧ 0 + 1743 ≤ (zn (k0 + 3) : Int) ∧
  (∀ s2 : Sto, s2 = zc s1 (k0 + 1) (Int.toNat 0) (k0 + 3) (Int.toNat 0) (Int.toNat 1743) →
  (∀ s3 : Sto, s3 = zu s2 k0 4 1 →
  (2 < (zn (k0 + 1) : Int) ∧
  (P (s3 (k0 + 1) (Int.toNat 2)) s3)))))
/-! InflectionGuesserModel.restore()I -/
def vX7_restore_13 (k0 : Nat) (P : Int → Sto → Prop) (y0 : Int) (σ : Sto) : Prop :=
  ∀ s1 : Sto, s1 = zu σ k0 7 y0 →
  (zR (s1 k0 7) ∧
  (((s1 k0 7) ≤ 0) →
  0 + 1743 ≤ (zn (k0 + 3) : Int) ∧ 0 + 1743 ≤ (zn (k0 + 1) : Int) ∧
  (∀ s2 : Sto, s2 = zc s1 (k0 + 3) (Int.toNat 0) (k0 + 1) (Int.toNat 0) (Int.toNat 1743) →
  (∀ s3 : Sto, s3 = zu s2 k0 2 0 →
  (∀ s4 : Sto, s4 = zu s3 k0 8 0 →
  (2 < (zn (k0 + 1) : Int) ∧
  (P (s4 (k0 + 1) (Int.toNat 2)) s4)))))) ∧
  ((¬ ((s1 k0 7) ≤ 0)) →
  P 0 s1))
def vX7_restore (k0 : Nat) (P : Int → Sto → Prop) (σ : Sto) : Prop :=
  zR (σ k0 4) ∧
  (((σ k0 4) = 0) →
  vX7_restore_13 k0 P 1 σ) ∧
  ((¬ ((σ k0 4) = 0)) →
  vX7_restore_13 k0 P 0 σ)
/-! InflectionGuesserModel.append(C)I -/
def vX7_append_35 (k0 : Nat) (P : Int → Sto → Prop) (x1 y0 : Int) (σ : Sto) : Prop :=
  ∀ s2 : Sto, s2 = zu σ k0 7 y0 →
  (zR (s2 k0 7) ∧
  (((s2 k0 7) ≤ 0) →
  vX7_put (k0 + 4) 0 x1 (fun s3 =>
  0 < (zn (k0 + 4) : Int) ∧
  (P (s3 (k0 + 4) (Int.toNat 0)) s3)) s2) ∧
  ((¬ ((s2 k0 7) ≤ 0)) →
  P 0 s2))
def vX7_append (k0 : Nat) (x1 : Int) (P : Int → Sto → Prop) (σ : Sto) : Prop :=
  zR x1 ∧
  (vX7_in x1 97 122 (fun r1 s1 =>
  zR r1 ∧
  ((¬ r1 = 0) →
  0 < (zn (k0 + 4) : Int) ∧
  (zR (s1 (k0 + 4) (Int.toNat 0)) ∧
  ((¬ (s1 (k0 + 4) (Int.toNat 0)) = 14) →
  vX7_append_35 k0 P x1 0 s1) ∧
  (((s1 (k0 + 4) (Int.toNat 0)) = 14) →
  vX7_append_35 k0 P x1 2 s1))) ∧
  ((r1 = 0) →
  vX7_append_35 k0 P x1 1 s1)) σ)
/-! InflectionGuesserModel.clearInput()I -/
def vX7_clearInput (k0 : Nat) (P : Int → Sto → Prop) (σ : Sto) : Prop :=
  ∀ s1 : Sto, s1 = zu σ k0 7 0 →
  (0 < (zn (k0 + 4) : Int) ∧
  (0 < (zn (k0 + 4) : Int) ∧
  (∀ s2 : Sto, s2 = zu s1 (k0 + 4) (Int.toNat 0) 0 →
  (P (s1 (k0 + 4) (Int.toNat 0)) s2))))
/-! InflectionGuesserModel.inputLetter(I)C -/
def vX7_inputLetter_47 (k0 : Nat) (P : Int → Sto → Prop) (y0 : Int) (σ : Sto) : Prop :=
  0 ≤ y0 ∧ y0 ≤ 65535 ∧ P y0 σ
def vX7_inputLetter_24 (k0 : Nat) (P : Int → Sto → Prop) (x1 y0 : Int) (σ : Sto) : Prop :=
  ∀ s2 : Sto, s2 = zu σ k0 7 y0 →
  (zR (s2 k0 7) ∧
  (((s2 k0 7) ≤ 0) →
  0 ≤ (1 + x1) ∧ (1 + x1) < (zn (k0 + 4) : Int) ∧
  (vX7_inputLetter_47 k0 P (zi2c (s2 (k0 + 4) (Int.toNat (1 + x1)))) s2)) ∧
  ((¬ ((s2 k0 7) ≤ 0)) →
  vX7_inputLetter_47 k0 P 0 s2))
def vX7_inputLetter (k0 : Nat) (x1 : Int) (P : Int → Sto → Prop) (σ : Sto) : Prop :=
  zR x1 ∧
  (0 < (zn (k0 + 4) : Int) ∧
  (zR ((σ (k0 + 4) (Int.toNat 0)) - 1) ∧
  (vX7_in x1 0 ((σ (k0 + 4) (Int.toNat 0)) - 1) (fun r1 s1 =>
  zR r1 ∧
  ((r1 = 0) →
  vX7_inputLetter_24 k0 P x1 1 s1) ∧
  ((¬ (r1 = 0)) →
  vX7_inputLetter_24 k0 P x1 0 s1)) σ)))
/-! InflectionGuesserModel.addParadigm()I -/
def bX7_addParadigm_45 (k0 : Nat) (P : Int → Sto → Prop) (K45 : Int → Int → Sto → Prop) (x1 x2 : Int) (σ : Sto) : Prop :=
  zR x2 ∧
  ((80 ≤ x2) →
  0 < (zn (k0 + 1) : Int) ∧
  (0 < (zn (k0 + 1) : Int) ∧
  (∀ s4 : Sto, s4 = zu σ (k0 + 1) (Int.toNat 0) ((σ (k0 + 1) (Int.toNat 0)) + 1) →
  (0 < (zn (k0 + 1) : Int) ∧
  (P ((s4 (k0 + 1) (Int.toNat 0)) - 1) s4))))) ∧
  ((¬ (80 ≤ x2)) →
  0 ≤ (x1 + x2) ∧ (x1 + x2) < (zn (k0 + 1) : Int) ∧
  (∀ s5 : Sto, s5 = zu σ (k0 + 1) (Int.toNat (x1 + x2)) 0 →
  (K45 x1 (x2 + 1) s5)))
def vX7_addParadigm_45 (k0 : Nat) (P : Int → Sto → Prop) : Nat → Int → Int → Sto → Prop
  | 0 => fun _ _ _ => False
  | n + 1 => bX7_addParadigm_45 k0 P (vX7_addParadigm_45 k0 P n)
def vX7_addParadigm_17 (k0 : Nat) (P : Int → Sto → Prop) (y0 : Int) (σ : Sto) : Prop :=
  ∀ s1 : Sto, s1 = zu σ k0 7 y0 →
  (zR (s1 k0 7) ∧
  (((s1 k0 7) ≤ 0) →
  vX7_remember k0 (fun s2 =>
  0 < (zn (k0 + 1) : Int) ∧
  (vX7_paradigmAt (s2 (k0 + 1) (Int.toNat 0)) (fun r3 s3 =>
  ∃ n, vX7_addParadigm_45 k0 P n r3 0 s3) s2)) s1) ∧
  ((¬ ((s1 k0 7) ≤ 0)) →
  P 0 s1))
def vX7_addParadigm (k0 : Nat) (P : Int → Sto → Prop) (σ : Sto) : Prop :=
  0 < (zn (k0 + 1) : Int) ∧
  (zR (σ (k0 + 1) (Int.toNat 0)) ∧
  ((¬ (σ (k0 + 1) (Int.toNat 0)) = 6) →
  vX7_addParadigm_17 k0 P 0 σ) ∧
  (((σ (k0 + 1) (Int.toNat 0)) = 6) →
  vX7_addParadigm_17 k0 P 1 σ))
/-! InflectionGuesserModel.paradigmCount()I -/
def vX7_paradigmCount (k0 : Nat) (P : Int → Sto → Prop) (σ : Sto) : Prop :=
  ∀ s1 : Sto, s1 = zu σ k0 7 0 →
  (0 < (zn (k0 + 1) : Int) ∧
  (P (s1 (k0 + 1) (Int.toNat 0)) s1))
/-! InflectionGuesserModel.isGoodCell(II)Z -/
def vX7_isGoodCell_92 (k0 : Nat) (P : Int → Sto → Prop) (y0 : Int) (σ : Sto) : Prop :=
  (y0 = 0 ∨ y0 = 1) ∧ P y0 σ
def vX7_isGoodCell_91 (k0 : Nat) (P : Int → Sto → Prop) (σ : Sto) : Prop :=
  vX7_isGoodCell_92 k0 P 0 σ
def vX7_isGoodCell_71 (k0 : Nat) (P : Int → Sto → Prop) (y0 y1 y2 : Int) (σ : Sto) : Prop :=
  vX7_in y2 y1 y0 (fun r2 s2 =>
  zR r2 ∧
  ((r2 = 0) →
  vX7_isGoodCell_91 k0 P s2) ∧
  ((¬ (r2 = 0)) →
  0 < (zn (k0 + 4) : Int) ∧
  (zR (s2 (k0 + 4) (Int.toNat 0)) ∧
  ((4 < (s2 (k0 + 4) (Int.toNat 0))) →
  vX7_isGoodCell_91 k0 P s2) ∧
  ((¬ (4 < (s2 (k0 + 4) (Int.toNat 0)))) →
  vX7_isGoodCell_92 k0 P 1 s2)))) σ
def vX7_isGoodCell_43 (k0 : Nat) (P : Int → Sto → Prop) (y0 : Int) (σ : Sto) : Prop :=
  (y0 = 0 ∨ y0 = 1) ∧ P y0 σ
def vX7_isGoodCell_42 (k0 : Nat) (P : Int → Sto → Prop) (σ : Sto) : Prop :=
  vX7_isGoodCell_43 k0 P 0 σ
def vX7_isGoodCell (k0 : Nat) (x1 : Int) (x2 : Int) (P : Int → Sto → Prop) (σ : Sto) : Prop :=
  zR x1 ∧
  ((¬ x1 = 1) →
  zR x1 ∧
  (vX7_in x1 0 3 (fun r1 s1 =>
  zR r1 ∧
  ((r1 = 0) →
  vX7_isGoodCell_91 k0 P s1) ∧
  ((¬ (r1 = 0)) →
  zR x2 ∧
  (zR x1 ∧
  ((¬ x1 = 3) →
  vX7_isGoodCell_71 k0 P 0 0 x2 s1) ∧
  ((x1 = 3) →
  vX7_isGoodCell_71 k0 P 4 0 x2 s1)))) σ)) ∧
  ((x1 = 1) →
  zR x2 ∧
  (0 < (zn (k0 + 4) : Int) ∧
  (zR (σ (k0 + 4) (Int.toNat 0)) ∧
  (vX7_in x2 0 (σ (k0 + 4) (Int.toNat 0)) (fun r3 s3 =>
  zR r3 ∧
  ((r3 = 0) →
  vX7_isGoodCell_42 k0 P s3) ∧
  ((¬ (r3 = 0)) →
  zR x2 ∧
  ((4 < x2) →
  vX7_isGoodCell_42 k0 P s3) ∧
  ((¬ (4 < x2)) →
  0 < (zn (k0 + 4) : Int) ∧
  (zR ((s3 (k0 + 4) (Int.toNat 0)) - x2) ∧
  ((4 < ((s3 (k0 + 4) (Int.toNat 0)) - x2)) →
  vX7_isGoodCell_42 k0 P s3) ∧
  ((¬ (4 < ((s3 (k0 + 4) (Int.toNat 0)) - x2))) →
  vX7_isGoodCell_43 k0 P 1 s3))))) σ))))
/-! InflectionGuesserModel.addCell(III)I -/
def vX7_addCell_160 (k0 : Nat) (P : Int → Sto → Prop) (K126 : Int → Int → Int → Int → Int → Sto → Prop) (x1 x4 x5 x6 x7 y0 : Int) (σ : Sto) : Prop :=
  0 ≤ x7 ∧ x7 < (zn (k0 + 4) : Int) ∧
  (vX7_put (k0 + 1) y0 (σ (k0 + 4) (Int.toNat x7)) (fun s15 =>
  K126 x1 x4 x5 x6 (x7 + 1) s15) σ)
def bX7_addCell_126 (k0 : Nat) (P : Int → Sto → Prop) (K126 : Int → Int → Int → Int → Int → Sto → Prop) (x1 x4 x5 x6 x7 : Int) (σ : Sto) : Prop :=
  0 < (zn (k0 + 4) : Int) ∧
  (zR x7 ∧ zR (σ (k0 + 4) (Int.toNat 0)) ∧
  (((σ (k0 + 4) (Int.toNat 0)) < x7) →
  vX7_paradigmAt x1 (fun r12 s12 =>
  0 ≤ r12 ∧ r12 < (zn (k0 + 1) : Int) ∧
  (0 ≤ r12 ∧ r12 < (zn (k0 + 1) : Int) ∧
  (∀ s13 : Sto, s13 = zu s12 (k0 + 1) (Int.toNat r12) ((s12 (k0 + 1) (Int.toNat r12)) + 1) →
  (0 < (zn (k0 + 4) : Int) ∧
  (∀ s14 : Sto, s14 = zu s13 (k0 + 4) (Int.toNat 0) 0 →
  (P x4 s14)))))) σ) ∧
  ((¬ ((σ (k0 + 4) (Int.toNat 0)) < x7)) →
  zR x7 ∧ zR x6 ∧
  ((x6 < x7) →
  vX7_addCell_160 k0 P K126 x1 x4 x5 x6 x7 (x5 + 7) σ) ∧
  ((¬ (x6 < x7)) →
  vX7_addCell_160 k0 P K126 x1 x4 x5 x6 x7 (x5 + 2) σ)))
def vX7_addCell_126 (k0 : Nat) (P : Int → Sto → Prop) : Nat → Int → Int → Int → Int → Int → Sto → Prop
  | 0 => fun _ _ _ _ _ _ => False
  | n + 1 => bX7_addCell_126 k0 P (vX7_addCell_126 k0 P n)
def vX7_addCell_82 (k0 : Nat) (P : Int → Sto → Prop) (x1 x2 x3 x4 x5 y0 : Int) (σ : Sto) : Prop :=
  0 ≤ x5 ∧ x5 < (zn (k0 + 1) : Int) ∧
  (∀ s8 : Sto, s8 = zu σ (k0 + 1) (Int.toNat x5) x2 →
  (0 ≤ (x5 + 1) ∧ (x5 + 1) < (zn (k0 + 1) : Int) ∧
  (∀ s9 : Sto, s9 = zu s8 (k0 + 1) (Int.toNat (x5 + 1)) x3 →
  (0 ≤ (x5 + 2) ∧ (x5 + 2) < (zn (k0 + 1) : Int) ∧
  (∀ s10 : Sto, s10 = zu s9 (k0 + 1) (Int.toNat (x5 + 2)) 0 →
  (0 ≤ (x5 + 7) ∧ (x5 + 7) < (zn (k0 + 1) : Int) ∧
  (∀ s11 : Sto, s11 = zu s10 (k0 + 1) (Int.toNat (x5 + 7)) 0 →
  (∃ n, vX7_addCell_126 k0 P n x1 x4 x5 y0 1 s11))))))))
def vX7_addCell_41 (k0 : Nat) (P : Int → Sto → Prop) (x1 x2 x3 y0 : Int) (σ : Sto) : Prop :=
  ∀ s4 : Sto, s4 = zu σ k0 7 y0 →
  (zR (s4 k0 7) ∧
  (((s4 k0 7) ≤ 0) →
  vX7_remember k0 (fun s5 =>
  vX7_cellMany k0 x1 (fun r6 s6 =>
  vX7_cellAt x1 r6 (fun r7 s7 =>
  zR x2 ∧
  ((¬ x2 = 1) →
  vX7_addCell_82 k0 P x1 x2 x3 r6 r7 0 s7) ∧
  ((x2 = 1) →
  vX7_addCell_82 k0 P x1 x2 x3 r6 r7 x3 s7)) s6) s5) s4) ∧
  ((¬ ((s4 k0 7) ≤ 0)) →
  P 0 s4))
def vX7_addCell (k0 : Nat) (x1 : Int) (x2 : Int) (x3 : Int) (P : Int → Sto → Prop) (σ : Sto) : Prop :=
  vX7_isParadigm k0 x1 (fun r1 s1 =>
  zR r1 ∧
  ((¬ r1 = 0) →
  vX7_isGoodCell k0 x2 x3 (fun r2 s2 =>
  zR r2 ∧
  ((¬ r2 = 0) →
  vX7_cellMany k0 x1 (fun r3 s3 =>
  zR r3 ∧
  ((¬ r3 = 6) →
  vX7_addCell_41 k0 P x1 x2 x3 0 s3) ∧
  ((r3 = 6) →
  vX7_addCell_41 k0 P x1 x2 x3 3 s3)) s2) ∧
  ((r2 = 0) →
  vX7_addCell_41 k0 P x1 x2 x3 2 s2)) s1) ∧
  ((r1 = 0) →
  vX7_addCell_41 k0 P x1 x2 x3 1 s1)) σ
/-! InflectionGuesserModel.removeLastCell(I)I -/
def vX7_removeLastCell_26 (k0 : Nat) (P : Int → Sto → Prop) (x1 y0 : Int) (σ : Sto) : Prop :=
  ∀ s3 : Sto, s3 = zu σ k0 7 y0 →
  (zR (s3 k0 7) ∧
  (((s3 k0 7) ≤ 0) →
  vX7_remember k0 (fun s4 =>
  vX7_paradigmAt x1 (fun r5 s5 =>
  0 ≤ r5 ∧ r5 < (zn (k0 + 1) : Int) ∧
  (0 ≤ r5 ∧ r5 < (zn (k0 + 1) : Int) ∧
  (∀ s6 : Sto, s6 = zu s5 (k0 + 1) (Int.toNat r5) ((s5 (k0 + 1) (Int.toNat r5)) - 1) →
  (vX7_cellMany k0 x1 (fun r7 s7 =>
  P r7 s7) s6)))) s4) s3) ∧
  ((¬ ((s3 k0 7) ≤ 0)) →
  P 0 s3))
def vX7_removeLastCell (k0 : Nat) (x1 : Int) (P : Int → Sto → Prop) (σ : Sto) : Prop :=
  vX7_isParadigm k0 x1 (fun r1 s1 =>
  zR r1 ∧
  ((¬ r1 = 0) →
  vX7_cellMany k0 x1 (fun r2 s2 =>
  zR r2 ∧
  ((¬ r2 = 0) →
  vX7_removeLastCell_26 k0 P x1 0 s2) ∧
  ((r2 = 0) →
  vX7_removeLastCell_26 k0 P x1 2 s2)) s1) ∧
  ((r1 = 0) →
  vX7_removeLastCell_26 k0 P x1 1 s1)) σ
/-! InflectionGuesserModel.cellCount(I)I -/
def vX7_cellCount_33 (k0 : Nat) (P : Int → Sto → Prop) (y0 : Int) (σ : Sto) : Prop :=
  P y0 σ
def vX7_cellCount_14 (k0 : Nat) (P : Int → Sto → Prop) (x1 y0 : Int) (σ : Sto) : Prop :=
  ∀ s2 : Sto, s2 = zu σ k0 7 y0 →
  (zR (s2 k0 7) ∧
  (((s2 k0 7) ≤ 0) →
  vX7_cellMany k0 x1 (fun r3 s3 =>
  vX7_cellCount_33 k0 P r3 s3) s2) ∧
  ((¬ ((s2 k0 7) ≤ 0)) →
  vX7_cellCount_33 k0 P 0 s2))
def vX7_cellCount (k0 : Nat) (x1 : Int) (P : Int → Sto → Prop) (σ : Sto) : Prop :=
  vX7_isParadigm k0 x1 (fun r1 s1 =>
  zR r1 ∧
  ((r1 = 0) →
  vX7_cellCount_14 k0 P x1 1 s1) ∧
  ((¬ (r1 = 0)) →
  vX7_cellCount_14 k0 P x1 0 s1)) σ
/-! InflectionGuesserModel.cell(III)I -/
def vX7_cell_63 (k0 : Nat) (P : Int → Sto → Prop) (y0 y1 : Int) (σ : Sto) : Prop :=
  0 ≤ (y1 + y0) ∧ (y1 + y0) < (zn (k0 + 1) : Int) ∧
  (P (σ (k0 + 1) (Int.toNat (y1 + y0))) σ)
def vX7_cell_31 (k0 : Nat) (P : Int → Sto → Prop) (x1 x2 x3 y0 : Int) (σ : Sto) : Prop :=
  ∀ s3 : Sto, s3 = zu σ k0 7 y0 →
  (zR (s3 k0 7) ∧
  (((s3 k0 7) ≤ 0) →
  vX7_cellAt x1 x2 (fun r4 s4 =>
  zR x3 ∧
  ((¬ x3 = 2) →
  vX7_cell_63 k0 P x3 r4 s4) ∧
  ((x3 = 2) →
  vX7_cell_63 k0 P 7 r4 s4)) s3) ∧
  ((¬ ((s3 k0 7) ≤ 0)) →
  P 0 s3))
def vX7_cell (k0 : Nat) (x1 : Int) (x2 : Int) (x3 : Int) (P : Int → Sto → Prop) (σ : Sto) : Prop :=
  vX7_isCell k0 x1 x2 (fun r1 s1 =>
  zR r1 ∧
  ((¬ r1 = 0) →
  zR x3 ∧
  (vX7_in x3 0 2 (fun r2 s2 =>
  zR r2 ∧
  ((¬ r2 = 0) →
  vX7_cell_31 k0 P x1 x2 x3 0 s2) ∧
  ((r2 = 0) →
  vX7_cell_31 k0 P x1 x2 x3 2 s2)) s1)) ∧
  ((r1 = 0) →
  vX7_cell_31 k0 P x1 x2 x3 1 s1)) σ
/-! InflectionGuesserModel.setCondition(III)I -/
def vX7_setCondition_181 (k0 : Nat) (P : Int → Sto → Prop) (x6 : Int) (σ : Sto) : Prop :=
  P x6 σ
def vX7_setCondition_90 (k0 : Nat) (P : Int → Sto → Prop) (x1 x2 x3 y0 : Int) (σ : Sto) : Prop :=
  ∀ s3 : Sto, s3 = zu σ k0 7 y0 →
  (zR (s3 k0 7) ∧
  (((s3 k0 7) ≤ 0) →
  vX7_remember k0 (fun s4 =>
  vX7_paradigmAt x1 (fun r5 s5 =>
  0 ≤ (r5 + 1) ∧ (r5 + 1) < (zn (k0 + 1) : Int) ∧
  (0 ≤ (r5 + 1) ∧ (r5 + 1) < (zn (k0 + 1) : Int) ∧
  (∀ s6 : Sto, s6 = zu s5 (k0 + 1) (Int.toNat (r5 + 1)) x2 →
  (0 ≤ (r5 + 2) ∧ (r5 + 2) < (zn (k0 + 1) : Int) ∧
  (∀ s7 : Sto, s7 = zu s6 (k0 + 1) (Int.toNat (r5 + 2)) x3 →
  (0 ≤ (r5 + 3) ∧ (r5 + 3) < (zn (k0 + 1) : Int) ∧
  (∀ s8 : Sto, s8 = zu s7 (k0 + 1) (Int.toNat (r5 + 3)) 0 →
  (zR x2 ∧
  ((¬ x2 = 4) →
  vX7_setCondition_181 k0 P (s5 (k0 + 1) (Int.toNat (r5 + 1))) s8) ∧
  ((x2 = 4) →
  vX7_copy (k0 + 4) 0 (k0 + 1) (r5 + 3) (fun s9 =>
  0 < (zn (k0 + 4) : Int) ∧
  (∀ s10 : Sto, s10 = zu s9 (k0 + 4) (Int.toNat 0) 0 →
  (vX7_setCondition_181 k0 P (s5 (k0 + 1) (Int.toNat (r5 + 1))) s10))) s8))))))))) s4) s3) ∧
  ((¬ ((s3 k0 7) ≤ 0)) →
  P 0 s3))
def vX7_setCondition_65 (k0 : Nat) (P : Int → Sto → Prop) (x1 x2 x3 y0 : Int) (σ : Sto) : Prop :=
  vX7_isParadigm k0 x1 (fun r2 s2 =>
  zR r2 ∧
  ((¬ r2 = 0) →
  zR y0 ∧
  ((¬ y0 = 0) →
  vX7_setCondition_90 k0 P x1 x2 x3 0 s2) ∧
  ((y0 = 0) →
  vX7_setCondition_90 k0 P x1 x2 x3 2 s2)) ∧
  ((r2 = 0) →
  vX7_setCondition_90 k0 P x1 x2 x3 1 s2)) σ
def vX7_setCondition_64 (k0 : Nat) (P : Int → Sto → Prop) (x1 x2 x3 : Int) (σ : Sto) : Prop :=
  vX7_setCondition_65 k0 P x1 x2 x3 0 σ
def vX7_setCondition_60 (k0 : Nat) (P : Int → Sto → Prop) (x1 x2 x3 : Int) (σ : Sto) : Prop :=
  vX7_setCondition_65 k0 P x1 x2 x3 1 σ
def vX7_setCondition_38 (k0 : Nat) (P : Int → Sto → Prop) (x1 x2 x3 : Int) (σ : Sto) : Prop :=
  zR x2 ∧
  ((¬ x2 = 4) →
  vX7_setCondition_60 k0 P x1 x2 x3 σ) ∧
  ((x2 = 4) →
  0 < (zn (k0 + 4) : Int) ∧
  (zR (σ (k0 + 4) (Int.toNat 0)) ∧
  (vX7_in (σ (k0 + 4) (Int.toNat 0)) 1 4 (fun r11 s11 =>
  zR r11 ∧
  ((r11 = 0) →
  vX7_setCondition_64 k0 P x1 x2 x3 s11) ∧
  ((¬ (r11 = 0)) →
  vX7_setCondition_60 k0 P x1 x2 x3 s11)) σ)))
def vX7_setCondition (k0 : Nat) (x1 : Int) (x2 : Int) (x3 : Int) (P : Int → Sto → Prop) (σ : Sto) : Prop :=
  zR x2 ∧
  (vX7_in x2 0 4 (fun r1 s1 =>
  zR r1 ∧
  ((r1 = 0) →
  vX7_setCondition_64 k0 P x1 x2 x3 s1) ∧
  ((¬ (r1 = 0)) →
  zR x2 ∧
  ((¬ x2 = 3) →
  zR x3 ∧
  ((¬ x3 = 0) →
  vX7_setCondition_64 k0 P x1 x2 x3 s1) ∧
  ((x3 = 0) →
  vX7_setCondition_38 k0 P x1 x2 x3 s1)) ∧
  ((x2 = 3) →
  zR x3 ∧
  (vX7_in x3 2 10 (fun r12 s12 =>
  zR r12 ∧
  ((r12 = 0) →
  vX7_setCondition_64 k0 P x1 x2 x3 s12) ∧
  ((¬ (r12 = 0)) →
  vX7_setCondition_38 k0 P x1 x2 x3 s12)) s1)))) σ)
/-! InflectionGuesserModel.isStem(I[II)Z -/
def vX7_isStem_89 (k0 : Nat) (k2 : Nat) (P : Int → Sto → Prop) (y0 : Int) (σ : Sto) : Prop :=
  (y0 = 0 ∨ y0 = 1) ∧ P y0 σ
def vX7_isStem_110 (k0 : Nat) (k2 : Nat) (P : Int → Sto → Prop) (y0 : Int) (σ : Sto) : Prop :=
  (y0 = 0 ∨ y0 = 1) ∧ P y0 σ
def vX7_isStem (k0 : Nat) (x1 : Int) (k2 : Nat) (x3 : Int) (P : Int → Sto → Prop) (σ : Sto) : Prop :=
  0 ≤ x3 ∧ x3 < (zn k2 : Int) ∧
  (zR (σ k2 (Int.toNat x3)) ∧
  (vX7_in (σ k2 (Int.toNat x3)) 2 10 (fun r1 s1 =>
  zR r1 ∧
  ((¬ r1 = 0) →
  vX7_paradigmAt x1 (fun r2 s2 =>
  0 ≤ x3 ∧ x3 < (zn k2 : Int) ∧
  (0 ≤ (x3 + (s2 k2 (Int.toNat x3))) ∧ (x3 + (s2 k2 (Int.toNat x3))) < (zn k2 : Int) ∧
  (vX7_isVowel (s2 k2 (Int.toNat (x3 + (s2 k2 (Int.toNat x3))))) (fun r3 s3 =>
  0 ≤ (r2 + 1) ∧ (r2 + 1) < (zn (k0 + 1) : Int) ∧
  (zR (s3 (k0 + 1) (Int.toNat (r2 + 1))) ∧
  ((s3 (k0 + 1) (Int.toNat (r2 + 1))) = 1 →
  (r3 = 0 ∨ r3 = 1) ∧ P r3 s3) ∧
  ((s3 (k0 + 1) (Int.toNat (r2 + 1))) = 2 →
  zR r3 ∧
  ((¬ r3 = 0) →
  vX7_isStem_89 k0 k2 P 0 s3) ∧
  ((r3 = 0) →
  vX7_isStem_89 k0 k2 P 1 s3)) ∧
  ((s3 (k0 + 1) (Int.toNat (r2 + 1))) = 3 →
  0 ≤ x3 ∧ x3 < (zn k2 : Int) ∧
  (0 ≤ (r2 + 2) ∧ (r2 + 2) < (zn (k0 + 1) : Int) ∧
  (zR (s3 k2 (Int.toNat x3)) ∧ zR (s3 (k0 + 1) (Int.toNat (r2 + 2))) ∧
  (((s3 k2 (Int.toNat x3)) < (s3 (k0 + 1) (Int.toNat (r2 + 2)))) →
  vX7_isStem_110 k0 k2 P 0 s3) ∧
  ((¬ ((s3 k2 (Int.toNat x3)) < (s3 (k0 + 1) (Int.toNat (r2 + 2))))) →
  vX7_isStem_110 k0 k2 P 1 s3)))) ∧
  ((s3 (k0 + 1) (Int.toNat (r2 + 1))) = 4 →
  vX7_endsIn k2 x3 (k0 + 1) (r2 + 3) (fun r4 s4 =>
  (r4 = 0 ∨ r4 = 1) ∧ P r4 s4) s3) ∧
  (((s3 (k0 + 1) (Int.toNat (r2 + 1))) < 1 ∨ 4 < (s3 (k0 + 1) (Int.toNat (r2 + 1)))) →
  P 1 s3))) s2))) s1) ∧
  ((r1 = 0) →
  P 0 s1)) σ))
/-! InflectionGuesserModel.fulfills(I)Z -/
def vX7_fulfills_42 (k0 : Nat) (P : Int → Sto → Prop) (y0 : Int) (σ : Sto) : Prop :=
  (y0 = 0 ∨ y0 = 1) ∧ P y0 σ
def vX7_fulfills_41 (k0 : Nat) (P : Int → Sto → Prop) (σ : Sto) : Prop :=
  vX7_fulfills_42 k0 P 0 σ
def vX7_fulfills_14 (k0 : Nat) (P : Int → Sto → Prop) (x1 y0 : Int) (σ : Sto) : Prop :=
  ∀ s2 : Sto, s2 = zu σ k0 7 y0 →
  (zR (s2 k0 7) ∧
  ((¬ (s2 k0 7) = 0) →
  vX7_fulfills_41 k0 P s2) ∧
  (((s2 k0 7) = 0) →
  vX7_isStem k0 x1 (k0 + 4) 0 (fun r3 s3 =>
  zR r3 ∧
  ((r3 = 0) →
  vX7_fulfills_41 k0 P s3) ∧
  ((¬ (r3 = 0)) →
  vX7_fulfills_42 k0 P 1 s3)) s2))
def vX7_fulfills (k0 : Nat) (x1 : Int) (P : Int → Sto → Prop) (σ : Sto) : Prop :=
  vX7_isParadigm k0 x1 (fun r1 s1 =>
  zR r1 ∧
  ((r1 = 0) →
  vX7_fulfills_14 k0 P x1 1 s1) ∧
  ((¬ (r1 = 0)) →
  vX7_fulfills_14 k0 P x1 0 s1)) σ
/-! InflectionGuesserModel.builds(II[II)Z -/
def bX7_builds_140 (k0 : Nat) (k3 : Nat) (P : Int → Sto → Prop) (K140 : Int → Int → Sto → Prop) (x5 x7 : Int) (σ : Sto) : Prop :=
  0 ≤ (x5 + 7) ∧ (x5 + 7) < (zn (k0 + 1) : Int) ∧
  (zR x7 ∧ zR (σ (k0 + 1) (Int.toNat (x5 + 7))) ∧
  (((σ (k0 + 1) (Int.toNat (x5 + 7))) < x7) →
  P 1 σ) ∧
  ((¬ ((σ (k0 + 1) (Int.toNat (x5 + 7))) < x7)) →
  0 ≤ ((x5 + 7) + x7) ∧ ((x5 + 7) + x7) < (zn (k0 + 1) : Int) ∧
  (vX7_put (k0 + 5) 0 (σ (k0 + 1) (Int.toNat ((x5 + 7) + x7))) (fun s3 =>
  K140 x5 (x7 + 1) s3) σ)))
def vX7_builds_140 (k0 : Nat) (k3 : Nat) (P : Int → Sto → Prop) : Nat → Int → Int → Sto → Prop
  | 0 => fun _ _ _ => False
  | n + 1 => bX7_builds_140 k0 k3 P (vX7_builds_140 k0 k3 P n)
def vX7_builds_137 (k0 : Nat) (k3 : Nat) (P : Int → Sto → Prop) (x5 : Int) (σ : Sto) : Prop :=
  ∃ n, vX7_builds_140 k0 k3 P n x5 1 σ
def vX7_builds_95 (k0 : Nat) (k3 : Nat) (P : Int → Sto → Prop) (x5 x6 : Int) (σ : Sto) : Prop :=
  zR x6 ∧
  ((¬ x6 = 3) →
  vX7_builds_137 k0 k3 P x5 σ) ∧
  ((x6 = 3) →
  vX7_lastVowel (k0 + 5) 0 (fun r4 s4 =>
  zR r4 ∧
  ((¬ r4 = 0) →
  0 ≤ (x5 + 1) ∧ (x5 + 1) < (zn (k0 + 1) : Int) ∧
  (vX7_vowel (s4 (k0 + 1) (Int.toNat (x5 + 1))) (fun r5 s5 =>
  0 ≤ r4 ∧ r4 < (zn (k0 + 5) : Int) ∧
  (∀ s6 : Sto, s6 = zu s5 (k0 + 5) (Int.toNat r4) r5 →
  (vX7_builds_137 k0 k3 P x5 s6))) s4)) ∧
  ((r4 = 0) →
  P 0 s4)) σ)
def vX7_builds_70 (k0 : Nat) (k3 : Nat) (P : Int → Sto → Prop) (x5 x6 : Int) (σ : Sto) : Prop :=
  zR x6 ∧
  ((¬ x6 = 2) →
  vX7_builds_95 k0 k3 P x5 x6 σ) ∧
  ((x6 = 2) →
  0 < (zn (k0 + 5) : Int) ∧
  (0 ≤ (σ (k0 + 5) (Int.toNat 0)) ∧ (σ (k0 + 5) (Int.toNat 0)) < (zn (k0 + 5) : Int) ∧
  (vX7_put (k0 + 5) 0 (σ (k0 + 5) (Int.toNat (σ (k0 + 5) (Int.toNat 0)))) (fun s7 =>
  vX7_builds_95 k0 k3 P x5 x6 s7) σ)))
def vX7_builds (k0 : Nat) (x1 : Int) (x2 : Int) (k3 : Nat) (x4 : Int) (P : Int → Sto → Prop) (σ : Sto) : Prop :=
  vX7_cellAt x1 x2 (fun r1 s1 =>
  0 ≤ r1 ∧ r1 < (zn (k0 + 1) : Int) ∧
  (vX7_copy k3 x4 (k0 + 5) 0 (fun s2 =>
  zR (s1 (k0 + 1) (Int.toNat r1)) ∧
  ((¬ (s1 (k0 + 1) (Int.toNat r1)) = 1) →
  vX7_builds_70 k0 k3 P r1 (s1 (k0 + 1) (Int.toNat r1)) s2) ∧
  (((s1 (k0 + 1) (Int.toNat r1)) = 1) →
  vX7_endsIn k3 x4 (k0 + 1) (r1 + 2) (fun r8 s8 =>
  zR r8 ∧
  ((¬ r8 = 0) →
  0 < (zn (k0 + 5) : Int) ∧
  (0 ≤ (r1 + 2) ∧ (r1 + 2) < (zn (k0 + 1) : Int) ∧
  (0 < (zn (k0 + 5) : Int) ∧
  (∀ s9 : Sto, s9 = zu s8 (k0 + 5) (Int.toNat 0) ((s8 (k0 + 5) (Int.toNat 0)) - (s8 (k0 + 1) (Int.toNat (r1 + 2)))) →
  (vX7_builds_70 k0 k3 P r1 (s1 (k0 + 1) (Int.toNat r1)) s9))))) ∧
  ((r8 = 0) →
  P 0 s8)) s2)) s1)) σ
/-! InflectionGuesserModel.inflect(II)I -/
def vX7_inflect_75 (k0 : Nat) (P : Int → Sto → Prop) (σ : Sto) : Prop :=
  ∀ s5 : Sto, s5 = zu σ k0 7 3 →
  (P 0 s5)
def vX7_inflect_38 (k0 : Nat) (P : Int → Sto → Prop) (x1 x2 y0 : Int) (σ : Sto) : Prop :=
  ∀ s3 : Sto, s3 = zu σ k0 7 y0 →
  (zR (s3 k0 7) ∧
  (((s3 k0 7) ≤ 0) →
  vX7_builds k0 x1 x2 (k0 + 4) 0 (fun r4 s4 =>
  zR r4 ∧
  ((r4 = 0) →
  vX7_inflect_75 k0 P s4) ∧
  ((¬ (r4 = 0)) →
  0 < (zn (k0 + 5) : Int) ∧
  (zR (s4 (k0 + 5) (Int.toNat 0)) ∧
  (((s4 (k0 + 5) (Int.toNat 0)) ≤ 14) →
  vX7_copy (k0 + 5) 0 (k0 + 4) 0 (fun s6 =>
  0 < (zn (k0 + 4) : Int) ∧
  (P (s6 (k0 + 4) (Int.toNat 0)) s6)) s4) ∧
  ((¬ ((s4 (k0 + 5) (Int.toNat 0)) ≤ 14)) →
  vX7_inflect_75 k0 P s4)))) s3) ∧
  ((¬ ((s3 k0 7) ≤ 0)) →
  P 0 s3))
def vX7_inflect (k0 : Nat) (x1 : Int) (x2 : Int) (P : Int → Sto → Prop) (σ : Sto) : Prop :=
  vX7_isCell k0 x1 x2 (fun r1 s1 =>
  zR r1 ∧
  ((¬ r1 = 0) →
  0 < (zn (k0 + 4) : Int) ∧
  (zR (s1 (k0 + 4) (Int.toNat 0)) ∧
  (vX7_in (s1 (k0 + 4) (Int.toNat 0)) 2 10 (fun r2 s2 =>
  zR r2 ∧
  ((¬ r2 = 0) →
  vX7_inflect_38 k0 P x1 x2 0 s2) ∧
  ((r2 = 0) →
  vX7_inflect_38 k0 P x1 x2 2 s2)) s1))) ∧
  ((r1 = 0) →
  vX7_inflect_38 k0 P x1 x2 1 s1)) σ
/-! InflectionGuesserModel.addWord()I -/
def vX7_addWord_98 (k0 : Nat) (P : Int → Sto → Prop) (x1 : Int) (σ : Sto) : Prop :=
  0 < (zn (k0 + 4) : Int) ∧
  (∀ s4 : Sto, s4 = zu σ (k0 + 4) (Int.toNat 0) 0 →
  (P x1 s4))
def vX7_addWord_45 (k0 : Nat) (P : Int → Sto → Prop) (x1 y0 : Int) (σ : Sto) : Prop :=
  ∀ s2 : Sto, s2 = zu σ k0 7 y0 →
  (zR (s2 k0 7) ∧
  (((s2 k0 7) ≤ 0) →
  vX7_remember k0 (fun s3 =>
  zR x1 ∧
  ((0 ≤ x1) →
  vX7_addWord_98 k0 P x1 s3) ∧
  ((¬ (0 ≤ x1)) →
  1 < (zn (k0 + 1) : Int) ∧
  (vX7_wordAt (s3 (k0 + 1) (Int.toNat 1)) (fun r5 s5 =>
  vX7_copy (k0 + 4) 0 (k0 + 1) r5 (fun s6 =>
  1 < (zn (k0 + 1) : Int) ∧
  (1 < (zn (k0 + 1) : Int) ∧
  (∀ s7 : Sto, s7 = zu s6 (k0 + 1) (Int.toNat 1) ((s6 (k0 + 1) (Int.toNat 1)) + 1) →
  (vX7_addWord_98 k0 P (s3 (k0 + 1) (Int.toNat 1)) s7)))) s5) s3))) s2) ∧
  ((¬ ((s2 k0 7) ≤ 0)) →
  P 0 s2))
def vX7_addWord_44 (k0 : Nat) (P : Int → Sto → Prop) (x1 : Int) (σ : Sto) : Prop :=
  vX7_addWord_45 k0 P x1 0 σ
def vX7_addWord (k0 : Nat) (P : Int → Sto → Prop) (σ : Sto) : Prop :=
  vX7_attested k0 (k0 + 4) 0 (fun r1 s1 =>
  0 < (zn (k0 + 4) : Int) ∧
  (zR (s1 (k0 + 4) (Int.toNat 0)) ∧
  ((2 ≤ (s1 (k0 + 4) (Int.toNat 0))) →
  zR r1 ∧
  ((0 ≤ r1) →
  vX7_addWord_44 k0 P r1 s1) ∧
  ((¬ (0 ≤ r1)) →
  1 < (zn (k0 + 1) : Int) ∧
  (zR (s1 (k0 + 1) (Int.toNat 1)) ∧
  ((¬ (s1 (k0 + 1) (Int.toNat 1)) = 16) →
  vX7_addWord_44 k0 P r1 s1) ∧
  (((s1 (k0 + 1) (Int.toNat 1)) = 16) →
  vX7_addWord_45 k0 P r1 2 s1)))) ∧
  ((¬ (2 ≤ (s1 (k0 + 4) (Int.toNat 0)))) →
  vX7_addWord_45 k0 P r1 1 s1))) σ
/-! InflectionGuesserModel.removeWord(I)I -/
def bX7_removeWord_32 (k0 : Nat) (P : Int → Sto → Prop) (K32 : Int → Sto → Prop) (x2 : Int) (σ : Sto) : Prop :=
  1 < (zn (k0 + 1) : Int) ∧
  (zR x2 ∧ zR ((σ (k0 + 1) (Int.toNat 1)) - 1) ∧
  ((((σ (k0 + 1) (Int.toNat 1)) - 1) ≤ x2) →
  1 < (zn (k0 + 1) : Int) ∧
  (1 < (zn (k0 + 1) : Int) ∧
  (∀ s4 : Sto, s4 = zu σ (k0 + 1) (Int.toNat 1) ((σ (k0 + 1) (Int.toNat 1)) - 1) →
  (1 < (zn (k0 + 1) : Int) ∧
  (P (s4 (k0 + 1) (Int.toNat 1)) s4))))) ∧
  ((¬ (((σ (k0 + 1) (Int.toNat 1)) - 1) ≤ x2)) →
  vX7_wordAt (x2 + 1) (fun r5 s5 =>
  vX7_wordAt x2 (fun r6 s6 =>
  vX7_copy (k0 + 1) r5 (k0 + 1) r6 (fun s7 =>
  K32 (x2 + 1) s7) s6) s5) σ))
def vX7_removeWord_32 (k0 : Nat) (P : Int → Sto → Prop) : Nat → Int → Sto → Prop
  | 0 => fun _ _ => False
  | n + 1 => bX7_removeWord_32 k0 P (vX7_removeWord_32 k0 P n)
def vX7_removeWord_14 (k0 : Nat) (P : Int → Sto → Prop) (x1 y0 : Int) (σ : Sto) : Prop :=
  ∀ s2 : Sto, s2 = zu σ k0 7 y0 →
  (zR (s2 k0 7) ∧
  (((s2 k0 7) ≤ 0) →
  vX7_remember k0 (fun s3 =>
  ∃ n, vX7_removeWord_32 k0 P n x1 s3) s2) ∧
  ((¬ ((s2 k0 7) ≤ 0)) →
  P 0 s2))
def vX7_removeWord (k0 : Nat) (x1 : Int) (P : Int → Sto → Prop) (σ : Sto) : Prop :=
  vX7_isWord k0 x1 (fun r1 s1 =>
  zR r1 ∧
  ((r1 = 0) →
  vX7_removeWord_14 k0 P x1 1 s1) ∧
  ((¬ (r1 = 0)) →
  vX7_removeWord_14 k0 P x1 0 s1)) σ
/-! InflectionGuesserModel.wordCount()I -/
def vX7_wordCount (k0 : Nat) (P : Int → Sto → Prop) (σ : Sto) : Prop :=
  ∀ s1 : Sto, s1 = zu σ k0 7 0 →
  (1 < (zn (k0 + 1) : Int) ∧
  (P (s1 (k0 + 1) (Int.toNat 1)) s1))
/-! InflectionGuesserModel.wordLength(I)I -/
def vX7_wordLength_37 (k0 : Nat) (P : Int → Sto → Prop) (y0 : Int) (σ : Sto) : Prop :=
  P y0 σ
def vX7_wordLength_14 (k0 : Nat) (P : Int → Sto → Prop) (x1 y0 : Int) (σ : Sto) : Prop :=
  ∀ s2 : Sto, s2 = zu σ k0 7 y0 →
  (zR (s2 k0 7) ∧
  (((s2 k0 7) ≤ 0) →
  vX7_wordAt x1 (fun r3 s3 =>
  0 ≤ r3 ∧ r3 < (zn (k0 + 1) : Int) ∧
  (vX7_wordLength_37 k0 P (s3 (k0 + 1) (Int.toNat r3)) s3)) s2) ∧
  ((¬ ((s2 k0 7) ≤ 0)) →
  vX7_wordLength_37 k0 P 0 s2))
def vX7_wordLength (k0 : Nat) (x1 : Int) (P : Int → Sto → Prop) (σ : Sto) : Prop :=
  vX7_isWord k0 x1 (fun r1 s1 =>
  zR r1 ∧
  ((r1 = 0) →
  vX7_wordLength_14 k0 P x1 1 s1) ∧
  ((¬ (r1 = 0)) →
  vX7_wordLength_14 k0 P x1 0 s1)) σ
/-! InflectionGuesserModel.wordLetter(II)C -/
def vX7_wordLetter_63 (k0 : Nat) (P : Int → Sto → Prop) (y0 : Int) (σ : Sto) : Prop :=
  0 ≤ y0 ∧ y0 ≤ 65535 ∧ P y0 σ
def vX7_wordLetter_35 (k0 : Nat) (P : Int → Sto → Prop) (x1 x2 y0 : Int) (σ : Sto) : Prop :=
  ∀ s2 : Sto, s2 = zu σ k0 7 y0 →
  (zR (s2 k0 7) ∧
  (((s2 k0 7) ≤ 0) →
  vX7_wordAt x1 (fun r3 s3 =>
  0 ≤ ((r3 + 1) + x2) ∧ ((r3 + 1) + x2) < (zn (k0 + 1) : Int) ∧
  (vX7_wordLetter_63 k0 P (zi2c (s3 (k0 + 1) (Int.toNat ((r3 + 1) + x2)))) s3)) s2) ∧
  ((¬ ((s2 k0 7) ≤ 0)) →
  vX7_wordLetter_63 k0 P 0 s2))
def vX7_wordLetter_34 (k0 : Nat) (P : Int → Sto → Prop) (x1 x2 : Int) (σ : Sto) : Prop :=
  vX7_wordLetter_35 k0 P x1 x2 1 σ
def vX7_wordLetter (k0 : Nat) (x1 : Int) (x2 : Int) (P : Int → Sto → Prop) (σ : Sto) : Prop :=
  vX7_isWord k0 x1 (fun r1 s1 =>
  zR r1 ∧
  ((r1 = 0) →
  vX7_wordLetter_34 k0 P x1 x2 s1) ∧
  ((¬ (r1 = 0)) →
  zR x2 ∧
  (vX7_wordAt x1 (fun r4 s4 =>
  0 ≤ r4 ∧ r4 < (zn (k0 + 1) : Int) ∧
  (zR ((s4 (k0 + 1) (Int.toNat r4)) - 1) ∧
  (vX7_in x2 0 ((s4 (k0 + 1) (Int.toNat r4)) - 1) (fun r5 s5 =>
  zR r5 ∧
  ((r5 = 0) →
  vX7_wordLetter_34 k0 P x1 x2 s5) ∧
  ((¬ (r5 = 0)) →
  vX7_wordLetter_35 k0 P x1 x2 0 s5)) s4))) s1))) σ
/-! InflectionGuesserModel.endingOf(IZ)I -/
def vX7_endingOf_102 (k0 : Nat) (P : Int → Sto → Prop) (y0 : Int) (σ : Sto) : Prop :=
  P y0 σ
def vX7_endingOf_80 (k0 : Nat) (P : Int → Sto → Prop) (K8 : Int → Int → Int → Int → Int → Sto → Prop) (K22 : Int → Int → Int → Int → Int → Int → Sto → Prop) (x1 x2 x3 x4 x5 x6 : Int) (σ : Sto) : Prop :=
  K22 x1 x2 x3 x4 x5 (x6 + 1) σ
def bX7_endingOf_22 (k0 : Nat) (P : Int → Sto → Prop) (K8 : Int → Int → Int → Int → Int → Sto → Prop) (K22 : Int → Int → Int → Int → Int → Int → Sto → Prop) (x1 x2 x3 x4 x5 x6 : Int) (σ : Sto) : Prop :=
  vX7_cellMany k0 x5 (fun r1 s1 =>
  zR x6 ∧ zR r1 ∧
  ((r1 ≤ x6) →
  K8 x1 x2 x3 x4 (x5 + 1) s1) ∧
  ((¬ (r1 ≤ x6)) →
  vX7_cellAt x5 x6 (fun r2 s2 =>
  vX7_wordAt x1 (fun r3 s3 =>
  vX7_endsIn (k0 + 1) r3 (k0 + 1) (r2 + 7) (fun r4 s4 =>
  zR r4 ∧
  ((r4 = 0) →
  vX7_endingOf_80 k0 P K8 K22 x1 x2 x3 x4 x5 x6 s4) ∧
  ((¬ (r4 = 0)) →
  0 ≤ (r2 + 7) ∧ (r2 + 7) < (zn (k0 + 1) : Int) ∧
  (zR x3 ∧ zR (s4 (k0 + 1) (Int.toNat (r2 + 7))) ∧
  (vX7_endingOf_80 k0 P K8 K22 x1 x2 (if x3 < (s4 (k0 + 1) (Int.toNat (r2 + 7))) then (s4 (k0 + 1) (Int.toNat (r2 + 7))) else x3) (x4 + 1) x5 x6 s4)))) s3) s2) s1)) σ
def vX7_endingOf_22 (k0 : Nat) (P : Int → Sto → Prop) (K8 : Int → Int → Int → Int → Int → Sto → Prop) : Nat → Int → Int → Int → Int → Int → Int → Sto → Prop
  | 0 => fun _ _ _ _ _ _ _ => False
  | n + 1 => bX7_endingOf_22 k0 P K8 (vX7_endingOf_22 k0 P K8 n)
def bX7_endingOf_8 (k0 : Nat) (P : Int → Sto → Prop) (K8 : Int → Int → Int → Int → Int → Sto → Prop) (x1 x2 x3 x4 x5 : Int) (σ : Sto) : Prop :=
  0 < (zn (k0 + 1) : Int) ∧
  (zR x5 ∧ zR (σ (k0 + 1) (Int.toNat 0)) ∧
  (((σ (k0 + 1) (Int.toNat 0)) ≤ x5) →
  zR x2 ∧
  ((x2 = 0) →
  vX7_endingOf_102 k0 P x3 σ) ∧
  ((¬ (x2 = 0)) →
  vX7_endingOf_102 k0 P x4 σ)) ∧
  ((¬ ((σ (k0 + 1) (Int.toNat 0)) ≤ x5)) →
  ∃ n, vX7_endingOf_22 k0 P K8 n x1 x2 x3 x4 x5 0 σ))
def vX7_endingOf_8 (k0 : Nat) (P : Int → Sto → Prop) : Nat → Int → Int → Int → Int → Int → Sto → Prop
  | 0 => fun _ _ _ _ _ _ => False
  | n + 1 => bX7_endingOf_8 k0 P (vX7_endingOf_8 k0 P n)
def vX7_endingOf (k0 : Nat) (x1 : Int) (x2 : Int) (P : Int → Sto → Prop) (σ : Sto) : Prop :=
  ∃ n, vX7_endingOf_8 k0 P n x1 x2 (-1) 0 0 σ
/-! InflectionGuesserModel.longestEnding(I)I -/
def vX7_longestEnding_58 (k0 : Nat) (P : Int → Sto → Prop) (y0 : Int) (σ : Sto) : Prop :=
  P y0 σ
def vX7_longestEnding_43 (k0 : Nat) (P : Int → Sto → Prop) (x2 y0 : Int) (σ : Sto) : Prop :=
  ∀ s4 : Sto, s4 = zu σ k0 7 y0 →
  (zR (s4 k0 7) ∧
  (((s4 k0 7) ≤ 0) →
  vX7_longestEnding_58 k0 P x2 s4) ∧
  ((¬ ((s4 k0 7) ≤ 0)) →
  vX7_longestEnding_58 k0 P 0 s4))
def vX7_longestEnding_14 (k0 : Nat) (P : Int → Sto → Prop) (x1 y0 : Int) (σ : Sto) : Prop :=
  ∀ s2 : Sto, s2 = zu σ k0 7 y0 →
  (zR (s2 k0 7) ∧
  (((s2 k0 7) ≤ 0) →
  vX7_endingOf k0 x1 0 (fun r3 s3 =>
  zR r3 ∧
  ((0 ≤ r3) →
  vX7_longestEnding_43 k0 P r3 0 s3) ∧
  ((¬ (0 ≤ r3)) →
  vX7_longestEnding_43 k0 P r3 2 s3)) s2) ∧
  ((¬ ((s2 k0 7) ≤ 0)) →
  P 0 s2))
def vX7_longestEnding (k0 : Nat) (x1 : Int) (P : Int → Sto → Prop) (σ : Sto) : Prop :=
  vX7_isWord k0 x1 (fun r1 s1 =>
  zR r1 ∧
  ((r1 = 0) →
  vX7_longestEnding_14 k0 P x1 1 s1) ∧
  ((¬ (r1 = 0)) →
  vX7_longestEnding_14 k0 P x1 0 s1)) σ
/-! InflectionGuesserModel.endings(I)I -/
def vX7_endings_34 (k0 : Nat) (P : Int → Sto → Prop) (y0 : Int) (σ : Sto) : Prop :=
  P y0 σ
def vX7_endings_14 (k0 : Nat) (P : Int → Sto → Prop) (x1 y0 : Int) (σ : Sto) : Prop :=
  ∀ s2 : Sto, s2 = zu σ k0 7 y0 →
  (zR (s2 k0 7) ∧
  (((s2 k0 7) ≤ 0) →
  vX7_endingOf k0 x1 1 (fun r3 s3 =>
  vX7_endings_34 k0 P r3 s3) s2) ∧
  ((¬ ((s2 k0 7) ≤ 0)) →
  vX7_endings_34 k0 P 0 s2))
def vX7_endings (k0 : Nat) (x1 : Int) (P : Int → Sto → Prop) (σ : Sto) : Prop :=
  vX7_isWord k0 x1 (fun r1 s1 =>
  zR r1 ∧
  ((r1 = 0) →
  vX7_endings_14 k0 P x1 1 s1) ∧
  ((¬ (r1 = 0)) →
  vX7_endings_14 k0 P x1 0 s1)) σ
/-! InflectionGuesserModel.findForms(I[II)V -/
def vX7_findForms_117 (k0 : Nat) (k2 : Nat) (P : Sto → Prop) (K8 : Int → Int → Int → Sto → Prop) (x1 x3 x4 : Int) (σ : Sto) : Prop :=
  K8 x1 x3 (x4 + 1) σ
def vX7_findForms_75 (k0 : Nat) (k2 : Nat) (P : Sto → Prop) (K8 : Int → Int → Int → Sto → Prop) (K36 : Int → Int → Int → Int → Int → Sto → Prop) (x1 x3 x4 x6 y0 : Int) (σ : Sto) : Prop :=
  K36 x1 x3 x4 y0 (x6 + 1) σ
def vX7_findForms_70 (k0 : Nat) (k2 : Nat) (P : Sto → Prop) (K8 : Int → Int → Int → Sto → Prop) (K36 : Int → Int → Int → Int → Int → Sto → Prop) (x1 x3 x4 x6 : Int) (σ : Sto) : Prop :=
  vX7_findForms_75 k0 k2 P K8 K36 x1 x3 x4 x6 1 σ
def bX7_findForms_36 (k0 : Nat) (k2 : Nat) (P : Sto → Prop) (K8 : Int → Int → Int → Sto → Prop) (K36 : Int → Int → Int → Int → Int → Sto → Prop) (x1 x3 x4 x5 x6 : Int) (σ : Sto) : Prop :=
  zR x6 ∧ zR (σ k0 17) ∧
  (((σ k0 17) ≤ x6) →
  zR x5 ∧
  ((¬ x5 = 0) →
  vX7_findForms_117 k0 k2 P K8 x1 x3 x4 σ) ∧
  ((x5 = 0) →
  vX7_copy (k0 + 5) 0 (k0 + 12) (17 * (σ k0 17)) (fun s4 =>
  ∀ s5 : Sto, s5 = zu s4 k0 17 ((s4 k0 17) + 1) →
  (vX7_findForms_117 k0 k2 P K8 x1 x3 x4 s5)) σ)) ∧
  ((¬ ((σ k0 17) ≤ x6)) →
  zR x5 ∧
  ((¬ x5 = 0) →
  vX7_findForms_70 k0 k2 P K8 K36 x1 x3 x4 x6 σ) ∧
  ((x5 = 0) →
  vX7_areSame (k0 + 5) 0 (k0 + 12) (17 * x6) (fun r6 s6 =>
  zR r6 ∧
  ((r6 = 0) →
  vX7_findForms_75 k0 k2 P K8 K36 x1 x3 x4 x6 0 s6) ∧
  ((¬ (r6 = 0)) →
  vX7_findForms_70 k0 k2 P K8 K36 x1 x3 x4 x6 s6)) σ))
def vX7_findForms_36 (k0 : Nat) (k2 : Nat) (P : Sto → Prop) (K8 : Int → Int → Int → Sto → Prop) : Nat → Int → Int → Int → Int → Int → Sto → Prop
  | 0 => fun _ _ _ _ _ _ => False
  | n + 1 => bX7_findForms_36 k0 k2 P K8 (vX7_findForms_36 k0 k2 P K8 n)
def bX7_findForms_8 (k0 : Nat) (k2 : Nat) (P : Sto → Prop) (K8 : Int → Int → Int → Sto → Prop) (x1 x3 x4 : Int) (σ : Sto) : Prop :=
  vX7_cellMany k0 x1 (fun r2 s2 =>
  zR x4 ∧ zR r2 ∧
  ((r2 ≤ x4) →
  P s2) ∧
  ((¬ (r2 ≤ x4)) →
  vX7_builds k0 x1 x4 k2 x3 (fun r3 s3 =>
  zR r3 ∧
  ((r3 = 0) →
  vX7_findForms_117 k0 k2 P K8 x1 x3 x4 s3) ∧
  ((¬ (r3 = 0)) →
  ∃ n, vX7_findForms_36 k0 k2 P K8 n x1 x3 x4 0 0 s3)) s2)) σ
def vX7_findForms_8 (k0 : Nat) (k2 : Nat) (P : Sto → Prop) : Nat → Int → Int → Int → Sto → Prop
  | 0 => fun _ _ _ _ => False
  | n + 1 => bX7_findForms_8 k0 k2 P (vX7_findForms_8 k0 k2 P n)
def vX7_findForms (k0 : Nat) (x1 : Int) (k2 : Nat) (x3 : Int) (P : Sto → Prop) (σ : Sto) : Prop :=
  ∀ s1 : Sto, s1 = zu σ k0 17 0 →
  (∃ n, vX7_findForms_8 k0 k2 P n x1 x3 0 s1)
/-! InflectionGuesserModel.compareWords([II[II)I -/
def vX7_compareWords_79 (k0 : Nat) (k2 : Nat) (P : Int → Sto → Prop) (y0 : Int) (σ : Sto) : Prop :=
  P y0 σ
def vX7_compareWords_56 (k0 : Nat) (k2 : Nat) (P : Int → Sto → Prop) (x1 x3 : Int) (σ : Sto) : Prop :=
  0 ≤ x1 ∧ x1 < (zn k0 : Int) ∧
  (0 ≤ x3 ∧ x3 < (zn k2 : Int) ∧
  (vX7_compareWords_79 k0 k2 P ((σ k0 (Int.toNat x1)) - (σ k2 (Int.toNat x3))) σ))
def vX7_compareWords_40 (k0 : Nat) (k2 : Nat) (P : Int → Sto → Prop) (x1 x3 x4 : Int) (σ : Sto) : Prop :=
  0 ≤ x1 ∧ x1 < (zn k0 : Int) ∧
  (zR x4 ∧ zR (σ k0 (Int.toNat x1)) ∧
  (((σ k0 (Int.toNat x1)) < x4) →
  vX7_compareWords_56 k0 k2 P x1 x3 σ) ∧
  ((¬ ((σ k0 (Int.toNat x1)) < x4)) →
  0 ≤ x3 ∧ x3 < (zn k2 : Int) ∧
  (zR x4 ∧ zR (σ k2 (Int.toNat x3)) ∧
  ((x4 ≤ (σ k2 (Int.toNat x3))) →
  0 ≤ (x1 + x4) ∧ (x1 + x4) < (zn k0 : Int) ∧
  (0 ≤ (x3 + x4) ∧ (x3 + x4) < (zn k2 : Int) ∧
  (vX7_compareWords_79 k0 k2 P ((σ k0 (Int.toNat (x1 + x4))) - (σ k2 (Int.toNat (x3 + x4)))) σ))) ∧
  ((¬ (x4 ≤ (σ k2 (Int.toNat x3)))) →
  vX7_compareWords_56 k0 k2 P x1 x3 σ))))
def bX7_compareWords_3 (k0 : Nat) (k2 : Nat) (P : Int → Sto → Prop) (K3 : Int → Int → Int → Sto → Prop) (x1 x3 x4 : Int) (σ : Sto) : Prop :=
  0 ≤ x1 ∧ x1 < (zn k0 : Int) ∧
  (zR x4 ∧ zR (σ k0 (Int.toNat x1)) ∧
  (((σ k0 (Int.toNat x1)) < x4) →
  vX7_compareWords_40 k0 k2 P x1 x3 x4 σ) ∧
  ((¬ ((σ k0 (Int.toNat x1)) < x4)) →
  0 ≤ x3 ∧ x3 < (zn k2 : Int) ∧
  (zR x4 ∧ zR (σ k2 (Int.toNat x3)) ∧
  (((σ k2 (Int.toNat x3)) < x4) →
  vX7_compareWords_40 k0 k2 P x1 x3 x4 σ) ∧
  ((¬ ((σ k2 (Int.toNat x3)) < x4)) →
  0 ≤ (x1 + x4) ∧ (x1 + x4) < (zn k0 : Int) ∧
  (0 ≤ (x3 + x4) ∧ (x3 + x4) < (zn k2 : Int) ∧
  (zR (σ k0 (Int.toNat (x1 + x4))) ∧ zR (σ k2 (Int.toNat (x3 + x4))) ∧
  ((¬ (σ k0 (Int.toNat (x1 + x4))) = (σ k2 (Int.toNat (x3 + x4)))) →
  vX7_compareWords_40 k0 k2 P x1 x3 x4 σ) ∧
  (((σ k0 (Int.toNat (x1 + x4))) = (σ k2 (Int.toNat (x3 + x4)))) →
  K3 x1 x3 (x4 + 1) σ)))))))
def vX7_compareWords_3 (k0 : Nat) (k2 : Nat) (P : Int → Sto → Prop) : Nat → Int → Int → Int → Sto → Prop
  | 0 => fun _ _ _ _ => False
  | n + 1 => bX7_compareWords_3 k0 k2 P (vX7_compareWords_3 k0 k2 P n)
def vX7_compareWords (k0 : Nat) (x1 : Int) (k2 : Nat) (x3 : Int) (P : Int → Sto → Prop) (σ : Sto) : Prop :=
  ∃ n, vX7_compareWords_3 k0 k2 P n x1 x3 1 σ
/-! InflectionGuesserModel.isAhead(II)Z -/
def vX7_isAhead_194 (k0 : Nat) (P : Int → Sto → Prop) (y0 : Int) (σ : Sto) : Prop :=
  (y0 = 0 ∨ y0 = 1) ∧ P y0 σ
def vX7_isAhead_166 (k0 : Nat) (P : Int → Sto → Prop) (y0 : Int) (σ : Sto) : Prop :=
  (y0 = 0 ∨ y0 = 1) ∧ P y0 σ
def vX7_isAhead_130 (k0 : Nat) (P : Int → Sto → Prop) (y0 : Int) (σ : Sto) : Prop :=
  (y0 = 0 ∨ y0 = 1) ∧ P y0 σ
def vX7_isAhead_82 (k0 : Nat) (P : Int → Sto → Prop) (y0 : Int) (σ : Sto) : Prop :=
  (y0 = 0 ∨ y0 = 1) ∧ P y0 σ
def vX7_isAhead_35 (k0 : Nat) (P : Int → Sto → Prop) (y0 : Int) (σ : Sto) : Prop :=
  (y0 = 0 ∨ y0 = 1) ∧ P y0 σ
def vX7_isAhead (k0 : Nat) (x1 : Int) (x2 : Int) (P : Int → Sto → Prop) (σ : Sto) : Prop :=
  0 ≤ x1 ∧ x1 < (zn (k0 + 7) : Int) ∧
  (0 ≤ x2 ∧ x2 < (zn (k0 + 7) : Int) ∧
  (zR (σ (k0 + 7) (Int.toNat x1)) ∧ zR (σ (k0 + 7) (Int.toNat x2)) ∧
  (((σ (k0 + 7) (Int.toNat x1)) = (σ (k0 + 7) (Int.toNat x2))) →
  0 ≤ x1 ∧ x1 < (zn (k0 + 8) : Int) ∧
  (0 ≤ x1 ∧ x1 < (zn (k0 + 7) : Int) ∧
  (0 ≤ x2 ∧ x2 < (zn (k0 + 8) : Int) ∧
  (0 ≤ x2 ∧ x2 < (zn (k0 + 7) : Int) ∧
  (zR ((σ (k0 + 8) (Int.toNat x1)) - (σ (k0 + 7) (Int.toNat x1))) ∧ zR ((σ (k0 + 8) (Int.toNat x2)) - (σ (k0 + 7) (Int.toNat x2))) ∧
  ((((σ (k0 + 8) (Int.toNat x1)) - (σ (k0 + 7) (Int.toNat x1))) = ((σ (k0 + 8) (Int.toNat x2)) - (σ (k0 + 7) (Int.toNat x2)))) →
  0 ≤ (11 * x1) ∧ (11 * x1) < (zn (k0 + 9) : Int) ∧
  (0 ≤ (11 * x2) ∧ (11 * x2) < (zn (k0 + 9) : Int) ∧
  (zR (σ (k0 + 9) (Int.toNat (11 * x1))) ∧ zR (σ (k0 + 9) (Int.toNat (11 * x2))) ∧
  (((σ (k0 + 9) (Int.toNat (11 * x1))) = (σ (k0 + 9) (Int.toNat (11 * x2)))) →
  0 ≤ x1 ∧ x1 < (zn (k0 + 6) : Int) ∧
  (0 ≤ x2 ∧ x2 < (zn (k0 + 6) : Int) ∧
  (zR (σ (k0 + 6) (Int.toNat x1)) ∧ zR (σ (k0 + 6) (Int.toNat x2)) ∧
  (((σ (k0 + 6) (Int.toNat x1)) = (σ (k0 + 6) (Int.toNat x2))) →
  vX7_compareWords (k0 + 9) (11 * x1) (k0 + 9) (11 * x2) (fun r1 s1 =>
  zR r1 ∧
  ((0 ≤ r1) →
  vX7_isAhead_194 k0 P 0 s1) ∧
  ((¬ (0 ≤ r1)) →
  vX7_isAhead_194 k0 P 1 s1)) σ) ∧
  ((¬ ((σ (k0 + 6) (Int.toNat x1)) = (σ (k0 + 6) (Int.toNat x2)))) →
  0 ≤ x1 ∧ x1 < (zn (k0 + 6) : Int) ∧
  (0 ≤ x2 ∧ x2 < (zn (k0 + 6) : Int) ∧
  (zR (σ (k0 + 6) (Int.toNat x1)) ∧ zR (σ (k0 + 6) (Int.toNat x2)) ∧
  (((σ (k0 + 6) (Int.toNat x2)) ≤ (σ (k0 + 6) (Int.toNat x1))) →
  vX7_isAhead_166 k0 P 0 σ) ∧
  ((¬ ((σ (k0 + 6) (Int.toNat x2)) ≤ (σ (k0 + 6) (Int.toNat x1)))) →
  vX7_isAhead_166 k0 P 1 σ))))))) ∧
  ((¬ ((σ (k0 + 9) (Int.toNat (11 * x1))) = (σ (k0 + 9) (Int.toNat (11 * x2))))) →
  0 ≤ (11 * x1) ∧ (11 * x1) < (zn (k0 + 9) : Int) ∧
  (0 ≤ (11 * x2) ∧ (11 * x2) < (zn (k0 + 9) : Int) ∧
  (zR (σ (k0 + 9) (Int.toNat (11 * x1))) ∧ zR (σ (k0 + 9) (Int.toNat (11 * x2))) ∧
  (((σ (k0 + 9) (Int.toNat (11 * x1))) ≤ (σ (k0 + 9) (Int.toNat (11 * x2)))) →
  vX7_isAhead_130 k0 P 0 σ) ∧
  ((¬ ((σ (k0 + 9) (Int.toNat (11 * x1))) ≤ (σ (k0 + 9) (Int.toNat (11 * x2))))) →
  vX7_isAhead_130 k0 P 1 σ))))))) ∧
  ((¬ (((σ (k0 + 8) (Int.toNat x1)) - (σ (k0 + 7) (Int.toNat x1))) = ((σ (k0 + 8) (Int.toNat x2)) - (σ (k0 + 7) (Int.toNat x2))))) →
  zR ((σ (k0 + 8) (Int.toNat x1)) - (σ (k0 + 7) (Int.toNat x1))) ∧ zR ((σ (k0 + 8) (Int.toNat x2)) - (σ (k0 + 7) (Int.toNat x2))) ∧
  ((((σ (k0 + 8) (Int.toNat x2)) - (σ (k0 + 7) (Int.toNat x2))) ≤ ((σ (k0 + 8) (Int.toNat x1)) - (σ (k0 + 7) (Int.toNat x1)))) →
  vX7_isAhead_82 k0 P 0 σ) ∧
  ((¬ (((σ (k0 + 8) (Int.toNat x2)) - (σ (k0 + 7) (Int.toNat x2))) ≤ ((σ (k0 + 8) (Int.toNat x1)) - (σ (k0 + 7) (Int.toNat x1))))) →
  vX7_isAhead_82 k0 P 1 σ))))))) ∧
  ((¬ ((σ (k0 + 7) (Int.toNat x1)) = (σ (k0 + 7) (Int.toNat x2)))) →
  0 ≤ x1 ∧ x1 < (zn (k0 + 7) : Int) ∧
  (0 ≤ x2 ∧ x2 < (zn (k0 + 7) : Int) ∧
  (zR (σ (k0 + 7) (Int.toNat x1)) ∧ zR (σ (k0 + 7) (Int.toNat x2)) ∧
  (((σ (k0 + 7) (Int.toNat x1)) ≤ (σ (k0 + 7) (Int.toNat x2))) →
  vX7_isAhead_35 k0 P 0 σ) ∧
  ((¬ ((σ (k0 + 7) (Int.toNat x1)) ≤ (σ (k0 + 7) (Int.toNat x2)))) →
  vX7_isAhead_35 k0 P 1 σ))))))
/-! InflectionGuesserModel.proposes(I)V -/
def vX7_proposes_208 (k0 : Nat) (P : Sto → Prop) (x3 x4 : Int) (σ : Sto) : Prop :=
  0 ≤ x4 ∧ x4 < (zn (k0 + 10) : Int) ∧
  (∀ s7 : Sto, s7 = zu σ (k0 + 10) (Int.toNat x4) x3 →
  (∀ s8 : Sto, s8 = zu s7 k0 9 ((s7 k0 9) + 1) →
  (P s8)))
def bX7_proposes_164 (k0 : Nat) (P : Sto → Prop) (K164 : Int → Int → Sto → Prop) (x3 x4 : Int) (σ : Sto) : Prop :=
  zR x4 ∧
  ((x4 ≤ 0) →
  vX7_proposes_208 k0 P x3 x4 σ) ∧
  ((¬ (x4 ≤ 0)) →
  0 ≤ (x4 - 1) ∧ (x4 - 1) < (zn (k0 + 10) : Int) ∧
  (vX7_isAhead k0 x3 (σ (k0 + 10) (Int.toNat (x4 - 1))) (fun r9 s9 =>
  zR r9 ∧
  ((r9 = 0) →
  vX7_proposes_208 k0 P x3 x4 s9) ∧
  ((¬ (r9 = 0)) →
  0 ≤ (x4 - 1) ∧ (x4 - 1) < (zn (k0 + 10) : Int) ∧
  (0 ≤ x4 ∧ x4 < (zn (k0 + 10) : Int) ∧
  (∀ s10 : Sto, s10 = zu s9 (k0 + 10) (Int.toNat x4) (s9 (k0 + 10) (Int.toNat (x4 - 1))) →
  (K164 x3 (x4 + (-1)) s10))))) σ))
def vX7_proposes_164 (k0 : Nat) (P : Sto → Prop) : Nat → Int → Int → Sto → Prop
  | 0 => fun _ _ _ => False
  | n + 1 => bX7_proposes_164 k0 P (vX7_proposes_164 k0 P n)
def vX7_proposes_103 (k0 : Nat) (P : Sto → Prop) (K74 : Int → Int → Int → Sto → Prop) (x1 x3 y0 y1 : Int) (σ : Sto) : Prop :=
  K74 x1 (y1 + y0) (x3 + 1) σ
def bX7_proposes_74 (k0 : Nat) (P : Sto → Prop) (K74 : Int → Int → Int → Sto → Prop) (x1 x2 x3 : Int) (σ : Sto) : Prop :=
  zR x3 ∧ zR (σ k0 17) ∧
  (((σ k0 17) ≤ x3) →
  zR x2 ∧
  ((¬ x2 = 0) →
  0 ≤ (σ k0 9) ∧ (σ k0 9) < (zn (k0 + 6) : Int) ∧
  (∀ s3 : Sto, s3 = zu σ (k0 + 6) (Int.toNat (σ k0 9)) x1 →
  (0 ≤ (σ k0 9) ∧ (σ k0 9) < (zn (k0 + 7) : Int) ∧
  (∀ s4 : Sto, s4 = zu s3 (k0 + 7) (Int.toNat (σ k0 9)) x2 →
  (0 ≤ (σ k0 9) ∧ (σ k0 9) < (zn (k0 + 8) : Int) ∧
  (∀ s5 : Sto, s5 = zu s4 (k0 + 8) (Int.toNat (σ k0 9)) (s4 k0 17) →
  (vX7_copy (k0 + 11) 0 (k0 + 9) (11 * (σ k0 9)) (fun s6 =>
  ∃ n, vX7_proposes_164 k0 P n (σ k0 9) (σ k0 9) s6) s5))))))) ∧
  ((x2 = 0) →
  P σ)) ∧
  ((¬ ((σ k0 17) ≤ x3)) →
  vX7_attested k0 (k0 + 12) (17 * x3) (fun r11 s11 =>
  zR r11 ∧
  ((r11 < 0) →
  vX7_proposes_103 k0 P K74 x1 x3 0 x2 s11) ∧
  ((¬ (r11 < 0)) →
  vX7_proposes_103 k0 P K74 x1 x3 1 x2 s11)) σ)
def vX7_proposes_74 (k0 : Nat) (P : Sto → Prop) : Nat → Int → Int → Int → Sto → Prop
  | 0 => fun _ _ _ _ => False
  | n + 1 => bX7_proposes_74 k0 P (vX7_proposes_74 k0 P n)
def vX7_proposes_54 (k0 : Nat) (P : Sto → Prop) (K16 : Int → Int → Sto → Prop) (x1 x2 : Int) (σ : Sto) : Prop :=
  K16 x1 (x2 + 1) σ
def bX7_proposes_16 (k0 : Nat) (P : Sto → Prop) (K16 : Int → Int → Sto → Prop) (x1 x2 : Int) (σ : Sto) : Prop :=
  zR x2 ∧ zR (σ k0 9) ∧
  (((σ k0 9) ≤ x2) →
  vX7_findForms k0 x1 (k0 + 11) 0 (fun s2 =>
  ∃ n, vX7_proposes_74 k0 P n x1 0 0 s2) σ) ∧
  ((¬ ((σ k0 9) ≤ x2)) →
  0 ≤ x2 ∧ x2 < (zn (k0 + 6) : Int) ∧
  (zR (σ (k0 + 6) (Int.toNat x2)) ∧ zR x1 ∧
  ((¬ (σ (k0 + 6) (Int.toNat x2)) = x1) →
  vX7_proposes_54 k0 P K16 x1 x2 σ) ∧
  (((σ (k0 + 6) (Int.toNat x2)) = x1) →
  vX7_areSame (k0 + 11) 0 (k0 + 9) (11 * x2) (fun r12 s12 =>
  zR r12 ∧
  ((r12 = 0) →
  vX7_proposes_54 k0 P K16 x1 x2 s12) ∧
  ((¬ (r12 = 0)) →
  P s12)) σ)))
def vX7_proposes_16 (k0 : Nat) (P : Sto → Prop) : Nat → Int → Int → Sto → Prop
  | 0 => fun _ _ _ => False
  | n + 1 => bX7_proposes_16 k0 P (vX7_proposes_16 k0 P n)
def vX7_proposes (k0 : Nat) (x1 : Int) (P : Sto → Prop) (σ : Sto) : Prop :=
  vX7_isStem k0 x1 (k0 + 11) 0 (fun r1 s1 =>
  zR r1 ∧
  ((¬ r1 = 0) →
  ∃ n, vX7_proposes_16 k0 P n x1 0 s1) ∧
  ((r1 = 0) →
  P s1)) σ
/-! InflectionGuesserModel.proposesFrom(III)V -/
def vX7_proposesFrom_226 (k0 : Nat) (P : Sto → Prop) (σ : Sto) : Prop :=
  P σ
def bX7_proposesFrom_192 (k0 : Nat) (P : Sto → Prop) (K192 : Int → Int → Int → Sto → Prop) (x1 x5 x6 : Int) (σ : Sto) : Prop :=
  zR x6 ∧
  ((5 ≤ x6) →
  vX7_proposesFrom_226 k0 P σ) ∧
  ((¬ (5 ≤ x6)) →
  zR x5 ∧
  ((x5 ≤ 0) →
  vX7_proposesFrom_226 k0 P σ) ∧
  ((¬ (x5 ≤ 0)) →
  vX7_vowel x6 (fun r7 s7 =>
  0 ≤ x5 ∧ x5 < (zn (k0 + 11) : Int) ∧
  (∀ s8 : Sto, s8 = zu s7 (k0 + 11) (Int.toNat x5) r7 →
  (vX7_proposes k0 x1 (fun s9 =>
  K192 x1 x5 (x6 + 1) s9) s8))) σ))
def vX7_proposesFrom_192 (k0 : Nat) (P : Sto → Prop) : Nat → Int → Int → Int → Sto → Prop
  | 0 => fun _ _ _ _ => False
  | n + 1 => bX7_proposesFrom_192 k0 P (vX7_proposesFrom_192 k0 P n)
def vX7_proposesFrom_189 (k0 : Nat) (P : Sto → Prop) (x1 x5 : Int) (σ : Sto) : Prop :=
  ∃ n, vX7_proposesFrom_192 k0 P n x1 x5 0 σ
def vX7_proposesFrom_177 (k0 : Nat) (P : Sto → Prop) (x1 y0 : Int) (σ : Sto) : Prop :=
  zR y0 ∧
  ((¬ y0 = 0) →
  vX7_proposesFrom_189 k0 P x1 y0 σ) ∧
  ((y0 = 0) →
  vX7_proposes k0 x1 (fun s10 =>
  vX7_proposesFrom_189 k0 P x1 y0 s10) σ)
def vX7_proposesFrom_154 (k0 : Nat) (P : Sto → Prop) (x1 x4 : Int) (σ : Sto) : Prop :=
  0 ≤ x4 ∧ x4 < (zn (k0 + 1) : Int) ∧
  (zR (σ (k0 + 1) (Int.toNat x4)) ∧
  ((¬ (σ (k0 + 1) (Int.toNat x4)) = 3) →
  vX7_proposesFrom_177 k0 P x1 0 σ) ∧
  (((σ (k0 + 1) (Int.toNat x4)) = 3) →
  vX7_lastVowel (k0 + 11) 0 (fun r11 s11 =>
  vX7_proposesFrom_177 k0 P x1 r11 s11) σ))
def vX7_proposesFrom_152 (k0 : Nat) (P : Sto → Prop) (x1 x4 y0 y1 y2 : Int) (σ : Sto) : Prop :=
  0 ≤ y2 ∧ y2 < (zn (k0 + 11) : Int) ∧
  (∀ s12 : Sto, s12 = zu σ (k0 + 11) (Int.toNat y2) (y1 - y0) →
  (vX7_proposesFrom_154 k0 P x1 x4 s12))
def vX7_proposesFrom_120 (k0 : Nat) (P : Sto → Prop) (x1 x4 : Int) (σ : Sto) : Prop :=
  0 ≤ x4 ∧ x4 < (zn (k0 + 1) : Int) ∧
  (zR (σ (k0 + 1) (Int.toNat x4)) ∧
  ((¬ (σ (k0 + 1) (Int.toNat x4)) = 2) →
  vX7_proposesFrom_154 k0 P x1 x4 σ) ∧
  (((σ (k0 + 1) (Int.toNat x4)) = 2) →
  0 < (zn (k0 + 11) : Int) ∧
  (0 < (zn (k0 + 11) : Int) ∧
  (zR (σ (k0 + 11) (Int.toNat 0)) ∧
  (((σ (k0 + 11) (Int.toNat 0)) ≤ 0) →
  vX7_proposesFrom_152 k0 P x1 x4 0 (σ (k0 + 11) (Int.toNat 0)) 0 σ) ∧
  ((¬ ((σ (k0 + 11) (Int.toNat 0)) ≤ 0)) →
  vX7_proposesFrom_152 k0 P x1 x4 1 (σ (k0 + 11) (Int.toNat 0)) 0 σ)))))
def bX7_proposesFrom_80 (k0 : Nat) (P : Sto → Prop) (K80 : Int → Int → Int → Sto → Prop) (x1 x4 x5 : Int) (σ : Sto) : Prop :=
  0 ≤ (x4 + 2) ∧ (x4 + 2) < (zn (k0 + 1) : Int) ∧
  (zR x5 ∧ zR (σ (k0 + 1) (Int.toNat (x4 + 2))) ∧
  (((σ (k0 + 1) (Int.toNat (x4 + 2))) < x5) →
  vX7_proposesFrom_120 k0 P x1 x4 σ) ∧
  ((¬ ((σ (k0 + 1) (Int.toNat (x4 + 2))) < x5)) →
  0 ≤ ((x4 + 2) + x5) ∧ ((x4 + 2) + x5) < (zn (k0 + 1) : Int) ∧
  (vX7_put (k0 + 11) 0 (σ (k0 + 1) (Int.toNat ((x4 + 2) + x5))) (fun s13 =>
  K80 x1 x4 (x5 + 1) s13) σ)))
def vX7_proposesFrom_80 (k0 : Nat) (P : Sto → Prop) : Nat → Int → Int → Int → Sto → Prop
  | 0 => fun _ _ _ _ => False
  | n + 1 => bX7_proposesFrom_80 k0 P (vX7_proposesFrom_80 k0 P n)
def vX7_proposesFrom (k0 : Nat) (x1 : Int) (x2 : Int) (x3 : Int) (P : Sto → Prop) (σ : Sto) : Prop :=
  vX7_cellAt x1 x2 (fun r1 s1 =>
  vX7_wordAt x3 (fun r2 s2 =>
  vX7_endsIn (k0 + 1) r2 (k0 + 1) (r1 + 7) (fun r3 s3 =>
  zR r3 ∧
  ((¬ r3 = 0) →
  vX7_wordAt x3 (fun r4 s4 =>
  vX7_copy (k0 + 1) r4 (k0 + 11) 0 (fun s5 =>
  0 < (zn (k0 + 11) : Int) ∧
  (0 ≤ (r1 + 7) ∧ (r1 + 7) < (zn (k0 + 1) : Int) ∧
  (0 < (zn (k0 + 11) : Int) ∧
  (∀ s6 : Sto, s6 = zu s5 (k0 + 11) (Int.toNat 0) ((s5 (k0 + 11) (Int.toNat 0)) - (s5 (k0 + 1) (Int.toNat (r1 + 7)))) →
  (0 ≤ r1 ∧ r1 < (zn (k0 + 1) : Int) ∧
  (zR (s6 (k0 + 1) (Int.toNat r1)) ∧
  ((¬ (s6 (k0 + 1) (Int.toNat r1)) = 1) →
  vX7_proposesFrom_120 k0 P x1 r1 s6) ∧
  (((s6 (k0 + 1) (Int.toNat r1)) = 1) →
  ∃ n, vX7_proposesFrom_80 k0 P n x1 r1 1 s6))))))) s4) s3) ∧
  ((r3 = 0) →
  P s3)) s2) s1) σ
/-! InflectionGuesserModel.find()V -/
def bX7_find_38 (k0 : Nat) (P : Sto → Prop) (K15 : Int → Sto → Prop) (K27 : Int → Int → Sto → Prop) (K38 : Int → Int → Int → Sto → Prop) (x1 x2 x3 : Int) (σ : Sto) : Prop :=
  1 < (zn (k0 + 1) : Int) ∧
  (zR x3 ∧ zR (σ (k0 + 1) (Int.toNat 1)) ∧
  (((σ (k0 + 1) (Int.toNat 1)) ≤ x3) →
  K27 x1 (x2 + 1) σ) ∧
  ((¬ ((σ (k0 + 1) (Int.toNat 1)) ≤ x3)) →
  vX7_proposesFrom k0 x1 x2 x3 (fun s4 =>
  K38 x1 x2 (x3 + 1) s4) σ))
def vX7_find_38 (k0 : Nat) (P : Sto → Prop) (K15 : Int → Sto → Prop) (K27 : Int → Int → Sto → Prop) : Nat → Int → Int → Int → Sto → Prop
  | 0 => fun _ _ _ _ => False
  | n + 1 => bX7_find_38 k0 P K15 K27 (vX7_find_38 k0 P K15 K27 n)
def bX7_find_27 (k0 : Nat) (P : Sto → Prop) (K15 : Int → Sto → Prop) (K27 : Int → Int → Sto → Prop) (x1 x2 : Int) (σ : Sto) : Prop :=
  vX7_cellMany k0 x1 (fun r3 s3 =>
  zR x2 ∧ zR r3 ∧
  ((r3 ≤ x2) →
  K15 (x1 + 1) s3) ∧
  ((¬ (r3 ≤ x2)) →
  ∃ n, vX7_find_38 k0 P K15 K27 n x1 x2 0 s3)) σ
def vX7_find_27 (k0 : Nat) (P : Sto → Prop) (K15 : Int → Sto → Prop) : Nat → Int → Int → Sto → Prop
  | 0 => fun _ _ _ => False
  | n + 1 => bX7_find_27 k0 P K15 (vX7_find_27 k0 P K15 n)
def bX7_find_15 (k0 : Nat) (P : Sto → Prop) (K15 : Int → Sto → Prop) (x1 : Int) (σ : Sto) : Prop :=
  0 < (zn (k0 + 1) : Int) ∧
  (zR x1 ∧ zR (σ (k0 + 1) (Int.toNat 0)) ∧
  (((σ (k0 + 1) (Int.toNat 0)) ≤ x1) →
  ∀ s2 : Sto, s2 = zu σ k0 8 1 →
  (P s2)) ∧
  ((¬ ((σ (k0 + 1) (Int.toNat 0)) ≤ x1)) →
  ∃ n, vX7_find_27 k0 P K15 n x1 0 σ))
def vX7_find_15 (k0 : Nat) (P : Sto → Prop) : Nat → Int → Sto → Prop
  | 0 => fun _ _ => False
  | n + 1 => bX7_find_15 k0 P (vX7_find_15 k0 P n)
def vX7_find (k0 : Nat) (P : Sto → Prop) (σ : Sto) : Prop :=
  zR (σ k0 8) ∧
  (((σ k0 8) = 0) →
  ∀ s1 : Sto, s1 = zu σ k0 9 0 →
  (∃ n, vX7_find_15 k0 P n 0 s1)) ∧
  ((¬ ((σ k0 8) = 0)) →
  P σ)
/-! InflectionGuesserModel.isHypothesis(I)Z -/
def vX7_isHypothesis (k0 : Nat) (x1 : Int) (P : Int → Sto → Prop) (σ : Sto) : Prop :=
  vX7_find k0 (fun s1 =>
  zR x1 ∧
  (zR ((s1 k0 9) - 1) ∧
  (vX7_in x1 0 ((s1 k0 9) - 1) (fun r2 s2 =>
  (r2 = 0 ∨ r2 = 1) ∧ P r2 s2) s1))) σ
/-! InflectionGuesserModel.hypothesisCount()I -/
def vX7_hypothesisCount (k0 : Nat) (P : Int → Sto → Prop) (σ : Sto) : Prop :=
  ∀ s1 : Sto, s1 = zu σ k0 7 0 →
  (vX7_find k0 (fun s2 =>
  P (s2 k0 9) s2) s1)
/-! InflectionGuesserModel.hypothesis(II)I -/
def vX7_hypothesis_106 (k0 : Nat) (P : Int → Sto → Prop) (y0 : Int) (σ : Sto) : Prop :=
  P y0 σ
def vX7_hypothesis_30 (k0 : Nat) (P : Int → Sto → Prop) (x1 x2 y0 : Int) (σ : Sto) : Prop :=
  ∀ s3 : Sto, s3 = zu σ k0 7 y0 →
  (zR (s3 k0 7) ∧
  (((s3 k0 7) ≤ 0) →
  0 ≤ x1 ∧ x1 < (zn (k0 + 10) : Int) ∧
  (zR x2 ∧
  ((¬ x2 = 0) →
  zR x2 ∧
  ((¬ x2 = 1) →
  zR x2 ∧
  ((¬ x2 = 2) →
  0 ≤ (11 * (s3 (k0 + 10) (Int.toNat x1))) ∧ (11 * (s3 (k0 + 10) (Int.toNat x1))) < (zn (k0 + 9) : Int) ∧
  (vX7_hypothesis_106 k0 P (s3 (k0 + 9) (Int.toNat (11 * (s3 (k0 + 10) (Int.toNat x1))))) s3)) ∧
  ((x2 = 2) →
  0 ≤ (s3 (k0 + 10) (Int.toNat x1)) ∧ (s3 (k0 + 10) (Int.toNat x1)) < (zn (k0 + 8) : Int) ∧
  (0 ≤ (s3 (k0 + 10) (Int.toNat x1)) ∧ (s3 (k0 + 10) (Int.toNat x1)) < (zn (k0 + 7) : Int) ∧
  (vX7_hypothesis_106 k0 P ((s3 (k0 + 8) (Int.toNat (s3 (k0 + 10) (Int.toNat x1)))) - (s3 (k0 + 7) (Int.toNat (s3 (k0 + 10) (Int.toNat x1))))) s3)))) ∧
  ((x2 = 1) →
  0 ≤ (s3 (k0 + 10) (Int.toNat x1)) ∧ (s3 (k0 + 10) (Int.toNat x1)) < (zn (k0 + 7) : Int) ∧
  (vX7_hypothesis_106 k0 P (s3 (k0 + 7) (Int.toNat (s3 (k0 + 10) (Int.toNat x1)))) s3))) ∧
  ((x2 = 0) →
  0 ≤ (s3 (k0 + 10) (Int.toNat x1)) ∧ (s3 (k0 + 10) (Int.toNat x1)) < (zn (k0 + 6) : Int) ∧
  (vX7_hypothesis_106 k0 P (s3 (k0 + 6) (Int.toNat (s3 (k0 + 10) (Int.toNat x1)))) s3)))) ∧
  ((¬ ((s3 k0 7) ≤ 0)) →
  P 0 s3))
def vX7_hypothesis (k0 : Nat) (x1 : Int) (x2 : Int) (P : Int → Sto → Prop) (σ : Sto) : Prop :=
  vX7_isHypothesis k0 x1 (fun r1 s1 =>
  zR r1 ∧
  ((¬ r1 = 0) →
  zR x2 ∧
  (vX7_in x2 0 3 (fun r2 s2 =>
  zR r2 ∧
  ((¬ r2 = 0) →
  vX7_hypothesis_30 k0 P x1 x2 0 s2) ∧
  ((r2 = 0) →
  vX7_hypothesis_30 k0 P x1 x2 2 s2)) s1)) ∧
  ((r1 = 0) →
  vX7_hypothesis_30 k0 P x1 x2 1 s1)) σ
/-! InflectionGuesserModel.stemLetter(II)C -/
def vX7_stemLetter_73 (k0 : Nat) (P : Int → Sto → Prop) (y0 : Int) (σ : Sto) : Prop :=
  0 ≤ y0 ∧ y0 ≤ 65535 ∧ P y0 σ
def vX7_stemLetter_40 (k0 : Nat) (P : Int → Sto → Prop) (x1 x2 y0 : Int) (σ : Sto) : Prop :=
  ∀ s2 : Sto, s2 = zu σ k0 7 y0 →
  (zR (s2 k0 7) ∧
  (((s2 k0 7) ≤ 0) →
  0 ≤ x1 ∧ x1 < (zn (k0 + 10) : Int) ∧
  (0 ≤ (((11 * (s2 (k0 + 10) (Int.toNat x1))) + 1) + x2) ∧ (((11 * (s2 (k0 + 10) (Int.toNat x1))) + 1) + x2) < (zn (k0 + 9) : Int) ∧
  (vX7_stemLetter_73 k0 P (zi2c (s2 (k0 + 9) (Int.toNat (((11 * (s2 (k0 + 10) (Int.toNat x1))) + 1) + x2)))) s2))) ∧
  ((¬ ((s2 k0 7) ≤ 0)) →
  vX7_stemLetter_73 k0 P 0 s2))
def vX7_stemLetter_39 (k0 : Nat) (P : Int → Sto → Prop) (x1 x2 : Int) (σ : Sto) : Prop :=
  vX7_stemLetter_40 k0 P x1 x2 1 σ
def vX7_stemLetter (k0 : Nat) (x1 : Int) (x2 : Int) (P : Int → Sto → Prop) (σ : Sto) : Prop :=
  vX7_isHypothesis k0 x1 (fun r1 s1 =>
  zR r1 ∧
  ((r1 = 0) →
  vX7_stemLetter_39 k0 P x1 x2 s1) ∧
  ((¬ (r1 = 0)) →
  zR x2 ∧
  (0 ≤ x1 ∧ x1 < (zn (k0 + 10) : Int) ∧
  (0 ≤ (11 * (s1 (k0 + 10) (Int.toNat x1))) ∧ (11 * (s1 (k0 + 10) (Int.toNat x1))) < (zn (k0 + 9) : Int) ∧
  (zR ((s1 (k0 + 9) (Int.toNat (11 * (s1 (k0 + 10) (Int.toNat x1))))) - 1) ∧
  (vX7_in x2 0 ((s1 (k0 + 9) (Int.toNat (11 * (s1 (k0 + 10) (Int.toNat x1))))) - 1) (fun r3 s3 =>
  zR r3 ∧
  ((r3 = 0) →
  vX7_stemLetter_39 k0 P x1 x2 s3) ∧
  ((¬ (r3 = 0)) →
  vX7_stemLetter_40 k0 P x1 x2 0 s3)) s1)))))) σ
/-! InflectionGuesserModel.explainsWord(II)Z -/
def vX7_explainsWord_71 (k0 : Nat) (P : Int → Sto → Prop) (K5 : Int → Int → Int → Int → Sto → Prop) (x1 x2 x4 y0 : Int) (σ : Sto) : Prop :=
  K5 x1 x2 y0 (x4 + 1) σ
def vX7_explainsWord_66 (k0 : Nat) (P : Int → Sto → Prop) (K5 : Int → Int → Int → Int → Sto → Prop) (x1 x2 x4 : Int) (σ : Sto) : Prop :=
  vX7_explainsWord_71 k0 P K5 x1 x2 x4 1 σ
def vX7_explainsWord_70 (k0 : Nat) (P : Int → Sto → Prop) (K5 : Int → Int → Int → Int → Sto → Prop) (x1 x2 x4 : Int) (σ : Sto) : Prop :=
  vX7_explainsWord_71 k0 P K5 x1 x2 x4 0 σ
def bX7_explainsWord_5 (k0 : Nat) (P : Int → Sto → Prop) (K5 : Int → Int → Int → Int → Sto → Prop) (x1 x2 x3 x4 : Int) (σ : Sto) : Prop :=
  0 ≤ x1 ∧ x1 < (zn (k0 + 6) : Int) ∧
  (vX7_cellMany k0 (σ (k0 + 6) (Int.toNat x1)) (fun r1 s1 =>
  zR x4 ∧ zR r1 ∧
  ((r1 ≤ x4) →
  (x3 = 0 ∨ x3 = 1) ∧ P x3 s1) ∧
  ((¬ (r1 ≤ x4)) →
  zR x3 ∧
  ((¬ x3 = 0) →
  vX7_explainsWord_66 k0 P K5 x1 x2 x4 s1) ∧
  ((x3 = 0) →
  0 ≤ x1 ∧ x1 < (zn (k0 + 6) : Int) ∧
  (vX7_builds k0 (s1 (k0 + 6) (Int.toNat x1)) x4 (k0 + 9) (11 * x1) (fun r2 s2 =>
  zR r2 ∧
  ((r2 = 0) →
  vX7_explainsWord_70 k0 P K5 x1 x2 x4 s2) ∧
  ((¬ (r2 = 0)) →
  vX7_wordAt x2 (fun r3 s3 =>
  vX7_areSame (k0 + 5) 0 (k0 + 1) r3 (fun r4 s4 =>
  zR r4 ∧
  ((r4 = 0) →
  vX7_explainsWord_70 k0 P K5 x1 x2 x4 s4) ∧
  ((¬ (r4 = 0)) →
  vX7_explainsWord_66 k0 P K5 x1 x2 x4 s4)) s3) s2)) s1)))) σ)
def vX7_explainsWord_5 (k0 : Nat) (P : Int → Sto → Prop) : Nat → Int → Int → Int → Int → Sto → Prop
  | 0 => fun _ _ _ _ _ => False
  | n + 1 => bX7_explainsWord_5 k0 P (vX7_explainsWord_5 k0 P n)
def vX7_explainsWord (k0 : Nat) (x1 : Int) (x2 : Int) (P : Int → Sto → Prop) (σ : Sto) : Prop :=
  ∃ n, vX7_explainsWord_5 k0 P n x1 x2 0 0 σ
/-! InflectionGuesserModel.explains(II)Z -/
def vX7_explains_51 (k0 : Nat) (P : Int → Sto → Prop) (y0 : Int) (σ : Sto) : Prop :=
  (y0 = 0 ∨ y0 = 1) ∧ P y0 σ
def vX7_explains_50 (k0 : Nat) (P : Int → Sto → Prop) (σ : Sto) : Prop :=
  vX7_explains_51 k0 P 0 σ
def vX7_explains_22 (k0 : Nat) (P : Int → Sto → Prop) (x1 x2 y0 : Int) (σ : Sto) : Prop :=
  ∀ s2 : Sto, s2 = zu σ k0 7 y0 →
  (zR (s2 k0 7) ∧
  ((¬ (s2 k0 7) = 0) →
  vX7_explains_50 k0 P s2) ∧
  (((s2 k0 7) = 0) →
  0 ≤ x1 ∧ x1 < (zn (k0 + 10) : Int) ∧
  (vX7_explainsWord k0 (s2 (k0 + 10) (Int.toNat x1)) x2 (fun r3 s3 =>
  zR r3 ∧
  ((r3 = 0) →
  vX7_explains_50 k0 P s3) ∧
  ((¬ (r3 = 0)) →
  vX7_explains_51 k0 P 1 s3)) s2)))
def vX7_explains_21 (k0 : Nat) (P : Int → Sto → Prop) (x1 x2 : Int) (σ : Sto) : Prop :=
  vX7_explains_22 k0 P x1 x2 1 σ
def vX7_explains (k0 : Nat) (x1 : Int) (x2 : Int) (P : Int → Sto → Prop) (σ : Sto) : Prop :=
  vX7_isHypothesis k0 x1 (fun r1 s1 =>
  zR r1 ∧
  ((r1 = 0) →
  vX7_explains_21 k0 P x1 x2 s1) ∧
  ((¬ (r1 = 0)) →
  vX7_isWord k0 x2 (fun r4 s4 =>
  zR r4 ∧
  ((r4 = 0) →
  vX7_explains_21 k0 P x1 x2 s4) ∧
  ((¬ (r4 = 0)) →
  vX7_explains_22 k0 P x1 x2 0 s4)) s1)) σ
/-! InflectionGuesserModel.explanations(I)I -/
def vX7_explanations_57 (k0 : Nat) (P : Int → Sto → Prop) (K34 : Int → Int → Int → Sto → Prop) (x1 x3 y0 y1 : Int) (σ : Sto) : Prop :=
  K34 x1 (y1 + y0) (x3 + 1) σ
def bX7_explanations_34 (k0 : Nat) (P : Int → Sto → Prop) (K34 : Int → Int → Int → Sto → Prop) (x1 x2 x3 : Int) (σ : Sto) : Prop :=
  zR x3 ∧ zR (σ k0 9) ∧
  (((σ k0 9) ≤ x3) →
  P x2 σ) ∧
  ((¬ ((σ k0 9) ≤ x3)) →
  vX7_explainsWord k0 x3 x1 (fun r4 s4 =>
  zR r4 ∧
  ((r4 = 0) →
  vX7_explanations_57 k0 P K34 x1 x3 0 x2 s4) ∧
  ((¬ (r4 = 0)) →
  vX7_explanations_57 k0 P K34 x1 x3 1 x2 s4)) σ)
def vX7_explanations_34 (k0 : Nat) (P : Int → Sto → Prop) : Nat → Int → Int → Int → Sto → Prop
  | 0 => fun _ _ _ _ => False
  | n + 1 => bX7_explanations_34 k0 P (vX7_explanations_34 k0 P n)
def vX7_explanations_14 (k0 : Nat) (P : Int → Sto → Prop) (x1 y0 : Int) (σ : Sto) : Prop :=
  ∀ s2 : Sto, s2 = zu σ k0 7 y0 →
  (zR (s2 k0 7) ∧
  (((s2 k0 7) ≤ 0) →
  vX7_find k0 (fun s3 =>
  ∃ n, vX7_explanations_34 k0 P n x1 0 0 s3) s2) ∧
  ((¬ ((s2 k0 7) ≤ 0)) →
  P 0 s2))
def vX7_explanations (k0 : Nat) (x1 : Int) (P : Int → Sto → Prop) (σ : Sto) : Prop :=
  vX7_isWord k0 x1 (fun r1 s1 =>
  zR r1 ∧
  ((r1 = 0) →
  vX7_explanations_14 k0 P x1 1 s1) ∧
  ((¬ (r1 = 0)) →
  vX7_explanations_14 k0 P x1 0 s1)) σ
/-! InflectionGuesserModel.attestedShare(I)D -/
def vX7_attestedShare_14 (k0 : Nat) (P : Int → Sto → Prop) (x1 y0 : Int) (σ : Sto) : Prop :=
  ∀ s2 : Sto, s2 = zu σ k0 7 y0 →
  (zR (s2 k0 7) ∧
  (((s2 k0 7) ≤ 0) →
  0 ≤ x1 ∧ x1 < (zn (k0 + 10) : Int) ∧
  (0 ≤ (s2 (k0 + 10) (Int.toNat x1)) ∧ (s2 (k0 + 10) (Int.toNat x1)) < (zn (k0 + 7) : Int) ∧
  (0 ≤ (s2 (k0 + 10) (Int.toNat x1)) ∧ (s2 (k0 + 10) (Int.toNat x1)) < (zn (k0 + 8) : Int) ∧
  (zNN (zddiv (zi2d (s2 (k0 + 7) (Int.toNat (s2 (k0 + 10) (Int.toNat x1))))) (zi2d (s2 (k0 + 8) (Int.toNat (s2 (k0 + 10) (Int.toNat x1)))))) ∧
  (P (zddiv (zi2d (s2 (k0 + 7) (Int.toNat (s2 (k0 + 10) (Int.toNat x1))))) (zi2d (s2 (k0 + 8) (Int.toNat (s2 (k0 + 10) (Int.toNat x1)))))) s2))))) ∧
  ((¬ ((s2 k0 7) ≤ 0)) →
  P zd0 s2))
def vX7_attestedShare (k0 : Nat) (x1 : Int) (P : Int → Sto → Prop) (σ : Sto) : Prop :=
  vX7_isHypothesis k0 x1 (fun r1 s1 =>
  zR r1 ∧
  ((r1 = 0) →
  vX7_attestedShare_14 k0 P x1 1 s1) ∧
  ((¬ (r1 = 0)) →
  vX7_attestedShare_14 k0 P x1 0 s1)) σ
/-! InflectionGuesserModel.lexemeLike(I)I -/
def vX7_lexemeLike_56 (k0 : Nat) (P : Int → Sto → Prop) (K2 : Int → Int → Sto → Prop) (x1 x2 : Int) (σ : Sto) : Prop :=
  K2 x1 (x2 + 1) σ
def bX7_lexemeLike_2 (k0 : Nat) (P : Int → Sto → Prop) (K2 : Int → Int → Sto → Prop) (x1 x2 : Int) (σ : Sto) : Prop :=
  2 < (zn (k0 + 1) : Int) ∧
  (zR x2 ∧ zR (σ (k0 + 1) (Int.toNat 2)) ∧
  (((σ (k0 + 1) (Int.toNat 2)) ≤ x2) →
  P (-1) σ) ∧
  ((¬ ((σ (k0 + 1) (Int.toNat 2)) ≤ x2)) →
  vX7_lexemeAt x2 (fun r1 s1 =>
  0 ≤ r1 ∧ r1 < (zn (k0 + 1) : Int) ∧
  (0 ≤ x1 ∧ x1 < (zn (k0 + 6) : Int) ∧
  (zR (s1 (k0 + 1) (Int.toNat r1)) ∧ zR (s1 (k0 + 6) (Int.toNat x1)) ∧
  ((¬ (s1 (k0 + 1) (Int.toNat r1)) = (s1 (k0 + 6) (Int.toNat x1))) →
  vX7_lexemeLike_56 k0 P K2 x1 x2 s1) ∧
  (((s1 (k0 + 1) (Int.toNat r1)) = (s1 (k0 + 6) (Int.toNat x1))) →
  vX7_lexemeAt x2 (fun r2 s2 =>
  vX7_areSame (k0 + 9) (11 * x1) (k0 + 1) (r2 + 1) (fun r3 s3 =>
  zR r3 ∧
  ((r3 = 0) →
  vX7_lexemeLike_56 k0 P K2 x1 x2 s3) ∧
  ((¬ (r3 = 0)) →
  P x2 s3)) s2) s1)))) σ))
def vX7_lexemeLike_2 (k0 : Nat) (P : Int → Sto → Prop) : Nat → Int → Int → Sto → Prop
  | 0 => fun _ _ _ => False
  | n + 1 => bX7_lexemeLike_2 k0 P (vX7_lexemeLike_2 k0 P n)
def vX7_lexemeLike (k0 : Nat) (x1 : Int) (P : Int → Sto → Prop) (σ : Sto) : Prop :=
  ∃ n, vX7_lexemeLike_2 k0 P n x1 0 σ
/-! InflectionGuesserModel.makeLexeme(I)I -/
def bX7_makeLexeme_45 (k0 : Nat) (P : Int → Sto → Prop) (K45 : Int → Int → Sto → Prop) (x2 x3 : Int) (σ : Sto) : Prop :=
  zR x3 ∧
  ((6 ≤ x3) →
  2 < (zn (k0 + 1) : Int) ∧
  (2 < (zn (k0 + 1) : Int) ∧
  (∀ s5 : Sto, s5 = zu σ (k0 + 1) (Int.toNat 2) ((σ (k0 + 1) (Int.toNat 2)) + 1) →
  (P x2 s5)))) ∧
  ((¬ (6 ≤ x3)) →
  vX7_exceptionAt x2 x3 (fun r6 s6 =>
  0 ≤ r6 ∧ r6 < (zn (k0 + 1) : Int) ∧
  (∀ s7 : Sto, s7 = zu s6 (k0 + 1) (Int.toNat r6) 0 →
  (K45 x2 (x3 + 1) s7))) σ)
def vX7_makeLexeme_45 (k0 : Nat) (P : Int → Sto → Prop) : Nat → Int → Int → Sto → Prop
  | 0 => fun _ _ _ => False
  | n + 1 => bX7_makeLexeme_45 k0 P (vX7_makeLexeme_45 k0 P n)
def vX7_makeLexeme (k0 : Nat) (x1 : Int) (P : Int → Sto → Prop) (σ : Sto) : Prop :=
  2 < (zn (k0 + 1) : Int) ∧
  (vX7_lexemeAt (σ (k0 + 1) (Int.toNat 2)) (fun r1 s1 =>
  0 ≤ x1 ∧ x1 < (zn (k0 + 6) : Int) ∧
  (0 ≤ r1 ∧ r1 < (zn (k0 + 1) : Int) ∧
  (∀ s2 : Sto, s2 = zu s1 (k0 + 1) (Int.toNat r1) (s1 (k0 + 6) (Int.toNat x1)) →
  (vX7_lexemeAt (σ (k0 + 1) (Int.toNat 2)) (fun r3 s3 =>
  vX7_copy (k0 + 9) (11 * x1) (k0 + 1) (r3 + 1) (fun s4 =>
  ∃ n, vX7_makeLexeme_45 k0 P n (σ (k0 + 1) (Int.toNat 2)) 0 s4) s3) s2)))) σ)
/-! InflectionGuesserModel.accept(I)I -/
def vX7_accept_42 (k0 : Nat) (P : Int → Sto → Prop) (x1 y0 : Int) (σ : Sto) : Prop :=
  ∀ s2 : Sto, s2 = zu σ k0 7 y0 →
  (zR (s2 k0 7) ∧
  (((s2 k0 7) ≤ 0) →
  0 ≤ x1 ∧ x1 < (zn (k0 + 10) : Int) ∧
  (vX7_remember k0 (fun s3 =>
  vX7_makeLexeme k0 (s2 (k0 + 10) (Int.toNat x1)) (fun r4 s4 =>
  P r4 s4) s3) s2)) ∧
  ((¬ ((s2 k0 7) ≤ 0)) →
  P 0 s2))
def vX7_accept_37 (k0 : Nat) (P : Int → Sto → Prop) (x1 : Int) (σ : Sto) : Prop :=
  vX7_accept_42 k0 P x1 2 σ
def vX7_accept (k0 : Nat) (x1 : Int) (P : Int → Sto → Prop) (σ : Sto) : Prop :=
  vX7_isHypothesis k0 x1 (fun r1 s1 =>
  zR r1 ∧
  ((¬ r1 = 0) →
  2 < (zn (k0 + 1) : Int) ∧
  (zR (s1 (k0 + 1) (Int.toNat 2)) ∧
  (((s1 (k0 + 1) (Int.toNat 2)) = 10) →
  vX7_accept_37 k0 P x1 s1) ∧
  ((¬ ((s1 (k0 + 1) (Int.toNat 2)) = 10)) →
  0 ≤ x1 ∧ x1 < (zn (k0 + 10) : Int) ∧
  (vX7_lexemeLike k0 (s1 (k0 + 10) (Int.toNat x1)) (fun r5 s5 =>
  zR r5 ∧
  ((r5 < 0) →
  vX7_accept_42 k0 P x1 0 s5) ∧
  ((¬ (r5 < 0)) →
  vX7_accept_37 k0 P x1 s5)) s1)))) ∧
  ((r1 = 0) →
  vX7_accept_42 k0 P x1 1 s1)) σ
/-! InflectionGuesserModel.forms(II)Z -/
def vX7_forms (k0 : Nat) (x1 : Int) (x2 : Int) (P : Int → Sto → Prop) (σ : Sto) : Prop :=
  vX7_exceptionAt x1 x2 (fun r1 s1 =>
  0 ≤ r1 ∧ r1 < (zn (k0 + 1) : Int) ∧
  (zR (s1 (k0 + 1) (Int.toNat r1)) ∧
  (((s1 (k0 + 1) (Int.toNat r1)) ≤ 0) →
  vX7_lexemeAt x1 (fun r2 s2 =>
  0 ≤ r2 ∧ r2 < (zn (k0 + 1) : Int) ∧
  (vX7_lexemeAt x1 (fun r3 s3 =>
  vX7_builds k0 (s2 (k0 + 1) (Int.toNat r2)) x2 (k0 + 1) (r3 + 1) (fun r4 s4 =>
  (r4 = 0 ∨ r4 = 1) ∧ P r4 s4) s3) s2)) s1) ∧
  ((¬ ((s1 (k0 + 1) (Int.toNat r1)) ≤ 0)) →
  vX7_copy (k0 + 1) r1 (k0 + 5) 0 (fun s5 =>
  P 1 s5) s1))) σ
/-! InflectionGuesserModel.isFormOf(II)Z -/
def vX7_isFormOf_61 (k0 : Nat) (P : Int → Sto → Prop) (K5 : Int → Int → Int → Int → Sto → Prop) (x1 x2 x4 y0 : Int) (σ : Sto) : Prop :=
  K5 x1 x2 y0 (x4 + 1) σ
def vX7_isFormOf_56 (k0 : Nat) (P : Int → Sto → Prop) (K5 : Int → Int → Int → Int → Sto → Prop) (x1 x2 x4 : Int) (σ : Sto) : Prop :=
  vX7_isFormOf_61 k0 P K5 x1 x2 x4 1 σ
def vX7_isFormOf_60 (k0 : Nat) (P : Int → Sto → Prop) (K5 : Int → Int → Int → Int → Sto → Prop) (x1 x2 x4 : Int) (σ : Sto) : Prop :=
  vX7_isFormOf_61 k0 P K5 x1 x2 x4 0 σ
def bX7_isFormOf_5 (k0 : Nat) (P : Int → Sto → Prop) (K5 : Int → Int → Int → Int → Sto → Prop) (x1 x2 x3 x4 : Int) (σ : Sto) : Prop :=
  vX7_lexemeAt x1 (fun r1 s1 =>
  0 ≤ r1 ∧ r1 < (zn (k0 + 1) : Int) ∧
  (vX7_cellMany k0 (s1 (k0 + 1) (Int.toNat r1)) (fun r2 s2 =>
  zR x4 ∧ zR r2 ∧
  ((r2 ≤ x4) →
  (x3 = 0 ∨ x3 = 1) ∧ P x3 s2) ∧
  ((¬ (r2 ≤ x4)) →
  zR x3 ∧
  ((¬ x3 = 0) →
  vX7_isFormOf_56 k0 P K5 x1 x2 x4 s2) ∧
  ((x3 = 0) →
  vX7_forms k0 x1 x4 (fun r3 s3 =>
  zR r3 ∧
  ((r3 = 0) →
  vX7_isFormOf_60 k0 P K5 x1 x2 x4 s3) ∧
  ((¬ (r3 = 0)) →
  vX7_wordAt x2 (fun r4 s4 =>
  vX7_areSame (k0 + 5) 0 (k0 + 1) r4 (fun r5 s5 =>
  zR r5 ∧
  ((r5 = 0) →
  vX7_isFormOf_60 k0 P K5 x1 x2 x4 s5) ∧
  ((¬ (r5 = 0)) →
  vX7_isFormOf_56 k0 P K5 x1 x2 x4 s5)) s4) s3)) s2))) s1)) σ
def vX7_isFormOf_5 (k0 : Nat) (P : Int → Sto → Prop) : Nat → Int → Int → Int → Int → Sto → Prop
  | 0 => fun _ _ _ _ _ => False
  | n + 1 => bX7_isFormOf_5 k0 P (vX7_isFormOf_5 k0 P n)
def vX7_isFormOf (k0 : Nat) (x1 : Int) (x2 : Int) (P : Int → Sto → Prop) (σ : Sto) : Prop :=
  ∃ n, vX7_isFormOf_5 k0 P n x1 x2 0 0 σ
/-! InflectionGuesserModel.lexemesWith(I)I -/
def vX7_lexemesWith_29 (k0 : Nat) (P : Int → Sto → Prop) (K4 : Int → Int → Int → Sto → Prop) (x1 x3 y0 y1 : Int) (σ : Sto) : Prop :=
  K4 x1 (y1 + y0) (x3 + 1) σ
def bX7_lexemesWith_4 (k0 : Nat) (P : Int → Sto → Prop) (K4 : Int → Int → Int → Sto → Prop) (x1 x2 x3 : Int) (σ : Sto) : Prop :=
  2 < (zn (k0 + 1) : Int) ∧
  (zR x3 ∧ zR (σ (k0 + 1) (Int.toNat 2)) ∧
  (((σ (k0 + 1) (Int.toNat 2)) ≤ x3) →
  P x2 σ) ∧
  ((¬ ((σ (k0 + 1) (Int.toNat 2)) ≤ x3)) →
  vX7_isFormOf k0 x3 x1 (fun r1 s1 =>
  zR r1 ∧
  ((r1 = 0) →
  vX7_lexemesWith_29 k0 P K4 x1 x3 0 x2 s1) ∧
  ((¬ (r1 = 0)) →
  vX7_lexemesWith_29 k0 P K4 x1 x3 1 x2 s1)) σ))
def vX7_lexemesWith_4 (k0 : Nat) (P : Int → Sto → Prop) : Nat → Int → Int → Int → Sto → Prop
  | 0 => fun _ _ _ _ => False
  | n + 1 => bX7_lexemesWith_4 k0 P (vX7_lexemesWith_4 k0 P n)
def vX7_lexemesWith (k0 : Nat) (x1 : Int) (P : Int → Sto → Prop) (σ : Sto) : Prop :=
  ∃ n, vX7_lexemesWith_4 k0 P n x1 0 0 σ
/-! InflectionGuesserModel.gain(I)I -/
def vX7_gain_38 (k0 : Nat) (P : Int → Sto → Prop) (K4 : Int → Int → Int → Sto → Prop) (x1 x3 y0 y1 : Int) (σ : Sto) : Prop :=
  K4 x1 (y1 + y0) (x3 + 1) σ
def vX7_gain_37 (k0 : Nat) (P : Int → Sto → Prop) (K4 : Int → Int → Int → Sto → Prop) (x1 x3 y0 : Int) (σ : Sto) : Prop :=
  vX7_gain_38 k0 P K4 x1 x3 0 y0 σ
def bX7_gain_4 (k0 : Nat) (P : Int → Sto → Prop) (K4 : Int → Int → Int → Sto → Prop) (x1 x2 x3 : Int) (σ : Sto) : Prop :=
  1 < (zn (k0 + 1) : Int) ∧
  (zR x3 ∧ zR (σ (k0 + 1) (Int.toNat 1)) ∧
  (((σ (k0 + 1) (Int.toNat 1)) ≤ x3) →
  P x2 σ) ∧
  ((¬ ((σ (k0 + 1) (Int.toNat 1)) ≤ x3)) →
  0 ≤ x3 ∧ x3 < (zn (k0 + 13) : Int) ∧
  (zR (σ (k0 + 13) (Int.toNat x3)) ∧
  ((¬ (σ (k0 + 13) (Int.toNat x3)) = 0) →
  vX7_gain_37 k0 P K4 x1 x3 x2 σ) ∧
  (((σ (k0 + 13) (Int.toNat x3)) = 0) →
  vX7_explainsWord k0 x1 x3 (fun r1 s1 =>
  zR r1 ∧
  ((r1 = 0) →
  vX7_gain_37 k0 P K4 x1 x3 x2 s1) ∧
  ((¬ (r1 = 0)) →
  vX7_gain_38 k0 P K4 x1 x3 1 x2 s1)) σ))))
def vX7_gain_4 (k0 : Nat) (P : Int → Sto → Prop) : Nat → Int → Int → Int → Sto → Prop
  | 0 => fun _ _ _ _ => False
  | n + 1 => bX7_gain_4 k0 P (vX7_gain_4 k0 P n)
def vX7_gain (k0 : Nat) (x1 : Int) (P : Int → Sto → Prop) (σ : Sto) : Prop :=
  ∃ n, vX7_gain_4 k0 P n x1 0 0 σ
/-! InflectionGuesserModel.cover()I -/
def vX7_cover_177 (k0 : Nat) (P : Int → Sto → Prop) (x1 : Int) (σ : Sto) : Prop :=
  P x1 σ
def vX7_cover_174 (k0 : Nat) (P : Int → Sto → Prop) (K22 : Int → Int → Sto → Prop) (x1 x2 : Int) (σ : Sto) : Prop :=
  K22 x1 x2 σ
def vX7_cover_159 (k0 : Nat) (P : Int → Sto → Prop) (K22 : Int → Int → Sto → Prop) (x1 x3 y0 : Int) (σ : Sto) : Prop :=
  zR y0 ∧
  ((y0 = 0) →
  vX7_cover_174 k0 P K22 x1 y0 σ) ∧
  ((¬ (y0 = 0)) →
  vX7_makeLexeme k0 x3 (fun r5 s5 =>
  vX7_cover_174 k0 P K22 (x1 + 1) y0 s5) σ)
def vX7_cover_134 (k0 : Nat) (P : Int → Sto → Prop) (K22 : Int → Int → Sto → Prop) (K82 : Int → Int → Int → Int → Sto → Prop) (x1 x4 x5 x7 y0 : Int) (σ : Sto) : Prop :=
  zR x4 ∧ zR x7 ∧
  (K82 x1 y0 (if x4 < x7 then x7 else x4) (x5 + 1) σ)
def vX7_cover_119 (k0 : Nat) (P : Int → Sto → Prop) (K22 : Int → Int → Sto → Prop) (K82 : Int → Int → Int → Int → Sto → Prop) (x1 x3 x4 x5 x6 y0 : Int) (σ : Sto) : Prop :=
  zR y0 ∧ zR x4 ∧
  ((y0 ≤ x4) →
  vX7_cover_134 k0 P K22 K82 x1 x4 x5 y0 x3 σ) ∧
  ((¬ (y0 ≤ x4)) →
  vX7_cover_134 k0 P K22 K82 x1 x4 x5 y0 x6 σ)
def bX7_cover_82 (k0 : Nat) (P : Int → Sto → Prop) (K22 : Int → Int → Sto → Prop) (K82 : Int → Int → Int → Int → Sto → Prop) (x1 x3 x4 x5 : Int) (σ : Sto) : Prop :=
  zR x5 ∧ zR (σ k0 9) ∧
  (((σ k0 9) ≤ x5) →
  zR x3 ∧
  ((x3 < 0) →
  vX7_cover_159 k0 P K22 x1 x3 0 σ) ∧
  ((¬ (x3 < 0)) →
  vX7_cover_159 k0 P K22 x1 x3 1 σ)) ∧
  ((¬ ((σ k0 9) ≤ x5)) →
  0 ≤ x5 ∧ x5 < (zn (k0 + 10) : Int) ∧
  (vX7_lexemeLike k0 (σ (k0 + 10) (Int.toNat x5)) (fun r6 s6 =>
  zR r6 ∧
  ((0 ≤ r6) →
  vX7_cover_119 k0 P K22 K82 x1 x3 x4 x5 (σ (k0 + 10) (Int.toNat x5)) 0 s6) ∧
  ((¬ (0 ≤ r6)) →
  vX7_gain k0 (σ (k0 + 10) (Int.toNat x5)) (fun r7 s7 =>
  vX7_cover_119 k0 P K22 K82 x1 x3 x4 x5 (σ (k0 + 10) (Int.toNat x5)) r7 s7) s6)) σ))
def vX7_cover_82 (k0 : Nat) (P : Int → Sto → Prop) (K22 : Int → Int → Sto → Prop) : Nat → Int → Int → Int → Int → Sto → Prop
  | 0 => fun _ _ _ _ _ => False
  | n + 1 => bX7_cover_82 k0 P K22 (vX7_cover_82 k0 P K22 n)
def vX7_cover_67 (k0 : Nat) (P : Int → Sto → Prop) (K22 : Int → Int → Sto → Prop) (K39 : Int → Int → Sto → Prop) (x1 x3 y0 y1 : Int) (σ : Sto) : Prop :=
  0 ≤ y1 ∧ y1 < (zn (k0 + 13) : Int) ∧ (y0 = 0 ∨ y0 = 1) ∧
  (∀ s9 : Sto, s9 = zu σ (k0 + 13) (Int.toNat y1) y0 →
  (K39 x1 (x3 + 1) s9))
def bX7_cover_39 (k0 : Nat) (P : Int → Sto → Prop) (K22 : Int → Int → Sto → Prop) (K39 : Int → Int → Sto → Prop) (x1 x3 : Int) (σ : Sto) : Prop :=
  1 < (zn (k0 + 1) : Int) ∧
  (zR x3 ∧ zR (σ (k0 + 1) (Int.toNat 1)) ∧
  (((σ (k0 + 1) (Int.toNat 1)) ≤ x3) →
  ∃ n, vX7_cover_82 k0 P K22 n x1 (-1) 0 0 σ) ∧
  ((¬ ((σ (k0 + 1) (Int.toNat 1)) ≤ x3)) →
  vX7_lexemesWith k0 x3 (fun r8 s8 =>
  zR r8 ∧
  ((r8 ≤ 0) →
  vX7_cover_67 k0 P K22 K39 x1 x3 0 x3 s8) ∧
  ((¬ (r8 ≤ 0)) →
  vX7_cover_67 k0 P K22 K39 x1 x3 1 x3 s8)) σ))
def vX7_cover_39 (k0 : Nat) (P : Int → Sto → Prop) (K22 : Int → Int → Sto → Prop) : Nat → Int → Int → Sto → Prop
  | 0 => fun _ _ _ => False
  | n + 1 => bX7_cover_39 k0 P K22 (vX7_cover_39 k0 P K22 n)
def bX7_cover_22 (k0 : Nat) (P : Int → Sto → Prop) (K22 : Int → Int → Sto → Prop) (x1 x2 : Int) (σ : Sto) : Prop :=
  zR x2 ∧
  ((x2 = 0) →
  vX7_cover_177 k0 P x1 σ) ∧
  ((¬ (x2 = 0)) →
  2 < (zn (k0 + 1) : Int) ∧
  (zR (σ (k0 + 1) (Int.toNat 2)) ∧
  ((10 ≤ (σ (k0 + 1) (Int.toNat 2))) →
  vX7_cover_177 k0 P x1 σ) ∧
  ((¬ (10 ≤ (σ (k0 + 1) (Int.toNat 2)))) →
  ∃ n, vX7_cover_39 k0 P K22 n x1 0 σ)))
def vX7_cover_22 (k0 : Nat) (P : Int → Sto → Prop) : Nat → Int → Int → Sto → Prop
  | 0 => fun _ _ _ => False
  | n + 1 => bX7_cover_22 k0 P (vX7_cover_22 k0 P n)
def vX7_cover (k0 : Nat) (P : Int → Sto → Prop) (σ : Sto) : Prop :=
  ∀ s1 : Sto, s1 = zu σ k0 7 0 →
  (vX7_find k0 (fun s2 =>
  vX7_remember k0 (fun s3 =>
  ∀ s4 : Sto, s4 = zu s3 k0 8 1 →
  (∃ n, vX7_cover_22 k0 P n 0 1 s4)) s2) s1)
/-! InflectionGuesserModel.lexemeCount()I -/
def vX7_lexemeCount (k0 : Nat) (P : Int → Sto → Prop) (σ : Sto) : Prop :=
  ∀ s1 : Sto, s1 = zu σ k0 7 0 →
  (2 < (zn (k0 + 1) : Int) ∧
  (P (s1 (k0 + 1) (Int.toNat 2)) s1))
/-! InflectionGuesserModel.exceptionMany(I)I -/
def vX7_exceptionMany_40 (k0 : Nat) (P : Int → Sto → Prop) (K4 : Int → Int → Int → Sto → Prop) (x1 x3 y0 y1 : Int) (σ : Sto) : Prop :=
  K4 x1 (y1 + y0) (x3 + 1) σ
def bX7_exceptionMany_4 (k0 : Nat) (P : Int → Sto → Prop) (K4 : Int → Int → Int → Sto → Prop) (x1 x2 x3 : Int) (σ : Sto) : Prop :=
  vX7_lexemeAt x1 (fun r1 s1 =>
  0 ≤ r1 ∧ r1 < (zn (k0 + 1) : Int) ∧
  (vX7_cellMany k0 (s1 (k0 + 1) (Int.toNat r1)) (fun r2 s2 =>
  zR x3 ∧ zR r2 ∧
  ((r2 ≤ x3) →
  P x2 s2) ∧
  ((¬ (r2 ≤ x3)) →
  vX7_exceptionAt x1 x3 (fun r3 s3 =>
  0 ≤ r3 ∧ r3 < (zn (k0 + 1) : Int) ∧
  (zR (s3 (k0 + 1) (Int.toNat r3)) ∧
  (((s3 (k0 + 1) (Int.toNat r3)) ≤ 0) →
  vX7_exceptionMany_40 k0 P K4 x1 x3 0 x2 s3) ∧
  ((¬ ((s3 (k0 + 1) (Int.toNat r3)) ≤ 0)) →
  vX7_exceptionMany_40 k0 P K4 x1 x3 1 x2 s3))) s2)) s1)) σ
def vX7_exceptionMany_4 (k0 : Nat) (P : Int → Sto → Prop) : Nat → Int → Int → Int → Sto → Prop
  | 0 => fun _ _ _ _ => False
  | n + 1 => bX7_exceptionMany_4 k0 P (vX7_exceptionMany_4 k0 P n)
def vX7_exceptionMany (k0 : Nat) (x1 : Int) (P : Int → Sto → Prop) (σ : Sto) : Prop :=
  ∃ n, vX7_exceptionMany_4 k0 P n x1 0 0 σ
/-! InflectionGuesserModel.lexeme(II)I -/
def vX7_lexeme_66 (k0 : Nat) (P : Int → Sto → Prop) (y0 : Int) (σ : Sto) : Prop :=
  P y0 σ
def vX7_lexeme_30 (k0 : Nat) (P : Int → Sto → Prop) (x1 x2 y0 : Int) (σ : Sto) : Prop :=
  ∀ s3 : Sto, s3 = zu σ k0 7 y0 →
  (zR (s3 k0 7) ∧
  (((s3 k0 7) ≤ 0) →
  zR x2 ∧
  ((¬ x2 = 2) →
  vX7_lexemeAt x1 (fun r4 s4 =>
  0 ≤ (r4 + x2) ∧ (r4 + x2) < (zn (k0 + 1) : Int) ∧
  (vX7_lexeme_66 k0 P (s4 (k0 + 1) (Int.toNat (r4 + x2))) s4)) s3) ∧
  ((x2 = 2) →
  vX7_exceptionMany k0 x1 (fun r5 s5 =>
  vX7_lexeme_66 k0 P r5 s5) s3)) ∧
  ((¬ ((s3 k0 7) ≤ 0)) →
  P 0 s3))
def vX7_lexeme (k0 : Nat) (x1 : Int) (x2 : Int) (P : Int → Sto → Prop) (σ : Sto) : Prop :=
  vX7_isLexeme k0 x1 (fun r1 s1 =>
  zR r1 ∧
  ((¬ r1 = 0) →
  zR x2 ∧
  (vX7_in x2 0 2 (fun r2 s2 =>
  zR r2 ∧
  ((¬ r2 = 0) →
  vX7_lexeme_30 k0 P x1 x2 0 s2) ∧
  ((r2 = 0) →
  vX7_lexeme_30 k0 P x1 x2 2 s2)) s1)) ∧
  ((r1 = 0) →
  vX7_lexeme_30 k0 P x1 x2 1 s1)) σ
/-! InflectionGuesserModel.takeStem(I)I -/
def vX7_takeStem_14 (k0 : Nat) (P : Int → Sto → Prop) (x1 y0 : Int) (σ : Sto) : Prop :=
  ∀ s2 : Sto, s2 = zu σ k0 7 y0 →
  (zR (s2 k0 7) ∧
  (((s2 k0 7) ≤ 0) →
  vX7_lexemeAt x1 (fun r3 s3 =>
  vX7_copy (k0 + 1) (r3 + 1) (k0 + 4) 0 (fun s4 =>
  0 < (zn (k0 + 4) : Int) ∧
  (P (s4 (k0 + 4) (Int.toNat 0)) s4)) s3) s2) ∧
  ((¬ ((s2 k0 7) ≤ 0)) →
  P 0 s2))
def vX7_takeStem (k0 : Nat) (x1 : Int) (P : Int → Sto → Prop) (σ : Sto) : Prop :=
  vX7_isLexeme k0 x1 (fun r1 s1 =>
  zR r1 ∧
  ((r1 = 0) →
  vX7_takeStem_14 k0 P x1 1 s1) ∧
  ((¬ (r1 = 0)) →
  vX7_takeStem_14 k0 P x1 0 s1)) σ
/-! InflectionGuesserModel.setException(II)I -/
def vX7_setException_29 (k0 : Nat) (P : Int → Sto → Prop) (x1 x2 y0 : Int) (σ : Sto) : Prop :=
  ∀ s2 : Sto, s2 = zu σ k0 7 y0 →
  (zR (s2 k0 7) ∧
  (((s2 k0 7) ≤ 0) →
  vX7_remember k0 (fun s3 =>
  vX7_exceptionAt x1 x2 (fun r4 s4 =>
  vX7_copy (k0 + 4) 0 (k0 + 1) r4 (fun s5 =>
  0 < (zn (k0 + 4) : Int) ∧
  (∀ s6 : Sto, s6 = zu s5 (k0 + 4) (Int.toNat 0) 0 →
  (vX7_exceptionMany k0 x1 (fun r7 s7 =>
  P r7 s7) s6))) s4) s3) s2) ∧
  ((¬ ((s2 k0 7) ≤ 0)) →
  P 0 s2))
def vX7_setException (k0 : Nat) (x1 : Int) (x2 : Int) (P : Int → Sto → Prop) (σ : Sto) : Prop :=
  vX7_hasCell k0 x1 x2 (fun r1 s1 =>
  zR r1 ∧
  ((¬ r1 = 0) →
  0 < (zn (k0 + 4) : Int) ∧
  (zR (s1 (k0 + 4) (Int.toNat 0)) ∧
  ((2 ≤ (s1 (k0 + 4) (Int.toNat 0))) →
  vX7_setException_29 k0 P x1 x2 0 s1) ∧
  ((¬ (2 ≤ (s1 (k0 + 4) (Int.toNat 0)))) →
  vX7_setException_29 k0 P x1 x2 2 s1))) ∧
  ((r1 = 0) →
  vX7_setException_29 k0 P x1 x2 1 s1)) σ
/-! InflectionGuesserModel.clearException(II)I -/
def vX7_clearException_32 (k0 : Nat) (P : Int → Sto → Prop) (x1 x2 y0 : Int) (σ : Sto) : Prop :=
  ∀ s3 : Sto, s3 = zu σ k0 7 y0 →
  (zR (s3 k0 7) ∧
  (((s3 k0 7) ≤ 0) →
  vX7_remember k0 (fun s4 =>
  vX7_exceptionAt x1 x2 (fun r5 s5 =>
  0 ≤ r5 ∧ r5 < (zn (k0 + 1) : Int) ∧
  (∀ s6 : Sto, s6 = zu s5 (k0 + 1) (Int.toNat r5) 0 →
  (vX7_exceptionMany k0 x1 (fun r7 s7 =>
  P r7 s7) s6))) s4) s3) ∧
  ((¬ ((s3 k0 7) ≤ 0)) →
  P 0 s3))
def vX7_clearException (k0 : Nat) (x1 : Int) (x2 : Int) (P : Int → Sto → Prop) (σ : Sto) : Prop :=
  vX7_hasCell k0 x1 x2 (fun r1 s1 =>
  zR r1 ∧
  ((¬ r1 = 0) →
  vX7_exceptionAt x1 x2 (fun r2 s2 =>
  0 ≤ r2 ∧ r2 < (zn (k0 + 1) : Int) ∧
  (zR (s2 (k0 + 1) (Int.toNat r2)) ∧
  ((¬ (s2 (k0 + 1) (Int.toNat r2)) = 0) →
  vX7_clearException_32 k0 P x1 x2 0 s2) ∧
  (((s2 (k0 + 1) (Int.toNat r2)) = 0) →
  vX7_clearException_32 k0 P x1 x2 2 s2))) s1) ∧
  ((r1 = 0) →
  vX7_clearException_32 k0 P x1 x2 1 s1)) σ
/-! InflectionGuesserModel.takeForm(II)I -/
def vX7_takeForm_47 (k0 : Nat) (P : Int → Sto → Prop) (σ : Sto) : Prop :=
  ∀ s4 : Sto, s4 = zu σ k0 7 2 →
  (P 0 s4)
def vX7_takeForm_15 (k0 : Nat) (P : Int → Sto → Prop) (x1 x2 y0 : Int) (σ : Sto) : Prop :=
  ∀ s2 : Sto, s2 = zu σ k0 7 y0 →
  (zR (s2 k0 7) ∧
  (((s2 k0 7) ≤ 0) →
  vX7_forms k0 x1 x2 (fun r3 s3 =>
  zR r3 ∧
  ((r3 = 0) →
  vX7_takeForm_47 k0 P s3) ∧
  ((¬ (r3 = 0)) →
  0 < (zn (k0 + 5) : Int) ∧
  (zR (s3 (k0 + 5) (Int.toNat 0)) ∧
  (((s3 (k0 + 5) (Int.toNat 0)) ≤ 14) →
  vX7_copy (k0 + 5) 0 (k0 + 4) 0 (fun s5 =>
  0 < (zn (k0 + 4) : Int) ∧
  (P (s5 (k0 + 4) (Int.toNat 0)) s5)) s3) ∧
  ((¬ ((s3 (k0 + 5) (Int.toNat 0)) ≤ 14)) →
  vX7_takeForm_47 k0 P s3)))) s2) ∧
  ((¬ ((s2 k0 7) ≤ 0)) →
  P 0 s2))
def vX7_takeForm (k0 : Nat) (x1 : Int) (x2 : Int) (P : Int → Sto → Prop) (σ : Sto) : Prop :=
  vX7_hasCell k0 x1 x2 (fun r1 s1 =>
  zR r1 ∧
  ((r1 = 0) →
  vX7_takeForm_15 k0 P x1 x2 1 s1) ∧
  ((¬ (r1 = 0)) →
  vX7_takeForm_15 k0 P x1 x2 0 s1)) σ
/-! InflectionGuesserModel.hasForm(II)Z -/
def vX7_hasForm_46 (k0 : Nat) (P : Int → Sto → Prop) (y0 : Int) (σ : Sto) : Prop :=
  (y0 = 0 ∨ y0 = 1) ∧ P y0 σ
def vX7_hasForm_45 (k0 : Nat) (P : Int → Sto → Prop) (σ : Sto) : Prop :=
  vX7_hasForm_46 k0 P 0 σ
def vX7_hasForm_22 (k0 : Nat) (P : Int → Sto → Prop) (x1 x2 y0 : Int) (σ : Sto) : Prop :=
  ∀ s2 : Sto, s2 = zu σ k0 7 y0 →
  (zR (s2 k0 7) ∧
  ((¬ (s2 k0 7) = 0) →
  vX7_hasForm_45 k0 P s2) ∧
  (((s2 k0 7) = 0) →
  vX7_isFormOf k0 x1 x2 (fun r3 s3 =>
  zR r3 ∧
  ((r3 = 0) →
  vX7_hasForm_45 k0 P s3) ∧
  ((¬ (r3 = 0)) →
  vX7_hasForm_46 k0 P 1 s3)) s2))
def vX7_hasForm_21 (k0 : Nat) (P : Int → Sto → Prop) (x1 x2 : Int) (σ : Sto) : Prop :=
  vX7_hasForm_22 k0 P x1 x2 1 σ
def vX7_hasForm (k0 : Nat) (x1 : Int) (x2 : Int) (P : Int → Sto → Prop) (σ : Sto) : Prop :=
  vX7_isLexeme k0 x1 (fun r1 s1 =>
  zR r1 ∧
  ((r1 = 0) →
  vX7_hasForm_21 k0 P x1 x2 s1) ∧
  ((¬ (r1 = 0)) →
  vX7_isWord k0 x2 (fun r4 s4 =>
  zR r4 ∧
  ((r4 = 0) →
  vX7_hasForm_21 k0 P x1 x2 s4) ∧
  ((¬ (r4 = 0)) →
  vX7_hasForm_22 k0 P x1 x2 0 s4)) s1)) σ
/-! InflectionGuesserModel.isMissing(II)Z -/
def vX7_isMissing_26 (k0 : Nat) (P : Int → Sto → Prop) (y0 : Int) (σ : Sto) : Prop :=
  (y0 = 0 ∨ y0 = 1) ∧ P y0 σ
def vX7_isMissing_25 (k0 : Nat) (P : Int → Sto → Prop) (σ : Sto) : Prop :=
  vX7_isMissing_26 k0 P 0 σ
def vX7_isMissing (k0 : Nat) (x1 : Int) (x2 : Int) (P : Int → Sto → Prop) (σ : Sto) : Prop :=
  vX7_forms k0 x1 x2 (fun r1 s1 =>
  zR r1 ∧
  ((r1 = 0) →
  vX7_isMissing_25 k0 P s1) ∧
  ((¬ (r1 = 0)) →
  vX7_attested k0 (k0 + 5) 0 (fun r2 s2 =>
  zR r2 ∧
  ((0 ≤ r2) →
  vX7_isMissing_25 k0 P s2) ∧
  ((¬ (0 ≤ r2)) →
  vX7_isMissing_26 k0 P 1 s2)) s1)) σ
/-! InflectionGuesserModel.missingMany(I)I -/
def vX7_missingMany_36 (k0 : Nat) (P : Int → Sto → Prop) (K4 : Int → Int → Int → Sto → Prop) (x1 x3 y0 y1 : Int) (σ : Sto) : Prop :=
  K4 x1 (y1 + y0) (x3 + 1) σ
def bX7_missingMany_4 (k0 : Nat) (P : Int → Sto → Prop) (K4 : Int → Int → Int → Sto → Prop) (x1 x2 x3 : Int) (σ : Sto) : Prop :=
  vX7_lexemeAt x1 (fun r1 s1 =>
  0 ≤ r1 ∧ r1 < (zn (k0 + 1) : Int) ∧
  (vX7_cellMany k0 (s1 (k0 + 1) (Int.toNat r1)) (fun r2 s2 =>
  zR x3 ∧ zR r2 ∧
  ((r2 ≤ x3) →
  P x2 s2) ∧
  ((¬ (r2 ≤ x3)) →
  vX7_isMissing k0 x1 x3 (fun r3 s3 =>
  zR r3 ∧
  ((r3 = 0) →
  vX7_missingMany_36 k0 P K4 x1 x3 0 x2 s3) ∧
  ((¬ (r3 = 0)) →
  vX7_missingMany_36 k0 P K4 x1 x3 1 x2 s3)) s2)) s1)) σ
def vX7_missingMany_4 (k0 : Nat) (P : Int → Sto → Prop) : Nat → Int → Int → Int → Sto → Prop
  | 0 => fun _ _ _ _ => False
  | n + 1 => bX7_missingMany_4 k0 P (vX7_missingMany_4 k0 P n)
def vX7_missingMany (k0 : Nat) (x1 : Int) (P : Int → Sto → Prop) (σ : Sto) : Prop :=
  ∃ n, vX7_missingMany_4 k0 P n x1 0 0 σ
/-! InflectionGuesserModel.missing(I)I -/
def vX7_missing_33 (k0 : Nat) (P : Int → Sto → Prop) (y0 : Int) (σ : Sto) : Prop :=
  P y0 σ
def vX7_missing_14 (k0 : Nat) (P : Int → Sto → Prop) (x1 y0 : Int) (σ : Sto) : Prop :=
  ∀ s2 : Sto, s2 = zu σ k0 7 y0 →
  (zR (s2 k0 7) ∧
  (((s2 k0 7) ≤ 0) →
  vX7_missingMany k0 x1 (fun r3 s3 =>
  vX7_missing_33 k0 P r3 s3) s2) ∧
  ((¬ ((s2 k0 7) ≤ 0)) →
  vX7_missing_33 k0 P 0 s2))
def vX7_missing (k0 : Nat) (x1 : Int) (P : Int → Sto → Prop) (σ : Sto) : Prop :=
  vX7_isLexeme k0 x1 (fun r1 s1 =>
  zR r1 ∧
  ((r1 = 0) →
  vX7_missing_14 k0 P x1 1 s1) ∧
  ((¬ (r1 = 0)) →
  vX7_missing_14 k0 P x1 0 s1)) σ
/-! InflectionGuesserModel.missingCell(II)I -/
def vX7_missingCell_76 (k0 : Nat) (P : Int → Sto → Prop) (K52 : Int → Int → Int → Sto → Prop) (x1 x3 y0 y1 : Int) (σ : Sto) : Prop :=
  K52 x1 x3 (y1 - y0) σ
def bX7_missingCell_52 (k0 : Nat) (P : Int → Sto → Prop) (K52 : Int → Int → Int → Sto → Prop) (x1 x3 x4 : Int) (σ : Sto) : Prop :=
  zR x4 ∧
  ((x4 < 0) →
  P x3 σ) ∧
  ((¬ (x4 < 0)) →
  vX7_isMissing k0 x1 (x3 + 1) (fun r5 s5 =>
  zR r5 ∧
  ((r5 = 0) →
  vX7_missingCell_76 k0 P K52 x1 (x3 + 1) 0 x4 s5) ∧
  ((¬ (r5 = 0)) →
  vX7_missingCell_76 k0 P K52 x1 (x3 + 1) 1 x4 s5)) σ)
def vX7_missingCell_52 (k0 : Nat) (P : Int → Sto → Prop) : Nat → Int → Int → Int → Sto → Prop
  | 0 => fun _ _ _ _ => False
  | n + 1 => bX7_missingCell_52 k0 P (vX7_missingCell_52 k0 P n)
def vX7_missingCell_35 (k0 : Nat) (P : Int → Sto → Prop) (x1 x2 y0 : Int) (σ : Sto) : Prop :=
  ∀ s4 : Sto, s4 = zu σ k0 7 y0 →
  (zR (s4 k0 7) ∧
  (((s4 k0 7) ≤ 0) →
  ∃ n, vX7_missingCell_52 k0 P n x1 (-1) x2 s4) ∧
  ((¬ ((s4 k0 7) ≤ 0)) →
  P 0 s4))
def vX7_missingCell (k0 : Nat) (x1 : Int) (x2 : Int) (P : Int → Sto → Prop) (σ : Sto) : Prop :=
  vX7_isLexeme k0 x1 (fun r1 s1 =>
  zR r1 ∧
  ((¬ r1 = 0) →
  zR x2 ∧
  (vX7_missingMany k0 x1 (fun r2 s2 =>
  zR (r2 - 1) ∧
  (vX7_in x2 0 (r2 - 1) (fun r3 s3 =>
  zR r3 ∧
  ((¬ r3 = 0) →
  vX7_missingCell_35 k0 P x1 x2 0 s3) ∧
  ((r3 = 0) →
  vX7_missingCell_35 k0 P x1 x2 2 s3)) s2)) s1)) ∧
  ((r1 = 0) →
  vX7_missingCell_35 k0 P x1 x2 1 s1)) σ
/-! InflectionGuesserModel.uncovered()I -/
def vX7_uncovered_33 (k0 : Nat) (P : Int → Sto → Prop) (K9 : Int → Int → Sto → Prop) (x2 y0 y1 : Int) (σ : Sto) : Prop :=
  K9 (y1 + y0) (x2 + 1) σ
def bX7_uncovered_9 (k0 : Nat) (P : Int → Sto → Prop) (K9 : Int → Int → Sto → Prop) (x1 x2 : Int) (σ : Sto) : Prop :=
  1 < (zn (k0 + 1) : Int) ∧
  (zR x2 ∧ zR (σ (k0 + 1) (Int.toNat 1)) ∧
  (((σ (k0 + 1) (Int.toNat 1)) ≤ x2) →
  P x1 σ) ∧
  ((¬ ((σ (k0 + 1) (Int.toNat 1)) ≤ x2)) →
  vX7_lexemesWith k0 x2 (fun r2 s2 =>
  zR r2 ∧
  ((¬ r2 = 0) →
  vX7_uncovered_33 k0 P K9 x2 0 x1 s2) ∧
  ((r2 = 0) →
  vX7_uncovered_33 k0 P K9 x2 1 x1 s2)) σ))
def vX7_uncovered_9 (k0 : Nat) (P : Int → Sto → Prop) : Nat → Int → Int → Sto → Prop
  | 0 => fun _ _ _ => False
  | n + 1 => bX7_uncovered_9 k0 P (vX7_uncovered_9 k0 P n)
def vX7_uncovered (k0 : Nat) (P : Int → Sto → Prop) (σ : Sto) : Prop :=
  ∀ s1 : Sto, s1 = zu σ k0 7 0 →
  (∃ n, vX7_uncovered_9 k0 P n 0 0 s1)
/-! InflectionGuesserModel.lexemesOf(I)I -/
def vX7_lexemesOf_33 (k0 : Nat) (P : Int → Sto → Prop) (y0 : Int) (σ : Sto) : Prop :=
  P y0 σ
def vX7_lexemesOf_14 (k0 : Nat) (P : Int → Sto → Prop) (x1 y0 : Int) (σ : Sto) : Prop :=
  ∀ s2 : Sto, s2 = zu σ k0 7 y0 →
  (zR (s2 k0 7) ∧
  (((s2 k0 7) ≤ 0) →
  vX7_lexemesWith k0 x1 (fun r3 s3 =>
  vX7_lexemesOf_33 k0 P r3 s3) s2) ∧
  ((¬ ((s2 k0 7) ≤ 0)) →
  vX7_lexemesOf_33 k0 P 0 s2))
def vX7_lexemesOf (k0 : Nat) (x1 : Int) (P : Int → Sto → Prop) (σ : Sto) : Prop :=
  vX7_isWord k0 x1 (fun r1 s1 =>
  zR r1 ∧
  ((r1 = 0) →
  vX7_lexemesOf_14 k0 P x1 1 s1) ∧
  ((¬ (r1 = 0)) →
  vX7_lexemesOf_14 k0 P x1 0 s1)) σ
