/-! InflectionGuesser.isVowel(C)Z -/
def vX6_isVowel_35 (P : Int → Sto → Prop) (y0 : Int) (σ : Sto) : Prop :=
  (y0 = 0 ∨ y0 = 1) ∧ P y0 σ
def vX6_isVowel_30 (P : Int → Sto → Prop) (σ : Sto) : Prop :=
  vX6_isVowel_35 P 1 σ
def vX6_isVowel (x0 : Int) (P : Int → Sto → Prop) (σ : Sto) : Prop :=
  zR x0 ∧
  ((x0 = 97) →
  vX6_isVowel_30 P σ) ∧
  ((¬ (x0 = 97)) →
  zR x0 ∧
  ((x0 = 101) →
  vX6_isVowel_30 P σ) ∧
  ((¬ (x0 = 101)) →
  zR x0 ∧
  ((x0 = 105) →
  vX6_isVowel_30 P σ) ∧
  ((¬ (x0 = 105)) →
  zR x0 ∧
  ((x0 = 111) →
  vX6_isVowel_30 P σ) ∧
  ((¬ (x0 = 111)) →
  zR x0 ∧
  ((¬ x0 = 117) →
  vX6_isVowel_35 P 0 σ) ∧
  ((x0 = 117) →
  vX6_isVowel_30 P σ)))))
/-! InflectionGuesser.cellSlot(II)I -/
def vX6_cellSlot (x0 : Int) (x1 : Int) (P : Int → Sto → Prop) (σ : Sto) : Prop :=
  P ((x0 * 6) + x1) σ
/-! InflectionGuesser$Word.clear()V -/
def vX4_clear (k0 : Nat) (P : Sto → Prop) (σ : Sto) : Prop :=
  ∀ s1 : Sto, s1 = zu σ k0 1 0 →
  (P s1)
/-! InflectionGuesser$Word.add(C)V -/
def vX4_add_29 (k0 : Nat) (P : Sto → Prop) (σ : Sto) : Prop :=
  P σ
def vX4_add (k0 : Nat) (x1 : Int) (P : Sto → Prop) (σ : Sto) : Prop :=
  zR (σ k0 1) ∧
  ((18 ≤ (σ k0 1)) →
  vX4_add_29 k0 P σ) ∧
  ((¬ (18 ≤ (σ k0 1))) →
  0 ≤ (σ k0 1) ∧ (σ k0 1) < (zn (k0 + 1) : Int) ∧ 0 ≤ x1 ∧ x1 ≤ 65535 ∧
  (∀ s1 : Sto, s1 = zu σ (k0 + 1) (Int.toNat (σ k0 1)) x1 →
  (∀ s2 : Sto, s2 = zu s1 k0 1 ((s1 k0 1) + 1) →
  (vX4_add_29 k0 P s2))))
/-! InflectionGuesser$Word.become(LInflectionGuesser$Word;)V -/
def bX4_become_2 (k0 : Nat) (k1 : Nat) (P : Sto → Prop) (K2 : Int → Sto → Prop) (x2 : Int) (σ : Sto) : Prop :=
  zR x2 ∧ zR (σ k1 1) ∧
  (((σ k1 1) ≤ x2) →
  ∀ s1 : Sto, s1 = zu σ k0 1 (σ k1 1) →
  (P s1)) ∧
  ((¬ ((σ k1 1) ≤ x2)) →
  0 ≤ x2 ∧ x2 < (zn (k1 + 1) : Int) ∧
  (0 ≤ x2 ∧ x2 < (zn (k0 + 1) : Int) ∧ 0 ≤ (σ (k1 + 1) (Int.toNat x2)) ∧ (σ (k1 + 1) (Int.toNat x2)) ≤ 65535 ∧
  (∀ s2 : Sto, s2 = zu σ (k0 + 1) (Int.toNat x2) (σ (k1 + 1) (Int.toNat x2)) →
  (K2 (x2 + 1) s2))))
def vX4_become_2 (k0 : Nat) (k1 : Nat) (P : Sto → Prop) : Nat → Int → Sto → Prop
  | 0 => fun _ _ => False
  | n + 1 => bX4_become_2 k0 k1 P (vX4_become_2 k0 k1 P n)
def vX4_become (k0 : Nat) (k1 : Nat) (P : Sto → Prop) (σ : Sto) : Prop :=
  ∃ n, vX4_become_2 k0 k1 P n 0 σ
/-! InflectionGuesser$Word.dropLast(I)V -/
def vX4_dropLast (k0 : Nat) (x1 : Int) (P : Sto → Prop) (σ : Sto) : Prop :=
  zR ((σ k0 1) - x1) ∧
  (∀ s1 : Sto, s1 = zu σ k0 1 (if 0 < ((σ k0 1) - x1) then ((σ k0 1) - x1) else 0) →
  (P s1))
/-! InflectionGuesser$Word.isStem()Z -/
def vX4_isStem_22 (k0 : Nat) (P : Int → Sto → Prop) (y0 : Int) (σ : Sto) : Prop :=
  (y0 = 0 ∨ y0 = 1) ∧ P y0 σ
def vX4_isStem_21 (k0 : Nat) (P : Int → Sto → Prop) (σ : Sto) : Prop :=
  vX4_isStem_22 k0 P 0 σ
def vX4_isStem (k0 : Nat) (P : Int → Sto → Prop) (σ : Sto) : Prop :=
  zR (σ k0 1) ∧
  (((σ k0 1) < 2) →
  vX4_isStem_21 k0 P σ) ∧
  ((¬ ((σ k0 1) < 2)) →
  zR (σ k0 1) ∧
  ((10 < (σ k0 1)) →
  vX4_isStem_21 k0 P σ) ∧
  ((¬ (10 < (σ k0 1))) →
  vX4_isStem_22 k0 P 1 σ))
/-! InflectionGuesser$Word.endsInVowel()Z -/
def vX4_endsInVowel_29 (k0 : Nat) (P : Int → Sto → Prop) (y0 : Int) (σ : Sto) : Prop :=
  (y0 = 0 ∨ y0 = 1) ∧ P y0 σ
def vX4_endsInVowel_28 (k0 : Nat) (P : Int → Sto → Prop) (σ : Sto) : Prop :=
  vX4_endsInVowel_29 k0 P 0 σ
def vX4_endsInVowel (k0 : Nat) (P : Int → Sto → Prop) (σ : Sto) : Prop :=
  zR (σ k0 1) ∧
  (((σ k0 1) ≤ 0) →
  vX4_endsInVowel_28 k0 P σ) ∧
  ((¬ ((σ k0 1) ≤ 0)) →
  0 ≤ ((σ k0 1) - 1) ∧ ((σ k0 1) - 1) < (zn (k0 + 1) : Int) ∧
  (vX6_isVowel (σ (k0 + 1) (Int.toNat ((σ k0 1) - 1))) (fun r1 s1 =>
  zR r1 ∧
  ((r1 = 0) →
  vX4_endsInVowel_28 k0 P s1) ∧
  ((¬ (r1 = 0)) →
  vX4_endsInVowel_29 k0 P 1 s1)) σ))
/-! InflectionGuesser$Word.endsInDouble()Z -/
def vX4_endsInDouble_38 (k0 : Nat) (P : Int → Sto → Prop) (y0 : Int) (σ : Sto) : Prop :=
  (y0 = 0 ∨ y0 = 1) ∧ P y0 σ
def vX4_endsInDouble_37 (k0 : Nat) (P : Int → Sto → Prop) (σ : Sto) : Prop :=
  vX4_endsInDouble_38 k0 P 0 σ
def vX4_endsInDouble (k0 : Nat) (P : Int → Sto → Prop) (σ : Sto) : Prop :=
  zR (σ k0 1) ∧
  (((σ k0 1) ≤ 1) →
  vX4_endsInDouble_37 k0 P σ) ∧
  ((¬ ((σ k0 1) ≤ 1)) →
  0 ≤ ((σ k0 1) - 1) ∧ ((σ k0 1) - 1) < (zn (k0 + 1) : Int) ∧
  (0 ≤ ((σ k0 1) - 2) ∧ ((σ k0 1) - 2) < (zn (k0 + 1) : Int) ∧
  (zR (σ (k0 + 1) (Int.toNat ((σ k0 1) - 1))) ∧ zR (σ (k0 + 1) (Int.toNat ((σ k0 1) - 2))) ∧
  ((¬ (σ (k0 + 1) (Int.toNat ((σ k0 1) - 1))) = (σ (k0 + 1) (Int.toNat ((σ k0 1) - 2)))) →
  vX4_endsInDouble_37 k0 P σ) ∧
  (((σ (k0 + 1) (Int.toNat ((σ k0 1) - 1))) = (σ (k0 + 1) (Int.toNat ((σ k0 1) - 2)))) →
  vX4_endsInDouble_38 k0 P 1 σ))))
/-! InflectionGuesser$Word.lastVowel()I -/
def bX4_lastVowel_7 (k0 : Nat) (P : Int → Sto → Prop) (K7 : Int → Sto → Prop) (x1 : Int) (σ : Sto) : Prop :=
  zR x1 ∧
  ((x1 < 0) →
  P (-1) σ) ∧
  ((¬ (x1 < 0)) →
  0 ≤ x1 ∧ x1 < (zn (k0 + 1) : Int) ∧
  (vX6_isVowel (σ (k0 + 1) (Int.toNat x1)) (fun r1 s1 =>
  zR r1 ∧
  ((r1 = 0) →
  K7 (x1 + (-1)) s1) ∧
  ((¬ (r1 = 0)) →
  P x1 s1)) σ))
def vX4_lastVowel_7 (k0 : Nat) (P : Int → Sto → Prop) : Nat → Int → Sto → Prop
  | 0 => fun _ _ => False
  | n + 1 => bX4_lastVowel_7 k0 P (vX4_lastVowel_7 k0 P n)
def vX4_lastVowel (k0 : Nat) (P : Int → Sto → Prop) (σ : Sto) : Prop :=
  ∃ n, vX4_lastVowel_7 k0 P n ((σ k0 1) - 1) σ
/-! InflectionGuesser$WordTable.copyFrom(LInflectionGuesser$WordTable;)V -/
def vX5_copyFrom (k0 : Nat) (k1 : Nat) (P : Sto → Prop) (σ : Sto) : Prop :=
  0 ≤ (zn (k0 + 1) : Int) ∧ 0 + (zn (k0 + 1) : Int) ≤ (zn (k1 + 1) : Int) ∧ 0 + (zn (k0 + 1) : Int) ≤ (zn (k0 + 1) : Int) ∧
  (∀ s1 : Sto, s1 = zc σ (k1 + 1) (Int.toNat 0) (k0 + 1) (Int.toNat 0) (Int.toNat (zn (k0 + 1) : Int)) →
  (0 ≤ (zn (k0 + 2) : Int) ∧ 0 + (zn (k0 + 2) : Int) ≤ (zn (k1 + 2) : Int) ∧ 0 + (zn (k0 + 2) : Int) ≤ (zn (k0 + 2) : Int) ∧
  (∀ s2 : Sto, s2 = zc s1 (k1 + 2) (Int.toNat 0) (k0 + 2) (Int.toNat 0) (Int.toNat (zn (k0 + 2) : Int)) →
  (P s2))))
/-! InflectionGuesser$WordTable.letterAt(II)C -/
def vX5_letterAt (k0 : Nat) (x1 : Int) (x2 : Int) (P : Int → Sto → Prop) (σ : Sto) : Prop :=
  0 ≤ ((x1 * (zw k0)) + x2) ∧ ((x1 * (zw k0)) + x2) < (zn (k0 + 2) : Int) ∧
  (0 ≤ (σ (k0 + 2) (Int.toNat ((x1 * (zw k0)) + x2))) ∧ (σ (k0 + 2) (Int.toNat ((x1 * (zw k0)) + x2))) ≤ 65535 ∧ P (σ (k0 + 2) (Int.toNat ((x1 * (zw k0)) + x2))) σ)
/-! InflectionGuesser$WordTable.put(ILInflectionGuesser$Word;II)V -/
def bX5_put_25 (k0 : Nat) (k2 : Nat) (P : Sto → Prop) (K25 : Int → Int → Int → Int → Int → Sto → Prop) (x1 x3 x4 x5 x6 : Int) (σ : Sto) : Prop :=
  zR x6 ∧ zR x4 ∧
  ((x4 ≤ x6) →
  0 ≤ x1 ∧ x1 < (zn (k0 + 1) : Int) ∧
  (∀ s1 : Sto, s1 = zu σ (k0 + 1) (Int.toNat x1) (x4 - x3) →
  (P s1))) ∧
  ((¬ (x4 ≤ x6)) →
  0 ≤ x6 ∧ x6 < (zn (k2 + 1) : Int) ∧
  (0 ≤ (x5 + x6) ∧ (x5 + x6) < (zn (k0 + 2) : Int) ∧ 0 ≤ (σ (k2 + 1) (Int.toNat x6)) ∧ (σ (k2 + 1) (Int.toNat x6)) ≤ 65535 ∧
  (∀ s2 : Sto, s2 = zu σ (k0 + 2) (Int.toNat (x5 + x6)) (σ (k2 + 1) (Int.toNat x6)) →
  (K25 x1 x3 x4 x5 (x6 + 1) s2))))
def vX5_put_25 (k0 : Nat) (k2 : Nat) (P : Sto → Prop) : Nat → Int → Int → Int → Int → Int → Sto → Prop
  | 0 => fun _ _ _ _ _ _ => False
  | n + 1 => bX5_put_25 k0 k2 P (vX5_put_25 k0 k2 P n)
def vX5_put (k0 : Nat) (x1 : Int) (k2 : Nat) (x3 : Int) (x4 : Int) (P : Sto → Prop) (σ : Sto) : Prop :=
  zR (x4 - x3) ∧ zR (zw k0) ∧
  (((x4 - x3) ≤ (zw k0)) →
  ∃ n, vX5_put_25 k0 k2 P n x1 x3 x4 ((x1 * (zw k0)) - x3) x3 σ) ∧
  ((¬ ((x4 - x3) ≤ (zw k0))) →
  P σ)
/-! InflectionGuesser$WordTable.addTo(ILInflectionGuesser$Word;)V -/
def bX5_addTo_28 (k0 : Nat) (k2 : Nat) (P : Sto → Prop) (K28 : Int → Int → Int → Sto → Prop) (x3 x4 x5 : Int) (σ : Sto) : Prop :=
  zR x5 ∧ zR x4 ∧
  ((x4 ≤ x5) →
  ∀ s1 : Sto, s1 = zu σ k2 1 ((σ k2 1) + x4) →
  (P s1)) ∧
  ((¬ (x4 ≤ x5)) →
  0 ≤ (x3 + x5) ∧ (x3 + x5) < (zn (k0 + 2) : Int) ∧
  (0 ≤ ((σ k2 1) + x5) ∧ ((σ k2 1) + x5) < (zn (k2 + 1) : Int) ∧ 0 ≤ (σ (k0 + 2) (Int.toNat (x3 + x5))) ∧ (σ (k0 + 2) (Int.toNat (x3 + x5))) ≤ 65535 ∧
  (∀ s2 : Sto, s2 = zu σ (k2 + 1) (Int.toNat ((σ k2 1) + x5)) (σ (k0 + 2) (Int.toNat (x3 + x5))) →
  (K28 x3 x4 (x5 + 1) s2))))
def vX5_addTo_28 (k0 : Nat) (k2 : Nat) (P : Sto → Prop) : Nat → Int → Int → Int → Sto → Prop
  | 0 => fun _ _ _ _ => False
  | n + 1 => bX5_addTo_28 k0 k2 P (vX5_addTo_28 k0 k2 P n)
def vX5_addTo (k0 : Nat) (x1 : Int) (k2 : Nat) (P : Sto → Prop) (σ : Sto) : Prop :=
  0 ≤ x1 ∧ x1 < (zn (k0 + 1) : Int) ∧
  (zR (σ (k0 + 1) (Int.toNat x1)) ∧ zR (18 - (σ k2 1)) ∧
  (∃ n, vX5_addTo_28 k0 k2 P n (x1 * (zw k0)) (if (18 - (σ k2 1)) < (σ (k0 + 1) (Int.toNat x1)) then (18 - (σ k2 1)) else (σ (k0 + 1) (Int.toNat x1))) 0 σ))
/-! InflectionGuesser$WordTable.isEndOf(ILInflectionGuesser$Word;)Z -/
def bX5_isEndOf_29 (k0 : Nat) (k2 : Nat) (P : Int → Sto → Prop) (K29 : Int → Int → Int → Int → Sto → Prop) (x1 x3 x4 x5 : Int) (σ : Sto) : Prop :=
  0 ≤ x1 ∧ x1 < (zn (k0 + 1) : Int) ∧
  (zR x5 ∧ zR (σ (k0 + 1) (Int.toNat x1)) ∧
  (((σ (k0 + 1) (Int.toNat x1)) ≤ x5) →
  P 1 σ) ∧
  ((¬ ((σ (k0 + 1) (Int.toNat x1)) ≤ x5)) →
  0 ≤ (x3 + x5) ∧ (x3 + x5) < (zn (k2 + 1) : Int) ∧
  (0 ≤ (x4 + x5) ∧ (x4 + x5) < (zn (k0 + 2) : Int) ∧
  (zR (σ (k2 + 1) (Int.toNat (x3 + x5))) ∧ zR (σ (k0 + 2) (Int.toNat (x4 + x5))) ∧
  (((σ (k2 + 1) (Int.toNat (x3 + x5))) = (σ (k0 + 2) (Int.toNat (x4 + x5)))) →
  K29 x1 x3 x4 (x5 + 1) σ) ∧
  ((¬ ((σ (k2 + 1) (Int.toNat (x3 + x5))) = (σ (k0 + 2) (Int.toNat (x4 + x5))))) →
  P 0 σ)))))
def vX5_isEndOf_29 (k0 : Nat) (k2 : Nat) (P : Int → Sto → Prop) : Nat → Int → Int → Int → Int → Sto → Prop
  | 0 => fun _ _ _ _ _ => False
  | n + 1 => bX5_isEndOf_29 k0 k2 P (vX5_isEndOf_29 k0 k2 P n)
def vX5_isEndOf (k0 : Nat) (x1 : Int) (k2 : Nat) (P : Int → Sto → Prop) (σ : Sto) : Prop :=
  0 ≤ x1 ∧ x1 < (zn (k0 + 1) : Int) ∧
  (zR ((σ k2 1) - (σ (k0 + 1) (Int.toNat x1))) ∧
  ((0 ≤ ((σ k2 1) - (σ (k0 + 1) (Int.toNat x1)))) →
  ∃ n, vX5_isEndOf_29 k0 k2 P n x1 ((σ k2 1) - (σ (k0 + 1) (Int.toNat x1))) (x1 * (zw k0)) 0 σ) ∧
  ((¬ (0 ≤ ((σ k2 1) - (σ (k0 + 1) (Int.toNat x1))))) →
  P 0 σ))
/-! InflectionGuesser$WordTable.find(LInflectionGuesser$Word;I)I -/
def vX5_find_31 (k0 : Nat) (k1 : Nat) (P : Int → Sto → Prop) (K2 : Int → Int → Sto → Prop) (x2 x3 : Int) (σ : Sto) : Prop :=
  K2 x2 (x3 + 1) σ
def bX5_find_2 (k0 : Nat) (k1 : Nat) (P : Int → Sto → Prop) (K2 : Int → Int → Sto → Prop) (x2 x3 : Int) (σ : Sto) : Prop :=
  zR x3 ∧ zR x2 ∧
  ((x2 ≤ x3) →
  P (-1) σ) ∧
  ((¬ (x2 ≤ x3)) →
  0 ≤ x3 ∧ x3 < (zn (k0 + 1) : Int) ∧
  (zR (σ (k0 + 1) (Int.toNat x3)) ∧ zR (σ k1 1) ∧
  ((¬ (σ (k0 + 1) (Int.toNat x3)) = (σ k1 1)) →
  vX5_find_31 k0 k1 P K2 x2 x3 σ) ∧
  (((σ (k0 + 1) (Int.toNat x3)) = (σ k1 1)) →
  vX5_isEndOf k0 x3 k1 (fun r1 s1 =>
  zR r1 ∧
  ((r1 = 0) →
  vX5_find_31 k0 k1 P K2 x2 x3 s1) ∧
  ((¬ (r1 = 0)) →
  P x3 s1)) σ)))
def vX5_find_2 (k0 : Nat) (k1 : Nat) (P : Int → Sto → Prop) : Nat → Int → Int → Sto → Prop
  | 0 => fun _ _ _ => False
  | n + 1 => bX5_find_2 k0 k1 P (vX5_find_2 k0 k1 P n)
def vX5_find (k0 : Nat) (k1 : Nat) (x2 : Int) (P : Int → Sto → Prop) (σ : Sto) : Prop :=
  ∃ n, vX5_find_2 k0 k1 P n x2 0 σ
/-! InflectionGuesser$WordTable.closeGap(II)V -/
def bX5_closeGap_2 (k0 : Nat) (P : Sto → Prop) (K2 : Int → Int → Sto → Prop) (x2 x3 : Int) (σ : Sto) : Prop :=
  zR (x3 + 1) ∧ zR x2 ∧
  ((x2 ≤ (x3 + 1)) →
  P σ) ∧
  ((¬ (x2 ≤ (x3 + 1))) →
  0 ≤ (x3 + 1) ∧ (x3 + 1) < (zn (k0 + 1) : Int) ∧
  (0 ≤ x3 ∧ x3 < (zn (k0 + 1) : Int) ∧
  (∀ s1 : Sto, s1 = zu σ (k0 + 1) (Int.toNat x3) (σ (k0 + 1) (Int.toNat (x3 + 1))) →
  (0 ≤ ((x3 + 1) * (zw k0)) ∧ 0 ≤ (x3 * (zw k0)) ∧ 0 ≤ (zw k0) ∧ ((x3 + 1) * (zw k0)) + (zw k0) ≤ (zn (k0 + 2) : Int) ∧ (x3 * (zw k0)) + (zw k0) ≤ (zn (k0 + 2) : Int) ∧
  (∀ s2 : Sto, s2 = zc s1 (k0 + 2) (Int.toNat ((x3 + 1) * (zw k0))) (k0 + 2) (Int.toNat (x3 * (zw k0))) (Int.toNat (zw k0)) →
  (K2 x2 (x3 + 1) s2))))))
def vX5_closeGap_2 (k0 : Nat) (P : Sto → Prop) : Nat → Int → Int → Sto → Prop
  | 0 => fun _ _ _ => False
  | n + 1 => bX5_closeGap_2 k0 P (vX5_closeGap_2 k0 P n)
def vX5_closeGap (k0 : Nat) (x1 : Int) (x2 : Int) (P : Sto → Prop) (σ : Sto) : Prop :=
  ∃ n, vX5_closeGap_2 k0 P n x2 x1 σ
/-! InflectionGuesser$Key.of(ILInflectionGuesser$Word;II)J -/
def bX2_of_6 (k1 : Nat) (P : Int → Sto → Prop) (K6 : Int → Int → Int → Int → Int → Sto → Prop) (x0 x2 x3 x4 x6 : Int) (σ : Sto) : Prop :=
  zR x6 ∧ zR (σ k1 1) ∧
  (((σ k1 1) ≤ x6) →
  zR (6 - x2) ∧
  (zR x3 ∧
  (zR (10 - (σ k1 1)) ∧
  (zR x0 ∧
  (P (zJor (zJor (zJor (zJor (zJshl (6 - x2) 60) (zJshl x3 57)) (zJshl (10 - (σ k1 1)) 53)) (zJshl x0 50)) x4) σ))))) ∧
  ((¬ ((σ k1 1) ≤ x6)) →
  0 ≤ x6 ∧ x6 < (zn (k1 + 1) : Int) ∧
  (zR ((σ (k1 + 1) (Int.toNat x6)) - 97) ∧
  (K6 x0 x2 x3 (zJor (zJshl x4 5) ((σ (k1 + 1) (Int.toNat x6)) - 97)) (x6 + 1) σ)))
def vX2_of_6 (k1 : Nat) (P : Int → Sto → Prop) : Nat → Int → Int → Int → Int → Int → Sto → Prop
  | 0 => fun _ _ _ _ _ _ => False
  | n + 1 => bX2_of_6 k1 P (vX2_of_6 k1 P n)
def vX2_of (x0 : Int) (k1 : Nat) (x2 : Int) (x3 : Int) (P : Int → Sto → Prop) (σ : Sto) : Prop :=
  ∃ n, vX2_of_6 k1 P n x0 x2 x3 0 0 σ
/-! InflectionGuesser$Key.pair(J)J -/
def vX2_pair (x0 : Int) (P : Int → Sto → Prop) (σ : Sto) : Prop :=
  P (zJand x0 144115188075855871) σ
/-! InflectionGuesser$Key.explained(J)I -/
def vX2_explained (x0 : Int) (P : Int → Sto → Prop) (σ : Sto) : Prop :=
  P (6 - (zJand (zJshr x0 60) 7)) σ
/-! InflectionGuesser$Key.unattested(J)I -/
def vX2_unattested (x0 : Int) (P : Int → Sto → Prop) (σ : Sto) : Prop :=
  P (zJand (zJshr x0 57) 7) σ
/-! InflectionGuesser$Key.stemLength(J)I -/
def vX2_stemLength (x0 : Int) (P : Int → Sto → Prop) (σ : Sto) : Prop :=
  P (10 - (zJand (zJshr x0 53) 15)) σ
/-! InflectionGuesser$Key.paradigm(J)I -/
def vX2_paradigm (x0 : Int) (P : Int → Sto → Prop) (σ : Sto) : Prop :=
  P (zJand (zJshr x0 50) 7) σ
/-! InflectionGuesser$Key.letterOfStem(JI)C -/
def vX2_letterOfStem (x0 : Int) (x2 : Int) (P : Int → Sto → Prop) (σ : Sto) : Prop :=
  vX2_stemLength x0 (fun r1 s1 =>
  0 ≤ (zi2c (97 + (zJand (zJshr x0 (((r1 - 1) - x2) * 5)) 31))) ∧ (zi2c (97 + (zJand (zJshr x0 (((r1 - 1) - x2) * 5)) 31))) ≤ 65535 ∧ P (zi2c (97 + (zJand (zJshr x0 (((r1 - 1) - x2) * 5)) 31))) s1) σ
/-! InflectionGuesser$Key.unpackStem(JLInflectionGuesser$Word;)V -/
def bX2_unpackStem_12 (k2 : Nat) (P : Sto → Prop) (K12 : Int → Int → Int → Sto → Prop) (x0 x3 x4 : Int) (σ : Sto) : Prop :=
  zR x4 ∧ zR x3 ∧
  ((x3 ≤ x4) →
  P σ) ∧
  ((¬ (x3 ≤ x4)) →
  vX2_letterOfStem x0 x4 (fun r3 s3 =>
  vX4_add k2 r3 (fun s4 =>
  K12 x0 x3 (x4 + 1) s4) s3) σ)
def vX2_unpackStem_12 (k2 : Nat) (P : Sto → Prop) : Nat → Int → Int → Int → Sto → Prop
  | 0 => fun _ _ _ _ => False
  | n + 1 => bX2_unpackStem_12 k2 P (vX2_unpackStem_12 k2 P n)
def vX2_unpackStem (x0 : Int) (k2 : Nat) (P : Sto → Prop) (σ : Sto) : Prop :=
  vX2_stemLength x0 (fun r1 s1 =>
  vX4_clear k2 (fun s2 =>
  ∃ n, vX2_unpackStem_12 k2 P n x0 r1 0 s2) s1) σ
/-! InflectionGuesser$State.copyFrom(LInflectionGuesser$State;)V -/
def vX3_copyFrom (k0 : Nat) (k1 : Nat) (P : Sto → Prop) (σ : Sto) : Prop :=
  ∀ s1 : Sto, s1 = zu σ k0 0 (σ k1 0) →
  (0 + 6 ≤ (zn (k1 + 1) : Int) ∧ 0 + 6 ≤ (zn (k0 + 1) : Int) ∧
  (∀ s2 : Sto, s2 = zc s1 (k1 + 1) (Int.toNat 0) (k0 + 1) (Int.toNat 0) (Int.toNat 6) →
  (0 + 6 ≤ (zn (k1 + 2) : Int) ∧ 0 + 6 ≤ (zn (k0 + 2) : Int) ∧
  (∀ s3 : Sto, s3 = zc s2 (k1 + 2) (Int.toNat 0) (k0 + 2) (Int.toNat 0) (Int.toNat 6) →
  (0 + 6 ≤ (zn (k1 + 3) : Int) ∧ 0 + 6 ≤ (zn (k0 + 3) : Int) ∧
  (∀ s4 : Sto, s4 = zc s3 (k1 + 3) (Int.toNat 0) (k0 + 3) (Int.toNat 0) (Int.toNat 6) →
  (vX5_copyFrom (k0 + 4) (k1 + 4) (fun s5 =>
  0 ≤ (zn (k0 + 7) : Int) ∧ 0 + (zn (k0 + 7) : Int) ≤ (zn (k1 + 7) : Int) ∧ 0 + (zn (k0 + 7) : Int) ≤ (zn (k0 + 7) : Int) ∧
  (∀ s6 : Sto, s6 = zc s5 (k1 + 7) (Int.toNat 0) (k0 + 7) (Int.toNat 0) (Int.toNat (zn (k0 + 7) : Int)) →
  (0 ≤ (zn (k0 + 8) : Int) ∧ 0 + (zn (k0 + 8) : Int) ≤ (zn (k1 + 8) : Int) ∧ 0 + (zn (k0 + 8) : Int) ≤ (zn (k0 + 8) : Int) ∧
  (∀ s7 : Sto, s7 = zc s6 (k1 + 8) (Int.toNat 0) (k0 + 8) (Int.toNat 0) (Int.toNat (zn (k0 + 8) : Int)) →
  (vX5_copyFrom (k0 + 9) (k1 + 9) (fun s8 =>
  vX5_copyFrom (k0 + 12) (k1 + 12) (fun s9 =>
  ∀ s10 : Sto, s10 = zu s9 k0 9 (s9 k1 9) →
  (vX5_copyFrom (k0 + 15) (k1 + 15) (fun s11 =>
  ∀ s12 : Sto, s12 = zu s11 k0 11 (s11 k1 11) →
  (0 + 10 ≤ (zn (k1 + 18) : Int) ∧ 0 + 10 ≤ (zn (k0 + 18) : Int) ∧
  (∀ s13 : Sto, s13 = zc s12 (k1 + 18) (Int.toNat 0) (k0 + 18) (Int.toNat 0) (Int.toNat 10) →
  (vX5_copyFrom (k0 + 19) (k1 + 19) (fun s14 =>
  P s14) s13)))) s10)) s8) s7))))) s4)))))))
/-! InflectionGuesser$State.newParadigm()I -/
def vX3_newParadigm (k0 : Nat) (P : Int → Sto → Prop) (σ : Sto) : Prop :=
  ∀ s1 : Sto, s1 = zu σ k0 0 ((σ k0 0) + 1) →
  (P ((s1 k0 0) - 1) s1)
/-! InflectionGuesser$State.newCell(III)I -/
def vX3_newCell (k0 : Nat) (x1 : Int) (x2 : Int) (x3 : Int) (P : Int → Sto → Prop) (σ : Sto) : Prop :=
  0 ≤ x1 ∧ x1 < (zn (k0 + 1) : Int) ∧
  (vX6_cellSlot x1 (σ (k0 + 1) (Int.toNat x1)) (fun r1 s1 =>
  0 ≤ r1 ∧ r1 < (zn (k0 + 7) : Int) ∧
  (∀ s2 : Sto, s2 = zu s1 (k0 + 7) (Int.toNat r1) x2 →
  (vX6_cellSlot x1 (σ (k0 + 1) (Int.toNat x1)) (fun r3 s3 =>
  0 ≤ r3 ∧ r3 < (zn (k0 + 8) : Int) ∧
  (∀ s4 : Sto, s4 = zu s3 (k0 + 8) (Int.toNat r3) x3 →
  (0 ≤ x1 ∧ x1 < (zn (k0 + 1) : Int) ∧
  (0 ≤ x1 ∧ x1 < (zn (k0 + 1) : Int) ∧
  (∀ s5 : Sto, s5 = zu s4 (k0 + 1) (Int.toNat x1) ((s4 (k0 + 1) (Int.toNat x1)) + 1) →
  (P (σ (k0 + 1) (Int.toNat x1)) s5)))))) s2))) σ)
/-! InflectionGuesser$State.newLexeme(J)I -/
def vX3_newLexeme (k0 : Nat) (x1 : Int) (P : Int → Sto → Prop) (σ : Sto) : Prop :=
  0 ≤ (σ k0 11) ∧ (σ k0 11) < (zn (k0 + 18) : Int) ∧
  (∀ s1 : Sto, s1 = zu σ (k0 + 18) (Int.toNat (σ k0 11)) x1 →
  (∀ s2 : Sto, s2 = zu s1 k0 11 ((s1 k0 11) + 1) →
  (P ((s2 k0 11) - 1) s2)))
/-! InflectionGuesser$State.hasLexeme(J)Z -/
def bX3_hasLexeme_2 (k0 : Nat) (P : Int → Sto → Prop) (K2 : Int → Int → Sto → Prop) (x1 x3 : Int) (σ : Sto) : Prop :=
  zR x3 ∧ zR (σ k0 11) ∧
  (((σ k0 11) ≤ x3) →
  P 0 σ) ∧
  ((¬ ((σ k0 11) ≤ x3)) →
  0 ≤ x3 ∧ x3 < (zn (k0 + 18) : Int) ∧
  (zQ (σ (k0 + 18) (Int.toNat x3)) ∧ zQ x1 ∧
  (((¬ (zcmp (σ (k0 + 18) (Int.toNat x3)) x1) = 0) →
  K2 x1 (x3 + 1) σ) ∧
  (((zcmp (σ (k0 + 18) (Int.toNat x3)) x1) = 0) →
  P 1 σ))))
def vX3_hasLexeme_2 (k0 : Nat) (P : Int → Sto → Prop) : Nat → Int → Int → Sto → Prop
  | 0 => fun _ _ _ => False
  | n + 1 => bX3_hasLexeme_2 k0 P (vX3_hasLexeme_2 k0 P n)
def vX3_hasLexeme (k0 : Nat) (x1 : Int) (P : Int → Sto → Prop) (σ : Sto) : Prop :=
  ∃ n, vX3_hasLexeme_2 k0 P n x1 0 σ
/-! InflectionGuesser$State.hasException(II)Z -/
def vX3_hasException_21 (k0 : Nat) (P : Int → Sto → Prop) (y0 : Int) (σ : Sto) : Prop :=
  (y0 = 0 ∨ y0 = 1) ∧ P y0 σ
def vX3_hasException (k0 : Nat) (x1 : Int) (x2 : Int) (P : Int → Sto → Prop) (σ : Sto) : Prop :=
  vX6_cellSlot x1 x2 (fun r1 s1 =>
  0 ≤ r1 ∧ r1 < (zn (k0 + 19 + 1) : Int) ∧
  (zR (s1 (k0 + 19 + 1) (Int.toNat r1)) ∧
  (((s1 (k0 + 19 + 1) (Int.toNat r1)) ≤ 0) →
  vX3_hasException_21 k0 P 0 s1) ∧
  ((¬ ((s1 (k0 + 19 + 1) (Int.toNat r1)) ≤ 0)) →
  vX3_hasException_21 k0 P 1 s1))) σ
/-! InflectionGuesser$State.dropException(II)V -/
def vX3_dropException (k0 : Nat) (x1 : Int) (x2 : Int) (P : Sto → Prop) (σ : Sto) : Prop :=
  vX6_cellSlot x1 x2 (fun r1 s1 =>
  0 ≤ r1 ∧ r1 < (zn (k0 + 19 + 1) : Int) ∧
  (∀ s2 : Sto, s2 = zu s1 (k0 + 19 + 1) (Int.toNat r1) 0 →
  (P s2))) σ
/-! InflectionGuesser$State.exceptionCount(I)I -/
def vX3_exceptionCount_39 (k0 : Nat) (P : Int → Sto → Prop) (K20 : Int → Int → Int → Int → Sto → Prop) (x1 x2 x3 x4 : Int) (σ : Sto) : Prop :=
  K20 x1 x2 x3 (x4 + 1) σ
def bX3_exceptionCount_20 (k0 : Nat) (P : Int → Sto → Prop) (K20 : Int → Int → Int → Int → Sto → Prop) (x1 x2 x3 x4 : Int) (σ : Sto) : Prop :=
  zR x4 ∧ zR x2 ∧
  ((x2 ≤ x4) →
  P x3 σ) ∧
  ((¬ (x2 ≤ x4)) →
  vX3_hasException k0 x1 x4 (fun r2 s2 =>
  zR r2 ∧
  ((r2 = 0) →
  vX3_exceptionCount_39 k0 P K20 x1 x2 x3 x4 s2) ∧
  ((¬ (r2 = 0)) →
  vX3_exceptionCount_39 k0 P K20 x1 x2 (x3 + 1) x4 s2)) σ)
def vX3_exceptionCount_20 (k0 : Nat) (P : Int → Sto → Prop) : Nat → Int → Int → Int → Int → Sto → Prop
  | 0 => fun _ _ _ _ _ => False
  | n + 1 => bX3_exceptionCount_20 k0 P (vX3_exceptionCount_20 k0 P n)
def vX3_exceptionCount (k0 : Nat) (x1 : Int) (P : Int → Sto → Prop) (σ : Sto) : Prop :=
  0 ≤ x1 ∧ x1 < (zn (k0 + 18) : Int) ∧
  (vX2_paradigm (σ (k0 + 18) (Int.toNat x1)) (fun r1 s1 =>
  0 ≤ r1 ∧ r1 < (zn (k0 + 1) : Int) ∧
  (∃ n, vX3_exceptionCount_20 k0 P n x1 (s1 (k0 + 1) (Int.toNat r1)) 0 0 s1)) σ)
/-! InflectionGuesser$State.allows(ILInflectionGuesser$Word;)Z -/
def vX3_allows_61 (k0 : Nat) (k2 : Nat) (P : Int → Sto → Prop) (y0 : Int) (σ : Sto) : Prop :=
  (y0 = 0 ∨ y0 = 1) ∧ P y0 σ
def vX3_allows_80 (k0 : Nat) (k2 : Nat) (P : Int → Sto → Prop) (y0 : Int) (σ : Sto) : Prop :=
  (y0 = 0 ∨ y0 = 1) ∧ P y0 σ
def vX3_allows (k0 : Nat) (x1 : Int) (k2 : Nat) (P : Int → Sto → Prop) (σ : Sto) : Prop :=
  vX4_isStem k2 (fun r1 s1 =>
  zR r1 ∧
  ((¬ r1 = 0) →
  0 ≤ x1 ∧ x1 < (zn (k0 + 2) : Int) ∧
  (zR (s1 (k0 + 2) (Int.toNat x1)) ∧
  ((s1 (k0 + 2) (Int.toNat x1)) = 1 →
  vX4_endsInVowel k2 (fun r2 s2 =>
  (r2 = 0 ∨ r2 = 1) ∧ P r2 s2) s1) ∧
  ((s1 (k0 + 2) (Int.toNat x1)) = 2 →
  vX4_endsInVowel k2 (fun r3 s3 =>
  zR r3 ∧
  ((¬ r3 = 0) →
  vX3_allows_61 k0 k2 P 0 s3) ∧
  ((r3 = 0) →
  vX3_allows_61 k0 k2 P 1 s3)) s1) ∧
  ((s1 (k0 + 2) (Int.toNat x1)) = 3 →
  0 ≤ x1 ∧ x1 < (zn (k0 + 3) : Int) ∧
  (zR (s1 k2 1) ∧ zR (s1 (k0 + 3) (Int.toNat x1)) ∧
  (((s1 k2 1) < (s1 (k0 + 3) (Int.toNat x1))) →
  vX3_allows_80 k0 k2 P 0 s1) ∧
  ((¬ ((s1 k2 1) < (s1 (k0 + 3) (Int.toNat x1)))) →
  vX3_allows_80 k0 k2 P 1 s1))) ∧
  ((s1 (k0 + 2) (Int.toNat x1)) = 4 →
  vX5_isEndOf (k0 + 4) x1 k2 (fun r4 s4 =>
  (r4 = 0 ∨ r4 = 1) ∧ P r4 s4) s1) ∧
  (((s1 (k0 + 2) (Int.toNat x1)) < 1 ∨ 4 < (s1 (k0 + 2) (Int.toNat x1))) →
  P 1 s1))) ∧
  ((r1 = 0) →
  P 0 s1)) σ
/-! InflectionGuesser$State.build(ILInflectionGuesser$Word;LInflectionGuesser$Word;)Z -/
def vX3_build_124 (k0 : Nat) (k2 : Nat) (k3 : Nat) (P : Int → Sto → Prop) (x1 : Int) (σ : Sto) : Prop :=
  vX5_addTo (k0 + 12) x1 k3 (fun s4 =>
  P 1 s4) σ
def vX3_build (k0 : Nat) (x1 : Int) (k2 : Nat) (k3 : Nat) (P : Int → Sto → Prop) (σ : Sto) : Prop :=
  vX4_become k3 k2 (fun s1 =>
  0 ≤ x1 ∧ x1 < (zn (k0 + 7) : Int) ∧
  (zR (s1 (k0 + 7) (Int.toNat x1)) ∧
  ((s1 (k0 + 7) (Int.toNat x1)) = 1 →
  vX5_isEndOf (k0 + 9) x1 k2 (fun r2 s2 =>
  zR r2 ∧
  ((¬ r2 = 0) →
  0 ≤ x1 ∧ x1 < (zn (k0 + 9 + 1) : Int) ∧
  (vX4_dropLast k3 (s2 (k0 + 9 + 1) (Int.toNat x1)) (fun s3 =>
  vX3_build_124 k0 k2 k3 P x1 s3) s2)) ∧
  ((r2 = 0) →
  P 0 s2)) s1) ∧
  ((s1 (k0 + 7) (Int.toNat x1)) = 2 →
  zR (s1 k2 1) ∧
  (((s1 k2 1) ≤ 0) →
  vX3_build_124 k0 k2 k3 P x1 s1) ∧
  ((¬ ((s1 k2 1) ≤ 0)) →
  0 ≤ ((s1 k2 1) - 1) ∧ ((s1 k2 1) - 1) < (zn (k2 + 1) : Int) ∧
  (vX4_add k3 (s1 (k2 + 1) (Int.toNat ((s1 k2 1) - 1))) (fun s5 =>
  vX3_build_124 k0 k2 k3 P x1 s5) s1))) ∧
  ((s1 (k0 + 7) (Int.toNat x1)) = 3 →
  vX4_lastVowel k2 (fun r6 s6 =>
  zR r6 ∧
  ((0 ≤ r6) →
  0 ≤ x1 ∧ x1 < (zn (k0 + 8) : Int) ∧
  (0 ≤ (s6 (k0 + 8) (Int.toNat x1)) ∧ (s6 (k0 + 8) (Int.toNat x1)) < 5 ∧
  (0 ≤ r6 ∧ r6 < (zn (k3 + 1) : Int) ∧ 0 ≤ (zvo (Int.toNat (s6 (k0 + 8) (Int.toNat x1)))) ∧ (zvo (Int.toNat (s6 (k0 + 8) (Int.toNat x1)))) ≤ 65535 ∧
  (∀ s7 : Sto, s7 = zu s6 (k3 + 1) (Int.toNat r6) (zvo (Int.toNat (s6 (k0 + 8) (Int.toNat x1)))) →
  (vX3_build_124 k0 k2 k3 P x1 s7))))) ∧
  ((¬ (0 ≤ r6)) →
  P 0 s6)) s1) ∧
  (((s1 (k0 + 7) (Int.toNat x1)) < 1 ∨ 3 < (s1 (k0 + 7) (Int.toNat x1))) →
  vX3_build_124 k0 k2 k3 P x1 s1))) σ
/-! InflectionGuesser$History.push(LInflectionGuesser$State;)V -/
def vX0_push_35 (k0 : Nat) (k1 : Nat) (P : Sto → Prop) (y0 : Int) (σ : Sto) : Prop :=
  ∀ s2 : Sto, s2 = zu σ k0 1 y0 →
  (zR ((s2 k0 2) + 1) ∧
  (∀ s3 : Sto, s3 = zu s2 k0 2 (if 10 < ((s2 k0 2) + 1) then 10 else ((s2 k0 2) + 1)) →
  (P s3)))
def vX0_push (k0 : Nat) (k1 : Nat) (P : Sto → Prop) (σ : Sto) : Prop :=
  0 ≤ (σ k0 1) ∧ (σ k0 1) < (zn (k0 + 1) : Int) ∧
  (vX3_copyFrom (k0 + 1 + 1 + 22 * Int.toNat (σ k0 1)) k1 (fun s1 =>
  zR ((s1 k0 1) + 1) ∧
  ((10 ≤ ((s1 k0 1) + 1)) →
  vX0_push_35 k0 k1 P 0 s1) ∧
  ((¬ (10 ≤ ((s1 k0 1) + 1))) →
  vX0_push_35 k0 k1 P ((s1 k0 1) + 1) s1)) σ)
/-! InflectionGuesser$History.pop(LInflectionGuesser$State;)V -/
def vX0_pop_19 (k0 : Nat) (k1 : Nat) (P : Sto → Prop) (y0 : Int) (σ : Sto) : Prop :=
  ∀ s1 : Sto, s1 = zu σ k0 1 y0 →
  (∀ s2 : Sto, s2 = zu s1 k0 2 ((s1 k0 2) - 1) →
  (0 ≤ (s2 k0 1) ∧ (s2 k0 1) < (zn (k0 + 1) : Int) ∧
  (vX3_copyFrom k1 (k0 + 1 + 1 + 22 * Int.toNat (s2 k0 1)) (fun s3 =>
  P s3) s2)))
def vX0_pop (k0 : Nat) (k1 : Nat) (P : Sto → Prop) (σ : Sto) : Prop :=
  zR (σ k0 1) ∧
  (((σ k0 1) ≤ 0) →
  vX0_pop_19 k0 k1 P 9 σ) ∧
  ((¬ ((σ k0 1) ≤ 0)) →
  vX0_pop_19 k0 k1 P ((σ k0 1) - 1) σ)
/-! InflectionGuesser$History.forget()V -/
def vX0_forget (k0 : Nat) (P : Sto → Prop) (σ : Sto) : Prop :=
  ∀ s1 : Sto, s1 = zu σ k0 2 0 →
  (P s1)
/-! java/lang/Integer.bitCount(I)I -/
def vJ6_bitCount_0f7a4 (x0 : Int) (P : Int → Sto → Prop) (σ : Sto) : Prop :=
  P (zand (((zand (((zand (x0 - (zand (zushr x0 1) 1431655765)) 858993459) + (zand (zushr (x0 - (zand (zushr x0 1) 1431655765)) 2) 858993459)) + (zushr ((zand (x0 - (zand (zushr x0 1) 1431655765)) 858993459) + (zand (zushr (x0 - (zand (zushr x0 1) 1431655765)) 2) 858993459)) 4)) 252645135) + (zushr (zand (((zand (x0 - (zand (zushr x0 1) 1431655765)) 858993459) + (zand (zushr (x0 - (zand (zushr x0 1) 1431655765)) 2) 858993459)) + (zushr ((zand (x0 - (zand (zushr x0 1) 1431655765)) 858993459) + (zand (zushr (x0 - (zand (zushr x0 1) 1431655765)) 2) 858993459)) 4)) 252645135) 8)) + (zushr ((zand (((zand (x0 - (zand (zushr x0 1) 1431655765)) 858993459) + (zand (zushr (x0 - (zand (zushr x0 1) 1431655765)) 2) 858993459)) + (zushr ((zand (x0 - (zand (zushr x0 1) 1431655765)) 858993459) + (zand (zushr (x0 - (zand (zushr x0 1) 1431655765)) 2) 858993459)) 4)) 252645135) + (zushr (zand (((zand (x0 - (zand (zushr x0 1) 1431655765)) 858993459) + (zand (zushr (x0 - (zand (zushr x0 1) 1431655765)) 2) 858993459)) + (zushr ((zand (x0 - (zand (zushr x0 1) 1431655765)) 858993459) + (zand (zushr (x0 - (zand (zushr x0 1) 1431655765)) 2) 858993459)) 4)) 252645135) 8)) 16)) 63) σ
/-! InflectionGuesser$Hypotheses.offer(LInflectionGuesser$State;I)V -/
def vX1_offer_22 (k0 : Nat) (k1 : Nat) (P : Sto → Prop) (σ : Sto) : Prop :=
  P σ
def vX1_offer_194 (k0 : Nat) (k1 : Nat) (P : Sto → Prop) (σ : Sto) : Prop :=
  P σ
def vX1_offer_132 (k0 : Nat) (k1 : Nat) (P : Sto → Prop) (K31 : Int → Int → Int → Int → Sto → Prop) (x2 x3 x4 x5 : Int) (σ : Sto) : Prop :=
  K31 x2 x3 x4 (x5 + 1) σ
def bX1_offer_31 (k0 : Nat) (k1 : Nat) (P : Sto → Prop) (K31 : Int → Int → Int → Int → Sto → Prop) (x2 x3 x4 x5 : Int) (σ : Sto) : Prop :=
  0 ≤ x2 ∧ x2 < (zn (k1 + 1) : Int) ∧
  (zR x5 ∧ zR (σ (k1 + 1) (Int.toNat x2)) ∧
  (((σ (k1 + 1) (Int.toNat x2)) ≤ x5) →
  vJ6_bitCount_0f7a4 x4 (fun r2 s2 =>
  zR r2 ∧
  ((r2 ≤ 0) →
  vX1_offer_194 k0 k1 P s2) ∧
  ((¬ (r2 ≤ 0)) →
  vX2_of x2 (k0 + 3) r2 (x3 - r2) (fun r3 s3 =>
  0 ≤ (s2 k0 2) ∧ (s2 k0 2) < (zn (k0 + 1) : Int) ∧
  (∀ s4 : Sto, s4 = zu s3 (k0 + 1) (Int.toNat (s2 k0 2)) r3 →
  (0 ≤ (s4 k0 2) ∧ (s4 k0 2) < (zn (k0 + 2) : Int) ∧
  (∀ s5 : Sto, s5 = zu s4 (k0 + 2) (Int.toNat (s4 k0 2)) x4 →
  (∀ s6 : Sto, s6 = zu s5 k0 2 ((s5 k0 2) + 1) →
  (vX1_offer_194 k0 k1 P s6)))))) s2)) σ) ∧
  ((¬ ((σ (k1 + 1) (Int.toNat x2)) ≤ x5)) →
  vX6_cellSlot x2 x5 (fun r7 s7 =>
  vX3_build k1 r7 (k0 + 3) (k0 + 5) (fun r8 s8 =>
  zR r8 ∧
  ((r8 = 0) →
  vX1_offer_132 k0 k1 P K31 x2 x3 x4 x5 s8) ∧
  ((¬ (r8 = 0)) →
  vX5_find (k0 + 7) (k0 + 5) x3 (fun r9 s9 =>
  zR r9 ∧
  ((0 ≤ r9) →
  vX1_offer_132 k0 k1 P K31 x2 x3 x4 x5 s9) ∧
  ((¬ (0 ≤ r9)) →
  vX5_put (k0 + 7) x3 (k0 + 5) 0 (s9 (k0 + 5) 1) (fun s10 =>
  vX5_find (k1 + 15) (k0 + 5) (s10 k1 9) (fun r11 s11 =>
  zR r11 ∧
  ((r11 < 0) →
  vX1_offer_132 k0 k1 P K31 x2 (x3 + 1) x4 x5 s11) ∧
  ((¬ (r11 < 0)) →
  vX1_offer_132 k0 k1 P K31 x2 (x3 + 1) (zor x4 (zishl 1 r11)) x5 s11)) s10) s9)) s8)) s7) σ))
def vX1_offer_31 (k0 : Nat) (k1 : Nat) (P : Sto → Prop) : Nat → Int → Int → Int → Int → Sto → Prop
  | 0 => fun _ _ _ _ _ => False
  | n + 1 => bX1_offer_31 k0 k1 P (vX1_offer_31 k0 k1 P n)
def vX1_offer (k0 : Nat) (k1 : Nat) (x2 : Int) (P : Sto → Prop) (σ : Sto) : Prop :=
  zR (σ k0 2) ∧
  ((2880 ≤ (σ k0 2)) →
  vX1_offer_22 k0 k1 P σ) ∧
  ((¬ (2880 ≤ (σ k0 2))) →
  vX3_allows k1 x2 (k0 + 3) (fun r1 s1 =>
  zR r1 ∧
  ((¬ r1 = 0) →
  ∃ n, vX1_offer_31 k0 k1 P n x2 0 0 0 s1) ∧
  ((r1 = 0) →
  vX1_offer_22 k0 k1 P s1)) σ)
/-! InflectionGuesser$Hypotheses.offerStems(LInflectionGuesser$State;III)V -/
def vX1_offerStems_229 (k0 : Nat) (k1 : Nat) (P : Sto → Prop) (σ : Sto) : Prop :=
  P σ
def bX1_offerStems_186 (k0 : Nat) (k1 : Nat) (P : Sto → Prop) (K186 : Int → Int → Int → Sto → Prop) (x2 x6 x7 : Int) (σ : Sto) : Prop :=
  zR x7 ∧
  ((5 ≤ x7) →
  vX1_offerStems_229 k0 k1 P σ) ∧
  ((¬ (5 ≤ x7)) →
  0 ≤ x7 ∧ x7 < 5 ∧
  (0 ≤ x6 ∧ x6 < (zn (k0 + 3 + 1) : Int) ∧ 0 ≤ (zvo (Int.toNat x7)) ∧ (zvo (Int.toNat x7)) ≤ 65535 ∧
  (∀ s12 : Sto, s12 = zu σ (k0 + 3 + 1) (Int.toNat x6) (zvo (Int.toNat x7)) →
  (vX1_offer k0 k1 x2 (fun s13 =>
  K186 x2 x6 (x7 + 1) s13) s12))))
def vX1_offerStems_186 (k0 : Nat) (k1 : Nat) (P : Sto → Prop) : Nat → Int → Int → Int → Sto → Prop
  | 0 => fun _ _ _ _ => False
  | n + 1 => bX1_offerStems_186 k0 k1 P (vX1_offerStems_186 k0 k1 P n)
def vX1_offerStems (k0 : Nat) (k1 : Nat) (x2 : Int) (x3 : Int) (x4 : Int) (P : Sto → Prop) (σ : Sto) : Prop :=
  vX6_cellSlot x2 x3 (fun r1 s1 =>
  vX4_clear (k0 + 3) (fun s2 =>
  vX5_addTo (k1 + 15) x4 (k0 + 3) (fun s3 =>
  vX5_isEndOf (k1 + 12) r1 (k0 + 3) (fun r4 s4 =>
  zR r4 ∧
  ((¬ r4 = 0) →
  0 ≤ r1 ∧ r1 < (zn (k1 + 12 + 1) : Int) ∧
  (vX4_dropLast (k0 + 3) (s4 (k1 + 12 + 1) (Int.toNat r1)) (fun s5 =>
  0 ≤ r1 ∧ r1 < (zn (k1 + 7) : Int) ∧
  (zR (s5 (k1 + 7) (Int.toNat r1)) ∧
  ((s5 (k1 + 7) (Int.toNat r1)) = 1 →
  vX5_addTo (k1 + 9) r1 (k0 + 3) (fun s6 =>
  vX1_offer k0 k1 x2 (fun s7 =>
  vX1_offerStems_229 k0 k1 P s7) s6) s5) ∧
  ((s5 (k1 + 7) (Int.toNat r1)) = 2 →
  vX4_endsInDouble (k0 + 3) (fun r8 s8 =>
  zR r8 ∧
  ((r8 = 0) →
  vX1_offerStems_229 k0 k1 P s8) ∧
  ((¬ (r8 = 0)) →
  vX4_dropLast (k0 + 3) 1 (fun s9 =>
  vX1_offer k0 k1 x2 (fun s10 =>
  vX1_offerStems_229 k0 k1 P s10) s9) s8)) s5) ∧
  ((s5 (k1 + 7) (Int.toNat r1)) = 3 →
  vX4_lastVowel (k0 + 3) (fun r11 s11 =>
  zR r11 ∧
  ((r11 < 0) →
  vX1_offerStems_229 k0 k1 P s11) ∧
  ((¬ (r11 < 0)) →
  0 ≤ r11 ∧ r11 < (zn (k0 + 3 + 1) : Int) ∧
  (0 ≤ r1 ∧ r1 < (zn (k1 + 8) : Int) ∧
  (0 ≤ (s11 (k1 + 8) (Int.toNat r1)) ∧ (s11 (k1 + 8) (Int.toNat r1)) < 5 ∧
  (zR (s11 (k0 + 3 + 1) (Int.toNat r11)) ∧ zR (zvo (Int.toNat (s11 (k1 + 8) (Int.toNat r1)))) ∧
  ((¬ (s11 (k0 + 3 + 1) (Int.toNat r11)) = (zvo (Int.toNat (s11 (k1 + 8) (Int.toNat r1))))) →
  vX1_offerStems_229 k0 k1 P s11) ∧
  (((s11 (k0 + 3 + 1) (Int.toNat r11)) = (zvo (Int.toNat (s11 (k1 + 8) (Int.toNat r1))))) →
  ∃ n, vX1_offerStems_186 k0 k1 P n x2 r11 0 s11)))))) s5) ∧
  (((s5 (k1 + 7) (Int.toNat r1)) < 1 ∨ 3 < (s5 (k1 + 7) (Int.toNat r1))) →
  vX1_offer k0 k1 x2 (fun s14 =>
  vX1_offerStems_229 k0 k1 P s14) s5))) s4)) ∧
  ((r4 = 0) →
  P s4)) s3) s2) s1) σ
/-! InflectionGuesser$Hypotheses.sort()V -/
def vX1_sort_100 (k0 : Nat) (P : Sto → Prop) (K7 : Int → Sto → Prop) (K13 : Int → Int → Sto → Prop) (x1 x2 x3 x5 x6 : Int) (σ : Sto) : Prop :=
  0 ≤ x6 ∧ x6 < (zn (k0 + 1) : Int) ∧
  (∀ s1 : Sto, s1 = zu σ (k0 + 1) (Int.toNat x6) x3 →
  (0 ≤ x6 ∧ x6 < (zn (k0 + 2) : Int) ∧
  (∀ s2 : Sto, s2 = zu s1 (k0 + 2) (Int.toNat x6) x5 →
  (K13 x1 (x2 + 1) s2))))
def bX1_sort_39 (k0 : Nat) (P : Sto → Prop) (K7 : Int → Sto → Prop) (K13 : Int → Int → Sto → Prop) (K39 : Int → Int → Int → Int → Int → Sto → Prop) (x1 x2 x3 x5 x6 : Int) (σ : Sto) : Prop :=
  zR x6 ∧ zR x1 ∧
  ((x6 < x1) →
  vX1_sort_100 k0 P K7 K13 x1 x2 x3 x5 x6 σ) ∧
  ((¬ (x6 < x1)) →
  0 ≤ (x6 - x1) ∧ (x6 - x1) < (zn (k0 + 1) : Int) ∧
  (zQ (σ (k0 + 1) (Int.toNat (x6 - x1))) ∧ zQ x3 ∧
  ((((zcmp (σ (k0 + 1) (Int.toNat (x6 - x1))) x3) ≤ 0) →
  vX1_sort_100 k0 P K7 K13 x1 x2 x3 x5 x6 σ) ∧
  ((¬ ((zcmp (σ (k0 + 1) (Int.toNat (x6 - x1))) x3) ≤ 0)) →
  0 ≤ (x6 - x1) ∧ (x6 - x1) < (zn (k0 + 1) : Int) ∧
  (0 ≤ x6 ∧ x6 < (zn (k0 + 1) : Int) ∧
  (∀ s3 : Sto, s3 = zu σ (k0 + 1) (Int.toNat x6) (σ (k0 + 1) (Int.toNat (x6 - x1))) →
  (0 ≤ (x6 - x1) ∧ (x6 - x1) < (zn (k0 + 2) : Int) ∧
  (0 ≤ x6 ∧ x6 < (zn (k0 + 2) : Int) ∧
  (∀ s4 : Sto, s4 = zu s3 (k0 + 2) (Int.toNat x6) (s3 (k0 + 2) (Int.toNat (x6 - x1))) →
  (K39 x1 x2 x3 x5 (x6 - x1) s4))))))))))
def vX1_sort_39 (k0 : Nat) (P : Sto → Prop) (K7 : Int → Sto → Prop) (K13 : Int → Int → Sto → Prop) : Nat → Int → Int → Int → Int → Int → Sto → Prop
  | 0 => fun _ _ _ _ _ _ => False
  | n + 1 => bX1_sort_39 k0 P K7 K13 (vX1_sort_39 k0 P K7 K13 n)
def bX1_sort_13 (k0 : Nat) (P : Sto → Prop) (K7 : Int → Sto → Prop) (K13 : Int → Int → Sto → Prop) (x1 x2 : Int) (σ : Sto) : Prop :=
  zR x2 ∧ zR (σ k0 2) ∧
  (((σ k0 2) ≤ x2) →
  zR x1 ∧
  (K7 (Int.tdiv x1 2) σ)) ∧
  ((¬ ((σ k0 2) ≤ x2)) →
  0 ≤ x2 ∧ x2 < (zn (k0 + 1) : Int) ∧
  (0 ≤ x2 ∧ x2 < (zn (k0 + 2) : Int) ∧
  (∃ n, vX1_sort_39 k0 P K7 K13 n x1 x2 (σ (k0 + 1) (Int.toNat x2)) (σ (k0 + 2) (Int.toNat x2)) x2 σ)))
def vX1_sort_13 (k0 : Nat) (P : Sto → Prop) (K7 : Int → Sto → Prop) : Nat → Int → Int → Sto → Prop
  | 0 => fun _ _ _ => False
  | n + 1 => bX1_sort_13 k0 P K7 (vX1_sort_13 k0 P K7 n)
def bX1_sort_7 (k0 : Nat) (P : Sto → Prop) (K7 : Int → Sto → Prop) (x1 : Int) (σ : Sto) : Prop :=
  zR x1 ∧
  ((x1 ≤ 0) →
  P σ) ∧
  ((¬ (x1 ≤ 0)) →
  ∃ n, vX1_sort_13 k0 P K7 n x1 x1 σ)
def vX1_sort_7 (k0 : Nat) (P : Sto → Prop) : Nat → Int → Sto → Prop
  | 0 => fun _ _ => False
  | n + 1 => bX1_sort_7 k0 P (vX1_sort_7 k0 P n)
def vX1_sort (k0 : Nat) (P : Sto → Prop) (σ : Sto) : Prop :=
  zR (σ k0 2) ∧
  (∃ n, vX1_sort_7 k0 P n (Int.tdiv (σ k0 2) 2) σ)
/-! InflectionGuesser$Hypotheses.dropRepeated()V -/
def vX1_dropRepeated_61 (k0 : Nat) (P : Sto → Prop) (K4 : Int → Int → Sto → Prop) (x1 x2 : Int) (σ : Sto) : Prop :=
  K4 x1 (x2 + 1) σ
def vX1_dropRepeated_34 (k0 : Nat) (P : Sto → Prop) (K4 : Int → Int → Sto → Prop) (x1 x2 : Int) (σ : Sto) : Prop :=
  0 ≤ x2 ∧ x2 < (zn (k0 + 1) : Int) ∧
  (0 ≤ x1 ∧ x1 < (zn (k0 + 1) : Int) ∧
  (∀ s2 : Sto, s2 = zu σ (k0 + 1) (Int.toNat x1) (σ (k0 + 1) (Int.toNat x2)) →
  (0 ≤ x2 ∧ x2 < (zn (k0 + 2) : Int) ∧
  (0 ≤ x1 ∧ x1 < (zn (k0 + 2) : Int) ∧
  (∀ s3 : Sto, s3 = zu s2 (k0 + 2) (Int.toNat x1) (s2 (k0 + 2) (Int.toNat x2)) →
  (vX1_dropRepeated_61 k0 P K4 (x1 + 1) x2 s3))))))
def bX1_dropRepeated_4 (k0 : Nat) (P : Sto → Prop) (K4 : Int → Int → Sto → Prop) (x1 x2 : Int) (σ : Sto) : Prop :=
  zR x2 ∧ zR (σ k0 2) ∧
  (((σ k0 2) ≤ x2) →
  ∀ s1 : Sto, s1 = zu σ k0 2 x1 →
  (P s1)) ∧
  ((¬ ((σ k0 2) ≤ x2)) →
  zR x1 ∧
  ((x1 = 0) →
  vX1_dropRepeated_34 k0 P K4 x1 x2 σ) ∧
  ((¬ (x1 = 0)) →
  0 ≤ x2 ∧ x2 < (zn (k0 + 1) : Int) ∧
  (0 ≤ (x1 - 1) ∧ (x1 - 1) < (zn (k0 + 1) : Int) ∧
  (zQ (σ (k0 + 1) (Int.toNat x2)) ∧ zQ (σ (k0 + 1) (Int.toNat (x1 - 1))) ∧
  ((((zcmp (σ (k0 + 1) (Int.toNat x2)) (σ (k0 + 1) (Int.toNat (x1 - 1)))) = 0) →
  vX1_dropRepeated_61 k0 P K4 x1 x2 σ) ∧
  ((¬ ((zcmp (σ (k0 + 1) (Int.toNat x2)) (σ (k0 + 1) (Int.toNat (x1 - 1)))) = 0)) →
  vX1_dropRepeated_34 k0 P K4 x1 x2 σ))))))
def vX1_dropRepeated_4 (k0 : Nat) (P : Sto → Prop) : Nat → Int → Int → Sto → Prop
  | 0 => fun _ _ _ => False
  | n + 1 => bX1_dropRepeated_4 k0 P (vX1_dropRepeated_4 k0 P n)
def vX1_dropRepeated (k0 : Nat) (P : Sto → Prop) (σ : Sto) : Prop :=
  ∃ n, vX1_dropRepeated_4 k0 P n 0 0 σ
/-! InflectionGuesser$Hypotheses.refresh(LInflectionGuesser$State;)V -/
def bX1_refresh_43 (k0 : Nat) (k1 : Nat) (P : Sto → Prop) (K20 : Int → Sto → Prop) (K30 : Int → Int → Sto → Prop) (K43 : Int → Int → Int → Sto → Prop) (x2 x3 x4 : Int) (σ : Sto) : Prop :=
  zR x4 ∧ zR (σ k1 9) ∧
  (((σ k1 9) ≤ x4) →
  K30 x2 (x3 + 1) σ) ∧
  ((¬ ((σ k1 9) ≤ x4)) →
  vX1_offerStems k0 k1 x2 x3 x4 (fun s5 =>
  K43 x2 x3 (x4 + 1) s5) σ)
def vX1_refresh_43 (k0 : Nat) (k1 : Nat) (P : Sto → Prop) (K20 : Int → Sto → Prop) (K30 : Int → Int → Sto → Prop) : Nat → Int → Int → Int → Sto → Prop
  | 0 => fun _ _ _ _ => False
  | n + 1 => bX1_refresh_43 k0 k1 P K20 K30 (vX1_refresh_43 k0 k1 P K20 K30 n)
def bX1_refresh_30 (k0 : Nat) (k1 : Nat) (P : Sto → Prop) (K20 : Int → Sto → Prop) (K30 : Int → Int → Sto → Prop) (x2 x3 : Int) (σ : Sto) : Prop :=
  0 ≤ x2 ∧ x2 < (zn (k1 + 1) : Int) ∧
  (zR x3 ∧ zR (σ (k1 + 1) (Int.toNat x2)) ∧
  (((σ (k1 + 1) (Int.toNat x2)) ≤ x3) →
  K20 (x2 + 1) σ) ∧
  ((¬ ((σ (k1 + 1) (Int.toNat x2)) ≤ x3)) →
  ∃ n, vX1_refresh_43 k0 k1 P K20 K30 n x2 x3 0 σ))
def vX1_refresh_30 (k0 : Nat) (k1 : Nat) (P : Sto → Prop) (K20 : Int → Sto → Prop) : Nat → Int → Int → Sto → Prop
  | 0 => fun _ _ _ => False
  | n + 1 => bX1_refresh_30 k0 k1 P K20 (vX1_refresh_30 k0 k1 P K20 n)
def bX1_refresh_20 (k0 : Nat) (k1 : Nat) (P : Sto → Prop) (K20 : Int → Sto → Prop) (x2 : Int) (σ : Sto) : Prop :=
  zR x2 ∧ zR (σ k1 0) ∧
  (((σ k1 0) ≤ x2) →
  vX1_sort k0 (fun s3 =>
  vX1_dropRepeated k0 (fun s4 =>
  P s4) s3) σ) ∧
  ((¬ ((σ k1 0) ≤ x2)) →
  ∃ n, vX1_refresh_30 k0 k1 P K20 n x2 0 σ)
def vX1_refresh_20 (k0 : Nat) (k1 : Nat) (P : Sto → Prop) : Nat → Int → Sto → Prop
  | 0 => fun _ _ => False
  | n + 1 => bX1_refresh_20 k0 k1 P (vX1_refresh_20 k0 k1 P n)
def vX1_refresh (k0 : Nat) (k1 : Nat) (P : Sto → Prop) (σ : Sto) : Prop :=
  zR (σ k0 3) ∧
  ((¬ (σ k0 3) = 0) →
  ∀ s1 : Sto, s1 = zu σ k0 3 0 →
  (∀ s2 : Sto, s2 = zu s1 k0 2 0 →
  (∃ n, vX1_refresh_20 k0 k1 P n 0 s2))) ∧
  (((σ k0 3) = 0) →
  P σ)
/-! InflectionGuesser.clearInput()I -/
def vX6_clearInput (k0 : Nat) (P : Int → Sto → Prop) (σ : Sto) : Prop :=
  vX4_clear (k0 + 1) (fun s1 =>
  P (σ (k0 + 1) 1) s1) σ
/-! InflectionGuesser.paradigmCount()I -/
def vX6_paradigmCount (k0 : Nat) (P : Int → Sto → Prop) (σ : Sto) : Prop :=
  P (σ (k0 + 3) 0) σ
/-! InflectionGuesser.isCellParameter(II)Z -/
def vX6_isCellParameter_41 (k0 : Nat) (P : Int → Sto → Prop) (y0 : Int) (σ : Sto) : Prop :=
  (y0 = 0 ∨ y0 = 1) ∧ P y0 σ
def vX6_isCellParameter_62 (k0 : Nat) (P : Int → Sto → Prop) (y0 : Int) (σ : Sto) : Prop :=
  (y0 = 0 ∨ y0 = 1) ∧ P y0 σ
def vX6_isCellParameter_61 (k0 : Nat) (P : Int → Sto → Prop) (σ : Sto) : Prop :=
  vX6_isCellParameter_62 k0 P 0 σ
def vX6_isCellParameter_77 (k0 : Nat) (P : Int → Sto → Prop) (y0 : Int) (σ : Sto) : Prop :=
  (y0 = 0 ∨ y0 = 1) ∧ P y0 σ
def vX6_isCellParameter_76 (k0 : Nat) (P : Int → Sto → Prop) (σ : Sto) : Prop :=
  vX6_isCellParameter_77 k0 P 0 σ
def vX6_isCellParameter (k0 : Nat) (x1 : Int) (x2 : Int) (P : Int → Sto → Prop) (σ : Sto) : Prop :=
  zR x1 ∧
  (x1 = 0 →
  zR x2 ∧
  ((¬ x2 = 0) →
  vX6_isCellParameter_41 k0 P 0 σ) ∧
  ((x2 = 0) →
  vX6_isCellParameter_41 k0 P 1 σ)) ∧
  (x1 = 1 →
  zR x2 ∧
  ((x2 < 0) →
  vX6_isCellParameter_61 k0 P σ) ∧
  ((¬ (x2 < 0)) →
  zR x2 ∧ zR (σ (k0 + 1) 1) ∧
  (((σ (k0 + 1) 1) < x2) →
  vX6_isCellParameter_61 k0 P σ) ∧
  ((¬ ((σ (k0 + 1) 1) < x2)) →
  vX6_isCellParameter_62 k0 P 1 σ))) ∧
  (x1 = 2 →
  zR x2 ∧
  ((¬ x2 = 0) →
  vX6_isCellParameter_41 k0 P 0 σ) ∧
  ((x2 = 0) →
  vX6_isCellParameter_41 k0 P 1 σ)) ∧
  (x1 = 3 →
  zR x2 ∧
  ((x2 < 0) →
  vX6_isCellParameter_76 k0 P σ) ∧
  ((¬ (x2 < 0)) →
  zR x2 ∧
  ((5 ≤ x2) →
  vX6_isCellParameter_76 k0 P σ) ∧
  ((¬ (5 ≤ x2)) →
  vX6_isCellParameter_77 k0 P 1 σ))) ∧
  ((x1 < 0 ∨ 3 < x1) →
  P 0 σ)
/-! InflectionGuesser.isConditionParameter(II)Z -/
def vX6_isConditionParameter_9 (P : Int → Sto → Prop) (σ : Sto) : Prop :=
  P 0 σ
def vX6_isConditionParameter_42 (P : Int → Sto → Prop) (y0 : Int) (σ : Sto) : Prop :=
  (y0 = 0 ∨ y0 = 1) ∧ P y0 σ
def vX6_isConditionParameter_32 (P : Int → Sto → Prop) (y0 : Int) (σ : Sto) : Prop :=
  (y0 = 0 ∨ y0 = 1) ∧ P y0 σ
def vX6_isConditionParameter_31 (P : Int → Sto → Prop) (σ : Sto) : Prop :=
  vX6_isConditionParameter_32 P 0 σ
def vX6_isConditionParameter (x0 : Int) (x1 : Int) (P : Int → Sto → Prop) (σ : Sto) : Prop :=
  zR x0 ∧
  ((x0 < 0) →
  vX6_isConditionParameter_9 P σ) ∧
  ((¬ (x0 < 0)) →
  zR x0 ∧
  ((x0 ≤ 4) →
  zR x0 ∧
  ((¬ x0 = 3) →
  zR x1 ∧
  ((¬ x1 = 0) →
  vX6_isConditionParameter_42 P 0 σ) ∧
  ((x1 = 0) →
  vX6_isConditionParameter_42 P 1 σ)) ∧
  ((x0 = 3) →
  zR x1 ∧
  ((x1 < 2) →
  vX6_isConditionParameter_31 P σ) ∧
  ((¬ (x1 < 2)) →
  zR x1 ∧
  ((10 < x1) →
  vX6_isConditionParameter_31 P σ) ∧
  ((¬ (10 < x1)) →
  vX6_isConditionParameter_32 P 1 σ)))) ∧
  ((¬ (x0 ≤ 4)) →
  vX6_isConditionParameter_9 P σ))
/-! InflectionGuesser.wordCount()I -/
def vX6_wordCount (k0 : Nat) (P : Int → Sto → Prop) (σ : Sto) : Prop :=
  P (σ (k0 + 3) 9) σ
/-! InflectionGuesser.hypothesisCount()I -/
def vX6_hypothesisCount (k0 : Nat) (P : Int → Sto → Prop) (σ : Sto) : Prop :=
  vX1_refresh (k0 + 269) (k0 + 3) (fun s1 =>
  P (s1 (k0 + 269) 2) s1) σ
/-! InflectionGuesser.buildLexemeForm(II)Z -/
def vX6_buildLexemeForm (k0 : Nat) (x1 : Int) (x2 : Int) (P : Int → Sto → Prop) (σ : Sto) : Prop :=
  vX3_hasException (k0 + 3) x1 x2 (fun r1 s1 =>
  zR r1 ∧
  ((r1 = 0) →
  0 ≤ x1 ∧ x1 < (zn (k0 + 3 + 18) : Int) ∧
  (vX2_unpackStem (s1 (k0 + 3 + 18) (Int.toNat x1)) (k0 + 279) (fun s2 =>
  vX2_paradigm (s1 (k0 + 3 + 18) (Int.toNat x1)) (fun r3 s3 =>
  vX6_cellSlot r3 x2 (fun r4 s4 =>
  vX3_build (k0 + 3) r4 (k0 + 279) (k0 + 281) (fun r5 s5 =>
  (r5 = 0 ∨ r5 = 1) ∧ P r5 s5) s4) s3) s2) s1)) ∧
  ((¬ (r1 = 0)) →
  vX4_clear (k0 + 281) (fun s6 =>
  vX6_cellSlot x1 x2 (fun r7 s7 =>
  vX5_addTo (k0 + 3 + 19) r7 (k0 + 281) (fun s8 =>
  P 1 s8) s7) s6) s1)) σ
/-! InflectionGuesser.attestedForms(I)I -/
def vX6_attestedForms_77 (k0 : Nat) (P : Int → Sto → Prop) (K26 : Int → Int → Int → Int → Sto → Prop) (x1 x2 x3 x4 : Int) (σ : Sto) : Prop :=
  K26 x1 x2 x3 (x4 + 1) σ
def bX6_attestedForms_26 (k0 : Nat) (P : Int → Sto → Prop) (K26 : Int → Int → Int → Int → Sto → Prop) (x1 x2 x3 x4 : Int) (σ : Sto) : Prop :=
  zR x4 ∧ zR x2 ∧
  ((x2 ≤ x4) →
  P x3 σ) ∧
  ((¬ (x2 ≤ x4)) →
  vX6_buildLexemeForm k0 x1 x4 (fun r2 s2 =>
  zR r2 ∧
  ((r2 = 0) →
  vX6_attestedForms_77 k0 P K26 x1 x2 x3 x4 s2) ∧
  ((¬ (r2 = 0)) →
  vX5_find (k0 + 3 + 15) (k0 + 281) (s2 (k0 + 3) 9) (fun r3 s3 =>
  zR r3 ∧
  ((r3 < 0) →
  vX6_attestedForms_77 k0 P K26 x1 x2 x3 x4 s3) ∧
  ((¬ (r3 < 0)) →
  vX6_attestedForms_77 k0 P K26 x1 x2 (zor x3 (zishl 1 r3)) x4 s3)) s2)) σ)
def vX6_attestedForms_26 (k0 : Nat) (P : Int → Sto → Prop) : Nat → Int → Int → Int → Int → Sto → Prop
  | 0 => fun _ _ _ _ _ => False
  | n + 1 => bX6_attestedForms_26 k0 P (vX6_attestedForms_26 k0 P n)
def vX6_attestedForms (k0 : Nat) (x1 : Int) (P : Int → Sto → Prop) (σ : Sto) : Prop :=
  0 ≤ x1 ∧ x1 < (zn (k0 + 3 + 18) : Int) ∧
  (vX2_paradigm (σ (k0 + 3 + 18) (Int.toNat x1)) (fun r1 s1 =>
  0 ≤ r1 ∧ r1 < (zn (k0 + 3 + 1) : Int) ∧
  (∃ n, vX6_attestedForms_26 k0 P n x1 (s1 (k0 + 3 + 1) (Int.toNat r1)) 0 0 s1)) σ)
/-! InflectionGuesser.coveredWords()I -/
def bX6_coveredWords_4 (k0 : Nat) (P : Int → Sto → Prop) (K4 : Int → Int → Sto → Prop) (x1 x2 : Int) (σ : Sto) : Prop :=
  zR x2 ∧ zR (σ (k0 + 3) 11) ∧
  (((σ (k0 + 3) 11) ≤ x2) →
  P x1 σ) ∧
  ((¬ ((σ (k0 + 3) 11) ≤ x2)) →
  vX6_attestedForms k0 x2 (fun r1 s1 =>
  K4 (zor x1 r1) (x2 + 1) s1) σ)
def vX6_coveredWords_4 (k0 : Nat) (P : Int → Sto → Prop) : Nat → Int → Int → Sto → Prop
  | 0 => fun _ _ _ => False
  | n + 1 => bX6_coveredWords_4 k0 P (vX6_coveredWords_4 k0 P n)
def vX6_coveredWords (k0 : Nat) (P : Int → Sto → Prop) (σ : Sto) : Prop :=
  ∃ n, vX6_coveredWords_4 k0 P n 0 0 σ
/-! InflectionGuesser.bestFor(I)I -/
def vX6_bestFor_71 (k0 : Nat) (P : Int → Sto → Prop) (K7 : Int → Int → Int → Int → Sto → Prop) (x1 x2 x3 x4 : Int) (σ : Sto) : Prop :=
  K7 x1 x2 x3 (x4 + 1) σ
def bX6_bestFor_7 (k0 : Nat) (P : Int → Sto → Prop) (K7 : Int → Int → Int → Int → Sto → Prop) (x1 x2 x3 x4 : Int) (σ : Sto) : Prop :=
  zR x4 ∧ zR (σ (k0 + 269) 2) ∧
  (((σ (k0 + 269) 2) ≤ x4) →
  P x2 σ) ∧
  ((¬ ((σ (k0 + 269) 2) ≤ x4)) →
  0 ≤ x4 ∧ x4 < (zn (k0 + 269 + 2) : Int) ∧
  (vJ6_bitCount_0f7a4 (zand (σ (k0 + 269 + 2) (Int.toNat x4)) x1) (fun r1 s1 =>
  zR r1 ∧ zR x3 ∧
  ((r1 ≤ x3) →
  vX6_bestFor_71 k0 P K7 x1 x2 x3 x4 s1) ∧
  ((¬ (r1 ≤ x3)) →
  0 ≤ x4 ∧ x4 < (zn (k0 + 269 + 1) : Int) ∧
  (vX2_pair (s1 (k0 + 269 + 1) (Int.toNat x4)) (fun r2 s2 =>
  vX3_hasLexeme (k0 + 3) r2 (fun r3 s3 =>
  zR r3 ∧
  ((¬ r3 = 0) →
  vX6_bestFor_71 k0 P K7 x1 x2 x3 x4 s3) ∧
  ((r3 = 0) →
  vX6_bestFor_71 k0 P K7 x1 x4 r1 x4 s3)) s2) s1))) σ))
def vX6_bestFor_7 (k0 : Nat) (P : Int → Sto → Prop) : Nat → Int → Int → Int → Int → Sto → Prop
  | 0 => fun _ _ _ _ _ => False
  | n + 1 => bX6_bestFor_7 k0 P (vX6_bestFor_7 k0 P n)
def vX6_bestFor (k0 : Nat) (x1 : Int) (P : Int → Sto → Prop) (σ : Sto) : Prop :=
  ∃ n, vX6_bestFor_7 k0 P n x1 (-1) 0 0 σ
/-! InflectionGuesser.cover()I -/
def vX6_cover_106 (k0 : Nat) (P : Int → Sto → Prop) (x2 : Int) (σ : Sto) : Prop :=
  P x2 σ
def bX6_cover_42 (k0 : Nat) (P : Int → Sto → Prop) (K42 : Int → Int → Int → Sto → Prop) (x1 x2 x3 : Int) (σ : Sto) : Prop :=
  zR x3 ∧
  ((x3 ≤ 0) →
  vX6_cover_106 k0 P x2 σ) ∧
  ((¬ (x3 ≤ 0)) →
  vX6_bestFor k0 x1 (fun r4 s4 =>
  zR r4 ∧
  ((0 ≤ r4) →
  0 ≤ r4 ∧ r4 < (zn (k0 + 269 + 1) : Int) ∧
  (vX2_pair (s4 (k0 + 269 + 1) (Int.toNat r4)) (fun r5 s5 =>
  vX3_newLexeme (k0 + 3) r5 (fun r6 s6 =>
  0 ≤ r4 ∧ r4 < (zn (k0 + 269 + 2) : Int) ∧
  (K42 (zand x1 (zxor (s6 (k0 + 269 + 2) (Int.toNat r4)) (-1))) (x2 + 1) (x3 + (-1)) s6)) s5) s4)) ∧
  ((¬ (0 ≤ r4)) →
  vX6_cover_106 k0 P x2 s4)) σ)
def vX6_cover_42 (k0 : Nat) (P : Int → Sto → Prop) : Nat → Int → Int → Int → Sto → Prop
  | 0 => fun _ _ _ _ => False
  | n + 1 => bX6_cover_42 k0 P (vX6_cover_42 k0 P n)
def vX6_cover (k0 : Nat) (P : Int → Sto → Prop) (σ : Sto) : Prop :=
  vX0_push (k0 + 47) (k0 + 3) (fun s1 =>
  vX1_refresh (k0 + 269) (k0 + 3) (fun s2 =>
  vX6_coveredWords k0 (fun r3 s3 =>
  ∃ n, vX6_cover_42 k0 P n (zxor r3 (-1)) 0 (10 - (s3 (k0 + 3) 11)) s3) s2) s1) σ
/-! InflectionGuesser.lexemeCount()I -/
def vX6_lexemeCount (k0 : Nat) (P : Int → Sto → Prop) (σ : Sto) : Prop :=
  P (σ (k0 + 3) 11) σ
/-! InflectionGuesser.uncovered()I -/
def vX6_uncovered (k0 : Nat) (P : Int → Sto → Prop) (σ : Sto) : Prop :=
  vX6_coveredWords k0 (fun r1 s1 =>
  vJ6_bitCount_0f7a4 r1 (fun r2 s2 =>
  P ((σ (k0 + 3) 9) - r2) s2) s1) σ
/-! InflectionGuesser.lacksForm(II)Z -/
def vX6_lacksForm_38 (k0 : Nat) (P : Int → Sto → Prop) (y0 : Int) (σ : Sto) : Prop :=
  (y0 = 0 ∨ y0 = 1) ∧ P y0 σ
def vX6_lacksForm_37 (k0 : Nat) (P : Int → Sto → Prop) (σ : Sto) : Prop :=
  vX6_lacksForm_38 k0 P 0 σ
def vX6_lacksForm (k0 : Nat) (x1 : Int) (x2 : Int) (P : Int → Sto → Prop) (σ : Sto) : Prop :=
  vX6_buildLexemeForm k0 x1 x2 (fun r1 s1 =>
  zR r1 ∧
  ((r1 = 0) →
  vX6_lacksForm_37 k0 P s1) ∧
  ((¬ (r1 = 0)) →
  vX5_find (k0 + 3 + 15) (k0 + 281) (s1 (k0 + 3) 9) (fun r2 s2 =>
  zR r2 ∧
  ((0 ≤ r2) →
  vX6_lacksForm_37 k0 P s2) ∧
  ((¬ (0 ≤ r2)) →
  vX6_lacksForm_38 k0 P 1 s2)) s1)) σ
/-! InflectionGuesser.save()I -/
def vX6_save (k0 : Nat) (P : Int → Sto → Prop) (σ : Sto) : Prop :=
  vX3_copyFrom (k0 + 25) (k0 + 3) (fun s1 =>
  ∀ s2 : Sto, s2 = zu s1 k0 3 1 →
  (P (s2 (k0 + 3) 11) s2)) σ
/-! InflectionGuesser.hasBit(II)Z -/
def vX6_hasBit_14 (P : Int → Sto → Prop) (y0 : Int) (σ : Sto) : Prop :=
  (y0 = 0 ∨ y0 = 1) ∧ P y0 σ
def vX6_hasBit (x0 : Int) (x1 : Int) (P : Int → Sto → Prop) (σ : Sto) : Prop :=
  zR (zand (zishr x0 x1) 1) ∧
  ((¬ (zand (zishr x0 x1) 1) = 1) →
  vX6_hasBit_14 P 0 σ) ∧
  (((zand (zishr x0 x1) 1) = 1) →
  vX6_hasBit_14 P 1 σ)
/-! InflectionGuesser.append(C)I -/
def vX6_append_12 (k0 : Nat) (P : Int → Sto → Prop) (X : Nat → Sto → Prop) (σ : Sto) : Prop :=
  X 1 σ
def vX6_append (k0 : Nat) (x1 : Int) (P : Int → Sto → Prop) (X : Nat → Sto → Prop) (σ : Sto) : Prop :=
  zR x1 ∧
  ((x1 < 97) →
  vX6_append_12 k0 P X σ) ∧
  ((¬ (x1 < 97)) →
  zR x1 ∧
  ((x1 ≤ 122) →
  zR (σ (k0 + 1) 1) ∧
  (((σ (k0 + 1) 1) < 14) →
  vX4_add (k0 + 1) x1 (fun s1 =>
  P (s1 (k0 + 1) 1) s1) σ) ∧
  ((¬ ((σ (k0 + 1) 1) < 14)) →
  X 2 σ)) ∧
  ((¬ (x1 ≤ 122)) →
  vX6_append_12 k0 P X σ))
/-! InflectionGuesser.inputLetter(I)C -/
def vX6_inputLetter_15 (k0 : Nat) (P : Int → Sto → Prop) (X : Nat → Sto → Prop) (σ : Sto) : Prop :=
  X 0 σ
def vX6_inputLetter (k0 : Nat) (x1 : Int) (P : Int → Sto → Prop) (X : Nat → Sto → Prop) (σ : Sto) : Prop :=
  zR x1 ∧
  ((x1 < 0) →
  vX6_inputLetter_15 k0 P X σ) ∧
  ((¬ (x1 < 0)) →
  zR x1 ∧ zR (σ (k0 + 1) 1) ∧
  ((x1 < (σ (k0 + 1) 1)) →
  0 ≤ x1 ∧ x1 < (zn (k0 + 1 + 1) : Int) ∧
  (0 ≤ (σ (k0 + 1 + 1) (Int.toNat x1)) ∧ (σ (k0 + 1 + 1) (Int.toNat x1)) ≤ 65535 ∧ P (σ (k0 + 1 + 1) (Int.toNat x1)) σ)) ∧
  ((¬ (x1 < (σ (k0 + 1) 1))) →
  vX6_inputLetter_15 k0 P X σ))
/-! InflectionGuesser.addParadigm()I -/
def vX6_addParadigm (k0 : Nat) (P : Int → Sto → Prop) (X : Nat → Sto → Prop) (σ : Sto) : Prop :=
  zR (σ (k0 + 3) 0) ∧
  (((σ (k0 + 3) 0) < 6) →
  vX0_push (k0 + 47) (k0 + 3) (fun s1 =>
  ∀ s2 : Sto, s2 = zu s1 (k0 + 269) 3 1 →
  (vX3_newParadigm (k0 + 3) (fun r3 s3 =>
  P r3 s3) s2)) σ) ∧
  ((¬ ((σ (k0 + 3) 0) < 6)) →
  X 2 σ)
/-! InflectionGuesser.checkParadigm(I)V -/
def vX6_checkParadigm_15 (k0 : Nat) (P : Sto → Prop) (X : Nat → Sto → Prop) (σ : Sto) : Prop :=
  X 0 σ
def vX6_checkParadigm (k0 : Nat) (x1 : Int) (P : Sto → Prop) (X : Nat → Sto → Prop) (σ : Sto) : Prop :=
  zR x1 ∧
  ((x1 < 0) →
  vX6_checkParadigm_15 k0 P X σ) ∧
  ((¬ (x1 < 0)) →
  zR x1 ∧ zR (σ (k0 + 3) 0) ∧
  ((x1 < (σ (k0 + 3) 0)) →
  P σ) ∧
  ((¬ (x1 < (σ (k0 + 3) 0))) →
  vX6_checkParadigm_15 k0 P X σ))
/-! InflectionGuesser.addCell(III)I -/
def vX6_addCell_56 (k0 : Nat) (P : Int → Sto → Prop) (X : Nat → Sto → Prop) (σ : Sto) : Prop :=
  X 1 σ
def vX6_addCell_34 (k0 : Nat) (P : Int → Sto → Prop) (X : Nat → Sto → Prop) (x1 x2 x3 y0 : Int) (σ : Sto) : Prop :=
  zR y0 ∧
  ((4 < y0) →
  vX6_addCell_56 k0 P X σ) ∧
  ((¬ (4 < y0)) →
  zR ((σ (k0 + 1) 1) - y0) ∧
  ((((σ (k0 + 1) 1) - y0) ≤ 4) →
  0 ≤ x1 ∧ x1 < (zn (k0 + 3 + 1) : Int) ∧
  (zR (σ (k0 + 3 + 1) (Int.toNat x1)) ∧
  (((σ (k0 + 3 + 1) (Int.toNat x1)) < 6) →
  vX0_push (k0 + 47) (k0 + 3) (fun s3 =>
  ∀ s4 : Sto, s4 = zu s3 (k0 + 269) 3 1 →
  (vX3_newCell (k0 + 3) x1 x2 x3 (fun r5 s5 =>
  vX6_cellSlot x1 r5 (fun r6 s6 =>
  vX5_put (k0 + 3 + 9) r6 (k0 + 1) 0 y0 (fun s7 =>
  vX5_put (k0 + 3 + 12) r6 (k0 + 1) y0 (s7 (k0 + 1) 1) (fun s8 =>
  vX4_clear (k0 + 1) (fun s9 =>
  P r5 s9) s8) s7) s6) s5) s4)) σ) ∧
  ((¬ ((σ (k0 + 3 + 1) (Int.toNat x1)) < 6)) →
  X 2 σ))) ∧
  ((¬ (((σ (k0 + 1) 1) - y0) ≤ 4)) →
  vX6_addCell_56 k0 P X σ))
def vX6_addCell (k0 : Nat) (x1 : Int) (x2 : Int) (x3 : Int) (P : Int → Sto → Prop) (X : Nat → Sto → Prop) (σ : Sto) : Prop :=
  vX6_checkParadigm k0 x1 (fun s1 =>
  vX6_isCellParameter k0 x2 x3 (fun r2 s2 =>
  zR r2 ∧
  ((¬ r2 = 0) →
  zR x2 ∧
  ((¬ x2 = 1) →
  vX6_addCell_34 k0 P X x1 x2 x3 0 s2) ∧
  ((x2 = 1) →
  vX6_addCell_34 k0 P X x1 x2 x3 x3 s2)) ∧
  ((r2 = 0) →
  X 1 s2)) s1) X σ
/-! InflectionGuesser.removeLastCell(I)I -/
def vX6_removeLastCell (k0 : Nat) (x1 : Int) (P : Int → Sto → Prop) (X : Nat → Sto → Prop) (σ : Sto) : Prop :=
  vX6_checkParadigm k0 x1 (fun s1 =>
  0 ≤ x1 ∧ x1 < (zn (k0 + 3 + 1) : Int) ∧
  (zR (s1 (k0 + 3 + 1) (Int.toNat x1)) ∧
  ((¬ (s1 (k0 + 3 + 1) (Int.toNat x1)) = 0) →
  vX0_push (k0 + 47) (k0 + 3) (fun s2 =>
  ∀ s3 : Sto, s3 = zu s2 (k0 + 269) 3 1 →
  (0 ≤ x1 ∧ x1 < (zn (k0 + 3 + 1) : Int) ∧
  (0 ≤ x1 ∧ x1 < (zn (k0 + 3 + 1) : Int) ∧
  (∀ s4 : Sto, s4 = zu s3 (k0 + 3 + 1) (Int.toNat x1) ((s3 (k0 + 3 + 1) (Int.toNat x1)) - 1) →
  (0 ≤ x1 ∧ x1 < (zn (k0 + 3 + 1) : Int) ∧
  (P (s4 (k0 + 3 + 1) (Int.toNat x1)) s4)))))) s1) ∧
  (((s1 (k0 + 3 + 1) (Int.toNat x1)) = 0) →
  X 3 s1))) X σ
/-! InflectionGuesser.cellCount(I)I -/
def vX6_cellCount (k0 : Nat) (x1 : Int) (P : Int → Sto → Prop) (X : Nat → Sto → Prop) (σ : Sto) : Prop :=
  vX6_checkParadigm k0 x1 (fun s1 =>
  0 ≤ x1 ∧ x1 < (zn (k0 + 3 + 1) : Int) ∧
  (P (s1 (k0 + 3 + 1) (Int.toNat x1)) s1)) X σ
/-! InflectionGuesser.checkCell(II)V -/
def vX6_checkCell_22 (k0 : Nat) (P : Sto → Prop) (X : Nat → Sto → Prop) (σ : Sto) : Prop :=
  X 0 σ
def vX6_checkCell (k0 : Nat) (x1 : Int) (x2 : Int) (P : Sto → Prop) (X : Nat → Sto → Prop) (σ : Sto) : Prop :=
  vX6_checkParadigm k0 x1 (fun s1 =>
  zR x2 ∧
  ((x2 < 0) →
  vX6_checkCell_22 k0 P X s1) ∧
  ((¬ (x2 < 0)) →
  0 ≤ x1 ∧ x1 < (zn (k0 + 3 + 1) : Int) ∧
  (zR x2 ∧ zR (s1 (k0 + 3 + 1) (Int.toNat x1)) ∧
  ((x2 < (s1 (k0 + 3 + 1) (Int.toNat x1))) →
  P s1) ∧
  ((¬ (x2 < (s1 (k0 + 3 + 1) (Int.toNat x1)))) →
  vX6_checkCell_22 k0 P X s1)))) X σ
/-! InflectionGuesser.cell(III)I -/
def vX6_cell (k0 : Nat) (x1 : Int) (x2 : Int) (x3 : Int) (P : Int → Sto → Prop) (X : Nat → Sto → Prop) (σ : Sto) : Prop :=
  vX6_checkCell k0 x1 x2 (fun s1 =>
  vX6_cellSlot x1 x2 (fun r2 s2 =>
  zR x3 ∧
  (x3 = 0 →
  0 ≤ r2 ∧ r2 < (zn (k0 + 3 + 7) : Int) ∧
  (P (s2 (k0 + 3 + 7) (Int.toNat r2)) s2)) ∧
  (x3 = 1 →
  0 ≤ r2 ∧ r2 < (zn (k0 + 3 + 8) : Int) ∧
  (P (s2 (k0 + 3 + 8) (Int.toNat r2)) s2)) ∧
  (x3 = 2 →
  0 ≤ r2 ∧ r2 < (zn (k0 + 3 + 12 + 1) : Int) ∧
  (P (s2 (k0 + 3 + 12 + 1) (Int.toNat r2)) s2)) ∧
  ((x3 < 0 ∨ 2 < x3) →
  X 1 s2)) s1) X σ
/-! InflectionGuesser.setCondition(III)I -/
def vX6_setCondition_144 (k0 : Nat) (P : Int → Sto → Prop) (X : Nat → Sto → Prop) (x4 : Int) (σ : Sto) : Prop :=
  P x4 σ
def vX6_setCondition_59 (k0 : Nat) (P : Int → Sto → Prop) (X : Nat → Sto → Prop) (x1 x2 x3 : Int) (σ : Sto) : Prop :=
  vX0_push (k0 + 47) (k0 + 3) (fun s3 =>
  ∀ s4 : Sto, s4 = zu s3 (k0 + 269) 3 1 →
  (0 ≤ x1 ∧ x1 < (zn (k0 + 3 + 2) : Int) ∧
  (0 ≤ x1 ∧ x1 < (zn (k0 + 3 + 2) : Int) ∧
  (∀ s5 : Sto, s5 = zu s4 (k0 + 3 + 2) (Int.toNat x1) x2 →
  (0 ≤ x1 ∧ x1 < (zn (k0 + 3 + 3) : Int) ∧
  (∀ s6 : Sto, s6 = zu s5 (k0 + 3 + 3) (Int.toNat x1) x3 →
  (zR x2 ∧
  ((¬ x2 = 4) →
  vX6_setCondition_144 k0 P X (s4 (k0 + 3 + 2) (Int.toNat x1)) s6) ∧
  ((x2 = 4) →
  vX5_put (k0 + 3 + 4) x1 (k0 + 1) 0 (s6 (k0 + 1) 1) (fun s7 =>
  vX4_clear (k0 + 1) (fun s8 =>
  vX6_setCondition_144 k0 P X (s4 (k0 + 3 + 2) (Int.toNat x1)) s8) s7) s6)))))))) σ
def vX6_setCondition_49 (k0 : Nat) (P : Int → Sto → Prop) (X : Nat → Sto → Prop) (σ : Sto) : Prop :=
  X 1 σ
def vX6_setCondition (k0 : Nat) (x1 : Int) (x2 : Int) (x3 : Int) (P : Int → Sto → Prop) (X : Nat → Sto → Prop) (σ : Sto) : Prop :=
  vX6_checkParadigm k0 x1 (fun s1 =>
  vX6_isConditionParameter x2 x3 (fun r2 s2 =>
  zR r2 ∧
  ((¬ r2 = 0) →
  zR x2 ∧
  ((¬ x2 = 4) →
  vX6_setCondition_59 k0 P X x1 x2 x3 s2) ∧
  ((x2 = 4) →
  zR (s2 (k0 + 1) 1) ∧
  (((s2 (k0 + 1) 1) = 0) →
  vX6_setCondition_49 k0 P X s2) ∧
  ((¬ ((s2 (k0 + 1) 1) = 0)) →
  zR (s2 (k0 + 1) 1) ∧
  (((s2 (k0 + 1) 1) ≤ 4) →
  vX6_setCondition_59 k0 P X x1 x2 x3 s2) ∧
  ((¬ ((s2 (k0 + 1) 1) ≤ 4)) →
  vX6_setCondition_49 k0 P X s2)))) ∧
  ((r2 = 0) →
  X 1 s2)) s1) X σ
/-! InflectionGuesser.fulfills(I)Z -/
def vX6_fulfills (k0 : Nat) (x1 : Int) (P : Int → Sto → Prop) (X : Nat → Sto → Prop) (σ : Sto) : Prop :=
  vX6_checkParadigm k0 x1 (fun s1 =>
  vX3_allows (k0 + 3) x1 (k0 + 1) (fun r2 s2 =>
  (r2 = 0 ∨ r2 = 1) ∧ P r2 s2) s1) X σ
/-! InflectionGuesser.takeBuiltForm(Z)I -/
def vX6_takeBuiltForm_16 (k0 : Nat) (P : Int → Sto → Prop) (X : Nat → Sto → Prop) (σ : Sto) : Prop :=
  X 3 σ
def vX6_takeBuiltForm (k0 : Nat) (x1 : Int) (P : Int → Sto → Prop) (X : Nat → Sto → Prop) (σ : Sto) : Prop :=
  zR x1 ∧
  ((x1 = 0) →
  vX6_takeBuiltForm_16 k0 P X σ) ∧
  ((¬ (x1 = 0)) →
  zR (σ (k0 + 281) 1) ∧
  (((σ (k0 + 281) 1) ≤ 14) →
  vX4_become (k0 + 1) (k0 + 281) (fun s1 =>
  P (s1 (k0 + 1) 1) s1) σ) ∧
  ((¬ ((σ (k0 + 281) 1) ≤ 14)) →
  vX6_takeBuiltForm_16 k0 P X σ))
/-! InflectionGuesser.inflect(II)I -/
def vX6_inflect (k0 : Nat) (x1 : Int) (x2 : Int) (P : Int → Sto → Prop) (X : Nat → Sto → Prop) (σ : Sto) : Prop :=
  vX6_checkCell k0 x1 x2 (fun s1 =>
  vX4_isStem (k0 + 1) (fun r2 s2 =>
  zR r2 ∧
  ((¬ r2 = 0) →
  vX6_cellSlot x1 x2 (fun r3 s3 =>
  vX3_build (k0 + 3) r3 (k0 + 1) (k0 + 281) (fun r4 s4 =>
  vX6_takeBuiltForm k0 r4 (fun r5 s5 =>
  P r5 s5) X s4) s3) s2) ∧
  ((r2 = 0) →
  X 2 s2)) s1) X σ
/-! InflectionGuesser.addWord()I -/
def vX6_addWord_136 (k0 : Nat) (P : Int → Sto → Prop) (X : Nat → Sto → Prop) (x1 : Int) (σ : Sto) : Prop :=
  vX4_clear (k0 + 1) (fun s3 =>
  P x1 s3) σ
def vX6_addWord_69 (k0 : Nat) (P : Int → Sto → Prop) (X : Nat → Sto → Prop) (x1 : Int) (σ : Sto) : Prop :=
  vX0_push (k0 + 47) (k0 + 3) (fun s2 =>
  zR x1 ∧
  ((0 ≤ x1) →
  vX6_addWord_136 k0 P X x1 s2) ∧
  ((¬ (0 ≤ x1)) →
  ∀ s4 : Sto, s4 = zu s2 (k0 + 269) 3 1 →
  (vX5_put (k0 + 3 + 15) (s4 (k0 + 3) 9) (k0 + 1) 0 (s4 (k0 + 1) 1) (fun s5 =>
  ∀ s6 : Sto, s6 = zu s5 (k0 + 3) 9 ((s5 (k0 + 3) 9) + 1) →
  (vX6_addWord_136 k0 P X (s4 (k0 + 3) 9) s6)) s4))) σ
def vX6_addWord (k0 : Nat) (P : Int → Sto → Prop) (X : Nat → Sto → Prop) (σ : Sto) : Prop :=
  zR (σ (k0 + 1) 1) ∧
  ((2 ≤ (σ (k0 + 1) 1)) →
  vX5_find (k0 + 3 + 15) (k0 + 1) (σ (k0 + 3) 9) (fun r1 s1 =>
  zR r1 ∧
  ((0 ≤ r1) →
  vX6_addWord_69 k0 P X r1 s1) ∧
  ((¬ (0 ≤ r1)) →
  zR (s1 (k0 + 3) 9) ∧
  (((s1 (k0 + 3) 9) < 16) →
  vX6_addWord_69 k0 P X r1 s1) ∧
  ((¬ ((s1 (k0 + 3) 9) < 16)) →
  X 2 s1))) σ) ∧
  ((¬ (2 ≤ (σ (k0 + 1) 1))) →
  X 1 σ)
/-! InflectionGuesser.checkWord(I)V -/
def vX6_checkWord_15 (k0 : Nat) (P : Sto → Prop) (X : Nat → Sto → Prop) (σ : Sto) : Prop :=
  X 0 σ
def vX6_checkWord (k0 : Nat) (x1 : Int) (P : Sto → Prop) (X : Nat → Sto → Prop) (σ : Sto) : Prop :=
  zR x1 ∧
  ((x1 < 0) →
  vX6_checkWord_15 k0 P X σ) ∧
  ((¬ (x1 < 0)) →
  zR x1 ∧ zR (σ (k0 + 3) 9) ∧
  ((x1 < (σ (k0 + 3) 9)) →
  P σ) ∧
  ((¬ (x1 < (σ (k0 + 3) 9))) →
  vX6_checkWord_15 k0 P X σ))
/-! InflectionGuesser.removeWord(I)I -/
def vX6_removeWord (k0 : Nat) (x1 : Int) (P : Int → Sto → Prop) (X : Nat → Sto → Prop) (σ : Sto) : Prop :=
  vX6_checkWord k0 x1 (fun s1 =>
  vX0_push (k0 + 47) (k0 + 3) (fun s2 =>
  ∀ s3 : Sto, s3 = zu s2 (k0 + 269) 3 1 →
  (vX5_closeGap (k0 + 3 + 15) x1 (s3 (k0 + 3) 9) (fun s4 =>
  ∀ s5 : Sto, s5 = zu s4 (k0 + 3) 9 ((s4 (k0 + 3) 9) - 1) →
  (P (s5 (k0 + 3) 9) s5)) s3)) s1) X σ
/-! InflectionGuesser.wordLength(I)I -/
def vX6_wordLength (k0 : Nat) (x1 : Int) (P : Int → Sto → Prop) (X : Nat → Sto → Prop) (σ : Sto) : Prop :=
  vX6_checkWord k0 x1 (fun s1 =>
  0 ≤ x1 ∧ x1 < (zn (k0 + 3 + 15 + 1) : Int) ∧
  (P (s1 (k0 + 3 + 15 + 1) (Int.toNat x1)) s1)) X σ
/-! InflectionGuesser.wordLetter(II)C -/
def vX6_wordLetter_25 (k0 : Nat) (P : Int → Sto → Prop) (X : Nat → Sto → Prop) (σ : Sto) : Prop :=
  X 0 σ
def vX6_wordLetter (k0 : Nat) (x1 : Int) (x2 : Int) (P : Int → Sto → Prop) (X : Nat → Sto → Prop) (σ : Sto) : Prop :=
  vX6_checkWord k0 x1 (fun s1 =>
  zR x2 ∧
  ((x2 < 0) →
  vX6_wordLetter_25 k0 P X s1) ∧
  ((¬ (x2 < 0)) →
  0 ≤ x1 ∧ x1 < (zn (k0 + 3 + 15 + 1) : Int) ∧
  (zR x2 ∧ zR (s1 (k0 + 3 + 15 + 1) (Int.toNat x1)) ∧
  ((x2 < (s1 (k0 + 3 + 15 + 1) (Int.toNat x1))) →
  vX5_letterAt (k0 + 3 + 15) x1 x2 (fun r2 s2 =>
  0 ≤ r2 ∧ r2 ≤ 65535 ∧ P r2 s2) s1) ∧
  ((¬ (x2 < (s1 (k0 + 3 + 15 + 1) (Int.toNat x1)))) →
  vX6_wordLetter_25 k0 P X s1)))) X σ
/-! InflectionGuesser.longestEnding(I)I -/
def vX6_longestEnding_104 (k0 : Nat) (P : Int → Sto → Prop) (X : Nat → Sto → Prop) (K31 : Int → Int → Sto → Prop) (K45 : Int → Int → Int → Sto → Prop) (x2 x3 x4 : Int) (σ : Sto) : Prop :=
  K45 x2 x3 (x4 + 1) σ
def bX6_longestEnding_45 (k0 : Nat) (P : Int → Sto → Prop) (X : Nat → Sto → Prop) (K31 : Int → Int → Sto → Prop) (K45 : Int → Int → Int → Sto → Prop) (x2 x3 x4 : Int) (σ : Sto) : Prop :=
  0 ≤ x3 ∧ x3 < (zn (k0 + 3 + 1) : Int) ∧
  (zR x4 ∧ zR (σ (k0 + 3 + 1) (Int.toNat x3)) ∧
  (((σ (k0 + 3 + 1) (Int.toNat x3)) ≤ x4) →
  K31 x2 (x3 + 1) σ) ∧
  ((¬ ((σ (k0 + 3 + 1) (Int.toNat x3)) ≤ x4)) →
  vX6_cellSlot x3 x4 (fun r4 s4 =>
  vX5_isEndOf (k0 + 3 + 12) r4 (k0 + 281) (fun r5 s5 =>
  zR r5 ∧
  ((r5 = 0) →
  vX6_longestEnding_104 k0 P X K31 K45 x2 x3 x4 s5) ∧
  ((¬ (r5 = 0)) →
  0 ≤ r4 ∧ r4 < (zn (k0 + 3 + 12 + 1) : Int) ∧
  (zR x2 ∧ zR (s5 (k0 + 3 + 12 + 1) (Int.toNat r4)) ∧
  (vX6_longestEnding_104 k0 P X K31 K45 (if x2 < (s5 (k0 + 3 + 12 + 1) (Int.toNat r4)) then (s5 (k0 + 3 + 12 + 1) (Int.toNat r4)) else x2) x3 x4 s5)))) s4) σ))
def vX6_longestEnding_45 (k0 : Nat) (P : Int → Sto → Prop) (X : Nat → Sto → Prop) (K31 : Int → Int → Sto → Prop) : Nat → Int → Int → Int → Sto → Prop
  | 0 => fun _ _ _ _ => False
  | n + 1 => bX6_longestEnding_45 k0 P X K31 (vX6_longestEnding_45 k0 P X K31 n)
def bX6_longestEnding_31 (k0 : Nat) (P : Int → Sto → Prop) (X : Nat → Sto → Prop) (K31 : Int → Int → Sto → Prop) (x2 x3 : Int) (σ : Sto) : Prop :=
  zR x3 ∧ zR (σ (k0 + 3) 0) ∧
  (((σ (k0 + 3) 0) ≤ x3) →
  zR x2 ∧
  ((0 ≤ x2) →
  P x2 σ) ∧
  ((¬ (0 ≤ x2)) →
  X 3 σ)) ∧
  ((¬ ((σ (k0 + 3) 0) ≤ x3)) →
  ∃ n, vX6_longestEnding_45 k0 P X K31 n x2 x3 0 σ)
def vX6_longestEnding_31 (k0 : Nat) (P : Int → Sto → Prop) (X : Nat → Sto → Prop) : Nat → Int → Int → Sto → Prop
  | 0 => fun _ _ _ => False
  | n + 1 => bX6_longestEnding_31 k0 P X (vX6_longestEnding_31 k0 P X n)
def vX6_longestEnding (k0 : Nat) (x1 : Int) (P : Int → Sto → Prop) (X : Nat → Sto → Prop) (σ : Sto) : Prop :=
  vX6_checkWord k0 x1 (fun s1 =>
  vX4_clear (k0 + 281) (fun s2 =>
  vX5_addTo (k0 + 3 + 15) x1 (k0 + 281) (fun s3 =>
  ∃ n, vX6_longestEnding_31 k0 P X n (-1) 0 s3) s2) s1) X σ
/-! InflectionGuesser.endings(I)I -/
def vX6_endings_85 (k0 : Nat) (P : Int → Sto → Prop) (X : Nat → Sto → Prop) (K31 : Int → Int → Sto → Prop) (K45 : Int → Int → Int → Sto → Prop) (x2 x3 x4 : Int) (σ : Sto) : Prop :=
  K45 x2 x3 (x4 + 1) σ
def bX6_endings_45 (k0 : Nat) (P : Int → Sto → Prop) (X : Nat → Sto → Prop) (K31 : Int → Int → Sto → Prop) (K45 : Int → Int → Int → Sto → Prop) (x2 x3 x4 : Int) (σ : Sto) : Prop :=
  0 ≤ x3 ∧ x3 < (zn (k0 + 3 + 1) : Int) ∧
  (zR x4 ∧ zR (σ (k0 + 3 + 1) (Int.toNat x3)) ∧
  (((σ (k0 + 3 + 1) (Int.toNat x3)) ≤ x4) →
  K31 x2 (x3 + 1) σ) ∧
  ((¬ ((σ (k0 + 3 + 1) (Int.toNat x3)) ≤ x4)) →
  vX6_cellSlot x3 x4 (fun r4 s4 =>
  vX5_isEndOf (k0 + 3 + 12) r4 (k0 + 281) (fun r5 s5 =>
  zR r5 ∧
  ((r5 = 0) →
  vX6_endings_85 k0 P X K31 K45 x2 x3 x4 s5) ∧
  ((¬ (r5 = 0)) →
  vX6_endings_85 k0 P X K31 K45 (x2 + 1) x3 x4 s5)) s4) σ))
def vX6_endings_45 (k0 : Nat) (P : Int → Sto → Prop) (X : Nat → Sto → Prop) (K31 : Int → Int → Sto → Prop) : Nat → Int → Int → Int → Sto → Prop
  | 0 => fun _ _ _ _ => False
  | n + 1 => bX6_endings_45 k0 P X K31 (vX6_endings_45 k0 P X K31 n)
def bX6_endings_31 (k0 : Nat) (P : Int → Sto → Prop) (X : Nat → Sto → Prop) (K31 : Int → Int → Sto → Prop) (x2 x3 : Int) (σ : Sto) : Prop :=
  zR x3 ∧ zR (σ (k0 + 3) 0) ∧
  (((σ (k0 + 3) 0) ≤ x3) →
  P x2 σ) ∧
  ((¬ ((σ (k0 + 3) 0) ≤ x3)) →
  ∃ n, vX6_endings_45 k0 P X K31 n x2 x3 0 σ)
def vX6_endings_31 (k0 : Nat) (P : Int → Sto → Prop) (X : Nat → Sto → Prop) : Nat → Int → Int → Sto → Prop
  | 0 => fun _ _ _ => False
  | n + 1 => bX6_endings_31 k0 P X (vX6_endings_31 k0 P X n)
def vX6_endings (k0 : Nat) (x1 : Int) (P : Int → Sto → Prop) (X : Nat → Sto → Prop) (σ : Sto) : Prop :=
  vX6_checkWord k0 x1 (fun s1 =>
  vX4_clear (k0 + 281) (fun s2 =>
  vX5_addTo (k0 + 3 + 15) x1 (k0 + 281) (fun s3 =>
  ∃ n, vX6_endings_31 k0 P X n 0 0 s3) s2) s1) X σ
/-! InflectionGuesser.checkHypothesis(I)V -/
def vX6_checkHypothesis_26 (k0 : Nat) (P : Sto → Prop) (X : Nat → Sto → Prop) (σ : Sto) : Prop :=
  X 0 σ
def vX6_checkHypothesis (k0 : Nat) (x1 : Int) (P : Sto → Prop) (X : Nat → Sto → Prop) (σ : Sto) : Prop :=
  vX1_refresh (k0 + 269) (k0 + 3) (fun s1 =>
  zR x1 ∧
  ((x1 < 0) →
  vX6_checkHypothesis_26 k0 P X s1) ∧
  ((¬ (x1 < 0)) →
  zR x1 ∧ zR (s1 (k0 + 269) 2) ∧
  ((x1 < (s1 (k0 + 269) 2)) →
  P s1) ∧
  ((¬ (x1 < (s1 (k0 + 269) 2))) →
  vX6_checkHypothesis_26 k0 P X s1))) σ
/-! InflectionGuesser.hypothesis(II)I -/
def vX6_hypothesis (k0 : Nat) (x1 : Int) (x2 : Int) (P : Int → Sto → Prop) (X : Nat → Sto → Prop) (σ : Sto) : Prop :=
  vX6_checkHypothesis k0 x1 (fun s1 =>
  0 ≤ x1 ∧ x1 < (zn (k0 + 269 + 1) : Int) ∧
  (zR x2 ∧
  (x2 = 0 →
  vX2_paradigm (s1 (k0 + 269 + 1) (Int.toNat x1)) (fun r2 s2 =>
  P r2 s2) s1) ∧
  (x2 = 1 →
  vX2_explained (s1 (k0 + 269 + 1) (Int.toNat x1)) (fun r3 s3 =>
  P r3 s3) s1) ∧
  (x2 = 2 →
  vX2_unattested (s1 (k0 + 269 + 1) (Int.toNat x1)) (fun r4 s4 =>
  P r4 s4) s1) ∧
  (x2 = 3 →
  vX2_stemLength (s1 (k0 + 269 + 1) (Int.toNat x1)) (fun r5 s5 =>
  P r5 s5) s1) ∧
  ((x2 < 0 ∨ 3 < x2) →
  X 1 s1))) X σ
/-! InflectionGuesser.stemLetter(II)C -/
def vX6_stemLetter_27 (k0 : Nat) (P : Int → Sto → Prop) (X : Nat → Sto → Prop) (σ : Sto) : Prop :=
  X 0 σ
def vX6_stemLetter (k0 : Nat) (x1 : Int) (x2 : Int) (P : Int → Sto → Prop) (X : Nat → Sto → Prop) (σ : Sto) : Prop :=
  vX6_checkHypothesis k0 x1 (fun s1 =>
  0 ≤ x1 ∧ x1 < (zn (k0 + 269 + 1) : Int) ∧
  (zR x2 ∧
  ((x2 < 0) →
  vX6_stemLetter_27 k0 P X s1) ∧
  ((¬ (x2 < 0)) →
  vX2_stemLength (s1 (k0 + 269 + 1) (Int.toNat x1)) (fun r2 s2 =>
  zR x2 ∧ zR r2 ∧
  ((x2 < r2) →
  vX2_letterOfStem (s1 (k0 + 269 + 1) (Int.toNat x1)) x2 (fun r3 s3 =>
  0 ≤ r3 ∧ r3 ≤ 65535 ∧ P r3 s3) s2) ∧
  ((¬ (x2 < r2)) →
  vX6_stemLetter_27 k0 P X s2)) s1))) X σ
/-! InflectionGuesser.explains(II)Z -/
def vX6_explains (k0 : Nat) (x1 : Int) (x2 : Int) (P : Int → Sto → Prop) (X : Nat → Sto → Prop) (σ : Sto) : Prop :=
  vX6_checkHypothesis k0 x1 (fun s1 =>
  vX6_checkWord k0 x2 (fun s2 =>
  0 ≤ x1 ∧ x1 < (zn (k0 + 269 + 2) : Int) ∧
  (vX6_hasBit (s2 (k0 + 269 + 2) (Int.toNat x1)) x2 (fun r3 s3 =>
  (r3 = 0 ∨ r3 = 1) ∧ P r3 s3) s2)) X s1) X σ
/-! InflectionGuesser.explanations(I)I -/
def vX6_explanations_50 (k0 : Nat) (P : Int → Sto → Prop) (X : Nat → Sto → Prop) (K20 : Int → Int → Int → Sto → Prop) (x1 x2 x3 : Int) (σ : Sto) : Prop :=
  K20 x1 x2 (x3 + 1) σ
def bX6_explanations_20 (k0 : Nat) (P : Int → Sto → Prop) (X : Nat → Sto → Prop) (K20 : Int → Int → Int → Sto → Prop) (x1 x2 x3 : Int) (σ : Sto) : Prop :=
  zR x3 ∧ zR (σ (k0 + 269) 2) ∧
  (((σ (k0 + 269) 2) ≤ x3) →
  P x2 σ) ∧
  ((¬ ((σ (k0 + 269) 2) ≤ x3)) →
  0 ≤ x3 ∧ x3 < (zn (k0 + 269 + 2) : Int) ∧
  (vX6_hasBit (σ (k0 + 269 + 2) (Int.toNat x3)) x1 (fun r3 s3 =>
  zR r3 ∧
  ((r3 = 0) →
  vX6_explanations_50 k0 P X K20 x1 x2 x3 s3) ∧
  ((¬ (r3 = 0)) →
  vX6_explanations_50 k0 P X K20 x1 (x2 + 1) x3 s3)) σ))
def vX6_explanations_20 (k0 : Nat) (P : Int → Sto → Prop) (X : Nat → Sto → Prop) : Nat → Int → Int → Int → Sto → Prop
  | 0 => fun _ _ _ _ => False
  | n + 1 => bX6_explanations_20 k0 P X (vX6_explanations_20 k0 P X n)
def vX6_explanations (k0 : Nat) (x1 : Int) (P : Int → Sto → Prop) (X : Nat → Sto → Prop) (σ : Sto) : Prop :=
  vX6_checkWord k0 x1 (fun s1 =>
  vX1_refresh (k0 + 269) (k0 + 3) (fun s2 =>
  ∃ n, vX6_explanations_20 k0 P X n x1 0 0 s2) s1) X σ
/-! InflectionGuesser.attestedShare(I)D -/
def vX6_attestedShare_46 (k0 : Nat) (P : Int → Sto → Prop) (X : Nat → Sto → Prop) (y0 : Int) (σ : Sto) : Prop :=
  P y0 σ
def vX6_attestedShare (k0 : Nat) (x1 : Int) (P : Int → Sto → Prop) (X : Nat → Sto → Prop) (σ : Sto) : Prop :=
  vX6_checkHypothesis k0 x1 (fun s1 =>
  0 ≤ x1 ∧ x1 < (zn (k0 + 269 + 1) : Int) ∧
  (vX2_explained (s1 (k0 + 269 + 1) (Int.toNat x1)) (fun r2 s2 =>
  vX2_unattested (s1 (k0 + 269 + 1) (Int.toNat x1)) (fun r3 s3 =>
  zR (r2 + r3) ∧
  ((¬ (r2 + r3) = 0) →
  zNN (zddiv (zi2d r2) (zi2d (r2 + r3))) ∧
  (vX6_attestedShare_46 k0 P X (zddiv (zi2d r2) (zi2d (r2 + r3))) s3)) ∧
  (((r2 + r3) = 0) →
  vX6_attestedShare_46 k0 P X zd0 s3)) s2) s1)) X σ
/-! InflectionGuesser.accept(I)I -/
def vX6_accept (k0 : Nat) (x1 : Int) (P : Int → Sto → Prop) (X : Nat → Sto → Prop) (σ : Sto) : Prop :=
  vX6_checkHypothesis k0 x1 (fun s1 =>
  0 ≤ x1 ∧ x1 < (zn (k0 + 269 + 1) : Int) ∧
  (vX2_pair (s1 (k0 + 269 + 1) (Int.toNat x1)) (fun r2 s2 =>
  zR (s2 (k0 + 3) 11) ∧
  (((s2 (k0 + 3) 11) < 10) →
  vX3_hasLexeme (k0 + 3) r2 (fun r3 s3 =>
  zR r3 ∧
  ((r3 = 0) →
  vX0_push (k0 + 47) (k0 + 3) (fun s4 =>
  vX3_newLexeme (k0 + 3) r2 (fun r5 s5 =>
  P r5 s5) s4) s3) ∧
  ((¬ (r3 = 0)) →
  X 2 s3)) s2) ∧
  ((¬ ((s2 (k0 + 3) 11) < 10)) →
  X 2 s2)) s1)) X σ
/-! InflectionGuesser.checkLexeme(I)V -/
def vX6_checkLexeme_15 (k0 : Nat) (P : Sto → Prop) (X : Nat → Sto → Prop) (σ : Sto) : Prop :=
  X 0 σ
def vX6_checkLexeme (k0 : Nat) (x1 : Int) (P : Sto → Prop) (X : Nat → Sto → Prop) (σ : Sto) : Prop :=
  zR x1 ∧
  ((x1 < 0) →
  vX6_checkLexeme_15 k0 P X σ) ∧
  ((¬ (x1 < 0)) →
  zR x1 ∧ zR (σ (k0 + 3) 11) ∧
  ((x1 < (σ (k0 + 3) 11)) →
  P σ) ∧
  ((¬ (x1 < (σ (k0 + 3) 11))) →
  vX6_checkLexeme_15 k0 P X σ))
/-! InflectionGuesser.lexeme(II)I -/
def vX6_lexeme (k0 : Nat) (x1 : Int) (x2 : Int) (P : Int → Sto → Prop) (X : Nat → Sto → Prop) (σ : Sto) : Prop :=
  vX6_checkLexeme k0 x1 (fun s1 =>
  zR x2 ∧
  (x2 = 0 →
  0 ≤ x1 ∧ x1 < (zn (k0 + 3 + 18) : Int) ∧
  (vX2_paradigm (s1 (k0 + 3 + 18) (Int.toNat x1)) (fun r2 s2 =>
  P r2 s2) s1)) ∧
  (x2 = 1 →
  0 ≤ x1 ∧ x1 < (zn (k0 + 3 + 18) : Int) ∧
  (vX2_stemLength (s1 (k0 + 3 + 18) (Int.toNat x1)) (fun r3 s3 =>
  P r3 s3) s1)) ∧
  (x2 = 2 →
  vX3_exceptionCount (k0 + 3) x1 (fun r4 s4 =>
  P r4 s4) s1) ∧
  ((x2 < 0 ∨ 2 < x2) →
  X 1 s1)) X σ
/-! InflectionGuesser.takeStem(I)I -/
def vX6_takeStem (k0 : Nat) (x1 : Int) (P : Int → Sto → Prop) (X : Nat → Sto → Prop) (σ : Sto) : Prop :=
  vX6_checkLexeme k0 x1 (fun s1 =>
  0 ≤ x1 ∧ x1 < (zn (k0 + 3 + 18) : Int) ∧
  (vX2_unpackStem (s1 (k0 + 3 + 18) (Int.toNat x1)) (k0 + 1) (fun s2 =>
  P (s2 (k0 + 1) 1) s2) s1)) X σ
/-! InflectionGuesser.checkLexemeCell(II)V -/
def vX6_checkLexemeCell (k0 : Nat) (x1 : Int) (x2 : Int) (P : Sto → Prop) (X : Nat → Sto → Prop) (σ : Sto) : Prop :=
  vX6_checkLexeme k0 x1 (fun s1 =>
  0 ≤ x1 ∧ x1 < (zn (k0 + 3 + 18) : Int) ∧
  (vX2_paradigm (s1 (k0 + 3 + 18) (Int.toNat x1)) (fun r2 s2 =>
  vX6_checkCell k0 r2 x2 (fun s3 =>
  P s3) X s2) s1)) X σ
/-! InflectionGuesser.setException(II)I -/
def vX6_setException (k0 : Nat) (x1 : Int) (x2 : Int) (P : Int → Sto → Prop) (X : Nat → Sto → Prop) (σ : Sto) : Prop :=
  vX6_checkLexemeCell k0 x1 x2 (fun s1 =>
  zR (s1 (k0 + 1) 1) ∧
  ((2 ≤ (s1 (k0 + 1) 1)) →
  vX0_push (k0 + 47) (k0 + 3) (fun s2 =>
  vX6_cellSlot x1 x2 (fun r3 s3 =>
  vX5_put (k0 + 3 + 19) r3 (k0 + 1) 0 (s3 (k0 + 1) 1) (fun s4 =>
  vX4_clear (k0 + 1) (fun s5 =>
  vX3_exceptionCount (k0 + 3) x1 (fun r6 s6 =>
  P r6 s6) s5) s4) s3) s2) s1) ∧
  ((¬ (2 ≤ (s1 (k0 + 1) 1))) →
  X 1 s1)) X σ
/-! InflectionGuesser.clearException(II)I -/
def vX6_clearException (k0 : Nat) (x1 : Int) (x2 : Int) (P : Int → Sto → Prop) (X : Nat → Sto → Prop) (σ : Sto) : Prop :=
  vX6_checkLexemeCell k0 x1 x2 (fun s1 =>
  vX3_hasException (k0 + 3) x1 x2 (fun r2 s2 =>
  zR r2 ∧
  ((¬ r2 = 0) →
  vX0_push (k0 + 47) (k0 + 3) (fun s3 =>
  vX3_dropException (k0 + 3) x1 x2 (fun s4 =>
  vX3_exceptionCount (k0 + 3) x1 (fun r5 s5 =>
  P r5 s5) s4) s3) s2) ∧
  ((r2 = 0) →
  X 3 s2)) s1) X σ
/-! InflectionGuesser.takeForm(II)I -/
def vX6_takeForm (k0 : Nat) (x1 : Int) (x2 : Int) (P : Int → Sto → Prop) (X : Nat → Sto → Prop) (σ : Sto) : Prop :=
  vX6_checkLexemeCell k0 x1 x2 (fun s1 =>
  vX6_buildLexemeForm k0 x1 x2 (fun r2 s2 =>
  vX6_takeBuiltForm k0 r2 (fun r3 s3 =>
  P r3 s3) X s2) s1) X σ
/-! InflectionGuesser.hasForm(II)Z -/
def vX6_hasForm (k0 : Nat) (x1 : Int) (x2 : Int) (P : Int → Sto → Prop) (X : Nat → Sto → Prop) (σ : Sto) : Prop :=
  vX6_checkLexeme k0 x1 (fun s1 =>
  vX6_checkWord k0 x2 (fun s2 =>
  vX6_attestedForms k0 x1 (fun r3 s3 =>
  vX6_hasBit r3 x2 (fun r4 s4 =>
  (r4 = 0 ∨ r4 = 1) ∧ P r4 s4) s3) s2) X s1) X σ
/-! InflectionGuesser.missing(I)I -/
def vX6_missing_50 (k0 : Nat) (P : Int → Sto → Prop) (X : Nat → Sto → Prop) (K31 : Int → Int → Int → Int → Sto → Prop) (x1 x2 x3 x4 : Int) (σ : Sto) : Prop :=
  K31 x1 x2 x3 (x4 + 1) σ
def bX6_missing_31 (k0 : Nat) (P : Int → Sto → Prop) (X : Nat → Sto → Prop) (K31 : Int → Int → Int → Int → Sto → Prop) (x1 x2 x3 x4 : Int) (σ : Sto) : Prop :=
  zR x4 ∧ zR x2 ∧
  ((x2 ≤ x4) →
  P x3 σ) ∧
  ((¬ (x2 ≤ x4)) →
  vX6_lacksForm k0 x1 x4 (fun r3 s3 =>
  zR r3 ∧
  ((r3 = 0) →
  vX6_missing_50 k0 P X K31 x1 x2 x3 x4 s3) ∧
  ((¬ (r3 = 0)) →
  vX6_missing_50 k0 P X K31 x1 x2 (x3 + 1) x4 s3)) σ)
def vX6_missing_31 (k0 : Nat) (P : Int → Sto → Prop) (X : Nat → Sto → Prop) : Nat → Int → Int → Int → Int → Sto → Prop
  | 0 => fun _ _ _ _ _ => False
  | n + 1 => bX6_missing_31 k0 P X (vX6_missing_31 k0 P X n)
def vX6_missing (k0 : Nat) (x1 : Int) (P : Int → Sto → Prop) (X : Nat → Sto → Prop) (σ : Sto) : Prop :=
  vX6_checkLexeme k0 x1 (fun s1 =>
  0 ≤ x1 ∧ x1 < (zn (k0 + 3 + 18) : Int) ∧
  (vX2_paradigm (s1 (k0 + 3 + 18) (Int.toNat x1)) (fun r2 s2 =>
  0 ≤ r2 ∧ r2 < (zn (k0 + 3 + 1) : Int) ∧
  (∃ n, vX6_missing_31 k0 P X n x1 (s2 (k0 + 3 + 1) (Int.toNat r2)) 0 0 s2)) s1)) X σ
/-! InflectionGuesser.missingCell(II)I -/
def vX6_missingCell_60 (k0 : Nat) (P : Int → Sto → Prop) (X : Nat → Sto → Prop) (K32 : Int → Int → Int → Int → Int → Sto → Prop) (x1 x2 x3 x4 x5 : Int) (σ : Sto) : Prop :=
  K32 x1 x2 x3 x4 (x5 + 1) σ
def bX6_missingCell_32 (k0 : Nat) (P : Int → Sto → Prop) (X : Nat → Sto → Prop) (K32 : Int → Int → Int → Int → Int → Sto → Prop) (x1 x2 x3 x4 x5 : Int) (σ : Sto) : Prop :=
  zR x5 ∧ zR x3 ∧
  ((x3 ≤ x5) →
  X 3 σ) ∧
  ((¬ (x3 ≤ x5)) →
  vX6_lacksForm k0 x1 x5 (fun r3 s3 =>
  zR r3 ∧
  ((r3 = 0) →
  vX6_missingCell_60 k0 P X K32 x1 x2 x3 x4 x5 s3) ∧
  ((¬ (r3 = 0)) →
  zR x4 ∧ zR x2 ∧
  ((¬ x4 = x2) →
  vX6_missingCell_60 k0 P X K32 x1 x2 x3 (x4 + 1) x5 s3) ∧
  ((x4 = x2) →
  P x5 s3))) σ)
def vX6_missingCell_32 (k0 : Nat) (P : Int → Sto → Prop) (X : Nat → Sto → Prop) : Nat → Int → Int → Int → Int → Int → Sto → Prop
  | 0 => fun _ _ _ _ _ _ => False
  | n + 1 => bX6_missingCell_32 k0 P X (vX6_missingCell_32 k0 P X n)
def vX6_missingCell (k0 : Nat) (x1 : Int) (x2 : Int) (P : Int → Sto → Prop) (X : Nat → Sto → Prop) (σ : Sto) : Prop :=
  vX6_checkLexeme k0 x1 (fun s1 =>
  0 ≤ x1 ∧ x1 < (zn (k0 + 3 + 18) : Int) ∧
  (vX2_paradigm (s1 (k0 + 3 + 18) (Int.toNat x1)) (fun r2 s2 =>
  0 ≤ r2 ∧ r2 < (zn (k0 + 3 + 1) : Int) ∧
  (∃ n, vX6_missingCell_32 k0 P X n x1 x2 (s2 (k0 + 3 + 1) (Int.toNat r2)) 0 0 s2)) s1)) X σ
/-! InflectionGuesser.lexemesOf(I)I -/
def vX6_lexemesOf_35 (k0 : Nat) (P : Int → Sto → Prop) (X : Nat → Sto → Prop) (K9 : Int → Int → Int → Sto → Prop) (x1 x2 x3 : Int) (σ : Sto) : Prop :=
  K9 x1 x2 (x3 + 1) σ
def bX6_lexemesOf_9 (k0 : Nat) (P : Int → Sto → Prop) (X : Nat → Sto → Prop) (K9 : Int → Int → Int → Sto → Prop) (x1 x2 x3 : Int) (σ : Sto) : Prop :=
  zR x3 ∧ zR (σ (k0 + 3) 11) ∧
  (((σ (k0 + 3) 11) ≤ x3) →
  P x2 σ) ∧
  ((¬ ((σ (k0 + 3) 11) ≤ x3)) →
  vX6_attestedForms k0 x3 (fun r2 s2 =>
  vX6_hasBit r2 x1 (fun r3 s3 =>
  zR r3 ∧
  ((r3 = 0) →
  vX6_lexemesOf_35 k0 P X K9 x1 x2 x3 s3) ∧
  ((¬ (r3 = 0)) →
  vX6_lexemesOf_35 k0 P X K9 x1 (x2 + 1) x3 s3)) s2) σ)
def vX6_lexemesOf_9 (k0 : Nat) (P : Int → Sto → Prop) (X : Nat → Sto → Prop) : Nat → Int → Int → Int → Sto → Prop
  | 0 => fun _ _ _ _ => False
  | n + 1 => bX6_lexemesOf_9 k0 P X (vX6_lexemesOf_9 k0 P X n)
def vX6_lexemesOf (k0 : Nat) (x1 : Int) (P : Int → Sto → Prop) (X : Nat → Sto → Prop) (σ : Sto) : Prop :=
  vX6_checkWord k0 x1 (fun s1 =>
  ∃ n, vX6_lexemesOf_9 k0 P X n x1 0 0 s1) X σ
/-! InflectionGuesser.undo()I -/
def vX6_undo (k0 : Nat) (P : Int → Sto → Prop) (X : Nat → Sto → Prop) (σ : Sto) : Prop :=
  zR (σ (k0 + 47) 2) ∧
  ((¬ (σ (k0 + 47) 2) = 0) →
  vX0_pop (k0 + 47) (k0 + 3) (fun s1 =>
  ∀ s2 : Sto, s2 = zu s1 (k0 + 269) 3 1 →
  (P (s2 (k0 + 47) 2) s2)) σ) ∧
  (((σ (k0 + 47) 2) = 0) →
  X 3 σ)
/-! InflectionGuesser.restore()I -/
def vX6_restore (k0 : Nat) (P : Int → Sto → Prop) (X : Nat → Sto → Prop) (σ : Sto) : Prop :=
  zR (σ k0 3) ∧
  ((¬ (σ k0 3) = 0) →
  vX3_copyFrom (k0 + 3) (k0 + 25) (fun s1 =>
  vX0_forget (k0 + 47) (fun s2 =>
  ∀ s3 : Sto, s3 = zu s2 (k0 + 269) 3 1 →
  (P (s3 (k0 + 3) 11) s3)) s1) σ) ∧
  (((σ k0 3) = 0) →
  X 2 σ)
