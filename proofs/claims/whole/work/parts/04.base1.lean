/-! THE STORE: what each cell (by its number) holds in each slot, as whole numbers; the layout: which cell is of which kind; the world of all cells -/
abbrev Sto : Type := Nat → Nat → Int
def zI (x : Int) : Int32 := Int32.ofInt x
def zJ (x : Int) : Int64 := Int64.ofInt x
def zD (x : Int) : UInt64 := UInt64.ofNat x.toNat
def zR (x : Int) : Prop := -2147483648 ≤ x ∧ x ≤ 2147483647
def zQ (x : Int) : Prop := -9223372036854775808 ≤ x ∧ x ≤ 9223372036854775807
/-- slot j of cell k becomes x -/
def zu (σ : Sto) (k j : Nat) (x : Int) : Sto := fun k' j' => if k' = k ∧ j' = j then x else σ k' j'
/-- n slots from p0 of cell k0 go to p1 of cell k1 -/
def zc (σ : Sto) (k0 p0 k1 p1 n : Nat) : Sto := fun k' j' => if k' = k1 ∧ p1 ≤ j' ∧ j' < p1 + n then σ k0 (p0 + (j' - p1)) else σ k' j'
def zkT : List Nat := [5, 3, 7, 2, 8, 8, 8, 4, 8, 7, 8, 8, 4, 8, 7, 4, 8, 7, 4, 8, 7, 9, 4, 8, 7, 2, 8, 8, 8, 4, 8, 7, 8, 8, 4, 8, 7, 4, 8, 7, 4, 8, 7, 9, 4, 8, 7, 0, 11, 2, 8, 8, 8, 4, 8, 7, 8, 8, 4, 8, 7, 4, 8, 7, 4, 8, 7, 9, 4, 8, 7, 2, 8, 8, 8, 4, 8, 7, 8, 8, 4, 8, 7, 4, 8, 7, 4, 8, 7, 9, 4, 8, 7, 2, 8, 8, 8, 4, 8, 7, 8, 8, 4, 8, 7, 4, 8, 7, 4, 8, 7, 9, 4, 8, 7, 2, 8, 8, 8, 4, 8, 7, 8, 8, 4, 8, 7, 4, 8, 7, 4, 8, 7, 9, 4, 8, 7, 2, 8, 8, 8, 4, 8, 7, 8, 8, 4, 8, 7, 4, 8, 7, 4, 8, 7, 9, 4, 8, 7, 2, 8, 8, 8, 4, 8, 7, 8, 8, 4, 8, 7, 4, 8, 7, 4, 8, 7, 9, 4, 8, 7, 2, 8, 8, 8, 4, 8, 7, 8, 8, 4, 8, 7, 4, 8, 7, 4, 8, 7, 9, 4, 8, 7, 2, 8, 8, 8, 4, 8, 7, 8, 8, 4, 8, 7, 4, 8, 7, 4, 8, 7, 9, 4, 8, 7, 2, 8, 8, 8, 4, 8, 7, 8, 8, 4, 8, 7, 4, 8, 7, 4, 8, 7, 9, 4, 8, 7, 2, 8, 8, 8, 4, 8, 7, 8, 8, 4, 8, 7, 4, 8, 7, 4, 8, 7, 9, 4, 8, 7, 1, 9, 8, 3, 7, 3, 7, 4, 8, 7, 3, 7, 3, 7, 6, 8, 8, 8, 8, 8, 8, 8, 8, 8, 8, 8, 8, 10, 9, 12]
def znT : List Nat := [0, 0, 18, 0, 6, 6, 6, 0, 6, 24, 36, 36, 0, 36, 144, 0, 36, 144, 0, 16, 224, 10, 0, 60, 840, 0, 6, 6, 6, 0, 6, 24, 36, 36, 0, 36, 144, 0, 36, 144, 0, 16, 224, 10, 0, 60, 840, 0, 10, 0, 6, 6, 6, 0, 6, 24, 36, 36, 0, 36, 144, 0, 36, 144, 0, 16, 224, 10, 0, 60, 840, 0, 6, 6, 6, 0, 6, 24, 36, 36, 0, 36, 144, 0, 36, 144, 0, 16, 224, 10, 0, 60, 840, 0, 6, 6, 6, 0, 6, 24, 36, 36, 0, 36, 144, 0, 36, 144, 0, 16, 224, 10, 0, 60, 840, 0, 6, 6, 6, 0, 6, 24, 36, 36, 0, 36, 144, 0, 36, 144, 0, 16, 224, 10, 0, 60, 840, 0, 6, 6, 6, 0, 6, 24, 36, 36, 0, 36, 144, 0, 36, 144, 0, 16, 224, 10, 0, 60, 840, 0, 6, 6, 6, 0, 6, 24, 36, 36, 0, 36, 144, 0, 36, 144, 0, 16, 224, 10, 0, 60, 840, 0, 6, 6, 6, 0, 6, 24, 36, 36, 0, 36, 144, 0, 36, 144, 0, 16, 224, 10, 0, 60, 840, 0, 6, 6, 6, 0, 6, 24, 36, 36, 0, 36, 144, 0, 36, 144, 0, 16, 224, 10, 0, 60, 840, 0, 6, 6, 6, 0, 6, 24, 36, 36, 0, 36, 144, 0, 36, 144, 0, 16, 224, 10, 0, 60, 840, 0, 6, 6, 6, 0, 6, 24, 36, 36, 0, 36, 144, 0, 36, 144, 0, 16, 224, 10, 0, 60, 840, 0, 2880, 2880, 0, 18, 0, 18, 0, 6, 90, 0, 18, 0, 18, 0, 1743, 17430, 1743, 17, 17, 2880, 2880, 2880, 31680, 2880, 32, 102, 16, 1, 1]
def zwT : List Nat := [0, 0, 0, 0, 0, 0, 0, 4, 0, 0, 0, 0, 4, 0, 0, 4, 0, 0, 14, 0, 0, 0, 14, 0, 0, 0, 0, 0, 0, 4, 0, 0, 0, 0, 4, 0, 0, 4, 0, 0, 14, 0, 0, 0, 14, 0, 0, 0, 0, 0, 0, 0, 0, 4, 0, 0, 0, 0, 4, 0, 0, 4, 0, 0, 14, 0, 0, 0, 14, 0, 0, 0, 0, 0, 0, 4, 0, 0, 0, 0, 4, 0, 0, 4, 0, 0, 14, 0, 0, 0, 14, 0, 0, 0, 0, 0, 0, 4, 0, 0, 0, 0, 4, 0, 0, 4, 0, 0, 14, 0, 0, 0, 14, 0, 0, 0, 0, 0, 0, 4, 0, 0, 0, 0, 4, 0, 0, 4, 0, 0, 14, 0, 0, 0, 14, 0, 0, 0, 0, 0, 0, 4, 0, 0, 0, 0, 4, 0, 0, 4, 0, 0, 14, 0, 0, 0, 14, 0, 0, 0, 0, 0, 0, 4, 0, 0, 0, 0, 4, 0, 0, 4, 0, 0, 14, 0, 0, 0, 14, 0, 0, 0, 0, 0, 0, 4, 0, 0, 0, 0, 4, 0, 0, 4, 0, 0, 14, 0, 0, 0, 14, 0, 0, 0, 0, 0, 0, 4, 0, 0, 0, 0, 4, 0, 0, 4, 0, 0, 14, 0, 0, 0, 14, 0, 0, 0, 0, 0, 0, 4, 0, 0, 0, 0, 4, 0, 0, 4, 0, 0, 14, 0, 0, 0, 14, 0, 0, 0, 0, 0, 0, 4, 0, 0, 0, 0, 4, 0, 0, 4, 0, 0, 14, 0, 0, 0, 14, 0, 0, 0, 0, 0, 0, 0, 0, 0, 15, 0, 0, 0, 0, 0, 0, 0, 0, 0, 0, 0, 0, 0, 0, 0, 0, 0, 0, 0, 0, 0, 0]
/-- kinds: 0 History, 1 Hypotheses, 2 State, 3 Word, 4 WordTable, 5 InflectionGuesser, 6 InflectionGuesserModel, 7 char row, 8 int row, 9 long row, 10 boolean row, 11 row of States, 12 double row -/
def zk (k : Nat) : Nat := zkT.getD k 99
def zn (k : Nat) : Nat := znT.getD k 0
def zw (k : Nat) : Int := (zwT.getD k 0 : Nat)
theorem zkT_len : zkT.length = 299 := by decide +kernel
theorem znT_len : znT.length = 299 := by decide +kernel
theorem zk_lt {k c : Nat} (h : zk k = c) (hc : c < 99) : k < 299 := by
  rcases Nat.lt_or_ge k 299 with q | q
  · exact q
  · have e : zk k = 99 := by
      unfold zk
      rw [List.getD_eq_getElem?_getD, List.getElem?_eq_none (by rw [zkT_len]; exact q)]
      rfl
    omega
theorem zk_all {P : Nat → Prop} (h : ∀ k, k < 299 → P k) {k c : Nat} (hk : zk k = c) (hc : c < 99) : P k := h k (zk_lt hk hc)
theorem zn_lt (k : Nat) : zn k < 2147483648 := by
  rcases Nat.lt_or_ge k 299 with q | q
  · exact (show ∀ k, k < 299 → zn k < 2147483648 by decide +kernel) k q
  · unfold zn
    rw [List.getD_eq_getElem?_getD, List.getElem?_eq_none (by rw [znT_len]; exact q)]
    decide
def zE (a : Nat → Nat) (cy : Nat → ClassId) (σ : Sto) (k : Nat) : va_E :=
  match zk k with
  | 0 => .inr (0, [.ref (a (k + 1)), .int (zI (σ k 1)), .int (zI (σ k 2))])
  | 1 => .inr (1, [.ref (a (k + 1)), .ref (a (k + 2)), .int (zI (σ k 2)), .int (zI (σ k 3)), .ref (a (k + 3)), .ref (a (k + 5)), .ref (a (k + 7))])
  | 2 => .inr (2, [.int (zI (σ k 0)), .ref (a (k + 1)), .ref (a (k + 2)), .ref (a (k + 3)), .ref (a (k + 4)), .ref (a (k + 7)), .ref (a (k + 8)), .ref (a (k + 9)), .ref (a (k + 12)), .int (zI (σ k 9)), .ref (a (k + 15)), .int (zI (σ k 11)), .ref (a (k + 18)), .ref (a (k + 19))])
  | 3 => .inr (3, [.ref (a (k + 1)), .int (zI (σ k 1))])
  | 4 => .inr (4, [.int (zI (zw k)), .ref (a (k + 1)), .ref (a (k + 2))])
  | 5 => .inr (5, [.ref (a (k + 1)), .ref (a (k + 3)), .ref (a (k + 25)), .int (zI (σ k 3)), .ref (a (k + 47)), .ref (a (k + 269)), .ref (a (k + 279)), .ref (a (k + 281))])
  | 6 => .inr (6, [.ref (a (k + 1)), .ref (a (k + 2)), .int (zI (σ k 2)), .ref (a (k + 3)), .int (zI (σ k 4)), .ref (a (k + 4)), .ref (a (k + 5)), .int (zI (σ k 7)), .int (zI (σ k 8)), .int (zI (σ k 9)), .ref (a (k + 6)), .ref (a (k + 7)), .ref (a (k + 8)), .ref (a (k + 9)), .ref (a (k + 10)), .ref (a (k + 11)), .ref (a (k + 12)), .int (zI (σ k 17)), .ref (a (k + 13))])
  | 7 => .inl (cy 0, zn k, .inl (fun j => zI (σ k j)))
  | 8 => .inl (cy 1, zn k, .inl (fun j => zI (σ k j)))
  | 9 => .inl (cy 2, zn k, .inr (.inl (fun j => zJ (σ k j))))
  | 10 => .inl (cy 3, zn k, .inl (fun j => zI (σ k j)))
  | 11 => .inl (cy 4, zn k, .inr (.inr (.inr (.inr (fun j => some (a (k + 1 + 22 * j)))))))
  | _ => .inl (cy 5, zn k, .inr (.inr (.inr (.inl (fun j => zD (σ k j))))))
theorem zE_0 {a : Nat → Nat} {cy : Nat → ClassId} {σ : Sto} {k : Nat} (h : zk k = 0) : zE a cy σ k = .inr (0, [.ref (a (k + 1)), .int (zI (σ k 1)), .int (zI (σ k 2))]) := by simp [zE, h]
theorem zE_1 {a : Nat → Nat} {cy : Nat → ClassId} {σ : Sto} {k : Nat} (h : zk k = 1) : zE a cy σ k = .inr (1, [.ref (a (k + 1)), .ref (a (k + 2)), .int (zI (σ k 2)), .int (zI (σ k 3)), .ref (a (k + 3)), .ref (a (k + 5)), .ref (a (k + 7))]) := by simp [zE, h]
theorem zE_2 {a : Nat → Nat} {cy : Nat → ClassId} {σ : Sto} {k : Nat} (h : zk k = 2) : zE a cy σ k = .inr (2, [.int (zI (σ k 0)), .ref (a (k + 1)), .ref (a (k + 2)), .ref (a (k + 3)), .ref (a (k + 4)), .ref (a (k + 7)), .ref (a (k + 8)), .ref (a (k + 9)), .ref (a (k + 12)), .int (zI (σ k 9)), .ref (a (k + 15)), .int (zI (σ k 11)), .ref (a (k + 18)), .ref (a (k + 19))]) := by simp [zE, h]
theorem zE_3 {a : Nat → Nat} {cy : Nat → ClassId} {σ : Sto} {k : Nat} (h : zk k = 3) : zE a cy σ k = .inr (3, [.ref (a (k + 1)), .int (zI (σ k 1))]) := by simp [zE, h]
theorem zE_4 {a : Nat → Nat} {cy : Nat → ClassId} {σ : Sto} {k : Nat} (h : zk k = 4) : zE a cy σ k = .inr (4, [.int (zI (zw k)), .ref (a (k + 1)), .ref (a (k + 2))]) := by simp [zE, h]
theorem zE_5 {a : Nat → Nat} {cy : Nat → ClassId} {σ : Sto} {k : Nat} (h : zk k = 5) : zE a cy σ k = .inr (5, [.ref (a (k + 1)), .ref (a (k + 3)), .ref (a (k + 25)), .int (zI (σ k 3)), .ref (a (k + 47)), .ref (a (k + 269)), .ref (a (k + 279)), .ref (a (k + 281))]) := by simp [zE, h]
theorem zE_6 {a : Nat → Nat} {cy : Nat → ClassId} {σ : Sto} {k : Nat} (h : zk k = 6) : zE a cy σ k = .inr (6, [.ref (a (k + 1)), .ref (a (k + 2)), .int (zI (σ k 2)), .ref (a (k + 3)), .int (zI (σ k 4)), .ref (a (k + 4)), .ref (a (k + 5)), .int (zI (σ k 7)), .int (zI (σ k 8)), .int (zI (σ k 9)), .ref (a (k + 6)), .ref (a (k + 7)), .ref (a (k + 8)), .ref (a (k + 9)), .ref (a (k + 10)), .ref (a (k + 11)), .ref (a (k + 12)), .int (zI (σ k 17)), .ref (a (k + 13))]) := by simp [zE, h]
theorem zE_7 {a : Nat → Nat} {cy : Nat → ClassId} {σ : Sto} {k : Nat} (h : zk k = 7) : zE a cy σ k = .inl (cy 0, zn k, .inl (fun j => zI (σ k j))) := by simp [zE, h]
theorem zE_8 {a : Nat → Nat} {cy : Nat → ClassId} {σ : Sto} {k : Nat} (h : zk k = 8) : zE a cy σ k = .inl (cy 1, zn k, .inl (fun j => zI (σ k j))) := by simp [zE, h]
theorem zE_9 {a : Nat → Nat} {cy : Nat → ClassId} {σ : Sto} {k : Nat} (h : zk k = 9) : zE a cy σ k = .inl (cy 2, zn k, .inr (.inl (fun j => zJ (σ k j)))) := by simp [zE, h]
theorem zE_10 {a : Nat → Nat} {cy : Nat → ClassId} {σ : Sto} {k : Nat} (h : zk k = 10) : zE a cy σ k = .inl (cy 3, zn k, .inl (fun j => zI (σ k j))) := by simp [zE, h]
theorem zE_11 {a : Nat → Nat} {cy : Nat → ClassId} {σ : Sto} {k : Nat} (h : zk k = 11) : zE a cy σ k = .inl (cy 4, zn k, .inr (.inr (.inr (.inr (fun j => some (a (k + 1 + 22 * j))))))) := by simp [zE, h]
theorem zE_12 {a : Nat → Nat} {cy : Nat → ClassId} {σ : Sto} {k : Nat} (h : zk k = 12) : zE a cy σ k = .inl (cy 5, zn k, .inr (.inr (.inr (.inl (fun j => zD (σ k j)))))) := by simp [zE, h]
theorem zE_cong {a : Nat → Nat} {cy : Nat → ClassId} {σ τ : Sto} {k : Nat} (h : σ k = τ k) : zE a cy σ k = zE a cy τ k := by simp only [zE, h]
def zW (a : Nat → Nat) (cy : Nat → ClassId) (σ : Sto) : va_W := (List.range 299).map (fun k => (a k, zE a cy σ k))
theorem zW_at {a : Nat → Nat} {cy : Nat → ClassId} {σ : Sto} {k : Nat} (h : k < 299) : (zW a cy σ)[k]? = some (a k, zE a cy σ k) := by simp [zW, h]
theorem zW_some {a : Nat → Nat} {cy : Nat → ClassId} {σ : Sto} {k : Nat} {q : Nat × va_E} (h : (zW a cy σ)[k]? = some q) : k < 299 ∧ q = (a k, zE a cy σ k) := by
  have hl : k < 299 := by
    have := (List.getElem?_eq_some_iff.mp h).1
    simpa [zW] using this
  rw [zW_at hl] at h
  exact ⟨hl, (Option.some.inj h).symm⟩
theorem zW_set {a : Nat → Nat} {cy : Nat → ClassId} {σ τ : Sto} {k : Nat} {e : va_E} (h : k < 299) (he : zE a cy τ k = e) (ho : ∀ j, j ≠ k → τ j = σ j) : (zW a cy σ).set k (a k, e) = zW a cy τ := by
  apply List.ext_getElem?
  intro j
  by_cases hj : j = k
  · subst hj
    rw [List.getElem?_set_self (by simpa [zW] using h), zW_at h, he]
  · rw [List.getElem?_set_ne (Ne.symm hj)]
    rcases Nat.lt_or_ge j 299 with q | q
    · rw [zW_at q, zW_at q, zE_cong (ho j hj)]
    · rw [List.getElem?_eq_none (by simpa [zW] using q), List.getElem?_eq_none (by simpa [zW] using q)]
theorem zu_ne {σ : Sto} {k j : Nat} {x : Int} {i : Nat} (h : i ≠ k) : zu σ k j x i = σ i := by
  funext q
  simp [zu, h]
theorem zc_ne {σ : Sto} {k0 p0 k1 p1 n i : Nat} (h : i ≠ k1) : zc σ k0 p0 k1 p1 n i = σ i := by
  funext q
  simp [zc, h]
/-- what a method may change: the cells of the world, and new ones -/
def zA (a : Nat → Nat) (sz : Nat) : Nat → Prop := fun q => (∃ k : Nat, k < 299 ∧ q = a k) ∨ sz ≤ q
def zInj (a : Nat → Nat) : Prop := ∀ i j : Nat, i < 299 → j < 299 → a i = a j → i = j
theorem zW_D {a : Nat → Nat} {cy : Nat → ClassId} {σ : Sto} {sz : Nat} (h : zInj a) : va_D (zA a sz) (zW a cy σ) := by
  refine ⟨fun i j p q hi hj e => ?_, fun k q hk => ?_⟩
  · obtain ⟨h1, rfl⟩ := zW_some hi
    obtain ⟨h2, rfl⟩ := zW_some hj
    exact h i j h1 h2 e
  · obtain ⟨h1, rfl⟩ := zW_some hk
    exact Or.inl ⟨k, h1, rfl⟩
/-- the char rows hold chars -/
def zO (σ : Sto) : Prop := ∀ k, zk k = 7 → ∀ j, 0 ≤ σ k j ∧ σ k j ≤ 65535
def zty (cy : Nat → ClassId) : List (ClassId × FieldType) := [(cy 0, .char), (cy 1, .int), (cy 2, .long), (cy 3, .boolean), (cy 4, .object RX3), (cy 5, .double)]
def zNF : List (String × Nat × String × String × String × String) := [("InflectionGuesser", 53, "InflectionGuesser$Word", "length", "I", "InflectionGuesser"), ("InflectionGuesser", 74, "InflectionGuesser$Word", "letters", "[C", "InflectionGuesser"), ("InflectionGuesser", 78, "InflectionGuesser$State", "paradigmCount", "I", "InflectionGuesser"), ("InflectionGuesser", 87, "InflectionGuesser$Hypotheses", "isStale", "Z", "InflectionGuesser"), ("InflectionGuesser", 107, "InflectionGuesser$State", "cellCounts", "[I", "InflectionGuesser"), ("InflectionGuesser", 121, "InflectionGuesser$State", "oldEndings", "LInflectionGuesser$WordTable;", "InflectionGuesser"), ("InflectionGuesser", 131, "InflectionGuesser$State", "newEndings", "LInflectionGuesser$WordTable;", "InflectionGuesser"), ("InflectionGuesser", 143, "InflectionGuesser$State", "cellKinds", "[I", "InflectionGuesser"), ("InflectionGuesser", 146, "InflectionGuesser$State", "cellParameters", "[I", "InflectionGuesser"), ("InflectionGuesser", 149, "InflectionGuesser$WordTable", "lengths", "[I", "InflectionGuesser"), ("InflectionGuesser", 159, "InflectionGuesser$State", "conditionKinds", "[I", "InflectionGuesser"), ("InflectionGuesser", 162, "InflectionGuesser$State", "conditionParameters", "[I", "InflectionGuesser"), ("InflectionGuesser", 165, "InflectionGuesser$State", "conditionEnds", "LInflectionGuesser$WordTable;", "InflectionGuesser"), ("InflectionGuesser", 194, "InflectionGuesser$State", "words", "LInflectionGuesser$WordTable;", "InflectionGuesser"), ("InflectionGuesser", 197, "InflectionGuesser$State", "wordCount", "I", "InflectionGuesser"), ("InflectionGuesser", 235, "InflectionGuesser$Hypotheses", "count", "I", "InflectionGuesser"), ("InflectionGuesser", 241, "InflectionGuesser$Hypotheses", "keys", "[J", "InflectionGuesser"), ("InflectionGuesser", 268, "InflectionGuesser$Hypotheses", "explainedWords", "[I", "InflectionGuesser"), ("InflectionGuesser", 278, "InflectionGuesser$State", "lexemeCount", "I", "InflectionGuesser"), ("InflectionGuesser", 307, "InflectionGuesser$State", "lexemes", "[J", "InflectionGuesser"), ("InflectionGuesser", 320, "InflectionGuesser$State", "exceptions", "LInflectionGuesser$WordTable;", "InflectionGuesser"), ("InflectionGuesser", 342, "InflectionGuesser$History", "count", "I", "InflectionGuesser"), ("InflectionGuesser$Hypotheses", 46, "InflectionGuesser$State", "paradigmCount", "I", "InflectionGuesser"), ("InflectionGuesser$Hypotheses", 51, "InflectionGuesser$State", "cellCounts", "[I", "InflectionGuesser"), ("InflectionGuesser$Hypotheses", 54, "InflectionGuesser$State", "wordCount", "I", "InflectionGuesser"), ("InflectionGuesser$Hypotheses", 74, "InflectionGuesser$State", "words", "LInflectionGuesser$WordTable;", "InflectionGuesser"), ("InflectionGuesser$Hypotheses", 81, "InflectionGuesser$State", "newEndings", "LInflectionGuesser$WordTable;", "InflectionGuesser"), ("InflectionGuesser$Hypotheses", 88, "InflectionGuesser$WordTable", "lengths", "[I", "InflectionGuesser"), ("InflectionGuesser$Hypotheses", 95, "InflectionGuesser$State", "cellKinds", "[I", "InflectionGuesser"), ("InflectionGuesser$Hypotheses", 98, "InflectionGuesser$State", "oldEndings", "LInflectionGuesser$WordTable;", "InflectionGuesser"), ("InflectionGuesser$Hypotheses", 113, "InflectionGuesser$Word", "letters", "[C", "InflectionGuesser"), ("InflectionGuesser$Hypotheses", 117, "InflectionGuesser", "VOWELS", "[C", "InflectionGuesser"), ("InflectionGuesser$Hypotheses", 120, "InflectionGuesser$State", "cellParameters", "[I", "InflectionGuesser"), ("InflectionGuesser$Hypotheses", 134, "InflectionGuesser$Word", "length", "I", "InflectionGuesser"), ("InflectionGuesser$Key", 11, "InflectionGuesser$Word", "length", "I", "InflectionGuesser"), ("InflectionGuesser$Key", 17, "InflectionGuesser$Word", "letters", "[C", "InflectionGuesser"), ("InflectionGuesser$State", 76, "InflectionGuesser$WordTable", "lengths", "[I", "InflectionGuesser"), ("InflectionGuesser$State", 98, "InflectionGuesser$Word", "length", "I", "InflectionGuesser"), ("InflectionGuesser$State", 113, "InflectionGuesser$Word", "letters", "[C", "InflectionGuesser"), ("InflectionGuesser$State", 125, "InflectionGuesser", "VOWELS", "[C", "InflectionGuesser"), ("InflectionGuesser$WordTable", 27, "InflectionGuesser$Word", "letters", "[C", "InflectionGuesser"), ("InflectionGuesser$WordTable", 30, "InflectionGuesser$Word", "length", "I", "InflectionGuesser")]
def zNM : List (String × Nat × MethodName × String) := [("InflectionGuesser", 11, ⟨"InflectionGuesser$Word", "<init>", "()V"⟩, "InflectionGuesser"), ("InflectionGuesser", 18, ⟨"InflectionGuesser$State", "<init>", "()V"⟩, "InflectionGuesser"), ("InflectionGuesser", 35, ⟨"InflectionGuesser$Hypotheses", "<init>", "()V"⟩, "InflectionGuesser"), ("InflectionGuesser$History", 17, ⟨"InflectionGuesser$State", "<init>", "()V"⟩, "InflectionGuesser"), ("InflectionGuesser$Hypotheses", 21, ⟨"InflectionGuesser$Word", "<init>", "()V"⟩, "InflectionGuesser"), ("InflectionGuesser$Hypotheses", 67, ⟨"InflectionGuesser", "cellSlot", "(II)I"⟩, "InflectionGuesser"), ("InflectionGuesser$State", 72, ⟨"InflectionGuesser", "cellSlot", "(II)I"⟩, "InflectionGuesser"), ("InflectionGuesser$Word", 25, ⟨"InflectionGuesser", "isVowel", "(C)Z"⟩, "InflectionGuesser")]
/-- the words of nest mates -/
def zNw (U : State) : Prop := (∀ q ∈ zNF, va_Nw (.fieldLinkNest q.1 q.2.1 q.2.2.1 q.2.2.2.1 q.2.2.2.2.1 q.2.2.2.2.2) U) ∧ ∀ q ∈ zNM, va_Nw (.methodLinkNest q.1 q.2.1 q.2.2.1 q.2.2.2) U
theorem zNw.warm {s U : State} (hW : s.WarmedH U.vm) (h : zNw s) : zNw U := ⟨fun q hq => (h.1 q hq).warmF hW, fun q hq => (h.2 q hq).warmM hW⟩
/-- the vowels' row, a static of InflectionGuesser -/
def zvo (j : Nat) : Int := ([97, 101, 105, 111, 117] : List Int).getD j 0
def zVo (tV : Nat) (A : Nat → Prop) (U : State) (H : Heap) : Prop := va_Z RX6 "VOWELS" "[C" (.ref tV) A U H ∧ va_T .char tV 5 (fun j => .int (zI (zvo j))) A U H

def zTx : List (Nat × String) := [(48, "the letter is not from a to z"), (59, "the input is full"), (71, "the input has no such letter"), (81, "there are 6 paradigms"), (103, "the kind or the parameter is out of range"), (105, "an ending has more than 4 letters"), (111, "the paradigm has 6 cells"), (136, "the paradigm has no cell"), (152, "what is not 0 to 2"), (157, "the input has no letter or more than 4"), (176, "the input is not a stem"), (186, "there is no form, or it has more than 14 letters"), (192, "the input has fewer than 2 letters"), (204, "the list has 16 words"), (212, "the word has no such letter"), (230, "the word ends in no suffix or new ending"), (260, "what is not 0 to 3"), (262, "the stem has no such letter"), (281, "there are 10 lexemes"), (287, "there is a lexeme with this paradigm and stem"), (326, "there is no exception"), (340, "there is no such cell"), (343, "the history is empty"), (354, "nothing was saved"), (359, "there is no such paradigm"), (361, "there is no such word"), (363, "there is no such hypothesis"), (365, "there is no such lexeme")]
/-- the texts of the exceptions -/
def zEx (i : Nat) : String := if i = 0 then "java/lang/IndexOutOfBoundsException" else if i = 1 then "java/lang/IllegalArgumentException" else if i = 2 then "java/lang/IllegalStateException" else "java/util/NoSuchElementException"
def zCa (U : State) : Prop := (∀ i, i < 4 → va_Nw (.castable (zEx i) (zEx i)) U) ∧ ∀ i, i < 4 → ∀ j, j < 4 → i ≠ j → va_Nc (zEx i) (zEx j) U
def zDc (U : State) : Prop := ∀ Y ∈ ["java/lang/RuntimeException", "java/lang/Exception", Bundle.tN], va_Nw (.declares (Bundle.initS Y)) U
def zSt (sa : Nat → Nat) (U : State) : Prop := ((∀ q ∈ zTx, vk_R RX6 q.1 q.2 (sa q.1) U) ∧ zDc U) ∧ zCa U
theorem zSt.warm {sa : Nat → Nat} {s U : State} (hW : s.WarmedH U.vm) (h : zSt sa s) : zSt sa U := ⟨⟨fun q hq => (h.1.1 q hq).warm hW, fun Y hY => (h.1.2 Y hY).warmD hW⟩, fun i hi => (h.2.1 i hi).warmC hW, fun i hi j hj n => (h.2.2 i hi j hj n).moved hW.alike⟩
/-- two statics of Throwable -/
def zTh (A : Nat → Prop) (U : State) (H : Heap) : Prop := vx_Zq Bundle.tN "UNASSIGNED_STACK" Bundle.steD A U H ∧ vx_Zq Bundle.tN "SUPPRESSED_SENTINEL" Bundle.listD A U H
