def iI (z : Int) : Int32 := Int32.ofInt z
theorem iI_n (n : Nat) : nI n = iI n := (Int32.ofInt_eq_ofNat).symm
theorem iI_add (a b : Int) : iI a + iI b = iI (a + b) := (Int32.ofInt_add a b).symm
theorem iI_sub (a b : Int) : iI a - iI b = iI (a - b) := (Int32.ofInt_sub a b).symm
theorem iI_mul (a b : Int) : iI a * iI b = iI (a * b) := (Int32.ofInt_mul a b).symm
theorem iI_toInt {z : Int} (h : -100000 ≤ z ∧ z ≤ 100000) : (iI z).toInt = z := Int32.toInt_ofInt_of_le (by omega) (by omega)
theorem md_least_ge (x y : Int32) : 0 ≤ md_least x y ↔ 0 ≤ x ∧ 0 ≤ y := by
  unfold md_least
  simp only [Int32.le_iff_toInt_le]
  split <;> omega
theorem md_most_le (x y : Int32) : md_most x y ≤ 0 ↔ x ≤ 0 ∧ y ≤ 0 := by
  unfold md_most
  simp only [Int32.le_iff_toInt_le]
  split <;> omega
theorem md_o_v (a : Nat) : md_o (nI a) = iI (2 * a + 1) := by
  rw [md_o, iI_n, show (2 : Int32) = iI 2 from rfl, show (1 : Int32) = iI 1 from rfl, iI_mul, iI_add]
theorem md_side_v (a b u v : Nat) (z w : Int) : md_side (md_o (nI a)) (md_o (nI b)) (md_o (nI u)) (md_o (nI v)) (iI z) (iI w) = iI ((2 * u + 1 - (2 * a + 1)) * (w - (2 * b + 1)) - (2 * v + 1 - (2 * b + 1)) * (z - (2 * a + 1))) := by
  simp only [md_side, md_o_v, iI_sub, iI_mul]
theorem md_2w (w : Nat) : 2 * nI w = iI (2 * w) := by rw [iI_n, show (2 : Int32) = iI 2 from rfl, iI_mul]
theorem md_2w2 (w : Nat) : 2 * nI w + 2 = iI (2 * w + 2) := by rw [md_2w, show (2 : Int32) = iI 2 from rfl, iI_add]
theorem md_e1 (P E : Int) : (2 * P) * (2 * E - 1) = 4 * (P * E) - 2 * P := by grind
theorem md_e2 (P E : Int) : (2 * P) * (2 * E + 1) = 4 * (P * E) + 2 * P := by grind
theorem iI_ge0 {z : Int} (h : -100000 ≤ z ∧ z ≤ 100000) : 0 ≤ iI z ↔ 0 ≤ z := by rw [Int32.le_iff_toInt_le, iI_toInt h, Int32.toInt_zero]
theorem iI_le0 {z : Int} (h : -100000 ≤ z ∧ z ≤ 100000) : iI z ≤ 0 ↔ z ≤ 0 := by rw [Int32.le_iff_toInt_le, iI_toInt h, Int32.toInt_zero]
theorem md_cross_int {a b u v wx wy : Nat} {P Q X E : Int} (ha : a < 16) (hb : b < 16) (hu : u < 16) (hv : v < 16) (hx : wx < 16) (hy : wy < 16) (x1 : a ≤ wx ∨ u ≤ wx) (x2 : wx ≤ a ∨ wx ≤ u) (y1 : b ≤ wy ∨ v ≤ wy) (y2 : wy ≤ b ∨ wy ≤ v)
    (hP : (u : Int) - a = P) (hQ : (v : Int) - b = Q) (hX : (wx : Int) - a = X) (hE : (wy : Int) - b = E) (b1 : -225 ≤ P * E ∧ P * E ≤ 225) (b2 : -225 ≤ Q * X ∧ Q * X ≤ 225) :
    md_cross (nI a) (nI b) (nI u) (nI v) (nI wx) (nI wy) = true ↔
      ¬ (0 ≤ 4 * (P * E) - 2 * P - (4 * (Q * X) - 2 * Q) ∧ 0 ≤ 4 * (P * E) - 2 * P - (4 * (Q * X) + 2 * Q) ∧ 0 ≤ 4 * (P * E) + 2 * P - (4 * (Q * X) - 2 * Q) ∧ 0 ≤ 4 * (P * E) + 2 * P - (4 * (Q * X) + 2 * Q)) ∧
      ¬ (4 * (P * E) - 2 * P - (4 * (Q * X) - 2 * Q) ≤ 0 ∧ 4 * (P * E) - 2 * P - (4 * (Q * X) + 2 * Q) ≤ 0 ∧ 4 * (P * E) + 2 * P - (4 * (Q * X) - 2 * Q) ≤ 0 ∧ 4 * (P * E) + 2 * P - (4 * (Q * X) + 2 * Q) ≤ 0) := by
  have s1 : md_side (md_o (nI a)) (md_o (nI b)) (md_o (nI u)) (md_o (nI v)) (2 * nI wx) (2 * nI wy) = iI (4 * (P * E) - 2 * P - (4 * (Q * X) - 2 * Q)) := by
    rw [md_2w, md_2w, md_side_v, show (2 * (u : Int) + 1 - (2 * a + 1)) = 2 * P by omega, show (2 * (v : Int) + 1 - (2 * b + 1)) = 2 * Q by omega, show (2 * (wy : Int) - (2 * b + 1)) = 2 * E - 1 by omega, show (2 * (wx : Int) - (2 * a + 1)) = 2 * X - 1 by omega, md_e1, md_e1]
  have s2 : md_side (md_o (nI a)) (md_o (nI b)) (md_o (nI u)) (md_o (nI v)) (2 * nI wx + 2) (2 * nI wy) = iI (4 * (P * E) - 2 * P - (4 * (Q * X) + 2 * Q)) := by
    rw [md_2w2, md_2w, md_side_v, show (2 * (u : Int) + 1 - (2 * a + 1)) = 2 * P by omega, show (2 * (v : Int) + 1 - (2 * b + 1)) = 2 * Q by omega, show (2 * (wy : Int) - (2 * b + 1)) = 2 * E - 1 by omega, show (2 * (wx : Int) + 2 - (2 * a + 1)) = 2 * X + 1 by omega, md_e1, md_e2]
  have s3 : md_side (md_o (nI a)) (md_o (nI b)) (md_o (nI u)) (md_o (nI v)) (2 * nI wx) (2 * nI wy + 2) = iI (4 * (P * E) + 2 * P - (4 * (Q * X) - 2 * Q)) := by
    rw [md_2w2, md_2w, md_side_v, show (2 * (u : Int) + 1 - (2 * a + 1)) = 2 * P by omega, show (2 * (v : Int) + 1 - (2 * b + 1)) = 2 * Q by omega, show (2 * (wy : Int) + 2 - (2 * b + 1)) = 2 * E + 1 by omega, show (2 * (wx : Int) - (2 * a + 1)) = 2 * X - 1 by omega, md_e1, md_e2]
  have s4 : md_side (md_o (nI a)) (md_o (nI b)) (md_o (nI u)) (md_o (nI v)) (2 * nI wx + 2) (2 * nI wy + 2) = iI (4 * (P * E) + 2 * P - (4 * (Q * X) + 2 * Q)) := by
    rw [md_2w2, md_2w2, md_side_v, show (2 * (u : Int) + 1 - (2 * a + 1)) = 2 * P by omega, show (2 * (v : Int) + 1 - (2 * b + 1)) = 2 * Q by omega, show (2 * (wy : Int) + 2 - (2 * b + 1)) = 2 * E + 1 by omega, show (2 * (wx : Int) + 2 - (2 * a + 1)) = 2 * X + 1 by omega, md_e2, md_e2]
  have c1 : ¬ md_most (md_o (nI a)) (md_o (nI u)) ≤ 2 * nI wx := by
    rw [md_o_v, md_o_v, md_2w, md_most, Int32.le_iff_toInt_le, iI_toInt (z := 2 * wx) (by omega)]
    split <;> rename_i h
    · rw [Int32.le_iff_toInt_le, iI_toInt (by omega), iI_toInt (by omega)] at h; rw [iI_toInt (by omega)]; omega
    · rw [Int32.le_iff_toInt_le, iI_toInt (by omega), iI_toInt (by omega)] at h; rw [iI_toInt (by omega)]; omega
  have c2 : ¬ 2 * nI wx + 2 ≤ md_least (md_o (nI a)) (md_o (nI u)) := by
    rw [md_o_v, md_o_v, md_2w2, md_least, Int32.le_iff_toInt_le, iI_toInt (z := 2 * wx + 2) (by omega)]
    split <;> rename_i h
    · rw [Int32.le_iff_toInt_le, iI_toInt (by omega), iI_toInt (by omega)] at h; rw [iI_toInt (by omega)]; omega
    · rw [Int32.le_iff_toInt_le, iI_toInt (by omega), iI_toInt (by omega)] at h; rw [iI_toInt (by omega)]; omega
  have c3 : ¬ md_most (md_o (nI b)) (md_o (nI v)) ≤ 2 * nI wy := by
    rw [md_o_v, md_o_v, md_2w, md_most, Int32.le_iff_toInt_le, iI_toInt (z := 2 * wy) (by omega)]
    split <;> rename_i h
    · rw [Int32.le_iff_toInt_le, iI_toInt (by omega), iI_toInt (by omega)] at h; rw [iI_toInt (by omega)]; omega
    · rw [Int32.le_iff_toInt_le, iI_toInt (by omega), iI_toInt (by omega)] at h; rw [iI_toInt (by omega)]; omega
  have c4 : md_least (md_o (nI b)) (md_o (nI v)) < 2 * nI wy + 2 := by
    rw [md_o_v, md_o_v, md_2w2, md_least, Int32.lt_iff_toInt_lt, iI_toInt (z := 2 * wy + 2) (by omega)]
    split <;> rename_i h
    · rw [Int32.le_iff_toInt_le, iI_toInt (by omega), iI_toInt (by omega)] at h; rw [iI_toInt (by omega)]; omega
    · rw [Int32.le_iff_toInt_le, iI_toInt (by omega), iI_toInt (by omega)] at h; rw [iI_toInt (by omega)]; omega
  have lo : 0 ≤ md_low (nI a) (nI b) (nI u) (nI v) (nI wx) (nI wy) ↔ (0 ≤ 4 * (P * E) - 2 * P - (4 * (Q * X) - 2 * Q) ∧ 0 ≤ 4 * (P * E) - 2 * P - (4 * (Q * X) + 2 * Q) ∧ 0 ≤ 4 * (P * E) + 2 * P - (4 * (Q * X) - 2 * Q) ∧ 0 ≤ 4 * (P * E) + 2 * P - (4 * (Q * X) + 2 * Q)) := by
    rw [md_low, s1, s2, s3, s4, md_least_ge, md_least_ge, md_least_ge, iI_ge0 (by omega), iI_ge0 (by omega), iI_ge0 (by omega), iI_ge0 (by omega), and_assoc]
  have hi : md_high (nI a) (nI b) (nI u) (nI v) (nI wx) (nI wy) ≤ 0 ↔ (4 * (P * E) - 2 * P - (4 * (Q * X) - 2 * Q) ≤ 0 ∧ 4 * (P * E) - 2 * P - (4 * (Q * X) + 2 * Q) ≤ 0 ∧ 4 * (P * E) + 2 * P - (4 * (Q * X) - 2 * Q) ≤ 0 ∧ 4 * (P * E) + 2 * P - (4 * (Q * X) + 2 * Q) ≤ 0) := by
    rw [md_high, s1, s2, s3, s4, md_most_le, md_most_le, md_most_le, iI_le0 (by omega), iI_le0 (by omega), iI_le0 (by omega), iI_le0 (by omega), and_assoc]
  rw [← lo, ← hi, md_cross]
  simp only [decide_eq_false c1, decide_eq_false c2, decide_eq_false c3, decide_eq_true c4, Bool.not_false, Bool.true_and, Bool.and_eq_true, Bool.not_eq_true', decide_eq_false_iff_not]
def cr (A B i j : Nat) : Prop := 2 * (A * j) < 2 * (B * i) + A + B ∧ 2 * (B * i) < 2 * (A * j) + A + B
theorem md_cross_cr {a b u v wx wy : Nat} (ha : a < 16) (hb : b < 16) (hu : u < 16) (hv : v < 16) (x1 : lo2 a u ≤ wx) (x2 : wx ≤ hi2 a u) (y1 : lo2 b v ≤ wy) (y2 : wy ≤ hi2 b v) :
    md_cross (nI a) (nI b) (nI u) (nI v) (nI wx) (nI wy) = true ↔ cr (nd a u) (nd b v) (nd a wx) (nd b wy) := by
  have q1 : nd a u * nd b wy ≤ 15 * 15 := Nat.mul_le_mul (by unfold nd; omega) (by unfold lo2 hi2 at *; unfold nd; split at y1 <;> split at y2 <;> omega)
  have q2 : nd b v * nd a wx ≤ 15 * 15 := Nat.mul_le_mul (by unfold nd; omega) (by unfold lo2 hi2 at *; unfold nd; split at x1 <;> split at x2 <;> omega)
  have p1 : (((nd a u) * (nd b wy) : Nat) : Int) = (nd a u : Int) * (nd b wy : Int) := Int.natCast_mul ..
  have p2 : (((nd b v) * (nd a wx) : Nat) : Int) = (nd b v : Int) * (nd a wx : Int) := Int.natCast_mul ..
  have hx : wx < 16 := by unfold hi2 at x2; split at x2 <;> omega
  have hy : wy < 16 := by unfold hi2 at y2; split at y2 <;> omega
  have X1 : a ≤ wx ∨ u ≤ wx := by unfold lo2 at x1; split at x1 <;> omega
  have X2 : wx ≤ a ∨ wx ≤ u := by unfold hi2 at x2; split at x2 <;> omega
  have Y1 : b ≤ wy ∨ v ≤ wy := by unfold lo2 at y1; split at y1 <;> omega
  have Y2 : wy ≤ b ∨ wy ≤ v := by unfold hi2 at y2; split at y2 <;> omega
  unfold cr
  by_cases h1 : a ≤ u
  · have hP : (u : Int) - a = (nd a u : Int) := by unfold nd; omega
    have hX : (wx : Int) - a = (nd a wx : Int) := by unfold nd; omega
    by_cases h2 : b ≤ v
    · have hQ : (v : Int) - b = (nd b v : Int) := by unfold nd; omega
      have hE : (wy : Int) - b = (nd b wy : Int) := by unfold nd; omega
      rw [md_cross_int ha hb hu hv hx hy X1 X2 Y1 Y2 hP hQ hX hE (by omega) (by omega)]
      omega
    · have hQ : (v : Int) - b = -(nd b v : Int) := by unfold nd; omega
      have hE : (wy : Int) - b = -(nd b wy : Int) := by unfold nd; omega
      rw [md_cross_int ha hb hu hv hx hy X1 X2 Y1 Y2 hP hQ hX hE (by rw [Int.mul_neg]; omega) (by rw [Int.neg_mul]; omega), Int.mul_neg, Int.neg_mul]
      omega
  · have hP : (u : Int) - a = -(nd a u : Int) := by unfold nd; omega
    have hX : (wx : Int) - a = -(nd a wx : Int) := by unfold nd; omega
    by_cases h2 : b ≤ v
    · have hQ : (v : Int) - b = (nd b v : Int) := by unfold nd; omega
      have hE : (wy : Int) - b = (nd b wy : Int) := by unfold nd; omega
      rw [md_cross_int ha hb hu hv hx hy X1 X2 Y1 Y2 hP hQ hX hE (by rw [Int.neg_mul]; omega) (by rw [Int.mul_neg]; omega), Int.mul_neg (nd b v : Int) (nd a wx : Int), Int.neg_mul]
      omega
    · have hQ : (v : Int) - b = -(nd b v : Int) := by unfold nd; omega
      have hE : (wy : Int) - b = -(nd b wy : Int) := by unfold nd; omega
      rw [md_cross_int ha hb hu hv hx hy X1 X2 Y1 Y2 hP hQ hX hE (by rw [Int.neg_mul_neg]; omega) (by rw [Int.neg_mul_neg]; omega), Int.neg_mul_neg, Int.neg_mul_neg]
      omega
theorem cr_2 (j A : Nat) : (2 * j + 1) * A = 2 * (A * j) + A := by rw [Nat.add_mul, Nat.mul_assoc, Nat.mul_comm j A, Nat.one_mul]
theorem cr_iff {A B i j : Nat} : cr A B i j ↔ 2 * (A * j) < 2 * (B * i) + A + B ∧ 2 * (B * i) < 2 * (A * j) + A + B := Iff.rfl
theorem cr_ge {A j k : Nat} (h : j + 1 ≤ k) : A * j + A ≤ A * k := by
  have := Nat.mul_le_mul_left A h
  rw [Nat.mul_add, Nat.mul_one] at this; exact this
theorem cr_line {A B : Nat} (hAB : 0 < A + B) (Wd Ht : Nat) (f : Nat → Int32) (a b : Nat) (sx sy : Int32) : ∀ (n i j : Nat), i ≤ A → j ≤ B → cr A B i j → (A - i) + (B - j) + 1 ≤ n →
    (sn_line Wd Ht f a b A B sx sy n i j = true ↔ ∀ i' j', i ≤ i' → i' ≤ A → j ≤ j' → j' ≤ B → cr A B i' j' → sn_wall Wd Ht f (nI a + nI i' * sx) (nI b + nI j' * sy) = false) := by
  intro n
  induction n with
  | zero => exact fun i j _ _ _ h => absurd h (by omega)
  | succ n ih =>
    intro i j hi hj hc hn
    rw [sn_line]
    cases hw : sn_wall Wd Ht f (nI a + nI i * sx) (nI b + nI j * sy) with
    | true =>
      rw [if_pos rfl]
      exact ⟨fun h => absurd h (by decide), fun h => by rw [h i j (Nat.le_refl _) hi (Nat.le_refl _) hj hc] at hw; exact absurd hw (by decide)⟩
    | false =>
      rw [if_neg (by decide)]
      by_cases he : i = A ∧ j = B
      · rw [if_pos he]
        refine ⟨fun _ i' j' h1 h2 h3 h4 _ => ?_, fun _ => rfl⟩
        obtain rfl : i' = i := by omega
        obtain rfl : j' = j := by omega
        exact hw
      · rw [if_neg he]
        have hc0 := hc
        have e1 := cr_2 j A
        have e2 := cr_2 i B
        have m1 : i + 1 ≤ A → B * i + B ≤ B * A := cr_ge
        have m2 : j + 1 ≤ B → A * j + A ≤ A * B := cr_ge
        have m3 : A * B = B * A := Nat.mul_comm A B
        have s1 : A * (j + 1) = A * j + A := by rw [Nat.mul_add, Nat.mul_one]
        have s2 : B * (i + 1) = B * i + B := by rw [Nat.mul_add, Nat.mul_one]
        rw [cr_iff] at hc0
        rcases Nat.lt_trichotomy ((2 * i + 1) * B) ((2 * j + 1) * A) with h | h | h
        · rw [if_neg (by omega), if_pos h]
          have hA : i + 1 ≤ A := by
            rcases Nat.lt_or_ge i A with q | q
            · exact q
            · obtain rfl : i = A := by omega
              omega
          rw [ih (i + 1) j hA hj (cr_iff.mpr (by omega)) (by omega)]
          refine ⟨fun H i' j' h1 h2 h3 h4 h5 => ?_, fun H i' j' h1 h2 h3 h4 h5 => H i' j' (by omega) h2 h3 h4 h5⟩
          rcases Nat.lt_or_ge i i' with q | q
          · exact H i' j' q h2 h3 h4 h5
          · obtain rfl : i' = i := by omega
            rcases Nat.lt_or_ge j j' with q2 | q2
            · have := cr_ge (A := A) (j := j) (k := j') q2
              rw [cr_iff] at h5
              exact absurd h5.1 (by omega)
            · obtain rfl : j' = j := by omega
              exact hw
        · have hA0 : 0 < A := by
            rcases Nat.eq_zero_or_pos A with q | q
            · subst q; rw [Nat.zero_mul] at e1; omega
            · exact q
          have hB0 : 0 < B := by
            rcases Nat.eq_zero_or_pos B with q | q
            · subst q; rw [Nat.zero_mul] at e2; omega
            · exact q
          rw [if_neg (by omega), if_neg (by omega)]
          have hA : i + 1 ≤ A := by
            rcases Nat.lt_or_ge i A with q | q
            · exact q
            · obtain rfl : i = A := by omega
              omega
          have hB : j + 1 ≤ B := by
            rcases Nat.lt_or_ge j B with q | q
            · exact q
            · obtain rfl : j = B := by omega
              omega
          rw [ih (i + 1) (j + 1) hA hB (cr_iff.mpr (by omega)) (by omega)]
          refine ⟨fun H i' j' h1 h2 h3 h4 h5 => ?_, fun H i' j' h1 h2 h3 h4 h5 => H i' j' (by omega) h2 (by omega) h4 h5⟩
          rw [cr_iff] at h5
          rcases Nat.lt_or_ge i i' with q | q
          · rcases Nat.lt_or_ge j j' with q2 | q2
            · exact H i' j' q h2 q2 h4 (cr_iff.mpr h5)
            · obtain rfl : j' = j := by omega
              have := cr_ge (A := B) (j := i) (k := i') q
              exact absurd h5.2 (by omega)
          · obtain rfl : i' = i := by omega
            rcases Nat.lt_or_ge j j' with q2 | q2
            · have := cr_ge (A := A) (j := j) (k := j') q2
              exact absurd h5.1 (by omega)
            · obtain rfl : j' = j := by omega
              exact hw
        · rw [if_pos h, if_neg (by omega)]
          have hB : j + 1 ≤ B := by
            rcases Nat.lt_or_ge j B with q | q
            · exact q
            · obtain rfl : j = B := by omega
              omega
          rw [ih i (j + 1) hi hB (cr_iff.mpr (by omega)) (by omega)]
          refine ⟨fun H i' j' h1 h2 h3 h4 h5 => ?_, fun H i' j' h1 h2 h3 h4 h5 => H i' j' h1 h2 (by omega) h4 h5⟩
          rcases Nat.lt_or_ge j j' with q | q
          · exact H i' j' h1 h2 q h4 h5
          · obtain rfl : j' = j := by omega
            rcases Nat.lt_or_ge i i' with q2 | q2
            · have := cr_ge (A := B) (j := i) (k := i') q2
              rw [cr_iff] at h5
              exact absurd h5.2 (by omega)
            · obtain rfl : i' = i := by omega
              exact hw
theorem md_si_all (g : Nat → Int32) (a b u v wy : Nat) : ∀ (n wx : Nat) (s : Bool), md_si g a b u v wy n wx s = true ↔ s = true ∧ ∀ k, k < n → (md_free g (wx + k) wy = true ∨ md_cross (nI a) (nI b) (nI u) (nI v) (nI (wx + k)) (nI wy) = false) := by
  intro n
  induction n with
  | zero => exact fun wx s => ⟨fun h => ⟨h, fun k hk => absurd hk (Nat.not_lt_zero k)⟩, fun h => h.1⟩
  | succ n ih =>
    intro wx s
    rw [md_si]
    cases s with
    | false => rw [if_neg (by decide)]; exact ⟨fun h => absurd h (by decide), fun h => absurd h.1 (by decide)⟩
    | true =>
      rw [if_pos rfl, ih]
      simp only [Bool.or_eq_true, Bool.not_eq_true', true_and]
      constructor
      · rintro ⟨h1, h2⟩ k hk
        cases k with
        | zero => exact h1
        | succ k => have := h2 k (by omega); rwa [show wx + 1 + k = wx + (k + 1) by omega] at this
      · intro h
        exact ⟨h 0 (by omega), fun k hk => by rw [show wx + 1 + k = wx + (k + 1) by omega]; exact h (k + 1) (by omega)⟩
theorem md_so_all (g : Nat → Int32) (a b u v : Nat) : ∀ (n wy : Nat) (s : Bool), md_so g a b u v n wy s = true ↔ s = true ∧ ∀ k, k < n → ∀ j, j < hi2 a u - lo2 a u + 1 → (md_free g (lo2 a u + j) (wy + k) = true ∨ md_cross (nI a) (nI b) (nI u) (nI v) (nI (lo2 a u + j)) (nI (wy + k)) = false) := by
  intro n
  induction n with
  | zero => exact fun wx s => ⟨fun h => ⟨h, fun k hk => absurd hk (Nat.not_lt_zero k)⟩, fun h => h.1⟩
  | succ n ih =>
    intro wy s
    rw [md_so]
    cases s with
    | false => rw [if_neg (by decide)]; exact ⟨fun h => absurd h (by decide), fun h => absurd h.1 (by decide)⟩
    | true =>
      rw [if_pos rfl, ih, md_si_all]
      simp only [true_and]
      constructor
      · rintro ⟨h1, h2⟩ k hk
        cases k with
        | zero => exact h1
        | succ k => have := h2 k (by omega); rwa [show wy + 1 + k = wy + (k + 1) by omega] at this
      · intro h
        exact ⟨h 0 (by omega), fun k hk => by rw [show wy + 1 + k = wy + (k + 1) by omega]; exact h (k + 1) (by omega)⟩
theorem md_sees_all (g : Nat → Int32) (a b u v : Nat) : md_sees g a b u v = true ↔ (md_free g a b = true ∧ md_free g u v = true) ∧ ∀ wx wy, lo2 a u ≤ wx → wx ≤ hi2 a u → lo2 b v ≤ wy → wy ≤ hi2 b v → (md_free g wx wy = true ∨ md_cross (nI a) (nI b) (nI u) (nI v) (nI wx) (nI wy) = false) := by
  rw [md_sees, md_so_all, Bool.and_eq_true]
  refine and_congr_right fun _ => ⟨fun h wx wy h1 h2 h3 h4 => ?_, fun h k hk j hj => h _ _ (by omega) (by have := lo2_le a u; omega) (by omega) (by have := lo2_le b v; omega)⟩
  have := h (wy - lo2 b v) (by omega) (wx - lo2 a u) (by omega)
  rwa [show lo2 a u + (wx - lo2 a u) = wx by omega, show lo2 b v + (wy - lo2 b v) = wy by omega] at this
theorem sn_wall_nI {Wd Ht x y : Nat} (f : Nat → Int32) (hW : Wd ≤ 16) (hH : Ht ≤ 16) (hx : x < Wd) (hy : y < Ht) : sn_wall Wd Ht f (nI x) (nI y) = decide (¬ f (y * 16 + x) = 0) := by
  rw [sn_wall, sn_in_nI hW hH hx hy, sn_cell, nI_clamp (by omega)]; rfl
def cx (a u i : Nat) : Nat := if a ≤ u then a + i else a - i
theorem cx_eq {a u i : Nat} (hi : i ≤ nd a u) : nI a + nI i * sgn a u = nI (cx a u i) := by
  unfold sgn cx
  by_cases h : a ≤ u
  · rw [if_pos h, if_pos h, Int32.mul_one, nI_add]
  · rw [if_neg h, if_neg h, ← pk_sub (by unfold nd at hi; omega), Int32.sub_eq_add_neg, Int32.mul_neg, Int32.mul_one]
theorem sn_sees {Wd Ht a b u v : Nat} {f g : Nat → Int32} (hW : Wd ≤ 16) (hH : Ht ≤ 16) (ha : a < Wd) (hb : b < Ht) (hu : u < Wd) (hv : v < Ht) (hw : ∀ x y, x < Wd → y < Ht → (f (y * 16 + x) = 0 ↔ g (y * 16 + x) = 0)) : sn_free Wd Ht f a b u v = md_sees g a b u v := by
  have hwf : ∀ x y, x < Wd → y < Ht → (sn_wall Wd Ht f (nI x) (nI y) = false ↔ md_free g x y = true) := fun x y hx hy => by
    rw [sn_wall_nI f hW hH hx hy, md_free]; simp [hw x y hx hy]
  rw [Bool.eq_iff_iff, md_sees_all, sn_free]
  rcases Nat.eq_zero_or_pos (nd a u + nd b v) with h0 | h0
  · obtain rfl : u = a := by unfold nd at h0; omega
    obtain rfl : v = b := by unfold nd at h0; omega
    have e1 : nd u u = 0 := by unfold nd; omega
    have e2 : nd v v = 0 := by unfold nd; omega
    rw [e1, e2, sn_line]
    rw [cx_eq (by omega), cx_eq (by omega), show cx u u 0 = u by unfold cx; simp, show cx v v 0 = v by unfold cx; simp]
    have := hwf u v hu hv
    cases h : sn_wall Wd Ht f (nI u) (nI v) with
    | true => simp [h] at this; simp [this]
    | false =>
      simp [h] at this
      simp only [this, Bool.false_eq_true, if_false, true_and, and_self, if_true, true_iff]
      intro wx wy h1 h2 h3 h4
      obtain rfl : wx = u := by unfold lo2 hi2 at *; simp at *; omega
      obtain rfl : wy = v := by unfold lo2 hi2 at *; simp at *; omega
      exact Or.inl this
  · rw [cr_line h0 Wd Ht f a b (sgn a u) (sgn b v) _ 0 0 (Nat.zero_le _) (Nat.zero_le _) (cr_iff.mpr (by rw [Nat.mul_zero, Nat.mul_zero]; omega)) (by omega)]
    constructor
    · intro H
      have K : ∀ i j, i ≤ nd a u → j ≤ nd b v → cr (nd a u) (nd b v) i j → md_free g (cx a u i) (cx b v j) = true := fun i j hi hj hc => by
        have := H i j (Nat.zero_le _) hi (Nat.zero_le _) hj hc
        rw [cx_eq hi, cx_eq hj] at this
        exact (hwf _ _ (by unfold cx; unfold nd at hi; split <;> omega) (by unfold cx; unfold nd at hj; split <;> omega)).mp this
      refine ⟨⟨?_, ?_⟩, fun wx wy h1 h2 h3 h4 => ?_⟩
      · have := K 0 0 (Nat.zero_le _) (Nat.zero_le _) (cr_iff.mpr (by rw [Nat.mul_zero, Nat.mul_zero]; omega))
        rwa [show cx a u 0 = a by unfold cx; split <;> omega, show cx b v 0 = b by unfold cx; split <;> omega] at this
      · have := K (nd a u) (nd b v) (Nat.le_refl _) (Nat.le_refl _) (cr_iff.mpr (by rw [Nat.mul_comm (nd b v) (nd a u)]; omega))
        rwa [show cx a u (nd a u) = u by unfold cx nd; split <;> omega, show cx b v (nd b v) = v by unfold cx nd; split <;> omega] at this
      · cases hc : md_cross (nI a) (nI b) (nI u) (nI v) (nI wx) (nI wy) with
        | false => exact Or.inr rfl
        | true =>
          have hc2 := (md_cross_cr (by omega) (by omega) (by omega) (by omega) h1 h2 h3 h4).mp hc
          have i1 : nd a wx ≤ nd a u := by unfold nd; unfold lo2 at h1; unfold hi2 at h2; split at h1 <;> split at h2 <;> omega
          have i2 : nd b wy ≤ nd b v := by unfold nd; unfold lo2 at h3; unfold hi2 at h4; split at h3 <;> split at h4 <;> omega
          have := K _ _ i1 i2 hc2
          rw [show cx a u (nd a wx) = wx by unfold cx nd; unfold lo2 at h1; unfold hi2 at h2; split <;> split at h1 <;> split at h2 <;> omega, show cx b v (nd b wy) = wy by unfold cx nd; unfold lo2 at h3; unfold hi2 at h4; split <;> split at h3 <;> split at h4 <;> omega] at this
          exact Or.inl this
    · rintro ⟨_, H⟩ i j _ hi _ hj hc
      rw [cx_eq hi, cx_eq hj]
      have b1 : lo2 a u ≤ cx a u i := by unfold lo2 cx; unfold nd at hi; split <;> split <;> omega
      have b2 : cx a u i ≤ hi2 a u := by unfold hi2 cx; unfold nd at hi; split <;> omega
      have b3 : lo2 b v ≤ cx b v j := by unfold lo2 cx; unfold nd at hj; split <;> split <;> omega
      have b4 : cx b v j ≤ hi2 b v := by unfold hi2 cx; unfold nd at hj; split <;> omega
      refine (hwf _ _ (by unfold cx; unfold nd at hi; split <;> omega) (by unfold cx; unfold nd at hj; split <;> omega)).mpr ((H _ _ b1 b2 b3 b4).resolve_right ?_)
      rw [(md_cross_cr (by omega) (by omega) (by omega) (by omega) b1 b2 b3 b4).mpr]
      · decide
      · rw [show nd a (cx a u i) = i by unfold nd cx; unfold nd at hi; split <;> omega, show nd b (cx b v j) = j by unfold nd cx; unfold nd at hj; split <;> omega]
        exact hc
