def cnt (P : Nat → Bool) : Nat → Nat → Int32 → Int32
  | 0, _, c => c
  | n + 1, i, c => cnt P n (i + 1) (if P i = true then c + 1 else c)
def cntR (P : Nat → Bool) (W : Nat) : Nat → Nat → Int32 → Int32
  | 0, _, c => c
  | n + 1, y, c => cntR P W n (y + 1) (cnt (fun x => P (y * 16 + x)) W 0 c)
def fk (P : Nat → Bool) (V : Nat → Int32) : Nat → Nat → Int32 → Bool × Int32
  | 0, _, k => (false, k)
  | n + 1, i, k => if P i = true then (if k = 0 then (true, V i) else fk P V n (i + 1) (k - 1)) else fk P V n (i + 1) k
def fkR (P : Nat → Bool) (V : Nat → Int32) (W : Nat) : Nat → Nat → Int32 → Bool × Int32
  | 0, _, k => (false, k)
  | n + 1, y, k => if (fk (fun x => P (y * 16 + x)) (fun x => V (y * 16 + x)) W 0 k).1 = true then fk (fun x => P (y * 16 + x)) (fun x => V (y * 16 + x)) W 0 k else fkR P V W n (y + 1) (fk (fun x => P (y * 16 + x)) (fun x => V (y * 16 + x)) W 0 k).2
section PC
variable {P Q : Nat → Bool} {V U : Nat → Int32} {W H : Nat}
theorem cnt_app : ∀ (a b i : Nat) (c : Int32), cnt P (a + b) i c = cnt P b (i + a) (cnt P a i c) := by
  intro a
  induction a with
  | zero => intro b i c; rw [Nat.zero_add]; rfl
  | succ a ih => intro b i c; rw [show a + 1 + b = (a + b) + 1 by omega, cnt, cnt, ih, show i + 1 + a = i + (a + 1) by omega]
theorem cnt_congr : ∀ (n i : Nat) (c : Int32), (∀ k, i ≤ k → k < i + n → P k = Q k) → cnt P n i c = cnt Q n i c := by
  intro n
  induction n with
  | zero => intro i c _; rfl
  | succ n ih => intro i c h; rw [cnt, cnt, h i (by omega) (by omega), ih (i + 1) _ (fun k h1 h2 => h k (by omega) (by omega))]
theorem cnt_no : ∀ (n i : Nat) (c : Int32), (∀ k, i ≤ k → k < i + n → P k = false) → cnt P n i c = c := by
  intro n
  induction n with
  | zero => intro i c _; rfl
  | succ n ih => intro i c h; rw [cnt, h i (by omega) (by omega), if_neg (by decide), ih (i + 1) _ (fun k h1 h2 => h k (by omega) (by omega))]
theorem cnt_shift (k : Nat) : ∀ (n i : Nat) (c : Int32), cnt (fun x => P (k + x)) n i c = cnt P n (k + i) c := by
  intro n
  induction n with
  | zero => intro i c; rfl
  | succ n ih => intro i c; rw [cnt, cnt, ih, show k + (i + 1) = k + i + 1 by omega]
theorem cnt_rows : ∀ (n y : Nat) (c : Int32), cnt P (n * 16) (y * 16) c = cntR P 16 n y c := by
  intro n
  induction n with
  | zero => intro y c; rw [Nat.zero_mul]; rfl
  | succ n ih =>
    intro y c
    rw [show (n + 1) * 16 = 16 + n * 16 by omega, cnt_app, show y * 16 + 16 = (y + 1) * 16 by omega, ih, cntR, cnt_shift (P := P) (y * 16) 16 0 c]
    simp only [Nat.add_zero]
theorem cntR_cut (hW : W ≤ 16) (hP : ∀ x y, x < 16 → y < 16 → P (y * 16 + x) = true → x < W ∧ y < H) : ∀ (n y : Nat) (c : Int32), y + n ≤ 16 → cntR P 16 n y c = cntR P W n y c := by
  intro n
  induction n with
  | zero => intro y c _; rfl
  | succ n ih =>
    intro y c hy
    rw [cntR, cntR, ih (y + 1) _ (by omega)]
    congr 1
    rw [show (16 : Nat) = W + (16 - W) by omega, cnt_app]
    refine cnt_no _ _ _ (fun k h1 h2 => ?_)
    rw [← Bool.not_eq_true]
    exact fun h => absurd (hP k y (by omega) (by omega) (by rw [show W + (16 - W) = 16 by omega] at h; exact h)).1 (by omega)
theorem cntR_app : ∀ (a b y : Nat) (c : Int32), cntR P W (a + b) y c = cntR P W b (y + a) (cntR P W a y c) := by
  intro a
  induction a with
  | zero => intro b i c; rw [Nat.zero_add]; rfl
  | succ a ih => intro b i c; rw [show a + 1 + b = (a + b) + 1 by omega, cntR, cntR, ih, show i + 1 + a = i + (a + 1) by omega]
theorem cntR_no (hW : W ≤ 16) (hP : ∀ x y, x < 16 → y < 16 → P (y * 16 + x) = true → x < W ∧ y < H) : ∀ (n y : Nat) (c : Int32), H ≤ y → y + n ≤ 16 → cntR P W n y c = c := by
  intro n
  induction n with
  | zero => intro y c _ _; rfl
  | succ n ih =>
    intro y c hy hn
    rw [cntR, ih (y + 1) _ (by omega) (by omega)]
    refine cnt_no _ _ _ (fun k h1 h2 => ?_)
    rw [← Bool.not_eq_true]
    exact fun h => absurd (hP k y (by omega) (by omega) h).2 (by omega)
theorem cnt_plan (hW : W ≤ 16) (hH : H ≤ 16) (hP : ∀ x y, x < 16 → y < 16 → P (y * 16 + x) = true → x < W ∧ y < H) (c : Int32) : cnt P 256 0 c = cntR P W H 0 c := by
  have e1 := cnt_rows (P := P) 16 0 c
  have e2 := cntR_app (P := P) (W := W) H (16 - H) 0 c
  rw [show H + (16 - H) = 16 by omega, cntR_no hW hP (16 - H) (0 + H) _ (by omega) (by omega)] at e2
  rw [show cnt P 256 0 c = cntR P 16 16 0 c from e1, cntR_cut hW hP 16 0 c (by omega), e2]
theorem fk_app : ∀ (a b i : Nat) (k : Int32), fk P V (a + b) i k = if (fk P V a i k).1 = true then fk P V a i k else fk P V b (i + a) (fk P V a i k).2 := by
  intro a
  induction a with
  | zero => intro b i c; rw [Nat.zero_add, fk, if_neg Bool.false_ne_true]; rfl
  | succ a ih =>
    intro b i k
    rw [show a + 1 + b = (a + b) + 1 by omega, fk, fk]
    cases h : P i with
    | true =>
      rw [if_pos rfl, if_pos rfl]
      by_cases hk : k = 0
      · rw [if_pos hk, if_pos hk, if_pos rfl]
      · rw [if_neg hk, if_neg hk, ih, show i + 1 + a = i + (a + 1) by omega]
    | false => simp only [Bool.false_eq_true, if_false]; rw [ih, show i + 1 + a = i + (a + 1) by omega]
theorem fk_congr : ∀ (n i : Nat) (c : Int32), (∀ k, i ≤ k → k < i + n → P k = Q k ∧ V k = U k) → fk P V n i c = fk Q U n i c := by
  intro n
  induction n with
  | zero => intro i c _; rfl
  | succ n ih =>
    intro i c h
    have h0 := h i (by omega) (by omega)
    rw [fk, fk, h0.1, h0.2, ih (i + 1) _ (fun k h1 h2 => h k (by omega) (by omega)), ih (i + 1) _ (fun k h1 h2 => h k (by omega) (by omega))]
theorem fk_no : ∀ (n i : Nat) (c : Int32), (∀ k, i ≤ k → k < i + n → P k = false) → fk P V n i c = (false, c) := by
  intro n
  induction n with
  | zero => intro i c _; rfl
  | succ n ih => intro i c h; rw [fk, h i (by omega) (by omega), if_neg (by decide), ih (i + 1) _ (fun k h1 h2 => h k (by omega) (by omega))]
theorem fk_shift (k : Nat) : ∀ (n i : Nat) (c : Int32), fk (fun x => P (k + x)) (fun x => V (k + x)) n i c = fk P V n (k + i) c := by
  intro n
  induction n with
  | zero => intro i c; rfl
  | succ n ih => intro i c; rw [fk, fk, ih, ih, show k + (i + 1) = k + i + 1 by omega]
theorem fk_rows : ∀ (n y : Nat) (c : Int32), fk P V (n * 16) (y * 16) c = fkR P V 16 n y c := by
  intro n
  induction n with
  | zero => intro y c; rw [Nat.zero_mul]; rfl
  | succ n ih =>
    intro y c
    rw [show (n + 1) * 16 = 16 + n * 16 by omega, fk_app, show y * 16 + 16 = (y + 1) * 16 by omega, ih, fkR, fk_shift (P := P) (V := V) (y * 16) 16 0 c]
    simp only [Nat.add_zero]
theorem fk_pad (hW : W ≤ 16) (c : Int32) (h : ∀ k, W ≤ k → k < 16 → P k = false) : fk P V 16 0 c = fk P V W 0 c := by
  have e := fk_app (P := P) (V := V) W (16 - W) 0 c
  rw [show W + (16 - W) = 16 by omega, fk_no (16 - W) (0 + W) _ (fun k h1 h2 => h k (by omega) (by omega))] at e
  rw [e]
  split
  · rfl
  · rename_i q
    rw [Bool.not_eq_true] at q
    rw [← q]
theorem fkR_cut (hW : W ≤ 16) (hP : ∀ x y, x < 16 → y < 16 → P (y * 16 + x) = true → x < W ∧ y < H) : ∀ (n y : Nat) (c : Int32), y + n ≤ 16 → fkR P V 16 n y c = fkR P V W n y c := by
  intro n
  induction n with
  | zero => intro y c _; rfl
  | succ n ih =>
    intro y c hy
    rw [fkR, fkR, ih (y + 1) _ (by omega), fk_pad hW c (fun k h1 h2 => by rw [← Bool.not_eq_true]; exact fun h => absurd (hP k y h2 (by omega) h).1 (by omega))]
theorem fkR_app : ∀ (a b y : Nat) (k : Int32), fkR P V W (a + b) y k = if (fkR P V W a y k).1 = true then fkR P V W a y k else fkR P V W b (y + a) (fkR P V W a y k).2 := by
  intro a
  induction a with
  | zero => intro b i c; rw [Nat.zero_add, fkR, if_neg Bool.false_ne_true]; rfl
  | succ a ih =>
    intro b i k
    rw [show a + 1 + b = (a + b) + 1 by omega, fkR, fkR]
    by_cases h : (fk (fun x => P (i * 16 + x)) (fun x => V (i * 16 + x)) W 0 k).1 = true
    · rw [if_pos h, if_pos h, if_pos h]
    · rw [if_neg h, if_neg h, ih, show i + 1 + a = i + (a + 1) by omega]
theorem fkR_no (hW : W ≤ 16) (hP : ∀ x y, x < 16 → y < 16 → P (y * 16 + x) = true → x < W ∧ y < H) : ∀ (n y : Nat) (c : Int32), H ≤ y → y + n ≤ 16 → fkR P V W n y c = (false, c) := by
  intro n
  induction n with
  | zero => intro y c _ _; rfl
  | succ n ih =>
    intro y c hy hn
    rw [fkR, fk_no W 0 c (fun k h1 h2 => by rw [← Bool.not_eq_true]; exact fun h => absurd (hP k y (by omega) (by omega) h).2 (by omega)), if_neg Bool.false_ne_true, ih (y + 1) _ (by omega) (by omega)]
theorem fk_plan (hW : W ≤ 16) (hH : H ≤ 16) (hP : ∀ x y, x < 16 → y < 16 → P (y * 16 + x) = true → x < W ∧ y < H) (c : Int32) : fk P V 256 0 c = fkR P V W H 0 c := by
  have e1 := fk_rows (P := P) (V := V) 16 0 c
  have e2 := fkR_app (P := P) (V := V) (W := W) H (16 - H) 0 c
  rw [show H + (16 - H) = 16 by omega, fkR_no hW hP (16 - H) (0 + H) _ (by omega) (by omega)] at e2
  rw [show fk P V 256 0 c = fkR P V 16 16 0 c from e1, fkR_cut hW hP 16 0 c (by omega), e2]
  split
  · rfl
  · rename_i q
    rw [Bool.not_eq_true] at q
    rw [← q]
end PC
