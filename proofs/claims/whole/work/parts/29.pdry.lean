theorem sn_rc_cnt (fr : Nat → Int32) (x : Int32) : ∀ (n i : Nat) (c : Int32), sn_rc fr x n i c = cnt (fun i => sn_hold (fr i) x) n i c := by
  intro n
  induction n with
  | zero => intro i c; rfl
  | succ n ih => intro i c; rw [sn_rc, cnt, ih, ih]; split <;> rfl
theorem sn_lc_cnt (fw fr : Nat → Int32) (x : Int32) : ∀ (n i : Nat) (c : Int32), sn_lc fw fr x n i c = cnt (sn_dry fw fr x) n i c := by
  intro n
  induction n with
  | zero => intro i c; rfl
  | succ n ih => intro i c; rw [sn_lc, cnt, ih, ih]; split <;> rfl
section PD
variable {P : Nat → Bool} {Wd Ht Pn : Nat} {g r : Nat → Int32} {rs st : Int32} {X Y : Nat → Nat}
theorem md_cx_cnt {q y : Nat} : ∀ (n x : Nat) (c : Int32), (∀ k, x ≤ k → k < x + n → P (y * 16 + k) = md_rch g rs X Y q k y) → md_cx g rs X Y q y n x c = cnt (fun x => P (y * 16 + x)) n x c := by
  intro n
  induction n with
  | zero => intro x c _; rfl
  | succ n ih =>
    intro x c h
    rw [md_cx, cnt, ih (x + 1) _ (fun k h1 h2 => h k (by omega) (by omega)), h x (by omega) (by omega), Int32.add_zero]
theorem md_cy_cnt {q : Nat} : ∀ (n y : Nat) (c : Int32), (∀ x y', x < Wd → y ≤ y' → y' < y + n → P (y' * 16 + x) = md_rch g rs X Y q x y') → md_cy g rs X Y q Wd n y c = cntR P Wd n y c := by
  intro n
  induction n with
  | zero => intro y c _; rfl
  | succ n ih =>
    intro y c h
    rw [md_cy, cntR, ih (y + 1) _ (fun x y' h1 h2 h3 => h x y' h1 (by omega) (by omega)), md_cx_cnt (P := P) Wd 0 c (fun k h1 h2 => h k y (by omega) (by omega) (by omega))]
theorem md_dx_cnt {y : Nat} : ∀ (n x : Nat) (c : Int32), (∀ k, x ≤ k → k < x + n → P (y * 16 + k) = md_dry g r st k y) → md_dx g r st y n x c = cnt (fun x => P (y * 16 + x)) n x c := by
  intro n
  induction n with
  | zero => intro x c _; rfl
  | succ n ih =>
    intro x c h
    rw [md_dx, cnt, ih (x + 1) _ (fun k h1 h2 => h k (by omega) (by omega)), h x (by omega) (by omega), Int32.add_zero]
theorem md_dy_cnt : ∀ (n y : Nat) (c : Int32), (∀ x y', x < Wd → y ≤ y' → y' < y + n → P (y' * 16 + x) = md_dry g r st x y') → md_dy g r st Wd n y c = cntR P Wd n y c := by
  intro n
  induction n with
  | zero => intro y c _; rfl
  | succ n ih =>
    intro y c h
    rw [md_dy, cntR, ih (y + 1) _ (fun x y' h1 h2 h3 => h x y' h1 (by omega) (by omega)), md_dx_cnt (P := P) Wd 0 c (fun k h1 h2 => h k y (by omega) (by omega) (by omega))]
theorem sn_da_nI {x y : Nat} (hx : x < 16) (hy : y < 16) : sn_da (nI (y * 16 + x)) = 100 * nI y + nI x := by
  rw [sn_da, if_neg (md_nne (by omega)), show (16 : Int32) = nI 16 from rfl, pk_div (by omega) (by decide) (by decide), pk_mul, pk_sub (by omega)]
  rw [show (y * 16 + x) / 16 = y by omega, show y * 16 + x - y * 16 = x by omega]
theorem md_ddx_fk {y : Nat} (hy : y < 16) : ∀ (n x : Nat) (k : Int32), x + n ≤ 16 → (∀ z, x ≤ z → z < x + n → P (y * 16 + z) = md_dry g r st z y) → md_ddx g r st y n x k = fk (fun x => P (y * 16 + x)) (fun x => sn_da (nI (y * 16 + x))) n x k := by
  intro n
  induction n with
  | zero => intro x c _ _; rfl
  | succ n ih =>
    intro x c hx h
    rw [md_ddx, fk, ih (x + 1) _ (by omega) (fun k h1 h2 => h k (by omega) (by omega)), ih (x + 1) _ (by omega) (fun k h1 h2 => h k (by omega) (by omega)), h x (by omega) (by omega), sn_da_nI (by omega) hy]
theorem md_ddy_fk (hW : Wd ≤ 16) : ∀ (n y : Nat) (k : Int32), y + n ≤ 16 → (∀ x y', x < Wd → y ≤ y' → y' < y + n → P (y' * 16 + x) = md_dry g r st x y') → md_ddy g r st Wd n y k = if (fkR P (fun i => sn_da (nI i)) Wd n y k).1 = true then (fkR P (fun i => sn_da (nI i)) Wd n y k).2 else -1 := by
  intro n
  induction n with
  | zero => intro y c _ _; rfl
  | succ n ih =>
    intro y c hy h
    rw [md_ddy, fkR, md_ddx_fk (P := P) (by omega) Wd 0 c (by omega) (fun k h1 h2 => h k y (by omega) (by omega) (by omega)), ih (y + 1) _ (by omega) (fun x y' h1 h2 h3 => h x y' h1 (by omega) (by omega))]
    by_cases e : (fk (fun x => P (y * 16 + x)) (fun x => sn_da (nI (y * 16 + x))) Wd 0 c).1 = true
    · rw [if_pos e, if_pos e, if_pos e]
    · rw [if_neg e, if_neg e]
end PD
theorem sn_dc_fk (fw fr : Nat → Int32) (st kk : Int32) : ∀ (n i : Nat) (b : Int32), sn_da (sn_dc fw fr st kk n i b) = if (fk (sn_dry fw fr st) (fun i => sn_da (nI i)) n i (kk - b)).1 = true then (fk (sn_dry fw fr st) (fun i => sn_da (nI i)) n i (kk - b)).2 else -1 := by
  intro n
  induction n with
  | zero => intro i b; rw [sn_dc, fk, if_neg Bool.false_ne_true]; decide
  | succ n ih =>
    intro i b
    rw [sn_dc, fk]
    by_cases h : sn_dry fw fr st i = true
    · rw [if_pos h, if_pos h]
      by_cases e : b = kk
      · subst e
        rw [if_pos rfl, Int32.sub_self, if_pos rfl, if_pos rfl]
      · rw [if_neg e, if_neg (c := kk - b = 0) (fun q => e (by have q2 := Int32.sub_eq_iff_eq_add.mp q; rw [q2, Int32.zero_add])), ih, show kk - (b + 1) = kk - b - 1 by rw [Int32.sub_sub]]
    · rw [if_neg h, if_neg h, ih]
def nc (P : Nat → Bool) : Nat → Nat → Nat
  | 0, _ => 0
  | n + 1, i => (if P i = true then 1 else 0) + nc P n (i + 1)
theorem nc_le (P : Nat → Bool) : ∀ (n i : Nat), nc P n i ≤ n := by
  intro n
  induction n with
  | zero => intro i; exact Nat.le_refl _
  | succ n ih => intro i; rw [nc]; have := ih (i + 1); split <;> omega
theorem nc_0 (P : Nat → Bool) : ∀ (n i : Nat), nc P n i = 0 ↔ ∀ k, i ≤ k → k < i + n → P k = false := by
  intro n
  induction n with
  | zero => intro i; exact ⟨fun _ k h1 h2 => absurd h2 (by omega), fun _ => rfl⟩
  | succ n ih =>
    intro i
    rw [nc]
    constructor
    · intro h k h1 h2
      by_cases e : P i = true
      · rw [if_pos e] at h; omega
      · rw [if_neg e, Nat.zero_add, ih] at h
        by_cases q : k = i
        · subst q; exact Bool.not_eq_true _ ▸ e
        · exact h k (by omega) (by omega)
    · intro h
      rw [h i (by omega) (by omega), if_neg (by decide), (ih (i + 1)).mpr (fun k h1 h2 => h k (by omega) (by omega))]
theorem cnt_nc (P : Nat → Bool) : ∀ (n i k : Nat), cnt P n i (nI k) = nI (k + nc P n i) := by
  intro n
  induction n with
  | zero => intro i k; rfl
  | succ n ih =>
    intro i k
    rw [cnt, nc]
    split
    · rw [nI_1, ih, show k + 1 + nc P n (i + 1) = k + (1 + nc P n (i + 1)) by omega]
    · rw [ih, Nat.zero_add]
theorem cnt_0 (P : Nat → Bool) : cnt P 256 0 0 = 0 ↔ ∀ k, k < 256 → P k = false := by
  have e := cnt_nc P 256 0 0
  have l := nc_le P 256 0
  rw [nI_0, Nat.zero_add] at e
  rw [e, ← nI_0, nI_eq (by omega) (by omega), nc_0]
  exact ⟨fun h k hk => h k (by omega) (by omega), fun h k _ hk => h k (by omega)⟩
theorem sn_dc_0 (fw fr : Nat → Int32) (st : Int32) : ∀ (n i : Nat), i + n ≤ 256 → (sn_dc fw fr st 0 n i 0 = -1 ↔ ∀ k, i ≤ k → k < i + n → sn_dry fw fr st k = false) := by
  intro n
  induction n with
  | zero => intro i _; exact ⟨fun _ k h1 h2 => absurd h2 (by omega), fun _ => rfl⟩
  | succ n ih =>
    intro i hi
    rw [sn_dc]
    by_cases h : sn_dry fw fr st i = true
    · rw [if_pos h, if_pos rfl]
      exact ⟨fun q => absurd q (md_nne (by omega)), fun q => by rw [q i (by omega) (by omega)] at h; exact absurd h (by decide)⟩
    · rw [if_neg h, ih (i + 1) (by omega)]
      refine ⟨fun q k h1 h2 => ?_, fun q k h1 h2 => q k (by omega) (by omega)⟩
      by_cases e : k = i
      · subst e; exact Bool.not_eq_true _ ▸ h
      · exact q k (by omega) (by omega)
