theorem sq_comm (a b : Int32) : (a - b) * (a - b) = (b - a) * (b - a) := by
  rw [← Int32.neg_sub (a := b) (b := a), Int32.neg_mul, Int32.mul_neg, Int32.neg_neg]
theorem nI_or (a b : Nat) : nI a ||| nI b = nI (a ||| b) := by
  apply Int32.toBitVec_inj.1
  show BitVec.ofNat 32 a ||| BitVec.ofNat 32 b = BitVec.ofNat 32 (a ||| b)
  apply BitVec.eq_of_getLsbD_eq
  intro i hi
  simp [hi]
section PS
variable {Wd Ht Pn : Nat} {f g : Nat → Int32} {rs : Int32} {X Y : Nat → Nat}
theorem sn_cond {a b u v q : Nat} (hW : Wd ≤ 16) (hH : Ht ≤ 16) (ha : a < Wd) (hb : b < Ht) (hu : u < Wd) (hv : v < Ht) (hX : X q = a) (hY : Y q = b) (hw : ∀ x y, x < Wd → y < Ht → (f (y * 16 + x) = 0 ↔ g (y * 16 + x) = 0)) :
    (sn_near rs (nI a) (nI b) (nI u) (nI v) = true ∧ sn_free Wd Ht f a b u v = true) ↔ md_rch g rs X Y q u v = true := by
  rw [md_rch, sn_near, sn_sees hW hH ha hb hu hv hw, hX, hY, sq_comm (nI a) (nI u), sq_comm (nI b) (nI v), Bool.and_eq_true]
theorem cel_ne {x y u v : Nat} (hx : x < 16) (hu : u < 16) (h : ¬ (y = v ∧ x = u)) : y * 16 + x ≠ v * 16 + u := by omega
theorem sn_ari_at {bit : Int32} {a b v : Nat} : ∀ (n u : Nat) (r : Nat → Int32), u + n ≤ 16 → ∀ x y, x < 16 →
    sn_ari Wd Ht f rs bit a b v n u r (y * 16 + x) = if y = v ∧ u ≤ x ∧ x < u + n ∧ (sn_near rs (nI a) (nI b) (nI x) (nI v) = true ∧ sn_free Wd Ht f a b x v = true) then r (y * 16 + x) ||| bit else r (y * 16 + x) := by
  intro n
  induction n with
  | zero => intro u r _ x y hx; rw [if_neg (by omega)]; rfl
  | succ n ih =>
    intro u r hu x y hx
    rw [sn_ari, ih (u + 1) _ (by omega) x y hx]
    by_cases e : y = v ∧ x = u
    · obtain ⟨rfl, rfl⟩ := e
      rw [if_neg (by omega)]
      by_cases c : sn_near rs (nI a) (nI b) (nI x) (nI y) = true ∧ sn_free Wd Ht f a b x y = true
      · rw [if_pos c, if_pos ⟨rfl, by omega, by omega, c⟩, pk_us]
      · rw [if_neg c, if_neg (fun h => c h.2.2.2)]
    · have e2 : (if sn_near rs (nI a) (nI b) (nI u) (nI v) = true ∧ sn_free Wd Ht f a b u v = true then upd r (v * 16 + u) (r (v * 16 + u) ||| bit) else r) (y * 16 + x) = r (y * 16 + x) := by
        split
        · exact pk_un (cel_ne hx (by omega) e)
        · rfl
      rw [e2]
      by_cases c : y = v ∧ u + 1 ≤ x ∧ x < u + 1 + n ∧ (sn_near rs (nI a) (nI b) (nI x) (nI v) = true ∧ sn_free Wd Ht f a b x v = true)
      · rw [if_pos c, if_pos ⟨c.1, by omega, by omega, c.2.2.2⟩]
      · rw [if_neg c, if_neg (fun h => c ⟨h.1, by omega, by omega, h.2.2.2⟩)]
theorem sn_aro_at {bit : Int32} {a b : Nat} (hW : Wd ≤ 16) : ∀ (n v : Nat) (r : Nat → Int32), ∀ x y, x < 16 →
    sn_aro Wd Ht f rs bit a b n v r (y * 16 + x) = if v ≤ y ∧ y < v + n ∧ x < Wd ∧ (sn_near rs (nI a) (nI b) (nI x) (nI y) = true ∧ sn_free Wd Ht f a b x y = true) then r (y * 16 + x) ||| bit else r (y * 16 + x) := by
  intro n
  induction n with
  | zero => intro v r x y hx; rw [if_neg (by omega)]; rfl
  | succ n ih =>
    intro v r x y hx
    rw [sn_aro, ih (v + 1) _ x y hx, sn_ari_at Wd 0 r (by omega) x y hx]
    by_cases e : y = v
    · subst e
      rw [if_neg (by omega)]
      by_cases c : x < Wd ∧ (sn_near rs (nI a) (nI b) (nI x) (nI y) = true ∧ sn_free Wd Ht f a b x y = true)
      · rw [if_pos ⟨rfl, by omega, by omega, c.2⟩, if_pos ⟨by omega, by omega, c⟩]
      · rw [if_neg (fun h => c ⟨by omega, h.2.2.2⟩), if_neg (fun h => c h.2.2)]
    · rw [if_neg (c := y = v ∧ _) (fun h => e h.1)]
      by_cases c : v + 1 ≤ y ∧ y < v + 1 + n ∧ x < Wd ∧ (sn_near rs (nI a) (nI b) (nI x) (nI y) = true ∧ sn_free Wd Ht f a b x y = true)
      · rw [if_pos c, if_pos ⟨by omega, by omega, c.2.2⟩]
      · rw [if_neg c, if_neg (fun h => c ⟨by omega, by omega, h.2.2⟩)]
theorem sn_fr_at (hW : Wd ≤ 16) (hH : Ht ≤ 16) (hw : ∀ x y, x < Wd → y < Ht → (f (y * 16 + x) = 0 ↔ g (y * 16 + x) = 0)) : ∀ (n i : Nat) (r : Nat → Int32), (∀ q, q < i + n → X q < Wd ∧ Y q < Ht) → ∀ x y, x < 16 →
    sn_fr Wd Ht f rs X Y n i r (y * 16 + x) = if x < Wd ∧ y < Ht then md_rs g rs X Y x y n i (r (y * 16 + x)) else r (y * 16 + x) := by
  intro n
  induction n with
  | zero => intro i r _ x y _; split <;> rfl
  | succ n ih =>
    intro i r hXY x y hx
    rw [sn_fr, ih (i + 1) _ (fun q hq => hXY q (by omega)) x y hx, sn_aro_at hW Ht 0 r x y hx]
    by_cases c : x < Wd ∧ y < Ht
    · rw [if_pos c, if_pos c, md_rs]
      have h := hXY i (by omega)
      have e := sn_cond (rs := rs) (X := X) (Y := Y) (q := i) (f := f) (g := g) hW hH h.1 h.2 c.1 c.2 rfl rfl hw
      by_cases d : md_rch g rs X Y i x y = true
      · rw [if_pos d, if_pos ⟨by omega, by omega, c.1, e.mpr d⟩]
      · rw [if_neg d, if_neg (fun h => d (e.mp h.2.2.2))]
    · rw [if_neg c, if_neg c, if_neg (fun h => c ⟨h.2.2.1, by omega⟩)]
theorem sn_fill_at (x : Int32) : ∀ (n i : Nat) (r : Nat → Int32) (c : Nat), sn_fill x n i r c = if i ≤ c ∧ c < i + n then x else r c := by
  intro n
  induction n with
  | zero => intro i r c; rw [if_neg (by omega)]; rfl
  | succ n ih =>
    intro i r c
    rw [sn_fill, ih]
    by_cases e : c = i
    · subst e; rw [if_neg (by omega), if_pos (by omega), pk_us]
    · rw [pk_un e]
      by_cases h : i + 1 ≤ c ∧ c < i + 1 + n
      · rw [if_pos h, if_pos (by omega)]
      · rw [if_neg h, if_neg (by omega)]
theorem sn_find_at {old : Int32} {r : Nat → Int32} (hW : Wd ≤ 16) (hH : Ht ≤ 16) (hw : ∀ x y, x < Wd → y < Ht → (f (y * 16 + x) = 0 ↔ g (y * 16 + x) = 0)) (hXY : ∀ q, q < Pn → X q < Wd ∧ Y q < Ht)
    (hr : old = 0 → ∀ x y, x < 16 → y < 16 → r (y * 16 + x) = if x < Wd ∧ y < Ht then md_rs g rs X Y x y Pn 0 0 else 0) {x y : Nat} (hx : x < 16) (hy : y < 16) :
    sn_find Wd Ht f rs X Y Pn old r (y * 16 + x) = if x < Wd ∧ y < Ht then md_rs g rs X Y x y Pn 0 0 else 0 := by
  rw [sn_find]
  by_cases ho : old = 0
  · rw [if_pos ho]; exact hr ho x y hx hy
  · rw [if_neg ho, sn_fr_at hW hH hw Pn 0 _ (fun q hq => hXY q (by omega)) x y hx, sn_fill_at, if_pos (c := 0 ≤ y * 16 + x ∧ y * 16 + x < 0 + 256) (by omega)]
theorem md_fx_at {v : Nat} : ∀ (n u : Nat) (r : Nat → Int32), u + n ≤ 16 → ∀ x y, x < 16 →
    md_fx g rs X Y Pn v n u r (y * 16 + x) = if y = v ∧ u ≤ x ∧ x < u + n then md_rs g rs X Y x y Pn 0 0 else r (y * 16 + x) := by
  intro n
  induction n with
  | zero => intro u r _ x y hx; rw [if_neg (by omega)]; rfl
  | succ n ih =>
    intro u r hu x y hx
    rw [md_fx, ih (u + 1) _ (by omega) x y hx]
    by_cases e : y = v ∧ x = u
    · obtain ⟨rfl, rfl⟩ := e
      rw [if_neg (by omega), if_pos (by omega), pk_us]
    · rw [pk_un (cel_ne hx (by omega) e)]
      by_cases c : y = v ∧ u + 1 ≤ x ∧ x < u + 1 + n
      · rw [if_pos c, if_pos (by omega)]
      · rw [if_neg c, if_neg (by omega)]
theorem md_fy_at (hW : Wd ≤ 16) : ∀ (n v : Nat) (r : Nat → Int32), ∀ x y, x < 16 →
    md_fy g rs X Y Pn Wd n v r (y * 16 + x) = if v ≤ y ∧ y < v + n ∧ x < Wd then md_rs g rs X Y x y Pn 0 0 else r (y * 16 + x) := by
  intro n
  induction n with
  | zero => intro v r x y hx; rw [if_neg (by omega)]; rfl
  | succ n ih =>
    intro v r x y hx
    rw [md_fy, ih (v + 1) _ x y hx, md_fx_at Wd 0 r (by omega) x y hx]
    by_cases e : y = v
    · subst e
      rw [if_neg (by omega)]
      by_cases c : x < Wd
      · rw [if_pos (by omega), if_pos (by omega)]
      · rw [if_neg (by omega), if_neg (by omega)]
    · rw [if_neg (c := y = v ∧ _) (fun h => e h.1)]
      by_cases c : v + 1 ≤ y ∧ y < v + 1 + n ∧ x < Wd
      · rw [if_pos c, if_pos (by omega)]
      · rw [if_neg c, if_neg (by omega)]
def rsm (g : Nat → Int32) (rs : Int32) (X Y : Nat → Nat) (x y : Nat) : Nat → Nat → Nat → Nat
  | 0, _, m => m
  | n + 1, p, m => rsm g rs X Y x y n (p + 1) (if md_rch g rs X Y p x y = true then m ||| 2 ^ p else m)
theorem md_rs_m {x y : Nat} : ∀ (n p m : Nat), p + n ≤ 12 → md_rs g rs X Y x y n p (nI m) = nI (rsm g rs X Y x y n p m) := by
  intro n
  induction n with
  | zero => intro p m _; rfl
  | succ n ih =>
    intro p m h
    rw [md_rs, rsm, ← ih (p + 1) _ (by omega)]
    by_cases c : md_rch g rs X Y p x y = true
    · rw [if_pos c, if_pos c, sn_bit, md_bit (by omega), nI_or]
    · rw [if_neg c, if_neg c]
theorem rsm_lt {x y : Nat} : ∀ (n p m : Nat), p + n ≤ 12 → m < 2 ^ 12 → rsm g rs X Y x y n p m < 2 ^ 12 := by
  intro n
  induction n with
  | zero => intro p m _ h; exact h
  | succ n ih =>
    intro p m h hm
    rw [rsm]
    refine ih (p + 1) _ (by omega) ?_
    split
    · exact Nat.or_lt_two_pow hm (Nat.pow_lt_pow_right (by decide) (by omega))
    · exact hm
theorem rsm_bit {x y q : Nat} : ∀ (n p m : Nat), (rsm g rs X Y x y n p m).testBit q = (m.testBit q || (decide (p ≤ q ∧ q < p + n) && md_rch g rs X Y q x y)) := by
  intro n
  induction n with
  | zero => intro p m; rw [rsm, decide_eq_false (by omega), Bool.false_and, Bool.or_false]
  | succ n ih =>
    intro p m
    rw [rsm, ih]
    by_cases e : q = p
    · subst e
      rw [decide_eq_false (by omega), decide_eq_true (by omega)]
      cases c : md_rch g rs X Y q x y with
      | true => rw [if_pos rfl, Nat.testBit_or, Nat.testBit_two_pow_self]; simp
      | false => rw [if_neg (by decide)]; simp
    · have e2 : (if md_rch g rs X Y p x y = true then m ||| 2 ^ p else m).testBit q = m.testBit q := by
        split
        · rw [Nat.testBit_or, Nat.testBit_two_pow_of_ne (fun h => e h.symm), Bool.or_false]
        · rfl
      rw [e2]
      by_cases c : p + 1 ≤ q ∧ q < p + 1 + n
      · rw [decide_eq_true c, decide_eq_true (by omega)]
      · rw [decide_eq_false c, decide_eq_false (by omega)]
theorem hold_rs {x y q : Nat} (hPn : Pn ≤ 12) (hq : q < Pn) : sn_hold (md_rs g rs X Y x y Pn 0 0) (nI q) = md_rch g rs X Y q x y := by
  have e := md_rs_m (g := g) (rs := rs) (X := X) (Y := Y) (x := x) (y := y) Pn 0 0 (by omega)
  rw [nI_0] at e
  rw [e, sn_hold_bit (Nat.lt_of_lt_of_le (rsm_lt Pn 0 0 (by omega) (by decide)) (by decide)) (by omega), rsm_bit, Nat.zero_testBit, Bool.false_or, decide_eq_true (by omega), Bool.true_and]
end PS
