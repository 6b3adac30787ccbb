def dd (gx gy o : Nat → Int32) (p t : Nat) : Int32 := md_far gx gy o (nI p) (nI t - 1)
def mt (gx gy o : Nat → Int32) (p : Nat) : Nat → Nat
  | 0 => 0
  | n + 1 => if ¬ dd gx gy o p (mt gx gy o p n) ≤ dd gx gy o p (n + 1) then n + 1 else mt gx gy o p n
def up9 (o : Nat → Int32) (t : Nat) : Int32 := if t = 0 then -1 else o (t - 1)
theorem mt_le (gx gy o : Nat → Int32) (p : Nat) : ∀ n, mt gx gy o p n ≤ n := by
  intro n
  induction n with
  | zero => exact Nat.le_refl _
  | succ n ih => rw [mt]; split <;> omega
theorem plain_ab (x : Int32) : md_plain x = sn_ab x := by rw [md_plain, sn_ab, Int32.zero_sub]
theorem dd_0 {gx gy o : Nat → Int32} {p : Nat} (hp : p < 2 ^ 31) : dd gx gy o p 0 = sn_ab (gx p) + sn_ab (gy p) := by
  rw [dd, md_far, nI_clamp hp, if_neg (by decide), if_neg (by decide), Int32.sub_zero, Int32.sub_zero, plain_ab, plain_ab]
theorem dd_s {gx gy o : Nat → Int32} {p t : Nat} (hp : p < 2 ^ 31) (ht : t < 2 ^ 31) : dd gx gy o p (t + 1) = sn_ab (gx p - gx (o t).toNatClampNeg) + sn_ab (gy p - gy (o t).toNatClampNeg) := by
  rw [dd, md_far, nI_clamp hp, nI_pred, if_pos (nI_pos' ht), if_pos (nI_pos' ht), nI_clamp ht, plain_ab, plain_ab]
theorem dd_congr {gx gy o o' : Nat → Int32} {p t J : Nat} (hp : p < 2 ^ 31) (hJ : J < 2 ^ 31) (h : ∀ z, z < J → o' z = o z) (ht : t ≤ J) : dd gx gy o' p t = dd gx gy o p t := by
  cases t with
  | zero => rw [dd_0 hp, dd_0 hp]
  | succ t => rw [dd_s hp (by omega), dd_s hp (by omega), h t (by omega)]
theorem mt_congr {gx gy o o' : Nat → Int32} {p J : Nat} (hp : p < 2 ^ 31) (hJ : J < 2 ^ 31) (h : ∀ z, z < J → o' z = o z) : ∀ n, n ≤ J → mt gx gy o' p n = mt gx gy o p n := by
  intro n
  induction n with
  | zero => intro _; rfl
  | succ n ih =>
    intro hn
    rw [mt, mt, ih (by omega), dd_congr hp hJ h (t := mt gx gy o p n) (by have := mt_le gx gy o p n; omega), dd_congr hp hJ h hn]
theorem ji_snoc (gx gy o : Nat → Int32) (pp : Nat) : ∀ (n t : Nat) (be to : Int32), md_ji gx gy o pp (n + 1) t be to = if (md_ji gx gy o pp n t be to).1 = -1 ∨ ¬ md_far gx gy o (md_ji gx gy o pp n t be to).1 (md_ji gx gy o pp n t be to).2 ≤ md_far gx gy o (nI pp) (nI (t + n) - 1) then (nI pp, nI (t + n) - 1) else md_ji gx gy o pp n t be to := by
  intro n
  induction n with
  | zero =>
    intro t be to
    simp only [md_ji, Nat.add_zero]
    rfl
  | succ n ih =>
    intro t be to
    rw [md_ji, ih, ih, show t + 1 + n = t + (n + 1) by omega]
    conv => rhs; rw [md_ji]
    split
    · rfl
    · rfl
theorem ji_mt (gx gy o : Nat → Int32) {pp : Nat} (hp : pp < 2 ^ 31) (be to : Int32) : ∀ n, md_ji gx gy o pp (n + 1) 0 be to = if be = -1 ∨ ¬ md_far gx gy o be to ≤ dd gx gy o pp (mt gx gy o pp n) then (nI pp, nI (mt gx gy o pp n) - 1) else (be, to) := by
  intro n
  induction n with
  | zero => rw [md_ji]; rfl
  | succ n ih =>
    rw [ji_snoc, ih, Nat.zero_add]
    have e1 : md_far gx gy o (nI pp) (nI (n + 1) - 1) = dd gx gy o pp (n + 1) := rfl
    rw [e1, mt]
    by_cases c : be = -1 ∨ ¬ md_far gx gy o be to ≤ dd gx gy o pp (mt gx gy o pp n)
    · rw [if_pos c]
      have e2 : md_far gx gy o (nI pp, nI (mt gx gy o pp n) - 1).1 (nI pp, nI (mt gx gy o pp n) - 1).2 = dd gx gy o pp (mt gx gy o pp n) := rfl
      rw [e2]
      by_cases d : ¬ dd gx gy o pp (mt gx gy o pp n) ≤ dd gx gy o pp (n + 1)
      · have c9 : be = -1 ∨ ¬ md_far gx gy o be to ≤ dd gx gy o pp (n + 1) := c.imp_right (fun c q => c (Int32.le_trans q (Int32.le_of_lt (Int32.not_le.mp d))))
        rw [if_pos (Or.inr d), if_pos d, if_pos c9]
      · rw [if_neg d, if_neg (fun q => q.elim (md_nne hp) d), if_pos c]
    · rw [if_neg c]
      have c1 : ¬ be = -1 := fun q => c (Or.inl q)
      have c2 : md_far gx gy o be to ≤ dd gx gy o pp (mt gx gy o pp n) := Classical.not_not.mp (fun q => c (Or.inr q))
      by_cases d : md_far gx gy o be to ≤ dd gx gy o pp (n + 1)
      · have c9 : md_far gx gy o be to ≤ dd gx gy o pp (if ¬ dd gx gy o pp (mt gx gy o pp n) ≤ dd gx gy o pp (n + 1) then n + 1 else mt gx gy o pp n) := by
          split
          · exact d
          · exact c2
        rw [if_neg (fun q => q.elim c1 (fun q => q d)), if_neg (fun q => q.elim c1 (fun q => q c9))]
      · have d2 : ¬ dd gx gy o pp (mt gx gy o pp n) ≤ dd gx gy o pp (n + 1) := fun q => d (Int32.le_trans c2 q)
        rw [if_pos (Or.inr d), if_pos d2, if_pos (Or.inr d)]
theorem jq_no {gx gy o l : Nat → Int32} {m J Pn : Nat} (hPn : Pn ≤ 12) (hm : m < 2 ^ 31) (hl : ∀ p, p < Pn → m.testBit p = true → l p = dd gx gy o p (mt gx gy o p J)) : ∀ (n pp : Nat) (be to lt : Int32), pp + n ≤ Pn →
    (be = -1 ∨ ∃ q, q < Pn ∧ be = nI q ∧ to = nI (mt gx gy o q J) - 1 ∧ lt = dd gx gy o q (mt gx gy o q J)) →
    sn_no l (nI m) n pp be lt = (md_jq gx gy o J (nI m) n pp be to).1 ∧ ((md_jq gx gy o J (nI m) n pp be to).1 = -1 ∨ ∃ q, q < Pn ∧ md_jq gx gy o J (nI m) n pp be to = (nI q, nI (mt gx gy o q J) - 1)) := by
  intro n
  induction n with
  | zero =>
    intro pp be to lt _ h
    refine ⟨rfl, ?_⟩
    rcases h with h | ⟨q, h1, h2, h3, _⟩
    · exact Or.inl h
    · exact Or.inr ⟨q, h1, by rw [md_jq, h2, h3]⟩
  | succ n ih =>
    intro pp be to lt hpp h
    rw [sn_no, md_jq, md_jp, sn_hold_bit hm (by omega), md_in_bit hm (by omega)]
    cases hb : m.testBit pp with
    | false =>
      rw [if_neg (fun q => Bool.false_ne_true q.1), if_neg Bool.false_ne_true]
      exact ih (pp + 1) be to lt (by omega) h
    | true =>
      rw [if_pos rfl, ji_mt gx gy o (by omega)]
      have e : (true = true ∧ (be = -1 ∨ ¬ lt ≤ l pp)) = (be = -1 ∨ ¬ md_far gx gy o be to ≤ dd gx gy o pp (mt gx gy o pp J)) := by
        rw [hl pp (by omega) hb]
        rcases h with h | ⟨q, h1, h2, h3, h4⟩
        · simp [h]
        · rw [h2, h3, h4]; simp [dd]
      by_cases c : be = -1 ∨ ¬ md_far gx gy o be to ≤ dd gx gy o pp (mt gx gy o pp J)
      · rw [if_pos (e ▸ c), if_pos c, hl pp (by omega) hb]
        exact ih (pp + 1) _ _ _ (by omega) (Or.inr ⟨pp, by omega, rfl, rfl, rfl⟩)
      · rw [if_neg (fun q => c (e ▸ q)), if_neg c]
        exact ih (pp + 1) be to lt (by omega) h
theorem no_cut {l : Nat → Int32} {wt : Int32} : ∀ (a b i : Nat) (nr lt : Int32), (∀ k, i + a ≤ k → k < i + a + b → sn_hold wt (nI k) = false) → sn_no l wt (a + b) i nr lt = sn_no l wt a i nr lt := by
  intro a
  induction a with
  | zero =>
    intro b
    rw [Nat.zero_add]
    induction b with
    | zero => intro i nr lt _; rfl
    | succ b ih =>
      intro i nr lt h
      rw [show sn_no l wt 0 i nr lt = nr from rfl, sn_no, h i (by omega) (by omega), if_neg (fun q => Bool.false_ne_true q.1), ih (i + 1) nr lt (fun k h1 h2 => h k (by omega) (by omega))]
      rfl
  | succ a ih =>
    intro b i nr lt h
    rw [show a + 1 + b = (a + b) + 1 by omega, sn_no, sn_no, ih b (i + 1) _ _ (fun k h1 h2 => h k (by omega) (by omega)), ih b (i + 1) _ _ (fun k h1 h2 => h k (by omega) (by omega))]
theorem jq_no12 {gx gy o l : Nat → Int32} {m J Pn : Nat} (hPn : Pn ≤ 12) (hm : m < 2 ^ Pn) (hl : ∀ p, p < Pn → m.testBit p = true → l p = dd gx gy o p (mt gx gy o p J)) :
    sn_no l (nI m) 12 0 (-1) 0 = (md_jq gx gy o J (nI m) Pn 0 (-1) (-1)).1 ∧ ((md_jq gx gy o J (nI m) Pn 0 (-1) (-1)).1 = -1 ∨ ∃ q, q < Pn ∧ md_jq gx gy o J (nI m) Pn 0 (-1) (-1) = (nI q, nI (mt gx gy o q J) - 1)) := by
  have hm31 : m < 2 ^ 31 := Nat.lt_of_lt_of_le hm (Nat.pow_le_pow_right (by decide) (by omega))
  have e := no_cut (l := l) (wt := nI m) Pn (12 - Pn) 0 (-1) 0 (fun k h1 h2 => by
    rw [sn_hold_bit hm31 (by omega)]
    exact Nat.testBit_lt_two_pow (Nat.lt_of_lt_of_le hm (Nat.pow_le_pow_right (by decide) (by omega))))
  rw [show Pn + (12 - Pn) = 12 by omega] at e
  rw [e]
  exact jq_no hPn hm31 hl Pn 0 (-1) (-1) 0 (by omega) (Or.inl rfl)
theorem ou_at {px py : Nat → Int32} {q : Nat} {wt : Int32} : ∀ (n i : Nat) (u l : Nat → Int32) (p : Nat), ((sn_ou px py q wt n i u l).1 p, (sn_ou px py q wt n i u l).2 p) = if (i ≤ p ∧ p < i + n) ∧ sn_hold wt (nI p) = true ∧ ¬ l p ≤ sn_way px py q p then (nI q, sn_way px py q p) else (u p, l p) := by
  intro n
  induction n with
  | zero => intro i u l p; rw [if_neg (by omega)]; rfl
  | succ n ih =>
    intro i u l p
    rw [sn_ou]
    by_cases c : sn_hold wt (nI i) = true ∧ ¬ l i ≤ sn_way px py q i
    · rw [if_pos c, ih]
      by_cases e : p = i
      · subst e
        rw [if_neg (fun z => by omega), if_pos ⟨by omega, c⟩, pk_us, pk_us]
      · rw [pk_un e, pk_un e]
        by_cases d : (i + 1 ≤ p ∧ p < i + 1 + n) ∧ sn_hold wt (nI p) = true ∧ ¬ l p ≤ sn_way px py q p
        · rw [if_pos d, if_pos ⟨by omega, d.2⟩]
        · rw [if_neg d, if_neg (fun z => d ⟨by omega, z.2⟩)]
    · rw [if_neg c, ih]
      by_cases e : p = i
      · subst e
        rw [if_neg (fun z => by omega), if_neg (fun z => c z.2)]
      · by_cases d : (i + 1 ≤ p ∧ p < i + 1 + n) ∧ sn_hold wt (nI p) = true ∧ ¬ l p ≤ sn_way px py q p
        · rw [if_pos d, if_pos ⟨by omega, d.2⟩]
        · rw [if_neg d, if_neg (fun z => d ⟨by omega, z.2⟩)]
theorem j0_at {px py : Nat → Int32} : ∀ (n i : Nat) (u l : Nat → Int32) (p : Nat), ((sn_j0 px py n i u l).1 p, (sn_j0 px py n i u l).2 p) = if i ≤ p ∧ p < i + n then (-1, px p + py p) else (u p, l p) := by
  intro n
  induction n with
  | zero => intro i u l p; rw [if_neg (by omega)]; rfl
  | succ n ih =>
    intro i u l p
    rw [sn_j0, ih]
    by_cases e : p = i
    · subst e
      rw [if_neg (by omega), if_pos (by omega), pk_us, pk_us]
    · rw [pk_un e, pk_un e]
      by_cases d : i + 1 ≤ p ∧ p < i + 1 + n
      · rw [if_pos d, if_pos (by omega)]
      · rw [if_neg d, if_neg (by omega)]
