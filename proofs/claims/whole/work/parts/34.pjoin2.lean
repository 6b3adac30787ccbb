def JI (gx gy : Nat → Int32) (m0 m J Pn : Nat) (o u' l' h' t' u l t j : Nat → Int32) : Prop :=
  (∀ z, z < J → ∃ q, q < Pn ∧ o z = nI q ∧ m.testBit q = false ∧ m0.testBit q = true ∧ j z = o z) ∧
  (∀ z z', z < z' → z' < J → o z ≠ o z') ∧
  (∀ q, q < Pn → m0.testBit q = true → m.testBit q = false → u q = u' q ∧ l q = l' q ∧ t q = t' q ∧ h' q = 0 ∧ ∃ d, d ≤ 30 ∧ l' q = nI d) ∧
  (∀ q, q < Pn → m.testBit q = true → m0.testBit q = true ∧ l q = dd gx gy o q (mt gx gy o q J) ∧ u q = up9 o (mt gx gy o q J))
theorem ab_nd {a b : Nat} (ha : a < 16) (hb : b < 16) : sn_ab (nI a - nI b) = nI (nd b a) := sn_abs hb ha
theorem ab_nI {a : Nat} (ha : a < 2 ^ 31) : sn_ab (nI a) = nI a := by rw [sn_ab, if_pos (nI_pos' ha)]
theorem dd_bd {gx gy o : Nat → Int32} {X Y : Nat → Nat} {Pn J p t : Nat} (hPn : Pn ≤ 12) (hXY : ∀ i, i < Pn → gx i = nI (X i) ∧ gy i = nI (Y i) ∧ X i < 16 ∧ Y i < 16) (ho : ∀ z, z < J → ∃ q, q < Pn ∧ o z = nI q) (hp : p < Pn) (hJ : J ≤ 12) (ht : t ≤ J) : ∃ d, d ≤ 30 ∧ dd gx gy o p t = nI d := by
  obtain ⟨x1, y1, x2, y2⟩ := hXY p hp
  cases t with
  | zero =>
    rw [dd_0 (by omega), x1, y1, ab_nI (by omega), ab_nI (by omega), nI_add]
    exact ⟨_, by omega, rfl⟩
  | succ t =>
    obtain ⟨q, hq, e⟩ := ho t (by omega)
    obtain ⟨x3, y3, x4, y4⟩ := hXY q hq
    rw [dd_s (by omega) (by omega), e, nI_clamp (by omega), x1, y1, x3, y3, ab_nd x2 x4, ab_nd y2 y4, nI_add]
    exact ⟨_, by have := nd_lt x4 x2; have := nd_lt y4 y2; omega, rfl⟩
theorem JI_step {px py gx gy : Nat → Int32} {X Y : Nat → Nat} {m0 m J Pn b tt : Nat} {o u' l' h' t' u l t j : Nat → Int32} (hPn : Pn ≤ 12) (hJ : J < 12) (hXY : ∀ i, i < Pn → px i = nI (X i) ∧ py i = nI (Y i) ∧ gx i = nI (X i) ∧ gy i = nI (Y i) ∧ X i < 16 ∧ Y i < 16)
    (hm : m < 2 ^ Pn) (hb : b < Pn) (hbit : m.testBit b = true) (htt : tt = mt gx gy o b J) (h : JI gx gy m0 m J Pn o u' l' h' t' u l t j) :
    JI gx gy m0 (md_clb m b) (J + 1) Pn (upd o J (nI b)) (upd u' b (if 0 ≤ nI tt - 1 then o (nI tt - 1).toNatClampNeg else -1)) (upd l' b (md_far gx gy o (nI b) (nI tt - 1))) (upd h' b 0) (upd t' b (nI J))
      (sn_ou px py b (nI (md_clb m b)) 12 0 u l).1 (sn_ou px py b (nI (md_clb m b)) 12 0 u l).2 (upd t b (nI J)) (upd j J (nI b)) := by
  obtain ⟨i1, i2, i3, i4⟩ := h
  have hcl := md_clb_lt (b := b) hm
  have hcl31 : md_clb m b < 2 ^ 31 := Nat.lt_of_lt_of_le hcl (Nat.pow_le_pow_right (by decide) (by omega))
  have hoe : ∀ z, z < J → upd o J (nI b) z = o z := fun z hz => pk_un (by omega)
  have hou : ∀ p, p < 12 → (md_clb m b).testBit p = false → (sn_ou px py b (nI (md_clb m b)) 12 0 u l).1 p = u p ∧ (sn_ou px py b (nI (md_clb m b)) 12 0 u l).2 p = l p := fun p hp hc => by
    have e := ou_at (px := px) (py := py) (q := b) (wt := nI (md_clb m b)) 12 0 u l p
    rw [sn_hold_bit hcl31 hp, hc, if_neg (fun z => Bool.false_ne_true z.2.1)] at e
    exact Prod.mk.injEq .. ▸ e
  refine ⟨fun z hz => ?_, fun z z' h1 h2 => ?_, fun q hq h0 hc => ?_, fun q hq hc => ?_⟩
  · by_cases e : z = J
    · subst e
      rw [pk_us, pk_us]
      exact ⟨b, hb, rfl, by rw [md_clb_bit (by omega) (by omega)]; simp, (i4 b hb hbit).1, rfl⟩
    · rw [pk_un e, pk_un e]
      obtain ⟨q, a1, a2, a3, a4, a5⟩ := i1 z (by omega)
      exact ⟨q, a1, a2, by rw [md_clb_bit (by omega) (by omega), a3]; rfl, a4, a5⟩
  · by_cases e : z' = J
    · subst e
      rw [pk_us, pk_un (by omega)]
      obtain ⟨q, a1, a2, a3, a4, a5⟩ := i1 z (by omega)
      rw [a2]
      intro e9
      rw [nI_eq (by omega) (by omega)] at e9
      rw [e9, hbit] at a3; cases a3
    · rw [pk_un e, pk_un (by omega)]; exact i2 z z' h1 (by omega)
  · obtain ⟨o1, o2⟩ := hou q (by omega) hc
    rw [o1, o2]
    by_cases e : q = b
    · subst e
      obtain ⟨_, b2, b3⟩ := i4 q hq hbit
      rw [pk_us, pk_us, pk_us, pk_us, pk_us, b2, b3, ← htt]
      refine ⟨?_, rfl, rfl, rfl, ?_⟩
      · cases tt with
        | zero => rfl
        | succ k =>
          have := mt_le gx gy o q J
          rw [nI_pred, if_pos (nI_pos' (by omega)), nI_clamp (by omega), up9, if_neg (by omega)]; rfl
      · exact dd_bd (J := J) hPn (fun i hi => (hXY i hi).2.2) (fun z hz => by obtain ⟨q, a1, a2, _⟩ := i1 z hz; exact ⟨q, a1, a2⟩) hb (by omega) (by rw [htt]; exact mt_le gx gy o q J)
    · rw [pk_un e, pk_un e, pk_un e, pk_un e, pk_un e]
      refine i3 q hq h0 ?_
      rw [md_clb_bit (by omega) (by omega)] at hc
      simpa [e] using hc
  · rw [md_clb_bit (by omega) (by omega), Bool.and_eq_true, decide_eq_true_iff] at hc
    obtain ⟨b1, b2, b3⟩ := i4 q hq hc.1
    refine ⟨b1, ?_⟩
    have ec : (md_clb m b).testBit q = true := by rw [md_clb_bit (by omega) (by omega), hc.1]; simpa using hc.2
    have e := ou_at (px := px) (py := py) (q := b) (wt := nI (md_clb m b)) 12 0 u l q
    have m1 := mt_le gx gy o q J
    have w : sn_way px py b q = dd gx gy (upd o J (nI b)) q (J + 1) := by
      rw [dd_s (by omega) (by omega), pk_us, nI_clamp (by omega), sn_way, (hXY q hq).1, (hXY q hq).2.1, (hXY b hb).1, (hXY b hb).2.1, (hXY q hq).2.2.1, (hXY q hq).2.2.2.1, (hXY b hb).2.2.1, (hXY b hb).2.2.2.1]
    have hq31 : q < 2 ^ 31 := by omega
    have hJ31 : J < 2 ^ 31 := by omega
    rw [mt, mt_congr hq31 hJ31 hoe J (Nat.le_refl _), dd_congr hq31 hJ31 hoe m1, ← w]
    rw [sn_hold_bit hcl31 (by omega), ec, b2] at e
    by_cases c : dd gx gy o q (mt gx gy o q J) ≤ sn_way px py b q
    · rw [if_neg (fun z => z.2.2 c)] at e
      rw [if_neg (fun z => z c), dd_congr hq31 hJ31 hoe m1]
      have e1 := congrArg Prod.fst e
      have e2 := congrArg Prod.snd e
      refine ⟨e2, e1.trans (b3.trans ?_)⟩
      rw [up9, up9]
      split
      · rfl
      · rw [hoe _ (by omega)]
    · rw [if_pos ⟨by omega, rfl, c⟩] at e
      rw [if_pos c, ← w]
      have e1 := congrArg Prod.fst e
      have e2 := congrArg Prod.snd e
      refine ⟨e2, e1.trans ?_⟩
      rw [up9, if_neg (by omega), Nat.add_sub_cancel, pk_us]
def JR (m0 Pn : Nat) (R : Nat × (Nat → Int32) × (Nat → Int32) × (Nat → Int32) × (Nat → Int32) × (Nat → Int32)) (C : (Nat → Int32) × (Nat → Int32) × (Nat → Int32) × (Nat → Int32) × Int32) : Prop :=
  R.1 ≤ 12 ∧ C.2.2.2.2 = nI R.1 ∧ (∀ z, z < R.1 → ∃ q, q < Pn ∧ R.2.1 z = nI q ∧ m0.testBit q = true ∧ C.2.2.2.1 z = R.2.1 z) ∧ (∀ z z', z < z' → z' < R.1 → R.2.1 z ≠ R.2.1 z') ∧
  (∀ q, q < Pn → m0.testBit q = true → C.1 q = R.2.2.1 q ∧ C.2.1 q = R.2.2.2.1 q ∧ C.2.2.1 q = R.2.2.2.2.2 q ∧ R.2.2.2.2.1 q = 0 ∧ ∃ d, d ≤ 30 ∧ R.2.2.2.1 q = nI d)
theorem JI_run {px py gx gy : Nat → Int32} {X Y : Nat → Nat} {m0 Pn : Nat} (hPn : Pn ≤ 12) (hXY : ∀ i, i < Pn → px i = nI (X i) ∧ py i = nI (Y i) ∧ gx i = nI (X i) ∧ gy i = nI (Y i) ∧ X i < 16 ∧ Y i < 16) : ∀ (n J m : Nat) (o u' l' h' t' u l t j : Nat → Int32), J + n ≤ 12 → m < 2 ^ Pn → md_pcb 12 m ≤ n → JI gx gy m0 m J Pn o u' l' h' t' u l t j →
    JR m0 Pn (md_jn gx gy Pn n J (nI m) o u' l' h' t') (sn_jp px py n J (nI m) u l t j (nI J)) := by
  have fin : ∀ (J : Nat) (o u' l' h' t' u l t j : Nat → Int32), J ≤ 12 → JI gx gy m0 0 J Pn o u' l' h' t' u l t j → JR m0 Pn (J, o, u', l', h', t') (u, l, t, j, nI J) := fun J o u' l' h' t' u l t j hJ h => by
    obtain ⟨i1, i2, i3, _⟩ := h
    refine ⟨hJ, rfl, fun z hz => ?_, i2, fun q hq h0 => i3 q hq h0 (Nat.zero_testBit q)⟩
    obtain ⟨q, a1, a2, a3, a4, a5⟩ := i1 z hz
    exact ⟨q, a1, a2, a4, a5⟩
  intro n
  induction n with
  | zero =>
    intro J m o u' l' h' t' u l t j hJ hm hp hi
    have hm0 : m = 0 := by
      rcases Nat.eq_zero_or_pos m with h9 | h9
      · exact h9
      · exact absurd (md_pcb_pos hPn hm (by omega)) (by omega)
    subst hm0
    exact fin J o u' l' h' t' u l t j (by omega) hi
  | succ n ih =>
    intro J m o u' l' h' t' u l t j hJ hm hp hi
    have hj := jq_no12 (gx := gx) (gy := gy) (o := o) (l := l) (J := J) hPn hm (fun p hp hb => (hi.2.2.2 p hp hb).2.1)
    by_cases hm0 : m = 0
    · subst hm0
      rw [md_jn, if_pos (show nI 0 = 0 from rfl)]
      have e : sn_no l (nI 0) 12 0 (-1) 0 = -1 := by
        have e := no_cut (l := l) (wt := nI 0) 0 12 0 (-1) 0 (fun k _ hk => by rw [sn_hold_bit (by omega) (by omega), Nat.zero_testBit])
        exact e
      rw [sn_jp, if_pos e]
      exact fin J o u' l' h' t' u l t j (by omega) hi
    · obtain ⟨b, tt, hb, htt, hbit, e⟩ := md_jq_spec (px := gx) (py := gy) (o := o) (J := J) hPn hm hm0
      have hne : ¬ nI m = 0 := fun e9 => hm0 (by
        have h31 : m < 2 ^ 31 := Nat.lt_of_lt_of_le hm (Nat.pow_le_pow_right (by decide) (by omega))
        rw [show (0 : Int32) = nI 0 from rfl, nI_eq h31 (by decide)] at e9; exact e9)
      rw [md_jn_step hne e hm hPn hb]
      have hpc := md_pcb_clr (m := m) (b := b) (by omega) hbit
      rw [e] at hj
      obtain ⟨h1, h2⟩ := hj
      rcases h2 with h2 | ⟨q, hq, h2⟩
      · exact absurd h2 (md_nne (by omega))
      have hq2 : b = q := (nI_eq (by omega) (by omega)).mp (congrArg Prod.fst h2)
      subst hq2
      have ht2 : nI tt - 1 = nI (mt gx gy o b J) - 1 := congrArg Prod.snd h2
      have ml := mt_le gx gy o b J
      have ht3 : tt = mt gx gy o b J := by
        have a := congrArg Int32.toInt ht2
        rw [md_t1i (by omega), md_t1i (by omega)] at a
        omega
      rw [sn_jp_step (q := b) h1 (by omega), show sn_drop (nI m) b = nI (md_clb m b) from md_clb_eq hm hPn hb]
      exact ih (J + 1) (md_clb m b) _ _ _ _ _ _ _ _ _ (by omega) (md_clb_lt hm) (by omega) (JI_step hPn (by omega) hXY hm hb hbit ht3 hi)
theorem join_JR {px py gx gy o u' l' h' t' u l t j : Nat → Int32} {X Y : Nat → Nat} {m0 Pn : Nat} (hPn : Pn ≤ 12) (hXY : ∀ i, i < Pn → px i = nI (X i) ∧ py i = nI (Y i) ∧ gx i = nI (X i) ∧ gy i = nI (Y i) ∧ X i < 16 ∧ Y i < 16) (hm : m0 < 2 ^ Pn) :
    JR m0 Pn (md_jn gx gy Pn 12 0 (nI m0) o u' l' h' t') (sn_join px py (nI m0) u l t j) := by
  refine JI_run hPn hXY 12 0 m0 o u' l' h' t' _ _ t j (by omega) hm (md_pcb_le 12 m0) ⟨fun z hz => absurd hz (Nat.not_lt_zero z), fun z z' _ hz => absurd hz (Nat.not_lt_zero z'), fun q hq h1 h2 => absurd (h1.symm.trans h2) (by decide), fun q hq h1 => ⟨h1, ?_⟩⟩
  have e := j0_at (px := px) (py := py) 12 0 u l q
  rw [if_pos (by omega)] at e
  have e1 := congrArg Prod.fst e
  have e2 := congrArg Prod.snd e
  obtain ⟨x1, y1, x2, y2, x3, y3⟩ := hXY q hq
  refine ⟨e2.trans ?_, e1.trans rfl⟩
  rw [mt, dd_0 (by omega), x2, y2, ab_nI (by omega), ab_nI (by omega)]
  show px q + py q = _
  rw [x1, y1]
