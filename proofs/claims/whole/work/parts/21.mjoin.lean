def md_far (px py o : Nat → Int32) (x i : Int32) : Int32 := md_plain (px x.toNatClampNeg - (if 0 ≤ i then px (o i.toNatClampNeg).toNatClampNeg else 0)) + md_plain (py x.toNatClampNeg - (if 0 ≤ i then py (o i.toNatClampNeg).toNatClampNeg else 0))
def md_ok (J Pn : Nat) (be to : Int32) : Prop := be = -1 ∨ ∃ q t, q < Pn ∧ t ≤ J ∧ be = nI q ∧ to = nI t - 1
def md_ji (px py o : Nat → Int32) (pp : Nat) : Nat → Nat → Int32 → Int32 → Int32 × Int32
  | 0, _, be, to => (be, to)
  | n + 1, t, be, to => if be = -1 ∨ ¬ md_far px py o be to ≤ md_far px py o (nI pp) (nI t - 1) then md_ji px py o pp n (t + 1) (nI pp) (nI t - 1) else md_ji px py o pp n (t + 1) be to
def md_jp (px py o : Nat → Int32) (J : Nat) (lf : Int32) (pp : Nat) (be to : Int32) : Int32 × Int32 := if md_in lf (nI pp) = true then md_ji px py o pp (J + 1) 0 be to else (be, to)
def md_jq (px py o : Nat → Int32) (J : Nat) (lf : Int32) : Nat → Nat → Int32 → Int32 → Int32 × Int32
  | 0, _, be, to => (be, to)
  | n + 1, pp, be, to => md_jq px py o J lf n (pp + 1) (md_jp px py o J lf pp be to).1 (md_jp px py o J lf pp be to).2
theorem md_t1 (t : Nat) : nI t - 1 + 1 = nI (t + 1) - 1 := by rw [nI_pred, Int32.sub_add_cancel]
theorem md_t1i {t : Nat} (ht : t < 2 ^ 30) : (nI t - 1).toInt = (t : Int) - 1 := by
  rw [show (1 : Int32) = nI 1 from rfl, pk_sub_toInt ht (by decide)]; rfl
theorem md_t1ge {J t : Nat} (hJ : J < 2 ^ 30) (ht : t < 2 ^ 30) (h : nI J ≤ nI t - 1) : J + 1 ≤ t := by
  rw [Int32.le_iff_toInt_le, md_t1i ht, nI_toInt (by omega)] at h; omega
theorem md_t1lt {J t : Nat} (hJ : J < 2 ^ 30) (ht : t < 2 ^ 30) (h : ¬ nI J ≤ nI t - 1) : t ≤ J := by
  rw [Int32.le_iff_toInt_le, md_t1i ht, nI_toInt (by omega)] at h; omega
theorem md_farhi {o : Nat → Int32} {J t : Nat} (ho : ∀ z, z < J → vp_in (o z) 12) (ht : t ≤ J) (hJ : J ≤ 12) : nI t - 1 < 0 ∨ vp_in (nI t - 1) 12 ∧ vp_in (o (nI t - 1).toNatClampNeg) 12 := by
  cases t with
  | zero => exact Or.inl (by decide)
  | succ t => rw [nI_pred, nI_clamp (by omega)]; exact Or.inr ⟨vp_in_nI (by omega) (by decide), ho t (by omega)⟩
theorem md_okv {o : Nat → Int32} {J Pn : Nat} {be to : Int32} (hok : md_ok J Pn be to) (hne : ¬ be = -1) (ho : ∀ z, z < J → vp_in (o z) 12) (hJ : J ≤ 12) (hPn : Pn ≤ 12) : vp_in be 12 ∧ (to < 0 ∨ vp_in to 12 ∧ vp_in (o to.toNatClampNeg) 12) := by
  obtain ⟨q, t, hq, ht, rfl, rfl⟩ := hok.resolve_left hne
  exact ⟨vp_in_nI (by omega) (by decide), md_farhi ho ht hJ⟩
theorem md_ji_ok {px py o : Nat → Int32} {J Pn pp : Nat} (hpp : pp < Pn) : ∀ (n t : Nat) (be to : Int32), t + n ≤ J + 1 → md_ok J Pn be to → md_ok J Pn (md_ji px py o pp n t be to).1 (md_ji px py o pp n t be to).2 := by
  intro n
  induction n with
  | zero => intro t be to _ h; exact h
  | succ n ih =>
    intro t be to ht h
    rw [md_ji]
    split
    · exact ih _ _ _ (by omega) (Or.inr ⟨pp, t, hpp, by omega, rfl, rfl⟩)
    · exact ih _ _ _ (by omega) h
theorem md_jp_ok {px py o : Nat → Int32} {J Pn pp : Nat} {lf be to : Int32} (h : md_ok J Pn be to) (hpp : pp < Pn) : md_ok J Pn (md_jp px py o J lf pp be to).1 (md_jp px py o J lf pp be to).2 := by
  rw [md_jp]
  split
  · exact md_ji_ok hpp _ _ _ _ (by omega) h
  · exact h
theorem md_nne {q : Nat} (h : q < 2 ^ 31) : ¬ nI q = -1 := fun e => by
  have := congrArg Int32.toInt e
  rw [nI_toInt h] at this
  have e2 : (-1 : Int32).toInt = -1 := by decide
  omega
theorem md_vne {x : Int32} (h : vp_in x 12) : ¬ x = -1 := by
  obtain ⟨j, hj, rfl⟩ := vp_in_of h (by decide)
  exact md_nne (by omega)
theorem md_sl : ∀ n, n < 12 → ((nI n &&& 31).toBitVec.smod 32).toNat = n := by decide +kernel
theorem md_in_bit {m p : Nat} (hm : m < 2 ^ 31) (hp : p < 12) : md_in (nI m) (nI p) = m.testBit p := by
  unfold md_in
  rw [pk_shrN hm _ p (md_sl p hp), show (1 : Int32) = nI 1 from rfl, md_and, Nat.testBit_eq_decide_div_mod_eq, Nat.and_one_is_mod]
  exact decide_eq_decide.mpr (nI_eq (by omega) (by omega))
theorem sn_hold_bit {m p : Nat} (hm : m < 2 ^ 31) (hp : p < 12) : sn_hold (nI m) (nI p) = m.testBit p := by
  unfold sn_hold
  rw [pk_shrN hm _ p (md_sl p hp), show (1 : Int32) = nI 1 from rfl, md_and, Nat.testBit_eq_decide_div_mod_eq, Nat.and_one_is_mod, show (0 : Int32) = nI 0 from rfl]
  rcases (show m / 2 ^ p % 2 = 0 ∨ m / 2 ^ p % 2 = 1 by omega) with h | h
  · rw [h]; decide
  · rw [h]; decide
def md_clb (m b : Nat) : Nat := m &&& (4294967295 - 2 ^ b)
theorem md_clc : ∀ b, b < 12 → (1 : Int32) <<< (nI b &&& 31) ^^^ (-1) = nI (4294967295 - 2 ^ b) := by decide +kernel
theorem md_clb_eq {m b Pn : Nat} (_hm : m < 2 ^ Pn) (hPn : Pn ≤ 12) (hb : b < Pn) : nI m &&& ((1 : Int32) <<< (nI b &&& 31) ^^^ (-1)) = nI (md_clb m b) := by
  rw [md_clc b (by omega), md_and]; rfl
theorem md_clt : ∀ b, b < 12 → ∀ j, j < 12 → (4294967295 - 2 ^ b).testBit j = decide (j ≠ b) := by decide +kernel
theorem md_clb_bit {m b j : Nat} (hb : b < 12) (hj : j < 12) : (md_clb m b).testBit j = (m.testBit j && decide (j ≠ b)) := by
  rw [md_clb, Nat.testBit_and, md_clt b hb j hj]
theorem md_clb_lt {m b Pn : Nat} (h : m < 2 ^ Pn) : md_clb m b < 2 ^ Pn := Nat.lt_of_le_of_lt Nat.and_le_left h
def md_pcb : Nat → Nat → Nat
  | 0, _ => 0
  | n + 1, m => md_pcb n m + (if m.testBit n = true then 1 else 0)
theorem md_pcb_le : ∀ n m, md_pcb n m ≤ n
  | 0, _ => Nat.le_refl 0
  | n + 1, m => by
    have := md_pcb_le n m
    rw [md_pcb]; split <;> omega
theorem md_pcb_run {m b : Nat} (hb : b < 12) (hbit : m.testBit b = true) : ∀ n, n ≤ 12 → md_pcb n (md_clb m b) + (if b < n then 1 else 0) = md_pcb n m := by
  intro n
  induction n with
  | zero => intro _; simp [md_pcb]
  | succ n ih =>
    intro hn
    have h := ih (by omega)
    rw [md_pcb, md_pcb, md_clb_bit hb (by omega)]
    by_cases e : n = b
    · subst e
      simp [hbit] at h ⊢
      omega
    · by_cases hl : b < n
      · rw [if_pos hl] at h
        rw [if_pos (show b < n + 1 by omega), decide_eq_true (show n ≠ b from e), Bool.and_true]
        omega
      · rw [if_neg hl] at h
        rw [if_neg (show ¬ b < n + 1 by omega), decide_eq_true (show n ≠ b from e), Bool.and_true]
        omega
theorem md_pcb_clr {m b : Nat} (hb : b < 12) (hbit : m.testBit b = true) : md_pcb 12 (md_clb m b) + 1 = md_pcb 12 m := by
  have := md_pcb_run hb hbit 12 (by omega)
  rw [if_pos hb] at this
  exact this
theorem md_pcb_0 {m : Nat} : ∀ n, md_pcb n m = 0 → ∀ j, j < n → m.testBit j = false := by
  intro n
  induction n with
  | zero => intro _ j h; exact absurd h (Nat.not_lt_zero j)
  | succ n ih =>
    intro h j hj
    rw [md_pcb] at h
    by_cases e : j = n
    · subst e
      cases hb : m.testBit j with
      | false => rfl
      | true => rw [hb] at h; simp at h
    · exact ih (by omega) j (by omega)
theorem md_pcb_pos {m Pn : Nat} (hPn : Pn ≤ 12) (hm : m < 2 ^ Pn) (hne : m ≠ 0) : 1 ≤ md_pcb 12 m := by
  rcases Nat.eq_zero_or_pos (md_pcb 12 m) with h | h
  · refine absurd ?_ hne
    apply Nat.eq_of_testBit_eq
    intro i
    rw [Nat.zero_testBit]
    by_cases hi : i < 12
    · exact md_pcb_0 12 h i hi
    · exact Nat.testBit_lt_two_pow (Nat.lt_of_lt_of_le hm (Nat.pow_le_pow_right (by decide) (by omega)))
  · exact h
def md_okb (m J Pn : Nat) (be to : Int32) : Prop := ∃ q t, q < Pn ∧ t ≤ J ∧ m.testBit q = true ∧ be = nI q ∧ to = nI t - 1
theorem md_ji_okb {px py o : Nat → Int32} {m J Pn pp : Nat} (hpp : pp < Pn) (hb : m.testBit pp = true) : ∀ (n t : Nat) (be to : Int32), t + n ≤ J + 1 → (md_okb m J Pn be to ∨ (be = -1 ∧ 1 ≤ n)) → md_okb m J Pn (md_ji px py o pp n t be to).1 (md_ji px py o pp n t be to).2 := by
  intro n
  induction n with
  | zero =>
    intro t be to _ h
    rcases h with h | h
    · exact h
    · exact absurd h.2 (by omega)
  | succ n ih =>
    intro t be to ht h
    rw [md_ji]
    split
    · exact ih _ _ _ (by omega) (Or.inl ⟨pp, t, hpp, by omega, hb, rfl, rfl⟩)
    · rename_i hc
      rcases h with h | h
      · exact ih _ _ _ (by omega) (Or.inl h)
      · exact absurd (Or.inl h.1) hc
theorem md_jq_run {px py o : Nat → Int32} {m J Pn : Nat} (hPn : Pn ≤ 12) (hm : m < 2 ^ Pn) : ∀ (n pp : Nat) (be to : Int32), pp + n = Pn → (md_okb m J Pn be to ∨ (be = -1 ∧ ∃ q, pp ≤ q ∧ q < Pn ∧ m.testBit q = true)) → md_okb m J Pn (md_jq px py o J (nI m) n pp be to).1 (md_jq px py o J (nI m) n pp be to).2 := by
  have h31 : m < 2 ^ 31 := Nat.lt_of_lt_of_le hm (Nat.pow_le_pow_right (by decide) (by omega))
  intro n
  induction n with
  | zero =>
    intro pp be to hp h
    rcases h with h | ⟨_, q, h1, h2, _⟩
    · exact h
    · exact absurd h1 (by omega)
  | succ n ih =>
    intro pp be to hp h
    rw [md_jq]
    refine ih (pp + 1) _ _ (by omega) ?_
    rw [md_jp, md_in_bit h31 (by omega)]
    cases hb : m.testBit pp with
    | true =>
      rw [if_pos rfl]
      refine Or.inl (md_ji_okb (by omega) hb _ _ _ _ (by omega) ?_)
      rcases h with h | h
      · exact Or.inl h
      · exact Or.inr ⟨h.1, by omega⟩
    | false =>
      rw [if_neg (by decide)]
      rcases h with h | ⟨h0, q, h1, h2, h3⟩
      · exact Or.inl h
      · refine Or.inr ⟨h0, q, ?_, h2, h3⟩
        rcases Nat.lt_or_ge pp q with h9 | h9
        · omega
        · have : q = pp := by omega
          rw [this, hb] at h3
          cases h3
theorem md_jq_spec {px py o : Nat → Int32} {m J Pn : Nat} (hPn : Pn ≤ 12) (hm : m < 2 ^ Pn) (hne : m ≠ 0) : ∃ b t, b < Pn ∧ t ≤ J ∧ m.testBit b = true ∧ md_jq px py o J (nI m) Pn 0 (-1) (-1) = (nI b, nI t - 1) := by
  have hbit : ∃ q, 0 ≤ q ∧ q < Pn ∧ m.testBit q = true := by
    obtain ⟨q, hq⟩ := Nat.exists_testBit_of_ne_zero hne
    refine ⟨q, Nat.zero_le q, ?_, hq⟩
    rcases Nat.lt_or_ge q Pn with h | h
    · exact h
    · rw [Nat.testBit_lt_two_pow (Nat.lt_of_lt_of_le hm (Nat.pow_le_pow_right (by decide) h))] at hq; cases hq
  obtain ⟨b, t, h1, h2, h3, h4, h5⟩ := md_jq_run (px := px) (py := py) (o := o) (J := J) hPn hm Pn 0 (-1) (-1) (by omega) (Or.inr ⟨rfl, hbit⟩)
  exact ⟨b, t, h1, h2, h3, Prod.ext h4 h5⟩
def md_jn (px py : Nat → Int32) (Pn : Nat) : Nat → Nat → Int32 → (Nat → Int32) → (Nat → Int32) → (Nat → Int32) → (Nat → Int32) → (Nat → Int32) → Nat × (Nat → Int32) × (Nat → Int32) × (Nat → Int32) × (Nat → Int32) × (Nat → Int32)
  | 0, J, _, o, u, l, h, t => (J, o, u, l, h, t)
  | n + 1, J, lf, o, u, l, h, t => if lf = 0 then (J, o, u, l, h, t) else
    md_jn px py Pn n (J + 1) (lf &&& ((1 <<< ((md_jq px py o J lf Pn 0 (-1) (-1)).1 &&& 31)) ^^^ (-1))) (upd o J (md_jq px py o J lf Pn 0 (-1) (-1)).1)
      (upd u (md_jq px py o J lf Pn 0 (-1) (-1)).1.toNatClampNeg (if 0 ≤ (md_jq px py o J lf Pn 0 (-1) (-1)).2 then o (md_jq px py o J lf Pn 0 (-1) (-1)).2.toNatClampNeg else -1))
      (upd l (md_jq px py o J lf Pn 0 (-1) (-1)).1.toNatClampNeg (md_far px py o (md_jq px py o J lf Pn 0 (-1) (-1)).1 (md_jq px py o J lf Pn 0 (-1) (-1)).2))
      (upd h (md_jq px py o J lf Pn 0 (-1) (-1)).1.toNatClampNeg 0) (upd t (md_jq px py o J lf Pn 0 (-1) (-1)).1.toNatClampNeg (nI J))
theorem md_jn_step {px py o u l h t : Nat → Int32} {Pn n J m b tt : Nat} (hne : ¬ nI m = 0) (e : md_jq px py o J (nI m) Pn 0 (-1) (-1) = (nI b, nI tt - 1)) (hm : m < 2 ^ Pn) (hPn : Pn ≤ 12) (hb : b < Pn) :
    md_jn px py Pn (n + 1) J (nI m) o u l h t = md_jn px py Pn n (J + 1) (nI (md_clb m b)) (upd o J (nI b)) (upd u b (if 0 ≤ nI tt - 1 then o (nI tt - 1).toNatClampNeg else -1)) (upd l b (md_far px py o (nI b) (nI tt - 1))) (upd h b 0) (upd t b (nI J)) := by
  rw [md_jn, if_neg hne, e]
  show md_jn px py Pn n (J + 1) (nI m &&& ((1 <<< (nI b &&& 31)) ^^^ (-1))) (upd o J (nI b)) (upd u (nI b).toNatClampNeg _) (upd l (nI b).toNatClampNeg _) (upd h (nI b).toNatClampNeg 0) (upd t (nI b).toNatClampNeg (nI J)) = _
  rw [nI_clamp (by omega), md_clb_eq hm hPn hb]
theorem md_ordv {o : Nat → Int32} {J b Pn : Nat} (ho : ∀ z, z < J → vp_in (o z) 12) (hb : b < Pn) (hPn : Pn ≤ 12) : ∀ z, z < J + 1 → vp_in (upd o J (nI b) z) 12 := by
  intro z hz
  by_cases e : z = J
  · subst e; rw [pk_us]; exact vp_in_nI (by omega) (by decide)
  · rw [pk_un e]; exact ho z (by omega)

def md_inv (Pn m J : Nat) (o u : Nat → Int32) : Prop := (∀ z, z < J → ∃ q, q < Pn ∧ o z = nI q ∧ m.testBit q = false) ∧ ∀ z, z < J → u (o z).toNatClampNeg = -1 ∨ ∃ z', z' < z ∧ u (o z).toNatClampNeg = o z'
theorem md_inv_step {Pn m J b tt : Nat} {o u : Nat → Int32} (hPn : Pn ≤ 12) (hJ : J ≤ 12) (hb : b < Pn) (hbit : m.testBit b = true) (htt : tt ≤ J) (h : md_inv Pn m J o u) : md_inv Pn (md_clb m b) (J + 1) (upd o J (nI b)) (upd u b (if 0 ≤ nI tt - 1 then o (nI tt - 1).toNatClampNeg else -1)) := by
  obtain ⟨h1, h2⟩ := h
  refine ⟨fun z hz => ?_, fun z hz => ?_⟩
  · by_cases e : z = J
    · subst e
      exact ⟨b, hb, pk_us, by rw [md_clb_bit (by omega) (by omega)]; simp⟩
    · rw [pk_un e]
      obtain ⟨q, a1, a2, a3⟩ := h1 z (by omega)
      exact ⟨q, a1, a2, by rw [md_clb_bit (by omega) (by omega), a3]; rfl⟩
  · by_cases e : z = J
    · subst e
      rw [pk_us, nI_clamp (by omega), pk_us]
      cases tt with
      | zero => left; rfl
      | succ k =>
        right
        rw [nI_pred, if_pos (nI_pos' (by omega)), nI_clamp (by omega)]
        exact ⟨k, by omega, by rw [pk_un (by omega)]⟩
    · rw [pk_un e]
      obtain ⟨q, a1, a2, a3⟩ := h1 z (by omega)
      have hqb : q ≠ b := fun e9 => by rw [e9, hbit] at a3; cases a3
      rw [a2, nI_clamp (by omega), pk_un hqb]
      rcases h2 z (by omega) with h9 | ⟨z', h9, h8⟩
      · left; rw [a2, nI_clamp (by omega)] at h9; exact h9
      · right
        rw [a2, nI_clamp (by omega)] at h8
        exact ⟨z', h9, by rw [pk_un (by omega)]; exact h8⟩
theorem md_jn_run {px py : Nat → Int32} {Pn : Nat} (hPn : Pn ≤ 12) : ∀ (n J m : Nat) (o u l h t : Nat → Int32), J + n ≤ 12 → m < 2 ^ Pn → md_pcb 12 m ≤ n → md_inv Pn m J o u →
    (md_jn px py Pn n J (nI m) o u l h t).1 ≤ 12 ∧ md_inv Pn 0 (md_jn px py Pn n J (nI m) o u l h t).1 (md_jn px py Pn n J (nI m) o u l h t).2.1 (md_jn px py Pn n J (nI m) o u l h t).2.2.1 ∧
    ∀ q, q < 12 → (m.testBit q = true ∨ ∃ z, z < J ∧ o z = nI q) → ∃ z, z < (md_jn px py Pn n J (nI m) o u l h t).1 ∧ (md_jn px py Pn n J (nI m) o u l h t).2.1 z = nI q := by
  intro n
  induction n with
  | zero =>
    intro J m o u l h t hJ hm hp hi
    have hm0 : m = 0 := by
      rcases Nat.eq_zero_or_pos m with h9 | h9
      · exact h9
      · exact absurd (md_pcb_pos hPn hm (by omega)) (by omega)
    subst hm0
    refine ⟨by show J ≤ 12; omega, hi, fun q _ hq => ?_⟩
    rcases hq with h9 | h9
    · rw [Nat.zero_testBit] at h9; cases h9
    · exact h9
  | succ n ih =>
    intro J m o u l h t hJ hm hp hi
    by_cases hm0 : m = 0
    · subst hm0
      rw [md_jn, if_pos (show nI 0 = 0 from rfl)]
      refine ⟨by show J ≤ 12; omega, hi, fun q _ hq => ?_⟩
      rcases hq with h9 | h9
      · rw [Nat.zero_testBit] at h9; cases h9
      · exact h9
    · obtain ⟨b, tt, hb, htt, hbit, e⟩ := md_jq_spec (px := px) (py := py) (o := o) (J := J) hPn hm hm0
      have hne : ¬ nI m = 0 := fun e9 => hm0 (by
        have h31 : m < 2 ^ 31 := Nat.lt_of_lt_of_le hm (Nat.pow_le_pow_right (by decide) (by omega))
        rw [show (0 : Int32) = nI 0 from rfl, nI_eq h31 (by decide)] at e9; exact e9)
      rw [md_jn_step hne e hm hPn hb]
      have hpc := md_pcb_clr (m := m) (b := b) (by omega) hbit
      obtain ⟨r1, r2, r3⟩ := ih (J + 1) (md_clb m b) (upd o J (nI b)) (upd u b (if 0 ≤ nI tt - 1 then o (nI tt - 1).toNatClampNeg else -1)) (upd l b (md_far px py o (nI b) (nI tt - 1))) (upd h b 0) (upd t b (nI J)) (by omega) (md_clb_lt hm) (by omega) (md_inv_step hPn (by omega) hb hbit htt hi)
      refine ⟨r1, r2, fun q hq hs => r3 q hq ?_⟩
      by_cases eq : q = b
      · subst eq; exact Or.inr ⟨J, by omega, pk_us⟩
      · rcases hs with h9 | ⟨z, hz, ez⟩
        · left; rw [md_clb_bit (by omega) hq, h9]; simp [eq]
        · right; exact ⟨z, by omega, by rw [pk_un (by omega)]; exact ez⟩
theorem md_jn_spec {px py o u le he tu : Nat → Int32} {set : Int32} {Pn m : Nat} (hPn : Pn ≤ 12) (hs : set = nI m) (hm : m < 2 ^ Pn) :
    (md_jn px py Pn 12 0 set o u le he tu).1 ≤ 12 ∧ (∀ z, z < (md_jn px py Pn 12 0 set o u le he tu).1 → vp_in ((md_jn px py Pn 12 0 set o u le he tu).2.1 z) 12) ∧
    ∀ z, z < (md_jn px py Pn 12 0 set o u le he tu).1 → (md_jn px py Pn 12 0 set o u le he tu).2.2.1 ((md_jn px py Pn 12 0 set o u le he tu).2.1 z).toNatClampNeg = -1 ∨ ∃ z', z' < z ∧ (md_jn px py Pn 12 0 set o u le he tu).2.2.1 ((md_jn px py Pn 12 0 set o u le he tu).2.1 z).toNatClampNeg = (md_jn px py Pn 12 0 set o u le he tu).2.1 z' := by
  subst hs
  obtain ⟨r1, ⟨r2, r3⟩, _⟩ := md_jn_run (px := px) (py := py) hPn 12 0 m o u le he tu (by omega) hm (md_pcb_le 12 m) ⟨fun z hz => absurd hz (Nat.not_lt_zero z), fun z hz => absurd hz (Nat.not_lt_zero z)⟩
  refine ⟨r1, fun z hz => ?_, r3⟩
  obtain ⟨q, a1, a2, -⟩ := r2 z hz
  rw [a2]; exact vp_in_nI (by omega) (by decide)
def md_cl (up : Nat → Int32) : Nat → Int32 → (Nat → Int32) → Nat → Int32
  | 0, _, h => h
  | n + 1, p, h => if p = -1 then h else md_cl up n (up p.toNatClampNeg) (upd h p.toNatClampNeg (h p.toNatClampNeg + 1))
def md_hs (up o : Nat → Int32) : Nat → Nat → (Nat → Int32) → Nat → Int32
  | 0, _, h => h
  | n + 1, i, h => md_hs up o n (i + 1) (md_cl up 13 (o i) h)
def md_jfin (R : Nat × (Nat → Int32) × (Nat → Int32) × (Nat → Int32) × (Nat → Int32) × (Nat → Int32)) : Nat × (Nat → Int32) × (Nat → Int32) × (Nat → Int32) × (Nat → Int32) × (Nat → Int32) := (R.1, R.2.1, R.2.2.1, R.2.2.2.1, md_hs R.2.2.1 R.2.1 R.1 0 R.2.2.2.2.1, R.2.2.2.2.2)
def md_join (px py : Nat → Int32) (Pn : Nat) (set : Int32) (o u l h t : Nat → Int32) : Nat × (Nat → Int32) × (Nat → Int32) × (Nat → Int32) × (Nat → Int32) × (Nat → Int32) := md_jfin (md_jn px py Pn 12 0 set o u l h t)
set_option maxHeartbeats 4000000 in
set_option maxRecDepth 100000 in
theorem cM_far (l : Launch) (dC : Nat → ClassId) (dI : Nat → Nat → Nat) (h1 b_wall b_px b_py b_loss b_reached b_order b_upper b_length b_heads b_turn : Nat) (cd : Int32) (Wd Ht Pn : Nat) (rs jc : Int32) (cI : ClassId) (g_px g_py g_order : Nat → Int32) (x i : Int32) (hx0 : vp_in x 12) (hi : i < 0 ∨ vp_in i 12 ∧ vp_in (g_order i.toNatClampNeg) 12) : Met l yM_far (kM_far :: WD) { frames := 1, cells := 0, slots := 0, locals := 20 } (va_Pc [.ref h1, .int x, .int i] (xw (dC, dI) snC [(h1, .inr (1, [.int cd, .int (nI Wd), .int (nI Ht), .ref b_wall, .int rs, .int (nI Pn), .ref b_px, .ref b_py, .ref b_loss, .ref b_reached, .int jc, .ref b_order, .ref b_upper, .ref b_length, .ref b_heads, .ref b_turn])), (b_px, .inl (cI, 12, .inl g_px)), (b_py, .inl (cI, 12, .inl g_py)), (b_order, .inl (cI, 12, .inl g_order))] [(cI, .int)])) (xr_Q (fun r => r = md_far g_px g_py g_order x i)) 0 0 (fun _ => False) := by
  refine Met.ofW (cc := bM_far) (maxL := 5) (ret := (some .int)) (by decide) rfl ?_
  intro p e s m args below meth c s₁ B hml hv
  obtain ⟨rfl, hP, hK⟩ := hv
  have hx := B.exec
  have hb := B.bytes
  have hr := B.returns
  have hts : ∀ w ∈ WD, w.before _ s = true := fun w h => atoms_spec (ws := kM_far :: WD) B.pre w (List.mem_cons_of_mem _ h)
  have hown : s.vm.findClass R_M = some m.cls := findClass_of_methodNamed B.named
  have hlocks := B.notSynchronized
  have hl := lv_entry ([.ref h1, .int x, .int i]) (n := 5) (Nat.le_of_ble_eq_true rfl)
  rw [lg_entry_eq]
  generalize (lg_sl ([.ref h1, .int x, .int i]) ++ List.replicate (5 - (lg_sl ([.ref h1, .int x, .int i])).length) Slot.unset).toArray = ls at hl ⊢
  have hl : lv_has ls 5 [(0, .ref h1), (1, .int x), (2, .int i)] := hl
  refine lv_iload_n hx hb dM_far_0 rfl (lv_at hl 2 rfl) ?_
  refine lv_if_ge (tgt := 8) hx hb dM_far_1 (by decide) (fun c_1 => ?_) (fun c_1 => ?_)
  · have hi9 := hi.resolve_left (Int32.not_lt.mpr c_1)
    refine lv_aload_n hx hb dM_far_8 rfl (lv_at hl 0 rfl) ?_
    refine va_get (D := (dC, dI)) (ci := 1) (v := .ref b_px) (C := R_M) (T := T_M) (N := 16) hx hb hts in_M hown hK hP 0 rfl rfl 6 (by decide) (hts _ flM17) (fun _ h9 => h9) rfl dM_far_9 ?_
    refine lv_aload_n hx hb dM_far_12 rfl (lv_at hl 0 rfl) ?_
    refine va_get (D := (dC, dI)) (ci := 1) (v := .ref b_order) (C := R_M) (T := T_M) (N := 16) hx hb hts in_M hown hK hP 0 rfl rfl 11 (by decide) (hts _ flM30) (fun _ h9 => h9) rfl dM_far_13 ?_
    refine lv_iload_n hx hb dM_far_16 rfl (lv_at hl 2 rfl) ?_
    refine va_iald hx hb hK hP 3 0 rfl rfl hi9.1 dM_far_17 ?_
    refine va_iald hx hb hK hP 1 0 rfl rfl hi9.2 dM_far_18 ?_
    refine lv_istore_n (lv' := [(3, .int (g_px (g_order i.toNatClampNeg).toNatClampNeg)), (0, .ref h1), (1, .int x), (2, .int i)]) hx hb dM_far_19 rfl hl (by decide) rfl (fun ls hl => ?_)
    refine lv_iload_n hx hb dM_far_20 rfl (lv_at hl 3 rfl) ?_
    refine lv_if_ge (tgt := 28) hx hb dM_far_21 (by decide) (fun c_2 => ?_) (fun c_2 => ?_)
    · have hi9 := hi.resolve_left (Int32.not_lt.mpr c_2)
      refine lv_aload_n hx hb dM_far_28 rfl (lv_at hl 1 rfl) ?_
      refine va_get (D := (dC, dI)) (ci := 1) (v := .ref b_py) (C := R_M) (T := T_M) (N := 16) hx hb hts in_M hown hK hP 0 rfl rfl 7 (by decide) (hts _ flM21) (fun _ h9 => h9) rfl dM_far_29 ?_
      refine lv_aload_n hx hb dM_far_32 rfl (lv_at hl 1 rfl) ?_
      refine va_get (D := (dC, dI)) (ci := 1) (v := .ref b_order) (C := R_M) (T := T_M) (N := 16) hx hb hts in_M hown hK hP 0 rfl rfl 11 (by decide) (hts _ flM30) (fun _ h9 => h9) rfl dM_far_33 ?_
      refine lv_iload_n hx hb dM_far_36 rfl (lv_at hl 3 rfl) ?_
      refine va_iald hx hb hK hP 3 0 rfl rfl hi9.1 dM_far_37 ?_
      refine va_iald hx hb hK hP 2 0 rfl rfl hi9.2 dM_far_38 ?_
      refine lv_istore (lv' := [(4, .int (g_py (g_order i.toNatClampNeg).toNatClampNeg)), (3, .int (g_px (g_order i.toNatClampNeg).toNatClampNeg)), (0, .ref h1), (1, .int x), (2, .int i)]) hx hb dM_far_39 hl (by decide) rfl (fun ls hl => ?_)
      refine lv_aload_n hx hb dM_far_41 rfl (lv_at hl 2 rfl) ?_
      refine va_get (D := (dC, dI)) (ci := 1) (v := .ref b_px) (C := R_M) (T := T_M) (N := 16) hx hb hts in_M hown hK hP 0 rfl rfl 6 (by decide) (hts _ flM17) (fun _ h9 => h9) rfl dM_far_42 ?_
      refine lv_iload_n hx hb dM_far_45 rfl (lv_at hl 3 rfl) ?_
      refine va_iald hx hb hK hP 1 0 rfl rfl hx0 dM_far_46 ?_
      refine lv_iload_n hx hb dM_far_47 rfl (lv_at hl 1 rfl) ?_
      refine lv_isub hx hb dM_far_48 ?_
      refine xr_S (As := [.int ((g_px x.toNatClampNeg) - (g_px (g_order i.toNatClampNeg).toNatClampNeg))]) ⟨hx, hb, hml, hown, hts⟩ (cM_plain l dC dI ((g_px x.toNatClampNeg) - (g_px (g_order i.toNatClampNeg).toNatClampNeg))) (va_cwS 1 hts gM104 rfl rfl rfl (by decide +kernel) ⟨Nat.le_of_ble_eq_true rfl, Nat.le_of_ble_eq_true rfl⟩) hK hP [] [] rfl rfl rfl hl.1 rfl (Nat.le_of_ble_eq_true rfl) dM_far_49 ⟨Nat.le_of_ble_eq_true rfl, Nat.le_of_ble_eq_true rfl⟩ (fun r_3 hr_3 => ?_)
      subst hr_3
      refine lv_aload_n hx hb dM_far_52 rfl (lv_at hl 2 rfl) ?_
      refine va_get (D := (dC, dI)) (ci := 1) (v := .ref b_py) (C := R_M) (T := T_M) (N := 16) hx hb hts in_M hown hK hP 0 rfl rfl 7 (by decide) (hts _ flM21) (fun _ h9 => h9) rfl dM_far_53 ?_
      refine lv_iload_n hx hb dM_far_56 rfl (lv_at hl 3 rfl) ?_
      refine va_iald hx hb hK hP 2 0 rfl rfl hx0 dM_far_57 ?_
      refine lv_iload hx hb dM_far_58 (lv_at hl 0 rfl) ?_
      refine lv_isub hx hb dM_far_60 ?_
      refine xr_S (As := [.int ((g_py x.toNatClampNeg) - (g_py (g_order i.toNatClampNeg).toNatClampNeg))]) ⟨hx, hb, hml, hown, hts⟩ (cM_plain l dC dI ((g_py x.toNatClampNeg) - (g_py (g_order i.toNatClampNeg).toNatClampNeg))) (va_cwS 1 hts gM104 rfl rfl rfl (by decide +kernel) ⟨Nat.le_of_ble_eq_true rfl, Nat.le_of_ble_eq_true rfl⟩) hK hP [] [] rfl rfl rfl hl.1 rfl (Nat.le_of_ble_eq_true rfl) dM_far_61 ⟨Nat.le_of_ble_eq_true rfl, Nat.le_of_ble_eq_true rfl⟩ (fun r_4 hr_4 => ?_)
      subst hr_4
      refine lv_iadd hx hb dM_far_64 ?_
      exact W.iret (v := (md_plain ((g_px x.toNatClampNeg) - (g_px (g_order i.toNatClampNeg).toNatClampNeg))) + (md_plain ((g_py x.toNatClampNeg) - (g_py (g_order i.toNatClampNeg).toNatClampNeg)))) hx hb hr (fun t ht hW => ⟨⟨(md_plain ((g_px x.toNatClampNeg) - (g_px (g_order i.toNatClampNeg).toNatClampNeg))) + (md_plain ((g_py x.toNatClampNeg) - (g_py (g_order i.toNatClampNeg).toNatClampNeg))), rfl, (by first | (simp [md_far, c_1, c_2]; done) | contradiction)⟩, ht⟩) (fun _ h => absurd h List.not_mem_nil) dM_far_65
    · refine lv_iconst (v := 0) hx hb dM_far_24 (by decide) ?_
      refine lv_goto (tgt := 39) hx hb dM_far_25 (by decide) ?_
      refine lv_istore (lv' := [(4, .int 0), (3, .int (g_px (g_order i.toNatClampNeg).toNatClampNeg)), (0, .ref h1), (1, .int x), (2, .int i)]) hx hb dM_far_39 hl (by decide) rfl (fun ls hl => ?_)
      refine lv_aload_n hx hb dM_far_41 rfl (lv_at hl 2 rfl) ?_
      refine va_get (D := (dC, dI)) (ci := 1) (v := .ref b_px) (C := R_M) (T := T_M) (N := 16) hx hb hts in_M hown hK hP 0 rfl rfl 6 (by decide) (hts _ flM17) (fun _ h9 => h9) rfl dM_far_42 ?_
      refine lv_iload_n hx hb dM_far_45 rfl (lv_at hl 3 rfl) ?_
      refine va_iald hx hb hK hP 1 0 rfl rfl hx0 dM_far_46 ?_
      refine lv_iload_n hx hb dM_far_47 rfl (lv_at hl 1 rfl) ?_
      refine lv_isub hx hb dM_far_48 ?_
      refine xr_S (As := [.int ((g_px x.toNatClampNeg) - (g_px (g_order i.toNatClampNeg).toNatClampNeg))]) ⟨hx, hb, hml, hown, hts⟩ (cM_plain l dC dI ((g_px x.toNatClampNeg) - (g_px (g_order i.toNatClampNeg).toNatClampNeg))) (va_cwS 1 hts gM104 rfl rfl rfl (by decide +kernel) ⟨Nat.le_of_ble_eq_true rfl, Nat.le_of_ble_eq_true rfl⟩) hK hP [] [] rfl rfl rfl hl.1 rfl (Nat.le_of_ble_eq_true rfl) dM_far_49 ⟨Nat.le_of_ble_eq_true rfl, Nat.le_of_ble_eq_true rfl⟩ (fun r_5 hr_5 => ?_)
      subst hr_5
      refine lv_aload_n hx hb dM_far_52 rfl (lv_at hl 2 rfl) ?_
      refine va_get (D := (dC, dI)) (ci := 1) (v := .ref b_py) (C := R_M) (T := T_M) (N := 16) hx hb hts in_M hown hK hP 0 rfl rfl 7 (by decide) (hts _ flM21) (fun _ h9 => h9) rfl dM_far_53 ?_
      refine lv_iload_n hx hb dM_far_56 rfl (lv_at hl 3 rfl) ?_
      refine va_iald hx hb hK hP 2 0 rfl rfl hx0 dM_far_57 ?_
      refine lv_iload hx hb dM_far_58 (lv_at hl 0 rfl) ?_
      refine lv_isub hx hb dM_far_60 ?_
      refine xr_S (As := [.int ((g_py x.toNatClampNeg) - 0)]) ⟨hx, hb, hml, hown, hts⟩ (cM_plain l dC dI ((g_py x.toNatClampNeg) - 0)) (va_cwS 1 hts gM104 rfl rfl rfl (by decide +kernel) ⟨Nat.le_of_ble_eq_true rfl, Nat.le_of_ble_eq_true rfl⟩) hK hP [] [] rfl rfl rfl hl.1 rfl (Nat.le_of_ble_eq_true rfl) dM_far_61 ⟨Nat.le_of_ble_eq_true rfl, Nat.le_of_ble_eq_true rfl⟩ (fun r_6 hr_6 => ?_)
      subst hr_6
      refine lv_iadd hx hb dM_far_64 ?_
      exact W.iret (v := (md_plain ((g_px x.toNatClampNeg) - (g_px (g_order i.toNatClampNeg).toNatClampNeg))) + (md_plain ((g_py x.toNatClampNeg) - 0))) hx hb hr (fun t ht hW => ⟨⟨(md_plain ((g_px x.toNatClampNeg) - (g_px (g_order i.toNatClampNeg).toNatClampNeg))) + (md_plain ((g_py x.toNatClampNeg) - 0)), rfl, (by first | (simp [md_far, c_1, c_2]; done) | contradiction)⟩, ht⟩) (fun _ h => absurd h List.not_mem_nil) dM_far_65
  · refine lv_iconst (v := 0) hx hb dM_far_4 (by decide) ?_
    refine lv_goto (tgt := 19) hx hb dM_far_5 (by decide) ?_
    refine lv_istore_n (lv' := [(3, .int 0), (0, .ref h1), (1, .int x), (2, .int i)]) hx hb dM_far_19 rfl hl (by decide) rfl (fun ls hl => ?_)
    refine lv_iload_n hx hb dM_far_20 rfl (lv_at hl 3 rfl) ?_
    refine lv_if_ge (tgt := 28) hx hb dM_far_21 (by decide) (fun c_7 => ?_) (fun c_7 => ?_)
    · have hi9 := hi.resolve_left (Int32.not_lt.mpr c_7)
      refine lv_aload_n hx hb dM_far_28 rfl (lv_at hl 1 rfl) ?_
      refine va_get (D := (dC, dI)) (ci := 1) (v := .ref b_py) (C := R_M) (T := T_M) (N := 16) hx hb hts in_M hown hK hP 0 rfl rfl 7 (by decide) (hts _ flM21) (fun _ h9 => h9) rfl dM_far_29 ?_
      refine lv_aload_n hx hb dM_far_32 rfl (lv_at hl 1 rfl) ?_
      refine va_get (D := (dC, dI)) (ci := 1) (v := .ref b_order) (C := R_M) (T := T_M) (N := 16) hx hb hts in_M hown hK hP 0 rfl rfl 11 (by decide) (hts _ flM30) (fun _ h9 => h9) rfl dM_far_33 ?_
      refine lv_iload_n hx hb dM_far_36 rfl (lv_at hl 3 rfl) ?_
      refine va_iald hx hb hK hP 3 0 rfl rfl hi9.1 dM_far_37 ?_
      refine va_iald hx hb hK hP 2 0 rfl rfl hi9.2 dM_far_38 ?_
      refine lv_istore (lv' := [(4, .int (g_py (g_order i.toNatClampNeg).toNatClampNeg)), (3, .int 0), (0, .ref h1), (1, .int x), (2, .int i)]) hx hb dM_far_39 hl (by decide) rfl (fun ls hl => ?_)
      refine lv_aload_n hx hb dM_far_41 rfl (lv_at hl 2 rfl) ?_
      refine va_get (D := (dC, dI)) (ci := 1) (v := .ref b_px) (C := R_M) (T := T_M) (N := 16) hx hb hts in_M hown hK hP 0 rfl rfl 6 (by decide) (hts _ flM17) (fun _ h9 => h9) rfl dM_far_42 ?_
      refine lv_iload_n hx hb dM_far_45 rfl (lv_at hl 3 rfl) ?_
      refine va_iald hx hb hK hP 1 0 rfl rfl hx0 dM_far_46 ?_
      refine lv_iload_n hx hb dM_far_47 rfl (lv_at hl 1 rfl) ?_
      refine lv_isub hx hb dM_far_48 ?_
      refine xr_S (As := [.int ((g_px x.toNatClampNeg) - 0)]) ⟨hx, hb, hml, hown, hts⟩ (cM_plain l dC dI ((g_px x.toNatClampNeg) - 0)) (va_cwS 1 hts gM104 rfl rfl rfl (by decide +kernel) ⟨Nat.le_of_ble_eq_true rfl, Nat.le_of_ble_eq_true rfl⟩) hK hP [] [] rfl rfl rfl hl.1 rfl (Nat.le_of_ble_eq_true rfl) dM_far_49 ⟨Nat.le_of_ble_eq_true rfl, Nat.le_of_ble_eq_true rfl⟩ (fun r_8 hr_8 => ?_)
      subst hr_8
      refine lv_aload_n hx hb dM_far_52 rfl (lv_at hl 2 rfl) ?_
      refine va_get (D := (dC, dI)) (ci := 1) (v := .ref b_py) (C := R_M) (T := T_M) (N := 16) hx hb hts in_M hown hK hP 0 rfl rfl 7 (by decide) (hts _ flM21) (fun _ h9 => h9) rfl dM_far_53 ?_
      refine lv_iload_n hx hb dM_far_56 rfl (lv_at hl 3 rfl) ?_
      refine va_iald hx hb hK hP 2 0 rfl rfl hx0 dM_far_57 ?_
      refine lv_iload hx hb dM_far_58 (lv_at hl 0 rfl) ?_
      refine lv_isub hx hb dM_far_60 ?_
      refine xr_S (As := [.int ((g_py x.toNatClampNeg) - (g_py (g_order i.toNatClampNeg).toNatClampNeg))]) ⟨hx, hb, hml, hown, hts⟩ (cM_plain l dC dI ((g_py x.toNatClampNeg) - (g_py (g_order i.toNatClampNeg).toNatClampNeg))) (va_cwS 1 hts gM104 rfl rfl rfl (by decide +kernel) ⟨Nat.le_of_ble_eq_true rfl, Nat.le_of_ble_eq_true rfl⟩) hK hP [] [] rfl rfl rfl hl.1 rfl (Nat.le_of_ble_eq_true rfl) dM_far_61 ⟨Nat.le_of_ble_eq_true rfl, Nat.le_of_ble_eq_true rfl⟩ (fun r_9 hr_9 => ?_)
      subst hr_9
      refine lv_iadd hx hb dM_far_64 ?_
      exact W.iret (v := (md_plain ((g_px x.toNatClampNeg) - 0)) + (md_plain ((g_py x.toNatClampNeg) - (g_py (g_order i.toNatClampNeg).toNatClampNeg)))) hx hb hr (fun t ht hW => ⟨⟨(md_plain ((g_px x.toNatClampNeg) - 0)) + (md_plain ((g_py x.toNatClampNeg) - (g_py (g_order i.toNatClampNeg).toNatClampNeg))), rfl, (by first | (simp [md_far, c_1, c_7]; done) | contradiction)⟩, ht⟩) (fun _ h => absurd h List.not_mem_nil) dM_far_65
    · refine lv_iconst (v := 0) hx hb dM_far_24 (by decide) ?_
      refine lv_goto (tgt := 39) hx hb dM_far_25 (by decide) ?_
      refine lv_istore (lv' := [(4, .int 0), (3, .int 0), (0, .ref h1), (1, .int x), (2, .int i)]) hx hb dM_far_39 hl (by decide) rfl (fun ls hl => ?_)
      refine lv_aload_n hx hb dM_far_41 rfl (lv_at hl 2 rfl) ?_
      refine va_get (D := (dC, dI)) (ci := 1) (v := .ref b_px) (C := R_M) (T := T_M) (N := 16) hx hb hts in_M hown hK hP 0 rfl rfl 6 (by decide) (hts _ flM17) (fun _ h9 => h9) rfl dM_far_42 ?_
      refine lv_iload_n hx hb dM_far_45 rfl (lv_at hl 3 rfl) ?_
      refine va_iald hx hb hK hP 1 0 rfl rfl hx0 dM_far_46 ?_
      refine lv_iload_n hx hb dM_far_47 rfl (lv_at hl 1 rfl) ?_
      refine lv_isub hx hb dM_far_48 ?_
      refine xr_S (As := [.int ((g_px x.toNatClampNeg) - 0)]) ⟨hx, hb, hml, hown, hts⟩ (cM_plain l dC dI ((g_px x.toNatClampNeg) - 0)) (va_cwS 1 hts gM104 rfl rfl rfl (by decide +kernel) ⟨Nat.le_of_ble_eq_true rfl, Nat.le_of_ble_eq_true rfl⟩) hK hP [] [] rfl rfl rfl hl.1 rfl (Nat.le_of_ble_eq_true rfl) dM_far_49 ⟨Nat.le_of_ble_eq_true rfl, Nat.le_of_ble_eq_true rfl⟩ (fun r_10 hr_10 => ?_)
      subst hr_10
      refine lv_aload_n hx hb dM_far_52 rfl (lv_at hl 2 rfl) ?_
      refine va_get (D := (dC, dI)) (ci := 1) (v := .ref b_py) (C := R_M) (T := T_M) (N := 16) hx hb hts in_M hown hK hP 0 rfl rfl 7 (by decide) (hts _ flM21) (fun _ h9 => h9) rfl dM_far_53 ?_
      refine lv_iload_n hx hb dM_far_56 rfl (lv_at hl 3 rfl) ?_
      refine va_iald hx hb hK hP 2 0 rfl rfl hx0 dM_far_57 ?_
      refine lv_iload hx hb dM_far_58 (lv_at hl 0 rfl) ?_
      refine lv_isub hx hb dM_far_60 ?_
      refine xr_S (As := [.int ((g_py x.toNatClampNeg) - 0)]) ⟨hx, hb, hml, hown, hts⟩ (cM_plain l dC dI ((g_py x.toNatClampNeg) - 0)) (va_cwS 1 hts gM104 rfl rfl rfl (by decide +kernel) ⟨Nat.le_of_ble_eq_true rfl, Nat.le_of_ble_eq_true rfl⟩) hK hP [] [] rfl rfl rfl hl.1 rfl (Nat.le_of_ble_eq_true rfl) dM_far_61 ⟨Nat.le_of_ble_eq_true rfl, Nat.le_of_ble_eq_true rfl⟩ (fun r_11 hr_11 => ?_)
      subst hr_11
      refine lv_iadd hx hb dM_far_64 ?_
      exact W.iret (v := (md_plain ((g_px x.toNatClampNeg) - 0)) + (md_plain ((g_py x.toNatClampNeg) - 0))) hx hb hr (fun t ht hW => ⟨⟨(md_plain ((g_px x.toNatClampNeg) - 0)) + (md_plain ((g_py x.toNatClampNeg) - 0)), rfl, (by first | (simp [md_far, c_1, c_7]; done) | contradiction)⟩, ht⟩) (fun _ h => absurd h List.not_mem_nil) dM_far_65
set_option maxHeartbeats 4000000 in
set_option maxRecDepth 100000 in
theorem cM_join (l : Launch) (dC : Nat → ClassId) (dI : Nat → Nat → Nat) (h1 b_wall b_px b_py b_loss b_reached b_order b_upper b_length b_heads b_turn : Nat) (cd : Int32) (Wd Ht Pn : Nat) (rs jc : Int32) (cI : ClassId) (g_px g_py g_order g_upper g_length g_heads g_turn : Nat → Int32) (set : Int32) (m0 : Nat) (sz : Nat) (hPn : Pn ≤ 12) (hset : set = nI m0) (hm0 : m0 < 2 ^ Pn) : Met l yM_join (kM_join :: WD) { frames := 2, cells := 0, slots := 0, locals := 44 } (va_Pc [.ref h1, .int set] (xm (dC, dI) snC [(h1, .inr (1, [.int cd, .int (nI Wd), .int (nI Ht), .ref b_wall, .int rs, .int (nI Pn), .ref b_px, .ref b_py, .ref b_loss, .ref b_reached, .int jc, .ref b_order, .ref b_upper, .ref b_length, .ref b_heads, .ref b_turn])), (b_px, .inl (cI, 12, .inl g_px)), (b_py, .inl (cI, 12, .inl g_py)), (b_order, .inl (cI, 12, .inl g_order)), (b_upper, .inl (cI, 12, .inl g_upper)), (b_length, .inl (cI, 12, .inl g_length)), (b_heads, .inl (cI, 12, .inl g_heads)), (b_turn, .inl (cI, 12, .inl g_turn))] [(cI, .int)] sz)) (va_Qv (fun _ : Unit => True) (fun _ => xo (dC, dI) snC [(h1, .inr (1, [.int cd, .int (nI Wd), .int (nI Ht), .ref b_wall, .int rs, .int (nI Pn), .ref b_px, .ref b_py, .ref b_loss, .ref b_reached, .int (nI (md_join g_px g_py Pn set g_order g_upper g_length g_heads g_turn).1), .ref b_order, .ref b_upper, .ref b_length, .ref b_heads, .ref b_turn])), (b_px, .inl (cI, 12, .inl g_px)), (b_py, .inl (cI, 12, .inl g_py)), (b_order, .inl (cI, 12, .inl ((md_join g_px g_py Pn set g_order g_upper g_length g_heads g_turn).2.1))), (b_upper, .inl (cI, 12, .inl ((md_join g_px g_py Pn set g_order g_upper g_length g_heads g_turn).2.2.1))), (b_length, .inl (cI, 12, .inl ((md_join g_px g_py Pn set g_order g_upper g_length g_heads g_turn).2.2.2.1))), (b_heads, .inl (cI, 12, .inl ((md_join g_px g_py Pn set g_order g_upper g_length g_heads g_turn).2.2.2.2.1))), (b_turn, .inl (cI, 12, .inl ((md_join g_px g_py Pn set g_order g_upper g_length g_heads g_turn).2.2.2.2.2)))] [(cI, .int)] (va_A [(h1, .inr (1, [.int cd, .int (nI Wd), .int (nI Ht), .ref b_wall, .int rs, .int (nI Pn), .ref b_px, .ref b_py, .ref b_loss, .ref b_reached, .int jc, .ref b_order, .ref b_upper, .ref b_length, .ref b_heads, .ref b_turn])), (b_px, .inl (cI, 12, .inl g_px)), (b_py, .inl (cI, 12, .inl g_py)), (b_order, .inl (cI, 12, .inl g_order)), (b_upper, .inl (cI, 12, .inl g_upper)), (b_length, .inl (cI, 12, .inl g_length)), (b_heads, .inl (cI, 12, .inl g_heads)), (b_turn, .inl (cI, 12, .inl g_turn))] sz)) (va_A [(h1, .inr (1, [.int cd, .int (nI Wd), .int (nI Ht), .ref b_wall, .int rs, .int (nI Pn), .ref b_px, .ref b_py, .ref b_loss, .ref b_reached, .int jc, .ref b_order, .ref b_upper, .ref b_length, .ref b_heads, .ref b_turn])), (b_px, .inl (cI, 12, .inl g_px)), (b_py, .inl (cI, 12, .inl g_py)), (b_order, .inl (cI, 12, .inl g_order)), (b_upper, .inl (cI, 12, .inl g_upper)), (b_length, .inl (cI, 12, .inl g_length)), (b_heads, .inl (cI, 12, .inl g_heads)), (b_turn, .inl (cI, 12, .inl g_turn))] sz)) 0 0 (va_A [(h1, .inr (1, [.int cd, .int (nI Wd), .int (nI Ht), .ref b_wall, .int rs, .int (nI Pn), .ref b_px, .ref b_py, .ref b_loss, .ref b_reached, .int jc, .ref b_order, .ref b_upper, .ref b_length, .ref b_heads, .ref b_turn])), (b_px, .inl (cI, 12, .inl g_px)), (b_py, .inl (cI, 12, .inl g_py)), (b_order, .inl (cI, 12, .inl g_order)), (b_upper, .inl (cI, 12, .inl g_upper)), (b_length, .inl (cI, 12, .inl g_length)), (b_heads, .inl (cI, 12, .inl g_heads)), (b_turn, .inl (cI, 12, .inl g_turn))] sz) := by
  refine Met.ofW (cc := bM_join) (maxL := 7) (ret := none) (by decide) rfl ?_
  intro p e s m args below meth c s₁ B hml hv
  obtain ⟨rfl, hsz, hP, hK, hD0⟩ := hv
  have hx := B.exec
  have hb := B.bytes
  have hr := B.returns
  have hts : ∀ w ∈ WD, w.before _ s = true := fun w h => atoms_spec (ws := kM_join :: WD) B.pre w (List.mem_cons_of_mem _ h)
  have hown : s.vm.findClass R_M = some m.cls := findClass_of_methodNamed B.named
  have hlocks := B.notSynchronized
  subst hsz
  have hD := hD0.self (sz := s.heap.size)
  generalize hAe : va_A [(h1, .inr (1, [.int cd, .int (nI Wd), .int (nI Ht), .ref b_wall, .int rs, .int (nI Pn), .ref b_px, .ref b_py, .ref b_loss, .ref b_reached, .int jc, .ref b_order, .ref b_upper, .ref b_length, .ref b_heads, .ref b_turn])), (b_px, .inl (cI, 12, .inl g_px)), (b_py, .inl (cI, 12, .inl g_py)), (b_order, .inl (cI, 12, .inl g_order)), (b_upper, .inl (cI, 12, .inl g_upper)), (b_length, .inl (cI, 12, .inl g_length)), (b_heads, .inl (cI, 12, .inl g_heads)), (b_turn, .inl (cI, 12, .inl g_turn))] s.heap.size = A at hD ⊢
  have hA : ∀ q : Nat, s.heap.size ≤ q → A q := fun q h => by rw [← hAe]; exact Or.inr h
  have hS : va_S A s.heap s.heap [] := va_S.rf
  have hl := lv_entry ([.ref h1, .int set]) (n := 7) (Nat.le_of_ble_eq_true rfl)
  rw [lg_entry_eq]
  generalize (lg_sl ([.ref h1, .int set]) ++ List.replicate (7 - (lg_sl ([.ref h1, .int set])).length) Slot.unset).toArray = ls at hl ⊢
  have hl : lv_has ls 7 [(0, .ref h1), (1, .int set)] := hl
  have hjs := md_jn_spec (px := g_px) (py := g_py) (o := g_order) (u := g_upper) (le := g_length) (he := g_heads) (tu := g_turn) hPn hset hm0
  have hjs1 := hjs.1
  have lp31 : ∀ (k n : Nat) (J pp t : Nat) (lf be to : Int32) (z9 : Int32 × Int32) (o1 u1 l1 h9 t1 : Nat → Int32), n < k → J ≤ 12 → pp < Pn → t + n = J + 1 → (∀ z, z < J → vp_in (o1 z) 12) → md_ok J Pn be to → (if md_in lf (nI pp) = true then md_ji g_px g_py o1 pp n t be to else (be, to)) = z9 → (∀ (H : Heap) (locs : List Loc), va_P (dC, dI) snC [(h1, .inr (1, [.int cd, .int (nI Wd), .int (nI Ht), .ref b_wall, .int rs, .int (nI Pn), .ref b_px, .ref b_py, .ref b_loss, .ref b_reached, .int (nI J), .ref b_order, .ref b_upper, .ref b_length, .ref b_heads, .ref b_turn])), (b_px, .inl (cI, 12, .inl g_px)), (b_py, .inl (cI, 12, .inl g_py)), (b_order, .inl (cI, 12, .inl o1)), (b_upper, .inl (cI, 12, .inl u1)), (b_length, .inl (cI, 12, .inl l1)), (b_heads, .inl (cI, 12, .inl h9)), (b_turn, .inl (cI, 12, .inl t1))] H → va_D A [(h1, .inr (1, [.int cd, .int (nI Wd), .int (nI Ht), .ref b_wall, .int rs, .int (nI Pn), .ref b_px, .ref b_py, .ref b_loss, .ref b_reached, .int (nI J), .ref b_order, .ref b_upper, .ref b_length, .ref b_heads, .ref b_turn])), (b_px, .inl (cI, 12, .inl g_px)), (b_py, .inl (cI, 12, .inl g_py)), (b_order, .inl (cI, 12, .inl o1)), (b_upper, .inl (cI, 12, .inl u1)), (b_length, .inl (cI, 12, .inl l1)), (b_heads, .inl (cI, 12, .inl h9)), (b_turn, .inl (cI, 12, .inl t1))] → va_S A s.heap H locs → ∀ ls : Array Slot, lv_has ls 7 [(5, .int (nI pp)), (4, .int z9.2), (3, .int z9.1), (2, .int lf), (0, .ref h1)] → W p l e (headSpec (kM_join :: WD) { frames := 2, cells := 0, slots := 0, locals := 44 }).room s m ([.ref h1, .int set]).toArray below meth c H locs 0 0 (MQ below (va_Qv (fun _ : Unit => True) (fun _ => xo (dC, dI) snC [(h1, .inr (1, [.int cd, .int (nI Wd), .int (nI Ht), .ref b_wall, .int rs, .int (nI Pn), .ref b_px, .ref b_py, .ref b_loss, .ref b_reached, .int (nI (md_join g_px g_py Pn set g_order g_upper g_length g_heads g_turn).1), .ref b_order, .ref b_upper, .ref b_length, .ref b_heads, .ref b_turn])), (b_px, .inl (cI, 12, .inl g_px)), (b_py, .inl (cI, 12, .inl g_py)), (b_order, .inl (cI, 12, .inl ((md_join g_px g_py Pn set g_order g_upper g_length g_heads g_turn).2.1))), (b_upper, .inl (cI, 12, .inl ((md_join g_px g_py Pn set g_order g_upper g_length g_heads g_turn).2.2.1))), (b_length, .inl (cI, 12, .inl ((md_join g_px g_py Pn set g_order g_upper g_length g_heads g_turn).2.2.2.1))), (b_heads, .inl (cI, 12, .inl ((md_join g_px g_py Pn set g_order g_upper g_length g_heads g_turn).2.2.2.2.1))), (b_turn, .inl (cI, 12, .inl ((md_join g_px g_py Pn set g_order g_upper g_length g_heads g_turn).2.2.2.2.2)))] [(cI, .int)] A) A) ([.ref h1, .int set]).toArray s 0 0 (A)) (F0 m 86 ls [])) → ∀ (H : Heap) (locs : List Loc), va_P (dC, dI) snC [(h1, .inr (1, [.int cd, .int (nI Wd), .int (nI Ht), .ref b_wall, .int rs, .int (nI Pn), .ref b_px, .ref b_py, .ref b_loss, .ref b_reached, .int (nI J), .ref b_order, .ref b_upper, .ref b_length, .ref b_heads, .ref b_turn])), (b_px, .inl (cI, 12, .inl g_px)), (b_py, .inl (cI, 12, .inl g_py)), (b_order, .inl (cI, 12, .inl o1)), (b_upper, .inl (cI, 12, .inl u1)), (b_length, .inl (cI, 12, .inl l1)), (b_heads, .inl (cI, 12, .inl h9)), (b_turn, .inl (cI, 12, .inl t1))] H → va_D A [(h1, .inr (1, [.int cd, .int (nI Wd), .int (nI Ht), .ref b_wall, .int rs, .int (nI Pn), .ref b_px, .ref b_py, .ref b_loss, .ref b_reached, .int (nI J), .ref b_order, .ref b_upper, .ref b_length, .ref b_heads, .ref b_turn])), (b_px, .inl (cI, 12, .inl g_px)), (b_py, .inl (cI, 12, .inl g_py)), (b_order, .inl (cI, 12, .inl o1)), (b_upper, .inl (cI, 12, .inl u1)), (b_length, .inl (cI, 12, .inl l1)), (b_heads, .inl (cI, 12, .inl h9)), (b_turn, .inl (cI, 12, .inl t1))] → va_S A s.heap H locs → ∀ ls : Array Slot, lv_has ls 7 [(6, .int (nI t - 1)), (5, .int (nI pp)), (4, .int to), (3, .int be), (2, .int lf), (0, .ref h1)] → W p l e (headSpec (kM_join :: WD) { frames := 2, cells := 0, slots := 0, locals := 44 }).room s m ([.ref h1, .int set]).toArray below meth c H locs 0 0 (MQ below (va_Qv (fun _ : Unit => True) (fun _ => xo (dC, dI) snC [(h1, .inr (1, [.int cd, .int (nI Wd), .int (nI Ht), .ref b_wall, .int rs, .int (nI Pn), .ref b_px, .ref b_py, .ref b_loss, .ref b_reached, .int (nI (md_join g_px g_py Pn set g_order g_upper g_length g_heads g_turn).1), .ref b_order, .ref b_upper, .ref b_length, .ref b_heads, .ref b_turn])), (b_px, .inl (cI, 12, .inl g_px)), (b_py, .inl (cI, 12, .inl g_py)), (b_order, .inl (cI, 12, .inl ((md_join g_px g_py Pn set g_order g_upper g_length g_heads g_turn).2.1))), (b_upper, .inl (cI, 12, .inl ((md_join g_px g_py Pn set g_order g_upper g_length g_heads g_turn).2.2.1))), (b_length, .inl (cI, 12, .inl ((md_join g_px g_py Pn set g_order g_upper g_length g_heads g_turn).2.2.2.1))), (b_heads, .inl (cI, 12, .inl ((md_join g_px g_py Pn set g_order g_upper g_length g_heads g_turn).2.2.2.2.1))), (b_turn, .inl (cI, 12, .inl ((md_join g_px g_py Pn set g_order g_upper g_length g_heads g_turn).2.2.2.2.2)))] [(cI, .int)] A) A) ([.ref h1, .int set]).toArray s 0 0 (A)) (F0 m 31 ls []) := by
    intro k
    induction k with
    | zero => exact fun n _ _ _ _ _ _ _ _ _ _ _ _ h => absurd h (Nat.not_lt_zero n)
    | succ k ih =>
      intro n J pp t lf be to z9 o1 u1 l1 h9 t1 hk hJ hpp hin ho hok hT hend H locs hP hD hS ls hl
      refine lv_iload hx hb dM_join_31 (lv_at hl 0 rfl) ?_
      refine lv_aload_n hx hb dM_join_33 rfl (lv_at hl 5 rfl) ?_
      refine va_get (D := (dC, dI)) (ci := 1) (v := .int (nI J)) (C := R_M) (T := T_M) (N := 16) hx hb hts in_M hown hK hP 0 rfl rfl 10 (by decide) (hts _ flM107) (fun _ h9 => h9) rfl dM_join_34 ?_
      refine lv_icmp_ge (tgt := 86) hx hb dM_join_37 (by decide) (fun c_1 => ?_) (fun c_1 => ?_)
      · have hz := md_t1ge (by omega) (by omega) c_1
        obtain rfl : n = 0 := by omega
        obtain rfl : (be, to) = z9 := by rw [← hT]; first | (simp [md_ji, c_1]; done) | (simp [hnb]; done)
        exact hend  _ _ hP hD hS ls (lv_sub hl [1, 2, 3, 4, 5] rfl)
      · have hz := md_t1lt (by omega) (by omega) c_1
        obtain ⟨n, rfl⟩ : ∃ n', n = n' + 1 := ⟨n - 1, by omega⟩
        refine lv_iload_n hx hb dM_join_40 rfl (lv_at hl 4 rfl) ?_
        refine lv_iload hx hb dM_join_41 (lv_at hl 1 rfl) ?_
        refine lv_ishr hx hb dM_join_43 ?_
        refine lv_iconst (v := 1) hx hb dM_join_44 (by decide) ?_
        refine lv_iand hx hb dM_join_45 ?_
        refine lv_iconst (v := 1) hx hb dM_join_46 (by decide) ?_
        refine lv_icmp_ne (tgt := 86) hx hb dM_join_47 (by decide) (fun c_2 => ?_) (fun c_2 => ?_)
        · have hnb : md_in lf (nI pp) = false := by simp [md_in, c_2]
          obtain rfl : (be, to) = z9 := by rw [← hT]; first | (simp [md_ji, c_1, c_2]; done) | (simp [hnb]; done)
          exact hend  _ _ hP hD hS ls (lv_sub hl [1, 2, 3, 4, 5] rfl)
        · have hbit : md_in lf (nI pp) = true := by simp [md_in, c_2]
          refine lv_iload_n hx hb dM_join_50 rfl (lv_at hl 3 rfl) ?_
          refine lv_iconst (v := (-1)) hx hb dM_join_51 (by decide) ?_
          refine lv_icmp_eq (tgt := 73) hx hb dM_join_52 (by decide) (fun c_3 => ?_) (fun c_3 => ?_)
          · refine lv_iload hx hb dM_join_73 (lv_at hl 1 rfl) ?_
            refine lv_istore_n (lv' := [(3, .int (nI pp)), (6, .int (nI t - 1)), (5, .int (nI pp)), (4, .int to), (2, .int lf), (0, .ref h1)]) hx hb dM_join_75 rfl hl (by decide) rfl (fun ls hl => ?_)
            refine lv_iload hx hb dM_join_76 (lv_at hl 1 rfl) ?_
            refine lv_istore (lv' := [(4, .int (nI t - 1)), (3, .int (nI pp)), (6, .int (nI t - 1)), (5, .int (nI pp)), (2, .int lf), (0, .ref h1)]) hx hb dM_join_78 hl (by decide) rfl (fun ls hl => ?_)
            refine lv_iinc (v := ((nI t - 1) + 1)) (lv' := [(6, .int ((nI t - 1) + 1)), (4, .int (nI t - 1)), (3, .int (nI pp)), (5, .int (nI pp)), (2, .int lf), (0, .ref h1)]) hx hb dM_join_80 hl (k := 2) rfl rfl (by decide) rfl (fun ls hl => ?_)
            rw [md_t1] at hl
            refine lv_goto (tgt := 31) hx hb dM_join_83 (by decide) ?_
            exact ih n J pp (t + 1) lf (nI pp) (nI t - 1) z9 o1 u1 l1 h9 t1 (by omega) hJ hpp (by omega) ho (Or.inr ⟨pp, t, hpp, by omega, rfl, rfl⟩) (by rw [← hT]; first | (simp [md_ji, hbit, c_1, c_2, c_3]; done) | contradiction) hend _ _ hP hD hS ls (lv_sub hl [0, 3, 1, 2, 4, 5] rfl)
          · have hov := md_okv hok c_3 ho hJ hPn
            refine lv_aload_n hx hb dM_join_55 rfl (lv_at hl 5 rfl) ?_
            refine lv_iload hx hb dM_join_56 (lv_at hl 1 rfl) ?_
            refine lv_iload hx hb dM_join_58 (lv_at hl 0 rfl) ?_
            refine xr_V (As := [.int (nI pp), .int (nI t - 1)]) ⟨hx, hb, hml, hown, hts⟩ (cM_far l dC dI h1 b_wall b_px b_py b_loss b_reached b_order b_upper b_length b_heads b_turn cd Wd Ht Pn rs (nI J) cI g_px g_py o1 (nI pp) (nI t - 1) (vp_in_nI (by omega) (by decide)) (md_farhi ho (by omega) hJ)) (cwV 2 hts gM110 rfl rfl rfl (by decide +kernel) ⟨Nat.le_of_ble_eq_true rfl, Nat.le_of_ble_eq_true rfl⟩) hK hP [0, 1, 2, 3] [0] rfl rfl 1 0 rfl rfl rfl rfl hl.1 rfl (Nat.le_of_ble_eq_true rfl) dM_join_60 ⟨Nat.le_of_ble_eq_true rfl, Nat.le_of_ble_eq_true rfl⟩ (fun r_4 hr_4 => ?_)
            subst hr_4
            refine lv_aload_n hx hb dM_join_63 rfl (lv_at hl 5 rfl) ?_
            refine lv_iload_n hx hb dM_join_64 rfl (lv_at hl 3 rfl) ?_
            refine lv_iload hx hb dM_join_65 (lv_at hl 2 rfl) ?_
            refine xr_V (As := [.int be, .int to]) ⟨hx, hb, hml, hown, hts⟩ (cM_far l dC dI h1 b_wall b_px b_py b_loss b_reached b_order b_upper b_length b_heads b_turn cd Wd Ht Pn rs (nI J) cI g_px g_py o1 be to hov.1 hov.2) (cwV 2 hts gM110 rfl rfl rfl (by decide +kernel) ⟨Nat.le_of_ble_eq_true rfl, Nat.le_of_ble_eq_true rfl⟩) hK hP [0, 1, 2, 3] [0] rfl rfl 1 0 rfl rfl rfl rfl hl.1 rfl (Nat.le_of_ble_eq_true rfl) dM_join_67 ⟨Nat.le_of_ble_eq_true rfl, Nat.le_of_ble_eq_true rfl⟩ (fun r_5 hr_5 => ?_)
            subst hr_5
            refine lv_icmp_ge (tgt := 80) hx hb dM_join_70 (by decide) (fun c_6 => ?_) (fun c_6 => ?_)
            · refine lv_iinc (v := ((nI t - 1) + 1)) (lv' := [(6, .int ((nI t - 1) + 1)), (5, .int (nI pp)), (4, .int to), (3, .int be), (2, .int lf), (0, .ref h1)]) hx hb dM_join_80 hl (k := 0) rfl rfl (by decide) rfl (fun ls hl => ?_)
              rw [md_t1] at hl
              refine lv_goto (tgt := 31) hx hb dM_join_83 (by decide) ?_
              exact ih n J pp (t + 1) lf be to z9 o1 u1 l1 h9 t1 (by omega) hJ hpp (by omega) ho hok (by rw [← hT]; first | (simp [md_ji, hbit, c_1, c_2, c_3, c_6]; done) | contradiction) hend _ _ hP hD hS ls (lv_sub hl [0, 1, 2, 3, 4, 5] rfl)
            · refine lv_iload hx hb dM_join_73 (lv_at hl 1 rfl) ?_
              refine lv_istore_n (lv' := [(3, .int (nI pp)), (6, .int (nI t - 1)), (5, .int (nI pp)), (4, .int to), (2, .int lf), (0, .ref h1)]) hx hb dM_join_75 rfl hl (by decide) rfl (fun ls hl => ?_)
              refine lv_iload hx hb dM_join_76 (lv_at hl 1 rfl) ?_
              refine lv_istore (lv' := [(4, .int (nI t - 1)), (3, .int (nI pp)), (6, .int (nI t - 1)), (5, .int (nI pp)), (2, .int lf), (0, .ref h1)]) hx hb dM_join_78 hl (by decide) rfl (fun ls hl => ?_)
              refine lv_iinc (v := ((nI t - 1) + 1)) (lv' := [(6, .int ((nI t - 1) + 1)), (4, .int (nI t - 1)), (3, .int (nI pp)), (5, .int (nI pp)), (2, .int lf), (0, .ref h1)]) hx hb dM_join_80 hl (k := 2) rfl rfl (by decide) rfl (fun ls hl => ?_)
              rw [md_t1] at hl
              refine lv_goto (tgt := 31) hx hb dM_join_83 (by decide) ?_
              exact ih n J pp (t + 1) lf (nI pp) (nI t - 1) z9 o1 u1 l1 h9 t1 (by omega) hJ hpp (by omega) ho (Or.inr ⟨pp, t, hpp, by omega, rfl, rfl⟩) (by rw [← hT]; first | (simp [md_ji, hbit, c_1, c_2, c_3, c_6]; done) | contradiction) hend _ _ hP hD hS ls (lv_sub hl [0, 3, 1, 2, 4, 5] rfl)
  have lp19 : ∀ (k n : Nat) (J pp : Nat) (lf be to : Int32) (z9 : Int32 × Int32) (o1 u1 l1 h9 t1 : Nat → Int32), n < k → J ≤ 12 → pp + n = Pn → (∀ z, z < J → vp_in (o1 z) 12) → md_ok J Pn be to → md_jq g_px g_py o1 J lf n pp be to = z9 → (∀ (H : Heap) (locs : List Loc), va_P (dC, dI) snC [(h1, .inr (1, [.int cd, .int (nI Wd), .int (nI Ht), .ref b_wall, .int rs, .int (nI Pn), .ref b_px, .ref b_py, .ref b_loss, .ref b_reached, .int (nI J), .ref b_order, .ref b_upper, .ref b_length, .ref b_heads, .ref b_turn])), (b_px, .inl (cI, 12, .inl g_px)), (b_py, .inl (cI, 12, .inl g_py)), (b_order, .inl (cI, 12, .inl o1)), (b_upper, .inl (cI, 12, .inl u1)), (b_length, .inl (cI, 12, .inl l1)), (b_heads, .inl (cI, 12, .inl h9)), (b_turn, .inl (cI, 12, .inl t1))] H → va_D A [(h1, .inr (1, [.int cd, .int (nI Wd), .int (nI Ht), .ref b_wall, .int rs, .int (nI Pn), .ref b_px, .ref b_py, .ref b_loss, .ref b_reached, .int (nI J), .ref b_order, .ref b_upper, .ref b_length, .ref b_heads, .ref b_turn])), (b_px, .inl (cI, 12, .inl g_px)), (b_py, .inl (cI, 12, .inl g_py)), (b_order, .inl (cI, 12, .inl o1)), (b_upper, .inl (cI, 12, .inl u1)), (b_length, .inl (cI, 12, .inl l1)), (b_heads, .inl (cI, 12, .inl h9)), (b_turn, .inl (cI, 12, .inl t1))] → va_S A s.heap H locs → ∀ ls : Array Slot, lv_has ls 7 [(4, .int z9.2), (3, .int z9.1), (2, .int lf), (0, .ref h1)] → W p l e (headSpec (kM_join :: WD) { frames := 2, cells := 0, slots := 0, locals := 44 }).room s m ([.ref h1, .int set]).toArray below meth c H locs 0 0 (MQ below (va_Qv (fun _ : Unit => True) (fun _ => xo (dC, dI) snC [(h1, .inr (1, [.int cd, .int (nI Wd), .int (nI Ht), .ref b_wall, .int rs, .int (nI Pn), .ref b_px, .ref b_py, .ref b_loss, .ref b_reached, .int (nI (md_join g_px g_py Pn set g_order g_upper g_length g_heads g_turn).1), .ref b_order, .ref b_upper, .ref b_length, .ref b_heads, .ref b_turn])), (b_px, .inl (cI, 12, .inl g_px)), (b_py, .inl (cI, 12, .inl g_py)), (b_order, .inl (cI, 12, .inl ((md_join g_px g_py Pn set g_order g_upper g_length g_heads g_turn).2.1))), (b_upper, .inl (cI, 12, .inl ((md_join g_px g_py Pn set g_order g_upper g_length g_heads g_turn).2.2.1))), (b_length, .inl (cI, 12, .inl ((md_join g_px g_py Pn set g_order g_upper g_length g_heads g_turn).2.2.2.1))), (b_heads, .inl (cI, 12, .inl ((md_join g_px g_py Pn set g_order g_upper g_length g_heads g_turn).2.2.2.2.1))), (b_turn, .inl (cI, 12, .inl ((md_join g_px g_py Pn set g_order g_upper g_length g_heads g_turn).2.2.2.2.2)))] [(cI, .int)] A) A) ([.ref h1, .int set]).toArray s 0 0 (A)) (F0 m 92 ls [])) → ∀ (H : Heap) (locs : List Loc), va_P (dC, dI) snC [(h1, .inr (1, [.int cd, .int (nI Wd), .int (nI Ht), .ref b_wall, .int rs, .int (nI Pn), .ref b_px, .ref b_py, .ref b_loss, .ref b_reached, .int (nI J), .ref b_order, .ref b_upper, .ref b_length, .ref b_heads, .ref b_turn])), (b_px, .inl (cI, 12, .inl g_px)), (b_py, .inl (cI, 12, .inl g_py)), (b_order, .inl (cI, 12, .inl o1)), (b_upper, .inl (cI, 12, .inl u1)), (b_length, .inl (cI, 12, .inl l1)), (b_heads, .inl (cI, 12, .inl h9)), (b_turn, .inl (cI, 12, .inl t1))] H → va_D A [(h1, .inr (1, [.int cd, .int (nI Wd), .int (nI Ht), .ref b_wall, .int rs, .int (nI Pn), .ref b_px, .ref b_py, .ref b_loss, .ref b_reached, .int (nI J), .ref b_order, .ref b_upper, .ref b_length, .ref b_heads, .ref b_turn])), (b_px, .inl (cI, 12, .inl g_px)), (b_py, .inl (cI, 12, .inl g_py)), (b_order, .inl (cI, 12, .inl o1)), (b_upper, .inl (cI, 12, .inl u1)), (b_length, .inl (cI, 12, .inl l1)), (b_heads, .inl (cI, 12, .inl h9)), (b_turn, .inl (cI, 12, .inl t1))] → va_S A s.heap H locs → ∀ ls : Array Slot, lv_has ls 7 [(5, .int (nI pp)), (4, .int to), (3, .int be), (2, .int lf), (0, .ref h1)] → W p l e (headSpec (kM_join :: WD) { frames := 2, cells := 0, slots := 0, locals := 44 }).room s m ([.ref h1, .int set]).toArray below meth c H locs 0 0 (MQ below (va_Qv (fun _ : Unit => True) (fun _ => xo (dC, dI) snC [(h1, .inr (1, [.int cd, .int (nI Wd), .int (nI Ht), .ref b_wall, .int rs, .int (nI Pn), .ref b_px, .ref b_py, .ref b_loss, .ref b_reached, .int (nI (md_join g_px g_py Pn set g_order g_upper g_length g_heads g_turn).1), .ref b_order, .ref b_upper, .ref b_length, .ref b_heads, .ref b_turn])), (b_px, .inl (cI, 12, .inl g_px)), (b_py, .inl (cI, 12, .inl g_py)), (b_order, .inl (cI, 12, .inl ((md_join g_px g_py Pn set g_order g_upper g_length g_heads g_turn).2.1))), (b_upper, .inl (cI, 12, .inl ((md_join g_px g_py Pn set g_order g_upper g_length g_heads g_turn).2.2.1))), (b_length, .inl (cI, 12, .inl ((md_join g_px g_py Pn set g_order g_upper g_length g_heads g_turn).2.2.2.1))), (b_heads, .inl (cI, 12, .inl ((md_join g_px g_py Pn set g_order g_upper g_length g_heads g_turn).2.2.2.2.1))), (b_turn, .inl (cI, 12, .inl ((md_join g_px g_py Pn set g_order g_upper g_length g_heads g_turn).2.2.2.2.2)))] [(cI, .int)] A) A) ([.ref h1, .int set]).toArray s 0 0 (A)) (F0 m 19 ls []) := by
    intro k
    induction k with
    | zero => exact fun n _ _ _ _ _ _ _ _ _ _ _ h => absurd h (Nat.not_lt_zero n)
    | succ k ih =>
      intro n J pp lf be to z9 o1 u1 l1 h9 t1 hk hJ hin ho hok hT hend H locs hP hD hS ls hl
      refine lv_iload hx hb dM_join_19 (lv_at hl 0 rfl) ?_
      refine lv_aload_n hx hb dM_join_21 rfl (lv_at hl 4 rfl) ?_
      refine va_get (D := (dC, dI)) (ci := 1) (v := .int (nI Pn)) (C := R_M) (T := T_M) (N := 16) hx hb hts in_M hown hK hP 0 rfl rfl 5 (by decide) (hts _ flM54) (fun _ h9 => h9) rfl dM_join_22 ?_
      refine lv_icmp_ge (tgt := 92) hx hb dM_join_25 (by decide) (fun c_1 => ?_) (fun c_1 => ?_)
      · have hz := (nI_leI (by omega) (by omega)).mp c_1
        obtain rfl : n = 0 := by omega
        obtain rfl : (be, to) = z9 := by rw [← hT]; simp [md_jq]
        exact hend  _ _ hP hD hS ls (lv_sub hl [1, 2, 3, 4] rfl)
      · have hz : pp < Pn := by have h9 := mt (nI_leI (by omega) (by omega)).mpr c_1; omega
        obtain ⟨n, rfl⟩ : ∃ n', n = n' + 1 := ⟨n - 1, by omega⟩
        refine lv_iconst (v := (-1)) hx hb dM_join_28 (by decide) ?_
        refine lv_istore (lv' := [(6, .int (-1)), (5, .int (nI pp)), (4, .int to), (3, .int be), (2, .int lf), (0, .ref h1)]) hx hb dM_join_29 hl (by decide) rfl (fun ls hl => ?_)
        refine lp31 (J + 2) (J + 1) J pp 0 lf be to _ o1 u1 l1 h9 t1 (by omega) hJ (by omega) (by omega) ho hok rfl ?_ _ _ hP hD hS ls (lv_sub hl [0, 1, 2, 3, 4, 5] rfl)
        intro H locs hP hD hS ls hl
        refine lv_iinc (v := (nI (pp + 1))) (lv' := [(5, .int (nI (pp + 1))), (4, .int ((md_jp g_px g_py o1 J lf pp be to).2)), (3, .int ((md_jp g_px g_py o1 J lf pp be to).1)), (2, .int lf), (0, .ref h1)]) hx hb dM_join_86 hl (k := 0) rfl (nI_1 pp) (by decide) rfl (fun ls hl => ?_)
        refine lv_goto (tgt := 19) hx hb dM_join_89 (by decide) ?_
        exact ih n J (pp + 1) lf ((md_jp g_px g_py o1 J lf pp be to).1) ((md_jp g_px g_py o1 J lf pp be to).2) z9 o1 u1 l1 h9 t1 (by omega) hJ (by omega) ho (md_jp_ok hok (by omega)) (by rw [← hT]; simp [md_jq]) hend _ _ hP hD hS ls (lv_sub hl [0, 1, 2, 3, 4] rfl)
  have lp193 : ∀ (k n : Nat) (i : Nat) (pp : Int32) (h9 z9 : Nat → Int32), n < k → i < (md_jn g_px g_py Pn 12 0 set g_order g_upper g_length g_heads g_turn).1 → (pp = -1 ∨ ∃ t, t < n ∧ t < (md_jn g_px g_py Pn 12 0 set g_order g_upper g_length g_heads g_turn).1 ∧ pp = (md_jn g_px g_py Pn 12 0 set g_order g_upper g_length g_heads g_turn).2.1 t) → md_cl (md_jn g_px g_py Pn 12 0 set g_order g_upper g_length g_heads g_turn).2.2.1 n pp h9 = z9 → (∀ (H : Heap) (locs : List Loc), va_P (dC, dI) snC [(h1, .inr (1, [.int cd, .int (nI Wd), .int (nI Ht), .ref b_wall, .int rs, .int (nI Pn), .ref b_px, .ref b_py, .ref b_loss, .ref b_reached, .int (nI (md_jn g_px g_py Pn 12 0 set g_order g_upper g_length g_heads g_turn).1), .ref b_order, .ref b_upper, .ref b_length, .ref b_heads, .ref b_turn])), (b_px, .inl (cI, 12, .inl g_px)), (b_py, .inl (cI, 12, .inl g_py)), (b_order, .inl (cI, 12, .inl ((md_jn g_px g_py Pn 12 0 set g_order g_upper g_length g_heads g_turn).2.1))), (b_upper, .inl (cI, 12, .inl ((md_jn g_px g_py Pn 12 0 set g_order g_upper g_length g_heads g_turn).2.2.1))), (b_length, .inl (cI, 12, .inl ((md_jn g_px g_py Pn 12 0 set g_order g_upper g_length g_heads g_turn).2.2.2.1))), (b_heads, .inl (cI, 12, .inl z9)), (b_turn, .inl (cI, 12, .inl ((md_jn g_px g_py Pn 12 0 set g_order g_upper g_length g_heads g_turn).2.2.2.2.2)))] H → va_D A [(h1, .inr (1, [.int cd, .int (nI Wd), .int (nI Ht), .ref b_wall, .int rs, .int (nI Pn), .ref b_px, .ref b_py, .ref b_loss, .ref b_reached, .int (nI (md_jn g_px g_py Pn 12 0 set g_order g_upper g_length g_heads g_turn).1), .ref b_order, .ref b_upper, .ref b_length, .ref b_heads, .ref b_turn])), (b_px, .inl (cI, 12, .inl g_px)), (b_py, .inl (cI, 12, .inl g_py)), (b_order, .inl (cI, 12, .inl ((md_jn g_px g_py Pn 12 0 set g_order g_upper g_length g_heads g_turn).2.1))), (b_upper, .inl (cI, 12, .inl ((md_jn g_px g_py Pn 12 0 set g_order g_upper g_length g_heads g_turn).2.2.1))), (b_length, .inl (cI, 12, .inl ((md_jn g_px g_py Pn 12 0 set g_order g_upper g_length g_heads g_turn).2.2.2.1))), (b_heads, .inl (cI, 12, .inl z9)), (b_turn, .inl (cI, 12, .inl ((md_jn g_px g_py Pn 12 0 set g_order g_upper g_length g_heads g_turn).2.2.2.2.2)))] → va_S A s.heap H locs → ∀ ls : Array Slot, lv_has ls 7 [(3, .int (nI i)), (0, .ref h1)] → W p l e (headSpec (kM_join :: WD) { frames := 2, cells := 0, slots := 0, locals := 44 }).room s m ([.ref h1, .int set]).toArray below meth c H locs 0 0 (MQ below (va_Qv (fun _ : Unit => True) (fun _ => xo (dC, dI) snC [(h1, .inr (1, [.int cd, .int (nI Wd), .int (nI Ht), .ref b_wall, .int rs, .int (nI Pn), .ref b_px, .ref b_py, .ref b_loss, .ref b_reached, .int (nI (md_join g_px g_py Pn set g_order g_upper g_length g_heads g_turn).1), .ref b_order, .ref b_upper, .ref b_length, .ref b_heads, .ref b_turn])), (b_px, .inl (cI, 12, .inl g_px)), (b_py, .inl (cI, 12, .inl g_py)), (b_order, .inl (cI, 12, .inl ((md_join g_px g_py Pn set g_order g_upper g_length g_heads g_turn).2.1))), (b_upper, .inl (cI, 12, .inl ((md_join g_px g_py Pn set g_order g_upper g_length g_heads g_turn).2.2.1))), (b_length, .inl (cI, 12, .inl ((md_join g_px g_py Pn set g_order g_upper g_length g_heads g_turn).2.2.2.1))), (b_heads, .inl (cI, 12, .inl ((md_join g_px g_py Pn set g_order g_upper g_length g_heads g_turn).2.2.2.2.1))), (b_turn, .inl (cI, 12, .inl ((md_join g_px g_py Pn set g_order g_upper g_length g_heads g_turn).2.2.2.2.2)))] [(cI, .int)] A) A) ([.ref h1, .int set]).toArray s 0 0 (A)) (F0 m 222 ls [])) → ∀ (H : Heap) (locs : List Loc), va_P (dC, dI) snC [(h1, .inr (1, [.int cd, .int (nI Wd), .int (nI Ht), .ref b_wall, .int rs, .int (nI Pn), .ref b_px, .ref b_py, .ref b_loss, .ref b_reached, .int (nI (md_jn g_px g_py Pn 12 0 set g_order g_upper g_length g_heads g_turn).1), .ref b_order, .ref b_upper, .ref b_length, .ref b_heads, .ref b_turn])), (b_px, .inl (cI, 12, .inl g_px)), (b_py, .inl (cI, 12, .inl g_py)), (b_order, .inl (cI, 12, .inl ((md_jn g_px g_py Pn 12 0 set g_order g_upper g_length g_heads g_turn).2.1))), (b_upper, .inl (cI, 12, .inl ((md_jn g_px g_py Pn 12 0 set g_order g_upper g_length g_heads g_turn).2.2.1))), (b_length, .inl (cI, 12, .inl ((md_jn g_px g_py Pn 12 0 set g_order g_upper g_length g_heads g_turn).2.2.2.1))), (b_heads, .inl (cI, 12, .inl h9)), (b_turn, .inl (cI, 12, .inl ((md_jn g_px g_py Pn 12 0 set g_order g_upper g_length g_heads g_turn).2.2.2.2.2)))] H → va_D A [(h1, .inr (1, [.int cd, .int (nI Wd), .int (nI Ht), .ref b_wall, .int rs, .int (nI Pn), .ref b_px, .ref b_py, .ref b_loss, .ref b_reached, .int (nI (md_jn g_px g_py Pn 12 0 set g_order g_upper g_length g_heads g_turn).1), .ref b_order, .ref b_upper, .ref b_length, .ref b_heads, .ref b_turn])), (b_px, .inl (cI, 12, .inl g_px)), (b_py, .inl (cI, 12, .inl g_py)), (b_order, .inl (cI, 12, .inl ((md_jn g_px g_py Pn 12 0 set g_order g_upper g_length g_heads g_turn).2.1))), (b_upper, .inl (cI, 12, .inl ((md_jn g_px g_py Pn 12 0 set g_order g_upper g_length g_heads g_turn).2.2.1))), (b_length, .inl (cI, 12, .inl ((md_jn g_px g_py Pn 12 0 set g_order g_upper g_length g_heads g_turn).2.2.2.1))), (b_heads, .inl (cI, 12, .inl h9)), (b_turn, .inl (cI, 12, .inl ((md_jn g_px g_py Pn 12 0 set g_order g_upper g_length g_heads g_turn).2.2.2.2.2)))] → va_S A s.heap H locs → ∀ ls : Array Slot, lv_has ls 7 [(4, .int pp), (3, .int (nI i)), (0, .ref h1)] → W p l e (headSpec (kM_join :: WD) { frames := 2, cells := 0, slots := 0, locals := 44 }).room s m ([.ref h1, .int set]).toArray below meth c H locs 0 0 (MQ below (va_Qv (fun _ : Unit => True) (fun _ => xo (dC, dI) snC [(h1, .inr (1, [.int cd, .int (nI Wd), .int (nI Ht), .ref b_wall, .int rs, .int (nI Pn), .ref b_px, .ref b_py, .ref b_loss, .ref b_reached, .int (nI (md_join g_px g_py Pn set g_order g_upper g_length g_heads g_turn).1), .ref b_order, .ref b_upper, .ref b_length, .ref b_heads, .ref b_turn])), (b_px, .inl (cI, 12, .inl g_px)), (b_py, .inl (cI, 12, .inl g_py)), (b_order, .inl (cI, 12, .inl ((md_join g_px g_py Pn set g_order g_upper g_length g_heads g_turn).2.1))), (b_upper, .inl (cI, 12, .inl ((md_join g_px g_py Pn set g_order g_upper g_length g_heads g_turn).2.2.1))), (b_length, .inl (cI, 12, .inl ((md_join g_px g_py Pn set g_order g_upper g_length g_heads g_turn).2.2.2.1))), (b_heads, .inl (cI, 12, .inl ((md_join g_px g_py Pn set g_order g_upper g_length g_heads g_turn).2.2.2.2.1))), (b_turn, .inl (cI, 12, .inl ((md_join g_px g_py Pn set g_order g_upper g_length g_heads g_turn).2.2.2.2.2)))] [(cI, .int)] A) A) ([.ref h1, .int set]).toArray s 0 0 (A)) (F0 m 193 ls []) := by
    intro k
    induction k with
    | zero => exact fun n _ _ _ _ h => absurd h (Nat.not_lt_zero n)
    | succ k ih =>
      intro n i pp h9 z9 hk hi hch hT hend H locs hP hD hS ls hl
      refine lv_iload hx hb dM_join_193 (lv_at hl 0 rfl) ?_
      refine lv_iconst (v := (-1)) hx hb dM_join_195 (by decide) ?_
      refine lv_icmp_eq (tgt := 222) hx hb dM_join_196 (by decide) (fun c_1 => ?_) (fun c_1 => ?_)
      · obtain rfl : h9 = z9 := by rw [← hT]; cases n <;> simp [md_cl, c_1]
        exact hend  _ _ hP hD hS ls (lv_sub hl [1, 2] rfl)
      · obtain ⟨t, ht1, ht2, rfl⟩ := hch.resolve_left c_1
        obtain ⟨n, rfl⟩ : ∃ n', n = n' + 1 := ⟨n - 1, by omega⟩
        refine lv_aload_n hx hb dM_join_199 rfl (lv_at hl 2 rfl) ?_
        refine va_get (D := (dC, dI)) (ci := 1) (v := .ref b_heads) (C := R_M) (T := T_M) (N := 16) hx hb hts in_M hown hK hP 0 rfl rfl 14 (by decide) (hts _ flM39) (fun _ h9 => h9) rfl dM_join_200 ?_
        refine lv_iload hx hb dM_join_203 (lv_at hl 0 rfl) ?_
        refine lv_dup2_11 hx hb dM_join_205 rfl rfl ?_
        refine va_iald hx hb hK hP 6 0 rfl rfl (hjs.2.1 t ht2) dM_join_206 ?_
        refine lv_iconst (v := 1) hx hb dM_join_207 (by decide) ?_
        refine lv_iadd hx hb dM_join_208 ?_
        refine va_iast hx hb hK hP hD hS 6 0 rfl rfl (hjs.2.1 t ht2) dM_join_209 (fun H locs hP hD hS => ?_)
        have hP : va_P (dC, dI) snC [(h1, .inr (1, [.int cd, .int (nI Wd), .int (nI Ht), .ref b_wall, .int rs, .int (nI Pn), .ref b_px, .ref b_py, .ref b_loss, .ref b_reached, .int (nI (md_jn g_px g_py Pn 12 0 set g_order g_upper g_length g_heads g_turn).1), .ref b_order, .ref b_upper, .ref b_length, .ref b_heads, .ref b_turn])), (b_px, .inl (cI, 12, .inl g_px)), (b_py, .inl (cI, 12, .inl g_py)), (b_order, .inl (cI, 12, .inl ((md_jn g_px g_py Pn 12 0 set g_order g_upper g_length g_heads g_turn).2.1))), (b_upper, .inl (cI, 12, .inl ((md_jn g_px g_py Pn 12 0 set g_order g_upper g_length g_heads g_turn).2.2.1))), (b_length, .inl (cI, 12, .inl ((md_jn g_px g_py Pn 12 0 set g_order g_upper g_length g_heads g_turn).2.2.2.1))), (b_heads, .inl (cI, 12, .inl (upd h9 ((md_jn g_px g_py Pn 12 0 set g_order g_upper g_length g_heads g_turn).2.1 t).toNatClampNeg ((h9 ((md_jn g_px g_py Pn 12 0 set g_order g_upper g_length g_heads g_turn).2.1 t).toNatClampNeg) + 1)))), (b_turn, .inl (cI, 12, .inl ((md_jn g_px g_py Pn 12 0 set g_order g_upper g_length g_heads g_turn).2.2.2.2.2)))] H := hP
        have hD : va_D A [(h1, .inr (1, [.int cd, .int (nI Wd), .int (nI Ht), .ref b_wall, .int rs, .int (nI Pn), .ref b_px, .ref b_py, .ref b_loss, .ref b_reached, .int (nI (md_jn g_px g_py Pn 12 0 set g_order g_upper g_length g_heads g_turn).1), .ref b_order, .ref b_upper, .ref b_length, .ref b_heads, .ref b_turn])), (b_px, .inl (cI, 12, .inl g_px)), (b_py, .inl (cI, 12, .inl g_py)), (b_order, .inl (cI, 12, .inl ((md_jn g_px g_py Pn 12 0 set g_order g_upper g_length g_heads g_turn).2.1))), (b_upper, .inl (cI, 12, .inl ((md_jn g_px g_py Pn 12 0 set g_order g_upper g_length g_heads g_turn).2.2.1))), (b_length, .inl (cI, 12, .inl ((md_jn g_px g_py Pn 12 0 set g_order g_upper g_length g_heads g_turn).2.2.2.1))), (b_heads, .inl (cI, 12, .inl (upd h9 ((md_jn g_px g_py Pn 12 0 set g_order g_upper g_length g_heads g_turn).2.1 t).toNatClampNeg ((h9 ((md_jn g_px g_py Pn 12 0 set g_order g_upper g_length g_heads g_turn).2.1 t).toNatClampNeg) + 1)))), (b_turn, .inl (cI, 12, .inl ((md_jn g_px g_py Pn 12 0 set g_order g_upper g_length g_heads g_turn).2.2.2.2.2)))] := hD
        refine lv_aload_n hx hb dM_join_210 rfl (lv_at hl 2 rfl) ?_
        refine va_get (D := (dC, dI)) (ci := 1) (v := .ref b_upper) (C := R_M) (T := T_M) (N := 16) hx hb hts in_M hown hK hP 0 rfl rfl 12 (by decide) (hts _ flM33) (fun _ h9 => h9) rfl dM_join_211 ?_
        refine lv_iload hx hb dM_join_214 (lv_at hl 0 rfl) ?_
        refine va_iald hx hb hK hP 4 0 rfl rfl (hjs.2.1 t ht2) dM_join_216 ?_
        refine lv_istore (lv' := [(4, .int (((md_jn g_px g_py Pn 12 0 set g_order g_upper g_length g_heads g_turn).2.2.1) ((md_jn g_px g_py Pn 12 0 set g_order g_upper g_length g_heads g_turn).2.1 t).toNatClampNeg)), (3, .int (nI i)), (0, .ref h1)]) hx hb dM_join_217 hl (by decide) rfl (fun ls hl => ?_)
        refine lv_goto (tgt := 193) hx hb dM_join_219 (by decide) ?_
        exact ih n i (((md_jn g_px g_py Pn 12 0 set g_order g_upper g_length g_heads g_turn).2.2.1) ((md_jn g_px g_py Pn 12 0 set g_order g_upper g_length g_heads g_turn).2.1 t).toNatClampNeg) (upd h9 ((md_jn g_px g_py Pn 12 0 set g_order g_upper g_length g_heads g_turn).2.1 t).toNatClampNeg ((h9 ((md_jn g_px g_py Pn 12 0 set g_order g_upper g_length g_heads g_turn).2.1 t).toNatClampNeg) + 1)) z9 (by omega) hi (by rcases hjs.2.2 t ht2 with h9 | ⟨t', h9, h8⟩; exact Or.inl h9; exact Or.inr ⟨t', by omega, by omega, h8⟩) (by rw [← hT, md_cl, if_neg (md_vne (hjs.2.1 t ht2))]) hend _ _ hP hD hS ls (lv_sub hl [0, 1, 2] rfl)
  have lp177 : ∀ (k n : Nat) (i : Nat) (h9 : Nat → Int32), n < k → i + n = (md_jn g_px g_py Pn 12 0 set g_order g_upper g_length g_heads g_turn).1 → md_hs (md_jn g_px g_py Pn 12 0 set g_order g_upper g_length g_heads g_turn).2.2.1 (md_jn g_px g_py Pn 12 0 set g_order g_upper g_length g_heads g_turn).2.1 n i h9 = md_hs (md_jn g_px g_py Pn 12 0 set g_order g_upper g_length g_heads g_turn).2.2.1 (md_jn g_px g_py Pn 12 0 set g_order g_upper g_length g_heads g_turn).2.1 (md_jn g_px g_py Pn 12 0 set g_order g_upper g_length g_heads g_turn).1 0 (md_jn g_px g_py Pn 12 0 set g_order g_upper g_length g_heads g_turn).2.2.2.2.1 → ∀ (H : Heap) (locs : List Loc), va_P (dC, dI) snC [(h1, .inr (1, [.int cd, .int (nI Wd), .int (nI Ht), .ref b_wall, .int rs, .int (nI Pn), .ref b_px, .ref b_py, .ref b_loss, .ref b_reached, .int (nI (md_jn g_px g_py Pn 12 0 set g_order g_upper g_length g_heads g_turn).1), .ref b_order, .ref b_upper, .ref b_length, .ref b_heads, .ref b_turn])), (b_px, .inl (cI, 12, .inl g_px)), (b_py, .inl (cI, 12, .inl g_py)), (b_order, .inl (cI, 12, .inl ((md_jn g_px g_py Pn 12 0 set g_order g_upper g_length g_heads g_turn).2.1))), (b_upper, .inl (cI, 12, .inl ((md_jn g_px g_py Pn 12 0 set g_order g_upper g_length g_heads g_turn).2.2.1))), (b_length, .inl (cI, 12, .inl ((md_jn g_px g_py Pn 12 0 set g_order g_upper g_length g_heads g_turn).2.2.2.1))), (b_heads, .inl (cI, 12, .inl h9)), (b_turn, .inl (cI, 12, .inl ((md_jn g_px g_py Pn 12 0 set g_order g_upper g_length g_heads g_turn).2.2.2.2.2)))] H → va_D A [(h1, .inr (1, [.int cd, .int (nI Wd), .int (nI Ht), .ref b_wall, .int rs, .int (nI Pn), .ref b_px, .ref b_py, .ref b_loss, .ref b_reached, .int (nI (md_jn g_px g_py Pn 12 0 set g_order g_upper g_length g_heads g_turn).1), .ref b_order, .ref b_upper, .ref b_length, .ref b_heads, .ref b_turn])), (b_px, .inl (cI, 12, .inl g_px)), (b_py, .inl (cI, 12, .inl g_py)), (b_order, .inl (cI, 12, .inl ((md_jn g_px g_py Pn 12 0 set g_order g_upper g_length g_heads g_turn).2.1))), (b_upper, .inl (cI, 12, .inl ((md_jn g_px g_py Pn 12 0 set g_order g_upper g_length g_heads g_turn).2.2.1))), (b_length, .inl (cI, 12, .inl ((md_jn g_px g_py Pn 12 0 set g_order g_upper g_length g_heads g_turn).2.2.2.1))), (b_heads, .inl (cI, 12, .inl h9)), (b_turn, .inl (cI, 12, .inl ((md_jn g_px g_py Pn 12 0 set g_order g_upper g_length g_heads g_turn).2.2.2.2.2)))] → va_S A s.heap H locs → ∀ ls : Array Slot, lv_has ls 7 [(3, .int (nI i)), (0, .ref h1)] → W p l e (headSpec (kM_join :: WD) { frames := 2, cells := 0, slots := 0, locals := 44 }).room s m ([.ref h1, .int set]).toArray below meth c H locs 0 0 (MQ below (va_Qv (fun _ : Unit => True) (fun _ => xo (dC, dI) snC [(h1, .inr (1, [.int cd, .int (nI Wd), .int (nI Ht), .ref b_wall, .int rs, .int (nI Pn), .ref b_px, .ref b_py, .ref b_loss, .ref b_reached, .int (nI (md_join g_px g_py Pn set g_order g_upper g_length g_heads g_turn).1), .ref b_order, .ref b_upper, .ref b_length, .ref b_heads, .ref b_turn])), (b_px, .inl (cI, 12, .inl g_px)), (b_py, .inl (cI, 12, .inl g_py)), (b_order, .inl (cI, 12, .inl ((md_join g_px g_py Pn set g_order g_upper g_length g_heads g_turn).2.1))), (b_upper, .inl (cI, 12, .inl ((md_join g_px g_py Pn set g_order g_upper g_length g_heads g_turn).2.2.1))), (b_length, .inl (cI, 12, .inl ((md_join g_px g_py Pn set g_order g_upper g_length g_heads g_turn).2.2.2.1))), (b_heads, .inl (cI, 12, .inl ((md_join g_px g_py Pn set g_order g_upper g_length g_heads g_turn).2.2.2.2.1))), (b_turn, .inl (cI, 12, .inl ((md_join g_px g_py Pn set g_order g_upper g_length g_heads g_turn).2.2.2.2.2)))] [(cI, .int)] A) A) ([.ref h1, .int set]).toArray s 0 0 (A)) (F0 m 177 ls []) := by
    intro k
    induction k with
    | zero => exact fun n _ _ h => absurd h (Nat.not_lt_zero n)
    | succ k ih =>
      intro n i h9 hk hin hT H locs hP hD hS ls hl
      refine lv_iload_n hx hb dM_join_177 rfl (lv_at hl 0 rfl) ?_
      refine lv_aload_n hx hb dM_join_178 rfl (lv_at hl 1 rfl) ?_
      refine va_get (D := (dC, dI)) (ci := 1) (v := .int (nI (md_jn g_px g_py Pn 12 0 set g_order g_upper g_length g_heads g_turn).1)) (C := R_M) (T := T_M) (N := 16) hx hb hts in_M hown hK hP 0 rfl rfl 10 (by decide) (hts _ flM107) (fun _ h9 => h9) rfl dM_join_179 ?_
      refine lv_icmp_ge (tgt := 228) hx hb dM_join_182 (by decide) (fun c_1 => ?_) (fun c_1 => ?_)
      · have hz := (nI_leI (by omega) (by omega)).mp c_1
        obtain rfl : n = 0 := by omega
        rw [show md_join g_px g_py Pn set g_order g_upper g_length g_heads g_turn = ((md_jn g_px g_py Pn 12 0 set g_order g_upper g_length g_heads g_turn).1, (md_jn g_px g_py Pn 12 0 set g_order g_upper g_length g_heads g_turn).2.1, (md_jn g_px g_py Pn 12 0 set g_order g_upper g_length g_heads g_turn).2.2.1, (md_jn g_px g_py Pn 12 0 set g_order g_upper g_length g_heads g_turn).2.2.2.1, h9, (md_jn g_px g_py Pn 12 0 set g_order g_upper g_length g_heads g_turn).2.2.2.2.2) from by rw [md_join, md_jfin, ← hT]; simp [md_hs]]
        exact W.vret hx hb hr (fun t ht hW => ⟨⟨(), rfl, trivial, by rw [ht]; exact hP, va_K.moved hW.alike hK, hD⟩, hS.F ht⟩) hS.2.2 dM_join_228
      · have hz : i < (md_jn g_px g_py Pn 12 0 set g_order g_upper g_length g_heads g_turn).1 := by have h9 := mt (nI_leI (by omega) (by omega)).mpr c_1; omega
        obtain ⟨n, rfl⟩ : ∃ n', n = n' + 1 := ⟨n - 1, by omega⟩
        refine lv_aload_n hx hb dM_join_185 rfl (lv_at hl 1 rfl) ?_
        refine va_get (D := (dC, dI)) (ci := 1) (v := .ref b_order) (C := R_M) (T := T_M) (N := 16) hx hb hts in_M hown hK hP 0 rfl rfl 11 (by decide) (hts _ flM30) (fun _ h9 => h9) rfl dM_join_186 ?_
        refine lv_iload_n hx hb dM_join_189 rfl (lv_at hl 0 rfl) ?_
        refine xa_iald hx hb hK hP 3 0 rfl rfl (i := i) (by omega) (by first | decide | omega) dM_join_190 ?_
        refine lv_istore (lv' := [(4, .int (((md_jn g_px g_py Pn 12 0 set g_order g_upper g_length g_heads g_turn).2.1) i)), (3, .int (nI i)), (0, .ref h1)]) hx hb dM_join_191 hl (by decide) rfl (fun ls hl => ?_)
        refine lp193 14 13 i (((md_jn g_px g_py Pn 12 0 set g_order g_upper g_length g_heads g_turn).2.1) i) h9 _ (by omega) hz (Or.inr ⟨i, by omega, hz, rfl⟩) rfl ?_ _ _ hP hD hS ls (lv_sub hl [0, 1, 2] rfl)
        intro H locs hP hD hS ls hl
        refine lv_iinc (v := (nI (i + 1))) (lv' := [(3, .int (nI (i + 1))), (0, .ref h1)]) hx hb dM_join_222 hl (k := 0) rfl (nI_1 i) (by decide) rfl (fun ls hl => ?_)
        refine lv_goto (tgt := 177) hx hb dM_join_225 (by decide) ?_
        exact ih n (i + 1) (md_cl (md_jn g_px g_py Pn 12 0 set g_order g_upper g_length g_heads g_turn).2.2.1 13 ((md_jn g_px g_py Pn 12 0 set g_order g_upper g_length g_heads g_turn).2.1 i) h9) (by omega) (by omega) (by rw [← hT]; simp [md_hs]) _ _ hP hD hS ls (lv_sub hl [0, 1] rfl)
  have lp7 : ∀ (k n : Nat) (J mm : Nat) (o1 u1 l1 h9 t1 : Nat → Int32), n < k → J + n ≤ 12 → mm < 2 ^ Pn → md_pcb 12 mm ≤ n → (∀ z, z < J → vp_in (o1 z) 12) → md_jn g_px g_py Pn n J (nI mm) o1 u1 l1 h9 t1 = md_jn g_px g_py Pn 12 0 set g_order g_upper g_length g_heads g_turn → ∀ (H : Heap) (locs : List Loc), va_P (dC, dI) snC [(h1, .inr (1, [.int cd, .int (nI Wd), .int (nI Ht), .ref b_wall, .int rs, .int (nI Pn), .ref b_px, .ref b_py, .ref b_loss, .ref b_reached, .int (nI J), .ref b_order, .ref b_upper, .ref b_length, .ref b_heads, .ref b_turn])), (b_px, .inl (cI, 12, .inl g_px)), (b_py, .inl (cI, 12, .inl g_py)), (b_order, .inl (cI, 12, .inl o1)), (b_upper, .inl (cI, 12, .inl u1)), (b_length, .inl (cI, 12, .inl l1)), (b_heads, .inl (cI, 12, .inl h9)), (b_turn, .inl (cI, 12, .inl t1))] H → va_D A [(h1, .inr (1, [.int cd, .int (nI Wd), .int (nI Ht), .ref b_wall, .int rs, .int (nI Pn), .ref b_px, .ref b_py, .ref b_loss, .ref b_reached, .int (nI J), .ref b_order, .ref b_upper, .ref b_length, .ref b_heads, .ref b_turn])), (b_px, .inl (cI, 12, .inl g_px)), (b_py, .inl (cI, 12, .inl g_py)), (b_order, .inl (cI, 12, .inl o1)), (b_upper, .inl (cI, 12, .inl u1)), (b_length, .inl (cI, 12, .inl l1)), (b_heads, .inl (cI, 12, .inl h9)), (b_turn, .inl (cI, 12, .inl t1))] → va_S A s.heap H locs → ∀ ls : Array Slot, lv_has ls 7 [(2, .int (nI mm)), (0, .ref h1)] → W p l e (headSpec (kM_join :: WD) { frames := 2, cells := 0, slots := 0, locals := 44 }).room s m ([.ref h1, .int set]).toArray below meth c H locs 0 0 (MQ below (va_Qv (fun _ : Unit => True) (fun _ => xo (dC, dI) snC [(h1, .inr (1, [.int cd, .int (nI Wd), .int (nI Ht), .ref b_wall, .int rs, .int (nI Pn), .ref b_px, .ref b_py, .ref b_loss, .ref b_reached, .int (nI (md_join g_px g_py Pn set g_order g_upper g_length g_heads g_turn).1), .ref b_order, .ref b_upper, .ref b_length, .ref b_heads, .ref b_turn])), (b_px, .inl (cI, 12, .inl g_px)), (b_py, .inl (cI, 12, .inl g_py)), (b_order, .inl (cI, 12, .inl ((md_join g_px g_py Pn set g_order g_upper g_length g_heads g_turn).2.1))), (b_upper, .inl (cI, 12, .inl ((md_join g_px g_py Pn set g_order g_upper g_length g_heads g_turn).2.2.1))), (b_length, .inl (cI, 12, .inl ((md_join g_px g_py Pn set g_order g_upper g_length g_heads g_turn).2.2.2.1))), (b_heads, .inl (cI, 12, .inl ((md_join g_px g_py Pn set g_order g_upper g_length g_heads g_turn).2.2.2.2.1))), (b_turn, .inl (cI, 12, .inl ((md_join g_px g_py Pn set g_order g_upper g_length g_heads g_turn).2.2.2.2.2)))] [(cI, .int)] A) A) ([.ref h1, .int set]).toArray s 0 0 (A)) (F0 m 7 ls []) := by
    intro k
    induction k with
    | zero => exact fun n _ _ _ _ _ _ _ h => absurd h (Nat.not_lt_zero n)
    | succ k ih =>
      intro n J mm o1 u1 l1 h9 t1 hk hJn hmm hpc ho hT H locs hP hD hS ls hl
      refine lv_iload_n hx hb dM_join_7 rfl (lv_at hl 0 rfl) ?_
      refine lv_if_eq (tgt := 175) hx hb dM_join_8 (by decide) (fun c_1 => ?_) (fun c_1 => ?_)
      · obtain rfl : mm = 0 := by rw [show (0 : Int32) = nI 0 from rfl, nI_eq (by have := sn_pow hPn; omega) (by omega)] at c_1; exact c_1
        have hmz : nI 0 = 0 := rfl
        have ejr : md_jn g_px g_py Pn 12 0 set g_order g_upper g_length g_heads g_turn = (J, o1, u1, l1, h9, t1) := by rw [← hT]; cases n <;> simp [md_jn, hmz]
        have ej0 : J = (md_jn g_px g_py Pn 12 0 set g_order g_upper g_length g_heads g_turn).1 := by rw [ejr]
        have ej1 : o1 = (md_jn g_px g_py Pn 12 0 set g_order g_upper g_length g_heads g_turn).2.1 := by rw [ejr]
        have ej2 : u1 = (md_jn g_px g_py Pn 12 0 set g_order g_upper g_length g_heads g_turn).2.2.1 := by rw [ejr]
        have ej3 : l1 = (md_jn g_px g_py Pn 12 0 set g_order g_upper g_length g_heads g_turn).2.2.2.1 := by rw [ejr]
        have ej4 : h9 = (md_jn g_px g_py Pn 12 0 set g_order g_upper g_length g_heads g_turn).2.2.2.2.1 := by rw [ejr]
        have ej5 : t1 = (md_jn g_px g_py Pn 12 0 set g_order g_upper g_length g_heads g_turn).2.2.2.2.2 := by rw [ejr]
        clear ejr
        subst ej0 ej1 ej2 ej3 ej4 ej5
        refine lv_iconst (v := 0) hx hb dM_join_175 (by decide) ?_
        refine lv_istore_n (lv' := [(3, .int 0), (2, .int (nI 0)), (0, .ref h1)]) hx hb dM_join_176 rfl hl (by decide) rfl (fun ls hl => ?_)
        exact lp177 ((md_jn g_px g_py Pn 12 0 set g_order g_upper g_length g_heads g_turn).1 + 1) (md_jn g_px g_py Pn 12 0 set g_order g_upper g_length g_heads g_turn).1 0 _ (by omega) (by omega) rfl _ _ hP hD hS ls (lv_sub hl [0, 2] rfl)
      · have hmm1 : mm ≠ 0 := fun e => c_1 (by rw [e]; rfl)
        have hpc1 := md_pcb_pos hPn hmm hmm1
        obtain ⟨n, rfl⟩ : ∃ n', n = n' + 1 := ⟨n - 1, by omega⟩
        have hJ : J ≤ 12 := by omega
        have hmm0 : ¬ nI mm = 0 := c_1
        refine lv_iconst (v := (-1)) hx hb dM_join_11 (by decide) ?_
        refine lv_istore_n (lv' := [(3, .int (-1)), (2, .int (nI mm)), (0, .ref h1)]) hx hb dM_join_12 rfl hl (by decide) rfl (fun ls hl => ?_)
        refine lv_iconst (v := (-1)) hx hb dM_join_13 (by decide) ?_
        refine lv_istore (lv' := [(4, .int (-1)), (3, .int (-1)), (2, .int (nI mm)), (0, .ref h1)]) hx hb dM_join_14 hl (by decide) rfl (fun ls hl => ?_)
        refine lv_iconst (v := 0) hx hb dM_join_16 (by decide) ?_
        refine lv_istore (lv' := [(5, .int 0), (4, .int (-1)), (3, .int (-1)), (2, .int (nI mm)), (0, .ref h1)]) hx hb dM_join_17 hl (by decide) rfl (fun ls hl => ?_)
        refine lp19 (Pn + 1) Pn J 0 (nI mm) (-1) (-1) _ o1 u1 l1 h9 t1 (by omega) (by omega) (by omega) ho (Or.inl rfl) rfl ?_ _ _ hP hD hS ls (lv_sub hl [0, 1, 2, 3, 4] rfl)
        intro H locs hP hD hS ls hl
        obtain ⟨bb, tt, hbb, htt, hbit, ebt⟩ := md_jq_spec (px := g_px) (py := g_py) (o := o1) (J := J) hPn hmm hmm1
        rw [ebt] at hl
        have hl : lv_has ls 7 [(4, .int (nI tt - 1)), (3, .int (nI bb)), (2, .int (nI mm)), (0, .ref h1)] := hl
        have hfar := md_farhi ho htt hJ
        refine lv_aload_n hx hb dM_join_92 rfl (lv_at hl 3 rfl) ?_
        refine va_get (D := (dC, dI)) (ci := 1) (v := .ref b_upper) (C := R_M) (T := T_M) (N := 16) hx hb hts in_M hown hK hP 0 rfl rfl 12 (by decide) (hts _ flM33) (fun _ h9 => h9) rfl dM_join_93 ?_
        refine lv_iload_n hx hb dM_join_96 rfl (lv_at hl 1 rfl) ?_
        refine lv_iload hx hb dM_join_97 (lv_at hl 0 rfl) ?_
        refine lv_if_ge (tgt := 106) hx hb dM_join_99 (by decide) (fun c_2 => ?_) (fun c_2 => ?_)
        · have hfar9 := hfar.resolve_left (Int32.not_lt.mpr c_2)
          refine lv_aload_n hx hb dM_join_106 rfl (lv_at hl 3 rfl) ?_
          refine va_get (D := (dC, dI)) (ci := 1) (v := .ref b_order) (C := R_M) (T := T_M) (N := 16) hx hb hts in_M hown hK hP 0 rfl rfl 11 (by decide) (hts _ flM30) (fun _ h9 => h9) rfl dM_join_107 ?_
          refine lv_iload hx hb dM_join_110 (lv_at hl 0 rfl) ?_
          refine va_iald hx hb hK hP 3 0 rfl rfl hfar9.1 dM_join_112 ?_
          refine xa_iast hx hb hK hP hD hS 4 0 rfl rfl (i := bb) (x := o1 (nI tt - 1).toNatClampNeg) (by omega) (by first | decide | omega) dM_join_113 (fun H locs hP hD hS => ?_)
          have hP : va_P (dC, dI) snC [(h1, .inr (1, [.int cd, .int (nI Wd), .int (nI Ht), .ref b_wall, .int rs, .int (nI Pn), .ref b_px, .ref b_py, .ref b_loss, .ref b_reached, .int (nI J), .ref b_order, .ref b_upper, .ref b_length, .ref b_heads, .ref b_turn])), (b_px, .inl (cI, 12, .inl g_px)), (b_py, .inl (cI, 12, .inl g_py)), (b_order, .inl (cI, 12, .inl o1)), (b_upper, .inl (cI, 12, .inl (upd u1 bb (o1 (nI tt - 1).toNatClampNeg)))), (b_length, .inl (cI, 12, .inl l1)), (b_heads, .inl (cI, 12, .inl h9)), (b_turn, .inl (cI, 12, .inl t1))] H := hP
          have hD : va_D A [(h1, .inr (1, [.int cd, .int (nI Wd), .int (nI Ht), .ref b_wall, .int rs, .int (nI Pn), .ref b_px, .ref b_py, .ref b_loss, .ref b_reached, .int (nI J), .ref b_order, .ref b_upper, .ref b_length, .ref b_heads, .ref b_turn])), (b_px, .inl (cI, 12, .inl g_px)), (b_py, .inl (cI, 12, .inl g_py)), (b_order, .inl (cI, 12, .inl o1)), (b_upper, .inl (cI, 12, .inl (upd u1 bb (o1 (nI tt - 1).toNatClampNeg)))), (b_length, .inl (cI, 12, .inl l1)), (b_heads, .inl (cI, 12, .inl h9)), (b_turn, .inl (cI, 12, .inl t1))] := hD
          refine lv_aload_n hx hb dM_join_114 rfl (lv_at hl 3 rfl) ?_
          refine va_get (D := (dC, dI)) (ci := 1) (v := .ref b_length) (C := R_M) (T := T_M) (N := 16) hx hb hts in_M hown hK hP 0 rfl rfl 13 (by decide) (hts _ flM36) (fun _ h9 => h9) rfl dM_join_115 ?_
          refine lv_iload_n hx hb dM_join_118 rfl (lv_at hl 1 rfl) ?_
          refine lv_aload_n hx hb dM_join_119 rfl (lv_at hl 3 rfl) ?_
          refine lv_iload_n hx hb dM_join_120 rfl (lv_at hl 1 rfl) ?_
          refine lv_iload hx hb dM_join_121 (lv_at hl 0 rfl) ?_
          refine xr_V (As := [.int (nI bb), .int (nI tt - 1)]) ⟨hx, hb, hml, hown, hts⟩ (cM_far l dC dI h1 b_wall b_px b_py b_loss b_reached b_order b_upper b_length b_heads b_turn cd Wd Ht Pn rs (nI J) cI g_px g_py o1 (nI bb) (nI tt - 1) (vp_in_nI (by omega) (by decide)) hfar) (cwV 2 hts gM110 rfl rfl rfl (by decide +kernel) ⟨Nat.le_of_ble_eq_true rfl, Nat.le_of_ble_eq_true rfl⟩) hK hP [0, 1, 2, 3] [0] rfl rfl 1 0 rfl rfl rfl rfl hl.1 rfl (Nat.le_of_ble_eq_true rfl) dM_join_123 ⟨Nat.le_of_ble_eq_true rfl, Nat.le_of_ble_eq_true rfl⟩ (fun r_3 hr_3 => ?_)
          subst hr_3
          refine xa_iast hx hb hK hP hD hS 5 0 rfl rfl (i := bb) (x := md_far g_px g_py o1 (nI bb) (nI tt - 1)) (by omega) (by first | decide | omega) dM_join_126 (fun H locs hP hD hS => ?_)
          have hP : va_P (dC, dI) snC [(h1, .inr (1, [.int cd, .int (nI Wd), .int (nI Ht), .ref b_wall, .int rs, .int (nI Pn), .ref b_px, .ref b_py, .ref b_loss, .ref b_reached, .int (nI J), .ref b_order, .ref b_upper, .ref b_length, .ref b_heads, .ref b_turn])), (b_px, .inl (cI, 12, .inl g_px)), (b_py, .inl (cI, 12, .inl g_py)), (b_order, .inl (cI, 12, .inl o1)), (b_upper, .inl (cI, 12, .inl (upd u1 bb (o1 (nI tt - 1).toNatClampNeg)))), (b_length, .inl (cI, 12, .inl (upd l1 bb (md_far g_px g_py o1 (nI bb) (nI tt - 1))))), (b_heads, .inl (cI, 12, .inl h9)), (b_turn, .inl (cI, 12, .inl t1))] H := hP
          have hD : va_D A [(h1, .inr (1, [.int cd, .int (nI Wd), .int (nI Ht), .ref b_wall, .int rs, .int (nI Pn), .ref b_px, .ref b_py, .ref b_loss, .ref b_reached, .int (nI J), .ref b_order, .ref b_upper, .ref b_length, .ref b_heads, .ref b_turn])), (b_px, .inl (cI, 12, .inl g_px)), (b_py, .inl (cI, 12, .inl g_py)), (b_order, .inl (cI, 12, .inl o1)), (b_upper, .inl (cI, 12, .inl (upd u1 bb (o1 (nI tt - 1).toNatClampNeg)))), (b_length, .inl (cI, 12, .inl (upd l1 bb (md_far g_px g_py o1 (nI bb) (nI tt - 1))))), (b_heads, .inl (cI, 12, .inl h9)), (b_turn, .inl (cI, 12, .inl t1))] := hD
          refine lv_aload_n hx hb dM_join_127 rfl (lv_at hl 3 rfl) ?_
          refine va_get (D := (dC, dI)) (ci := 1) (v := .ref b_heads) (C := R_M) (T := T_M) (N := 16) hx hb hts in_M hown hK hP 0 rfl rfl 14 (by decide) (hts _ flM39) (fun _ h9 => h9) rfl dM_join_128 ?_
          refine lv_iload_n hx hb dM_join_131 rfl (lv_at hl 1 rfl) ?_
          refine lv_iconst (v := 0) hx hb dM_join_132 (by decide) ?_
          refine xa_iast hx hb hK hP hD hS 6 0 rfl rfl (i := bb) (x := 0) (by omega) (by first | decide | omega) dM_join_133 (fun H locs hP hD hS => ?_)
          have hP : va_P (dC, dI) snC [(h1, .inr (1, [.int cd, .int (nI Wd), .int (nI Ht), .ref b_wall, .int rs, .int (nI Pn), .ref b_px, .ref b_py, .ref b_loss, .ref b_reached, .int (nI J), .ref b_order, .ref b_upper, .ref b_length, .ref b_heads, .ref b_turn])), (b_px, .inl (cI, 12, .inl g_px)), (b_py, .inl (cI, 12, .inl g_py)), (b_order, .inl (cI, 12, .inl o1)), (b_upper, .inl (cI, 12, .inl (upd u1 bb (o1 (nI tt - 1).toNatClampNeg)))), (b_length, .inl (cI, 12, .inl (upd l1 bb (md_far g_px g_py o1 (nI bb) (nI tt - 1))))), (b_heads, .inl (cI, 12, .inl (upd h9 bb 0))), (b_turn, .inl (cI, 12, .inl t1))] H := hP
          have hD : va_D A [(h1, .inr (1, [.int cd, .int (nI Wd), .int (nI Ht), .ref b_wall, .int rs, .int (nI Pn), .ref b_px, .ref b_py, .ref b_loss, .ref b_reached, .int (nI J), .ref b_order, .ref b_upper, .ref b_length, .ref b_heads, .ref b_turn])), (b_px, .inl (cI, 12, .inl g_px)), (b_py, .inl (cI, 12, .inl g_py)), (b_order, .inl (cI, 12, .inl o1)), (b_upper, .inl (cI, 12, .inl (upd u1 bb (o1 (nI tt - 1).toNatClampNeg)))), (b_length, .inl (cI, 12, .inl (upd l1 bb (md_far g_px g_py o1 (nI bb) (nI tt - 1))))), (b_heads, .inl (cI, 12, .inl (upd h9 bb 0))), (b_turn, .inl (cI, 12, .inl t1))] := hD
          refine lv_aload_n hx hb dM_join_134 rfl (lv_at hl 3 rfl) ?_
          refine va_get (D := (dC, dI)) (ci := 1) (v := .ref b_turn) (C := R_M) (T := T_M) (N := 16) hx hb hts in_M hown hK hP 0 rfl rfl 15 (by decide) (hts _ flM42) (fun _ h9 => h9) rfl dM_join_135 ?_
          refine lv_iload_n hx hb dM_join_138 rfl (lv_at hl 1 rfl) ?_
          refine lv_aload_n hx hb dM_join_139 rfl (lv_at hl 3 rfl) ?_
          refine va_get (D := (dC, dI)) (ci := 1) (v := .int (nI J)) (C := R_M) (T := T_M) (N := 16) hx hb hts in_M hown hK hP 0 rfl rfl 10 (by decide) (hts _ flM107) (fun _ h9 => h9) rfl dM_join_140 ?_
          refine xa_iast hx hb hK hP hD hS 7 0 rfl rfl (i := bb) (x := nI J) (by omega) (by first | decide | omega) dM_join_143 (fun H locs hP hD hS => ?_)
          have hP : va_P (dC, dI) snC [(h1, .inr (1, [.int cd, .int (nI Wd), .int (nI Ht), .ref b_wall, .int rs, .int (nI Pn), .ref b_px, .ref b_py, .ref b_loss, .ref b_reached, .int (nI J), .ref b_order, .ref b_upper, .ref b_length, .ref b_heads, .ref b_turn])), (b_px, .inl (cI, 12, .inl g_px)), (b_py, .inl (cI, 12, .inl g_py)), (b_order, .inl (cI, 12, .inl o1)), (b_upper, .inl (cI, 12, .inl (upd u1 bb (o1 (nI tt - 1).toNatClampNeg)))), (b_length, .inl (cI, 12, .inl (upd l1 bb (md_far g_px g_py o1 (nI bb) (nI tt - 1))))), (b_heads, .inl (cI, 12, .inl (upd h9 bb 0))), (b_turn, .inl (cI, 12, .inl (upd t1 bb (nI J))))] H := hP
          have hD : va_D A [(h1, .inr (1, [.int cd, .int (nI Wd), .int (nI Ht), .ref b_wall, .int rs, .int (nI Pn), .ref b_px, .ref b_py, .ref b_loss, .ref b_reached, .int (nI J), .ref b_order, .ref b_upper, .ref b_length, .ref b_heads, .ref b_turn])), (b_px, .inl (cI, 12, .inl g_px)), (b_py, .inl (cI, 12, .inl g_py)), (b_order, .inl (cI, 12, .inl o1)), (b_upper, .inl (cI, 12, .inl (upd u1 bb (o1 (nI tt - 1).toNatClampNeg)))), (b_length, .inl (cI, 12, .inl (upd l1 bb (md_far g_px g_py o1 (nI bb) (nI tt - 1))))), (b_heads, .inl (cI, 12, .inl (upd h9 bb 0))), (b_turn, .inl (cI, 12, .inl (upd t1 bb (nI J))))] := hD
          refine lv_aload_n hx hb dM_join_144 rfl (lv_at hl 3 rfl) ?_
          refine va_get (D := (dC, dI)) (ci := 1) (v := .ref b_order) (C := R_M) (T := T_M) (N := 16) hx hb hts in_M hown hK hP 0 rfl rfl 11 (by decide) (hts _ flM30) (fun _ h9 => h9) rfl dM_join_145 ?_
          refine lv_aload_n hx hb dM_join_148 rfl (lv_at hl 3 rfl) ?_
          refine va_get (D := (dC, dI)) (ci := 1) (v := .int (nI J)) (C := R_M) (T := T_M) (N := 16) hx hb hts in_M hown hK hP 0 rfl rfl 10 (by decide) (hts _ flM107) (fun _ h9 => h9) rfl dM_join_149 ?_
          refine lv_iload_n hx hb dM_join_152 rfl (lv_at hl 1 rfl) ?_
          refine xa_iast hx hb hK hP hD hS 3 0 rfl rfl (i := J) (x := nI bb) (by omega) (by first | decide | omega) dM_join_153 (fun H locs hP hD hS => ?_)
          have hP : va_P (dC, dI) snC [(h1, .inr (1, [.int cd, .int (nI Wd), .int (nI Ht), .ref b_wall, .int rs, .int (nI Pn), .ref b_px, .ref b_py, .ref b_loss, .ref b_reached, .int (nI J), .ref b_order, .ref b_upper, .ref b_length, .ref b_heads, .ref b_turn])), (b_px, .inl (cI, 12, .inl g_px)), (b_py, .inl (cI, 12, .inl g_py)), (b_order, .inl (cI, 12, .inl (upd o1 J (nI bb)))), (b_upper, .inl (cI, 12, .inl (upd u1 bb (o1 (nI tt - 1).toNatClampNeg)))), (b_length, .inl (cI, 12, .inl (upd l1 bb (md_far g_px g_py o1 (nI bb) (nI tt - 1))))), (b_heads, .inl (cI, 12, .inl (upd h9 bb 0))), (b_turn, .inl (cI, 12, .inl (upd t1 bb (nI J))))] H := hP
          have hD : va_D A [(h1, .inr (1, [.int cd, .int (nI Wd), .int (nI Ht), .ref b_wall, .int rs, .int (nI Pn), .ref b_px, .ref b_py, .ref b_loss, .ref b_reached, .int (nI J), .ref b_order, .ref b_upper, .ref b_length, .ref b_heads, .ref b_turn])), (b_px, .inl (cI, 12, .inl g_px)), (b_py, .inl (cI, 12, .inl g_py)), (b_order, .inl (cI, 12, .inl (upd o1 J (nI bb)))), (b_upper, .inl (cI, 12, .inl (upd u1 bb (o1 (nI tt - 1).toNatClampNeg)))), (b_length, .inl (cI, 12, .inl (upd l1 bb (md_far g_px g_py o1 (nI bb) (nI tt - 1))))), (b_heads, .inl (cI, 12, .inl (upd h9 bb 0))), (b_turn, .inl (cI, 12, .inl (upd t1 bb (nI J))))] := hD
          refine lv_aload_n hx hb dM_join_154 rfl (lv_at hl 3 rfl) ?_
          refine lv_dup hx hb dM_join_155 rfl ?_
          refine va_get (D := (dC, dI)) (ci := 1) (v := .int (nI J)) (C := R_M) (T := T_M) (N := 16) hx hb hts in_M hown hK hP 0 rfl rfl 10 (by decide) (hts _ flM107) (fun _ h9 => h9) rfl dM_join_156 ?_
          refine lv_iconst (v := 1) hx hb dM_join_159 (by decide) ?_
          refine lv_iadd hx hb dM_join_160 ?_
          rw [show ((nI J) + 1 : Int32) = nI (J + 1) from (nI_1 J)]
          refine va_put (D := (dC, dI)) (ci := 1) (v := .int (nI (J + 1))) (ty := .int) (C := R_M) (T := T_M) (N := 16) hx hb hts in_M t_M tok_M n_M hown hK hP hD hS 0 rfl rfl 10 (by decide) (hts _ flM107) (fun _ h9 => h9) rfl (by decide +kernel) rfl rfl (Nat.le_of_ble_eq_true rfl) dM_join_161 (fun H locs hP hD hS => ?_)
          have hP : va_P (dC, dI) snC [(h1, .inr (1, [.int cd, .int (nI Wd), .int (nI Ht), .ref b_wall, .int rs, .int (nI Pn), .ref b_px, .ref b_py, .ref b_loss, .ref b_reached, .int (nI (J + 1)), .ref b_order, .ref b_upper, .ref b_length, .ref b_heads, .ref b_turn])), (b_px, .inl (cI, 12, .inl g_px)), (b_py, .inl (cI, 12, .inl g_py)), (b_order, .inl (cI, 12, .inl (upd o1 J (nI bb)))), (b_upper, .inl (cI, 12, .inl (upd u1 bb (o1 (nI tt - 1).toNatClampNeg)))), (b_length, .inl (cI, 12, .inl (upd l1 bb (md_far g_px g_py o1 (nI bb) (nI tt - 1))))), (b_heads, .inl (cI, 12, .inl (upd h9 bb 0))), (b_turn, .inl (cI, 12, .inl (upd t1 bb (nI J))))] H := hP
          have hD : va_D A [(h1, .inr (1, [.int cd, .int (nI Wd), .int (nI Ht), .ref b_wall, .int rs, .int (nI Pn), .ref b_px, .ref b_py, .ref b_loss, .ref b_reached, .int (nI (J + 1)), .ref b_order, .ref b_upper, .ref b_length, .ref b_heads, .ref b_turn])), (b_px, .inl (cI, 12, .inl g_px)), (b_py, .inl (cI, 12, .inl g_py)), (b_order, .inl (cI, 12, .inl (upd o1 J (nI bb)))), (b_upper, .inl (cI, 12, .inl (upd u1 bb (o1 (nI tt - 1).toNatClampNeg)))), (b_length, .inl (cI, 12, .inl (upd l1 bb (md_far g_px g_py o1 (nI bb) (nI tt - 1))))), (b_heads, .inl (cI, 12, .inl (upd h9 bb 0))), (b_turn, .inl (cI, 12, .inl (upd t1 bb (nI J))))] := hD
          refine lv_iload_n hx hb dM_join_164 rfl (lv_at hl 2 rfl) ?_
          refine lv_iconst (v := 1) hx hb dM_join_165 (by decide) ?_
          refine lv_iload_n hx hb dM_join_166 rfl (lv_at hl 1 rfl) ?_
          refine lv_ishl hx hb dM_join_167 ?_
          refine lv_iconst (v := (-1)) hx hb dM_join_168 (by decide) ?_
          refine lv_ixor hx hb dM_join_169 ?_
          refine lv_iand hx hb dM_join_170 ?_
          rw [show ((nI mm) &&& ((1 <<< ((nI bb) &&& 31)) ^^^ (-1)) : Int32) = nI (md_clb mm bb) from (md_clb_eq hmm hPn (by omega))]
          refine lv_istore_n (lv' := [(2, .int (nI (md_clb mm bb))), (4, .int (nI tt - 1)), (3, .int (nI bb)), (0, .ref h1)]) hx hb dM_join_171 rfl hl (by decide) rfl (fun ls hl => ?_)
          refine lv_goto (tgt := 7) hx hb dM_join_172 (by decide) ?_
          exact ih n (J + 1) (md_clb mm bb) (upd o1 J (nI bb)) (upd u1 bb (o1 (nI tt - 1).toNatClampNeg)) (upd l1 bb (md_far g_px g_py o1 (nI bb) (nI tt - 1))) (upd h9 bb 0) (upd t1 bb (nI J)) (by omega) (by omega) (md_clb_lt hmm) (by have := md_pcb_clr (by omega) hbit; omega) (md_ordv ho hbb hPn) (by rw [← hT, md_jn_step hmm0 ebt hmm hPn hbb, if_pos c_2]) _ _ hP hD hS ls (lv_sub hl [0, 3] rfl)
        · refine lv_iconst (v := (-1)) hx hb dM_join_102 (by decide) ?_
          refine lv_goto (tgt := 113) hx hb dM_join_103 (by decide) ?_
          refine xa_iast hx hb hK hP hD hS 4 0 rfl rfl (i := bb) (x := (-1)) (by omega) (by first | decide | omega) dM_join_113 (fun H locs hP hD hS => ?_)
          have hP : va_P (dC, dI) snC [(h1, .inr (1, [.int cd, .int (nI Wd), .int (nI Ht), .ref b_wall, .int rs, .int (nI Pn), .ref b_px, .ref b_py, .ref b_loss, .ref b_reached, .int (nI J), .ref b_order, .ref b_upper, .ref b_length, .ref b_heads, .ref b_turn])), (b_px, .inl (cI, 12, .inl g_px)), (b_py, .inl (cI, 12, .inl g_py)), (b_order, .inl (cI, 12, .inl o1)), (b_upper, .inl (cI, 12, .inl (upd u1 bb (-1)))), (b_length, .inl (cI, 12, .inl l1)), (b_heads, .inl (cI, 12, .inl h9)), (b_turn, .inl (cI, 12, .inl t1))] H := hP
          have hD : va_D A [(h1, .inr (1, [.int cd, .int (nI Wd), .int (nI Ht), .ref b_wall, .int rs, .int (nI Pn), .ref b_px, .ref b_py, .ref b_loss, .ref b_reached, .int (nI J), .ref b_order, .ref b_upper, .ref b_length, .ref b_heads, .ref b_turn])), (b_px, .inl (cI, 12, .inl g_px)), (b_py, .inl (cI, 12, .inl g_py)), (b_order, .inl (cI, 12, .inl o1)), (b_upper, .inl (cI, 12, .inl (upd u1 bb (-1)))), (b_length, .inl (cI, 12, .inl l1)), (b_heads, .inl (cI, 12, .inl h9)), (b_turn, .inl (cI, 12, .inl t1))] := hD
          refine lv_aload_n hx hb dM_join_114 rfl (lv_at hl 3 rfl) ?_
          refine va_get (D := (dC, dI)) (ci := 1) (v := .ref b_length) (C := R_M) (T := T_M) (N := 16) hx hb hts in_M hown hK hP 0 rfl rfl 13 (by decide) (hts _ flM36) (fun _ h9 => h9) rfl dM_join_115 ?_
          refine lv_iload_n hx hb dM_join_118 rfl (lv_at hl 1 rfl) ?_
          refine lv_aload_n hx hb dM_join_119 rfl (lv_at hl 3 rfl) ?_
          refine lv_iload_n hx hb dM_join_120 rfl (lv_at hl 1 rfl) ?_
          refine lv_iload hx hb dM_join_121 (lv_at hl 0 rfl) ?_
          refine xr_V (As := [.int (nI bb), .int (nI tt - 1)]) ⟨hx, hb, hml, hown, hts⟩ (cM_far l dC dI h1 b_wall b_px b_py b_loss b_reached b_order b_upper b_length b_heads b_turn cd Wd Ht Pn rs (nI J) cI g_px g_py o1 (nI bb) (nI tt - 1) (vp_in_nI (by omega) (by decide)) hfar) (cwV 2 hts gM110 rfl rfl rfl (by decide +kernel) ⟨Nat.le_of_ble_eq_true rfl, Nat.le_of_ble_eq_true rfl⟩) hK hP [0, 1, 2, 3] [0] rfl rfl 1 0 rfl rfl rfl rfl hl.1 rfl (Nat.le_of_ble_eq_true rfl) dM_join_123 ⟨Nat.le_of_ble_eq_true rfl, Nat.le_of_ble_eq_true rfl⟩ (fun r_4 hr_4 => ?_)
          subst hr_4
          refine xa_iast hx hb hK hP hD hS 5 0 rfl rfl (i := bb) (x := md_far g_px g_py o1 (nI bb) (nI tt - 1)) (by omega) (by first | decide | omega) dM_join_126 (fun H locs hP hD hS => ?_)
          have hP : va_P (dC, dI) snC [(h1, .inr (1, [.int cd, .int (nI Wd), .int (nI Ht), .ref b_wall, .int rs, .int (nI Pn), .ref b_px, .ref b_py, .ref b_loss, .ref b_reached, .int (nI J), .ref b_order, .ref b_upper, .ref b_length, .ref b_heads, .ref b_turn])), (b_px, .inl (cI, 12, .inl g_px)), (b_py, .inl (cI, 12, .inl g_py)), (b_order, .inl (cI, 12, .inl o1)), (b_upper, .inl (cI, 12, .inl (upd u1 bb (-1)))), (b_length, .inl (cI, 12, .inl (upd l1 bb (md_far g_px g_py o1 (nI bb) (nI tt - 1))))), (b_heads, .inl (cI, 12, .inl h9)), (b_turn, .inl (cI, 12, .inl t1))] H := hP
          have hD : va_D A [(h1, .inr (1, [.int cd, .int (nI Wd), .int (nI Ht), .ref b_wall, .int rs, .int (nI Pn), .ref b_px, .ref b_py, .ref b_loss, .ref b_reached, .int (nI J), .ref b_order, .ref b_upper, .ref b_length, .ref b_heads, .ref b_turn])), (b_px, .inl (cI, 12, .inl g_px)), (b_py, .inl (cI, 12, .inl g_py)), (b_order, .inl (cI, 12, .inl o1)), (b_upper, .inl (cI, 12, .inl (upd u1 bb (-1)))), (b_length, .inl (cI, 12, .inl (upd l1 bb (md_far g_px g_py o1 (nI bb) (nI tt - 1))))), (b_heads, .inl (cI, 12, .inl h9)), (b_turn, .inl (cI, 12, .inl t1))] := hD
          refine lv_aload_n hx hb dM_join_127 rfl (lv_at hl 3 rfl) ?_
          refine va_get (D := (dC, dI)) (ci := 1) (v := .ref b_heads) (C := R_M) (T := T_M) (N := 16) hx hb hts in_M hown hK hP 0 rfl rfl 14 (by decide) (hts _ flM39) (fun _ h9 => h9) rfl dM_join_128 ?_
          refine lv_iload_n hx hb dM_join_131 rfl (lv_at hl 1 rfl) ?_
          refine lv_iconst (v := 0) hx hb dM_join_132 (by decide) ?_
          refine xa_iast hx hb hK hP hD hS 6 0 rfl rfl (i := bb) (x := 0) (by omega) (by first | decide | omega) dM_join_133 (fun H locs hP hD hS => ?_)
          have hP : va_P (dC, dI) snC [(h1, .inr (1, [.int cd, .int (nI Wd), .int (nI Ht), .ref b_wall, .int rs, .int (nI Pn), .ref b_px, .ref b_py, .ref b_loss, .ref b_reached, .int (nI J), .ref b_order, .ref b_upper, .ref b_length, .ref b_heads, .ref b_turn])), (b_px, .inl (cI, 12, .inl g_px)), (b_py, .inl (cI, 12, .inl g_py)), (b_order, .inl (cI, 12, .inl o1)), (b_upper, .inl (cI, 12, .inl (upd u1 bb (-1)))), (b_length, .inl (cI, 12, .inl (upd l1 bb (md_far g_px g_py o1 (nI bb) (nI tt - 1))))), (b_heads, .inl (cI, 12, .inl (upd h9 bb 0))), (b_turn, .inl (cI, 12, .inl t1))] H := hP
          have hD : va_D A [(h1, .inr (1, [.int cd, .int (nI Wd), .int (nI Ht), .ref b_wall, .int rs, .int (nI Pn), .ref b_px, .ref b_py, .ref b_loss, .ref b_reached, .int (nI J), .ref b_order, .ref b_upper, .ref b_length, .ref b_heads, .ref b_turn])), (b_px, .inl (cI, 12, .inl g_px)), (b_py, .inl (cI, 12, .inl g_py)), (b_order, .inl (cI, 12, .inl o1)), (b_upper, .inl (cI, 12, .inl (upd u1 bb (-1)))), (b_length, .inl (cI, 12, .inl (upd l1 bb (md_far g_px g_py o1 (nI bb) (nI tt - 1))))), (b_heads, .inl (cI, 12, .inl (upd h9 bb 0))), (b_turn, .inl (cI, 12, .inl t1))] := hD
          refine lv_aload_n hx hb dM_join_134 rfl (lv_at hl 3 rfl) ?_
          refine va_get (D := (dC, dI)) (ci := 1) (v := .ref b_turn) (C := R_M) (T := T_M) (N := 16) hx hb hts in_M hown hK hP 0 rfl rfl 15 (by decide) (hts _ flM42) (fun _ h9 => h9) rfl dM_join_135 ?_
          refine lv_iload_n hx hb dM_join_138 rfl (lv_at hl 1 rfl) ?_
          refine lv_aload_n hx hb dM_join_139 rfl (lv_at hl 3 rfl) ?_
          refine va_get (D := (dC, dI)) (ci := 1) (v := .int (nI J)) (C := R_M) (T := T_M) (N := 16) hx hb hts in_M hown hK hP 0 rfl rfl 10 (by decide) (hts _ flM107) (fun _ h9 => h9) rfl dM_join_140 ?_
          refine xa_iast hx hb hK hP hD hS 7 0 rfl rfl (i := bb) (x := nI J) (by omega) (by first | decide | omega) dM_join_143 (fun H locs hP hD hS => ?_)
          have hP : va_P (dC, dI) snC [(h1, .inr (1, [.int cd, .int (nI Wd), .int (nI Ht), .ref b_wall, .int rs, .int (nI Pn), .ref b_px, .ref b_py, .ref b_loss, .ref b_reached, .int (nI J), .ref b_order, .ref b_upper, .ref b_length, .ref b_heads, .ref b_turn])), (b_px, .inl (cI, 12, .inl g_px)), (b_py, .inl (cI, 12, .inl g_py)), (b_order, .inl (cI, 12, .inl o1)), (b_upper, .inl (cI, 12, .inl (upd u1 bb (-1)))), (b_length, .inl (cI, 12, .inl (upd l1 bb (md_far g_px g_py o1 (nI bb) (nI tt - 1))))), (b_heads, .inl (cI, 12, .inl (upd h9 bb 0))), (b_turn, .inl (cI, 12, .inl (upd t1 bb (nI J))))] H := hP
          have hD : va_D A [(h1, .inr (1, [.int cd, .int (nI Wd), .int (nI Ht), .ref b_wall, .int rs, .int (nI Pn), .ref b_px, .ref b_py, .ref b_loss, .ref b_reached, .int (nI J), .ref b_order, .ref b_upper, .ref b_length, .ref b_heads, .ref b_turn])), (b_px, .inl (cI, 12, .inl g_px)), (b_py, .inl (cI, 12, .inl g_py)), (b_order, .inl (cI, 12, .inl o1)), (b_upper, .inl (cI, 12, .inl (upd u1 bb (-1)))), (b_length, .inl (cI, 12, .inl (upd l1 bb (md_far g_px g_py o1 (nI bb) (nI tt - 1))))), (b_heads, .inl (cI, 12, .inl (upd h9 bb 0))), (b_turn, .inl (cI, 12, .inl (upd t1 bb (nI J))))] := hD
          refine lv_aload_n hx hb dM_join_144 rfl (lv_at hl 3 rfl) ?_
          refine va_get (D := (dC, dI)) (ci := 1) (v := .ref b_order) (C := R_M) (T := T_M) (N := 16) hx hb hts in_M hown hK hP 0 rfl rfl 11 (by decide) (hts _ flM30) (fun _ h9 => h9) rfl dM_join_145 ?_
          refine lv_aload_n hx hb dM_join_148 rfl (lv_at hl 3 rfl) ?_
          refine va_get (D := (dC, dI)) (ci := 1) (v := .int (nI J)) (C := R_M) (T := T_M) (N := 16) hx hb hts in_M hown hK hP 0 rfl rfl 10 (by decide) (hts _ flM107) (fun _ h9 => h9) rfl dM_join_149 ?_
          refine lv_iload_n hx hb dM_join_152 rfl (lv_at hl 1 rfl) ?_
          refine xa_iast hx hb hK hP hD hS 3 0 rfl rfl (i := J) (x := nI bb) (by omega) (by first | decide | omega) dM_join_153 (fun H locs hP hD hS => ?_)
          have hP : va_P (dC, dI) snC [(h1, .inr (1, [.int cd, .int (nI Wd), .int (nI Ht), .ref b_wall, .int rs, .int (nI Pn), .ref b_px, .ref b_py, .ref b_loss, .ref b_reached, .int (nI J), .ref b_order, .ref b_upper, .ref b_length, .ref b_heads, .ref b_turn])), (b_px, .inl (cI, 12, .inl g_px)), (b_py, .inl (cI, 12, .inl g_py)), (b_order, .inl (cI, 12, .inl (upd o1 J (nI bb)))), (b_upper, .inl (cI, 12, .inl (upd u1 bb (-1)))), (b_length, .inl (cI, 12, .inl (upd l1 bb (md_far g_px g_py o1 (nI bb) (nI tt - 1))))), (b_heads, .inl (cI, 12, .inl (upd h9 bb 0))), (b_turn, .inl (cI, 12, .inl (upd t1 bb (nI J))))] H := hP
          have hD : va_D A [(h1, .inr (1, [.int cd, .int (nI Wd), .int (nI Ht), .ref b_wall, .int rs, .int (nI Pn), .ref b_px, .ref b_py, .ref b_loss, .ref b_reached, .int (nI J), .ref b_order, .ref b_upper, .ref b_length, .ref b_heads, .ref b_turn])), (b_px, .inl (cI, 12, .inl g_px)), (b_py, .inl (cI, 12, .inl g_py)), (b_order, .inl (cI, 12, .inl (upd o1 J (nI bb)))), (b_upper, .inl (cI, 12, .inl (upd u1 bb (-1)))), (b_length, .inl (cI, 12, .inl (upd l1 bb (md_far g_px g_py o1 (nI bb) (nI tt - 1))))), (b_heads, .inl (cI, 12, .inl (upd h9 bb 0))), (b_turn, .inl (cI, 12, .inl (upd t1 bb (nI J))))] := hD
          refine lv_aload_n hx hb dM_join_154 rfl (lv_at hl 3 rfl) ?_
          refine lv_dup hx hb dM_join_155 rfl ?_
          refine va_get (D := (dC, dI)) (ci := 1) (v := .int (nI J)) (C := R_M) (T := T_M) (N := 16) hx hb hts in_M hown hK hP 0 rfl rfl 10 (by decide) (hts _ flM107) (fun _ h9 => h9) rfl dM_join_156 ?_
          refine lv_iconst (v := 1) hx hb dM_join_159 (by decide) ?_
          refine lv_iadd hx hb dM_join_160 ?_
          rw [show ((nI J) + 1 : Int32) = nI (J + 1) from (nI_1 J)]
          refine va_put (D := (dC, dI)) (ci := 1) (v := .int (nI (J + 1))) (ty := .int) (C := R_M) (T := T_M) (N := 16) hx hb hts in_M t_M tok_M n_M hown hK hP hD hS 0 rfl rfl 10 (by decide) (hts _ flM107) (fun _ h9 => h9) rfl (by decide +kernel) rfl rfl (Nat.le_of_ble_eq_true rfl) dM_join_161 (fun H locs hP hD hS => ?_)
          have hP : va_P (dC, dI) snC [(h1, .inr (1, [.int cd, .int (nI Wd), .int (nI Ht), .ref b_wall, .int rs, .int (nI Pn), .ref b_px, .ref b_py, .ref b_loss, .ref b_reached, .int (nI (J + 1)), .ref b_order, .ref b_upper, .ref b_length, .ref b_heads, .ref b_turn])), (b_px, .inl (cI, 12, .inl g_px)), (b_py, .inl (cI, 12, .inl g_py)), (b_order, .inl (cI, 12, .inl (upd o1 J (nI bb)))), (b_upper, .inl (cI, 12, .inl (upd u1 bb (-1)))), (b_length, .inl (cI, 12, .inl (upd l1 bb (md_far g_px g_py o1 (nI bb) (nI tt - 1))))), (b_heads, .inl (cI, 12, .inl (upd h9 bb 0))), (b_turn, .inl (cI, 12, .inl (upd t1 bb (nI J))))] H := hP
          have hD : va_D A [(h1, .inr (1, [.int cd, .int (nI Wd), .int (nI Ht), .ref b_wall, .int rs, .int (nI Pn), .ref b_px, .ref b_py, .ref b_loss, .ref b_reached, .int (nI (J + 1)), .ref b_order, .ref b_upper, .ref b_length, .ref b_heads, .ref b_turn])), (b_px, .inl (cI, 12, .inl g_px)), (b_py, .inl (cI, 12, .inl g_py)), (b_order, .inl (cI, 12, .inl (upd o1 J (nI bb)))), (b_upper, .inl (cI, 12, .inl (upd u1 bb (-1)))), (b_length, .inl (cI, 12, .inl (upd l1 bb (md_far g_px g_py o1 (nI bb) (nI tt - 1))))), (b_heads, .inl (cI, 12, .inl (upd h9 bb 0))), (b_turn, .inl (cI, 12, .inl (upd t1 bb (nI J))))] := hD
          refine lv_iload_n hx hb dM_join_164 rfl (lv_at hl 2 rfl) ?_
          refine lv_iconst (v := 1) hx hb dM_join_165 (by decide) ?_
          refine lv_iload_n hx hb dM_join_166 rfl (lv_at hl 1 rfl) ?_
          refine lv_ishl hx hb dM_join_167 ?_
          refine lv_iconst (v := (-1)) hx hb dM_join_168 (by decide) ?_
          refine lv_ixor hx hb dM_join_169 ?_
          refine lv_iand hx hb dM_join_170 ?_
          rw [show ((nI mm) &&& ((1 <<< ((nI bb) &&& 31)) ^^^ (-1)) : Int32) = nI (md_clb mm bb) from (md_clb_eq hmm hPn (by omega))]
          refine lv_istore_n (lv' := [(2, .int (nI (md_clb mm bb))), (4, .int (nI tt - 1)), (3, .int (nI bb)), (0, .ref h1)]) hx hb dM_join_171 rfl hl (by decide) rfl (fun ls hl => ?_)
          refine lv_goto (tgt := 7) hx hb dM_join_172 (by decide) ?_
          exact ih n (J + 1) (md_clb mm bb) (upd o1 J (nI bb)) (upd u1 bb (-1)) (upd l1 bb (md_far g_px g_py o1 (nI bb) (nI tt - 1))) (upd h9 bb 0) (upd t1 bb (nI J)) (by omega) (by omega) (md_clb_lt hmm) (by have := md_pcb_clr (by omega) hbit; omega) (md_ordv ho hbb hPn) (by rw [← hT, md_jn_step hmm0 ebt hmm hPn hbb, if_neg c_2]) _ _ hP hD hS ls (lv_sub hl [0, 3] rfl)
  refine lv_aload_n hx hb dM_join_0 rfl (lv_at hl 0 rfl) ?_
  refine lv_iconst (v := 0) hx hb dM_join_1 (by decide) ?_
  refine va_put (D := (dC, dI)) (ci := 1) (v := .int 0) (ty := .int) (C := R_M) (T := T_M) (N := 16) hx hb hts in_M t_M tok_M n_M hown hK hP hD hS 0 rfl rfl 10 (by decide) (hts _ flM107) (fun _ h9 => h9) rfl (by decide +kernel) rfl rfl (Nat.le_of_ble_eq_true rfl) dM_join_2 (fun H locs hP hD hS => ?_)
  have hP : va_P (dC, dI) snC [(h1, .inr (1, [.int cd, .int (nI Wd), .int (nI Ht), .ref b_wall, .int rs, .int (nI Pn), .ref b_px, .ref b_py, .ref b_loss, .ref b_reached, .int 0, .ref b_order, .ref b_upper, .ref b_length, .ref b_heads, .ref b_turn])), (b_px, .inl (cI, 12, .inl g_px)), (b_py, .inl (cI, 12, .inl g_py)), (b_order, .inl (cI, 12, .inl g_order)), (b_upper, .inl (cI, 12, .inl g_upper)), (b_length, .inl (cI, 12, .inl g_length)), (b_heads, .inl (cI, 12, .inl g_heads)), (b_turn, .inl (cI, 12, .inl g_turn))] H := hP
  have hD : va_D A [(h1, .inr (1, [.int cd, .int (nI Wd), .int (nI Ht), .ref b_wall, .int rs, .int (nI Pn), .ref b_px, .ref b_py, .ref b_loss, .ref b_reached, .int 0, .ref b_order, .ref b_upper, .ref b_length, .ref b_heads, .ref b_turn])), (b_px, .inl (cI, 12, .inl g_px)), (b_py, .inl (cI, 12, .inl g_py)), (b_order, .inl (cI, 12, .inl g_order)), (b_upper, .inl (cI, 12, .inl g_upper)), (b_length, .inl (cI, 12, .inl g_length)), (b_heads, .inl (cI, 12, .inl g_heads)), (b_turn, .inl (cI, 12, .inl g_turn))] := hD
  refine lv_iload_n hx hb dM_join_5 rfl (lv_at hl 1 rfl) ?_
  refine lv_istore_n (lv' := [(2, .int set), (0, .ref h1), (1, .int set)]) hx hb dM_join_6 rfl hl (by decide) rfl (fun ls hl => ?_)
  rw [hset] at hl
  exact lp7 13 12 0 m0 g_order g_upper g_length g_heads g_turn (by omega) (by omega) hm0 (md_pcb_le 12 m0) (fun z h => absurd h (Nat.not_lt_zero z)) (by rw [hset]) _ _ hP hD hS ls (lv_sub hl [0, 1] rfl)
