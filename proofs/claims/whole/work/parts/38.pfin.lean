section PF
variable {Wd Ht Pn m0 : Nat} {rs old sc : Int32} {fw px py fr lo g gx gy gl u l t j fh fl o u' l' h' t' : Nat → Int32} {X Y : Nat → Nat}
theorem bit_lt {q : Nat} (hm : m0 < 2 ^ Pn) (hb : m0.testBit q = true) : q < Pn := by
  rcases Nat.lt_or_ge q Pn with h | h
  · exact h
  · rw [Nat.testBit_lt_two_pow (Nat.lt_of_lt_of_le hm (Nat.pow_le_pow_right (by decide) h))] at hb; cases hb
theorem RL.hxy (h : RL Wd Ht Pn rs old sc fw px py fr lo g gx gy gl X Y) : ∀ i, i < Pn → px i = nI (X i) ∧ py i = nI (Y i) ∧ gx i = nI (X i) ∧ gy i = nI (Y i) ∧ X i < 16 ∧ Y i < 16 := fun i hi => by
  obtain ⟨⟨hW, hH, hPn⟩, hXY, _⟩ := h
  obtain ⟨a, b, c, d, e, f⟩ := hXY i hi
  exact ⟨a, b, c, d, by omega, by omega⟩
theorem RL.jn (h : RL Wd Ht Pn rs old sc fw px py fr lo g gx gy gl X Y) (hm : m0 < 2 ^ Pn) :
    (sn_join px py (nI m0) u l t j).2.2.2.2.toNatClampNeg = (md_join gx gy Pn (nI m0) o u' l' h' t').1 ∧ OK m0 (md_join gx gy Pn (nI m0) o u' l' h' t').1 (md_join gx gy Pn (nI m0) o u' l' h' t').2.1 (md_join gx gy Pn (nI m0) o u' l' h' t').2.2.1 ∧
    (∀ z, z < (md_join gx gy Pn (nI m0) o u' l' h' t').1 → (sn_join px py (nI m0) u l t j).2.2.2.1 z = (md_join gx gy Pn (nI m0) o u' l' h' t').2.1 z) ∧
    (∀ q, q < 12 → m0.testBit q = true → (sn_join px py (nI m0) u l t j).1 q = (md_join gx gy Pn (nI m0) o u' l' h' t').2.2.1 q ∧ (sn_join px py (nI m0) u l t j).2.1 q = (md_join gx gy Pn (nI m0) o u' l' h' t').2.2.2.1 q ∧ (sn_join px py (nI m0) u l t j).2.2.1 q = (md_join gx gy Pn (nI m0) o u' l' h' t').2.2.2.2.2 q ∧
      sn_ch (sn_join px py (nI m0) u l t j).1 (sn_join px py (nI m0) u l t j).2.2.2.1 (sn_join px py (nI m0) u l t j).2.2.2.2.toNatClampNeg (sn_fill 1 12 0 fh) q = (md_join gx gy Pn (nI m0) o u' l' h' t').2.2.2.2.1 q ∧ (∃ d, d ≤ 30 ∧ (md_join gx gy Pn (nI m0) o u' l' h' t').2.2.2.1 q = nI d) ∧ ∃ k, k ≤ 156 ∧ (md_join gx gy Pn (nI m0) o u' l' h' t').2.2.2.2.1 q = nI k) := by
  have hPn := h.1.2.2
  obtain ⟨r1, r2, r3, r4, r5⟩ := join_JR (o := o) (u' := u') (l' := l') (h' := h') (t' := t') (u := u) (l := l) (t := t) (j := j) hPn h.hxy hm
  obtain ⟨_, _, s3, s4⟩ := md_join_spec (px := gx) (py := gy) (o := o) (u := u') (le := l') (he := h') (tu := t') hPn rfl hm
  have hok : OK m0 (md_join gx gy Pn (nI m0) o u' l' h' t').1 (md_join gx gy Pn (nI m0) o u' l' h' t').2.1 (md_join gx gy Pn (nI m0) o u' l' h' t').2.2.1 := by
    refine ⟨r1, fun z hz => ?_, r4, s4, s3⟩
    obtain ⟨q, a1, a2, a3, _⟩ := r3 z hz
    exact ⟨q, by omega, a2, a3⟩
  have e1 : (sn_join px py (nI m0) u l t j).2.2.2.2.toNatClampNeg = (md_join gx gy Pn (nI m0) o u' l' h' t').1 := by
    rw [r2]; exact nI_clamp (by omega)
  have e3 : ∀ z, z < (md_join gx gy Pn (nI m0) o u' l' h' t').1 → (sn_join px py (nI m0) u l t j).2.2.2.1 z = (md_join gx gy Pn (nI m0) o u' l' h' t').2.1 z := fun z hz => by
    obtain ⟨q, a1, a2, a3, a4⟩ := r3 z hz
    exact a4
  refine ⟨e1, hok, e3, fun q hq hb => ?_⟩
  obtain ⟨b1, b2, b3, b4, b5⟩ := r5 q (bit_lt hm hb) hb
  refine ⟨b1, b2, b3, ?_, b5, ?_⟩
  · rw [e1, ch_congr (U := (md_join gx gy Pn (nI m0) o u' l' h' t').2.2.1) (o := (md_join gx gy Pn (nI m0) o u' l' h' t').2.1) _ _ (fun z hz => ⟨e3 z hz, ?_⟩)]
    · exact hok.heads hq hb (fun q hq => by rw [sn_fill_at, if_pos (by omega)]) b4
    · obtain ⟨q2, a1, a2, a3⟩ := hok.2.1 z hz
      rw [a2, nI_clamp (by omega)]
      exact (r5 q2 (bit_lt hm a3) a3).1
  · obtain ⟨k, hk, e⟩ := hs_bd (U := (md_jn gx gy Pn 12 0 (nI m0) o u' l' h' t').2.2.1) (o := (md_jn gx gy Pn 12 0 (nI m0) o u' l' h' t').2.1) (w := q) b4 (md_jn gx gy Pn 12 0 (nI m0) o u' l' h' t').1
    exact ⟨k, by omega, e⟩
theorem RL.pipes (h : RL Wd Ht Pn rs old sc fw px py fr lo g gx gy gl X Y) (hm : m0 < 2 ^ Pn) : sn_ps (nI m0) ((sn_join px py (nI m0) u l t j).2.1) 12 0 0 = md_pp (md_join gx gy Pn (nI m0) o u' l' h' t').2.2.2.1 (md_join gx gy Pn (nI m0) o u' l' h' t').2.1 (md_join gx gy Pn (nI m0) o u' l' h' t').1 0 0 := by
  obtain ⟨_, hok, _, r⟩ := h.jn (u := u) (l := l) (t := t) (j := j) (fh := fun _ => 0) (o := o) (u' := u') (l' := l') (h' := h') (t' := t') hm
  have hm31 : m0 < 2 ^ 31 := Nat.lt_of_lt_of_le hm (Nat.pow_le_pow_right (by decide) (by have := h.1.2.2; omega))
  rw [ps_sm, pp_sm, Int32.zero_add, Int32.zero_add]
  have e := sm_inO hok (md_join gx gy Pn (nI m0) o u' l' h' t').2.2.2.1 _ (Nat.le_refl _)
  simp only [Nat.zero_add]
  rw [e]
  refine sm_congr 12 (fun i hi => ?_)
  rw [sn_hold_bit hm31 hi]
  cases hb : m0.testBit i with
  | true =>
    rw [if_pos rfl, if_pos ((inO_iff _ i _).mpr (hok.2.2.2.1 i hi hb)), (r i hi hb).2.1]
  | false =>
    rw [if_neg Bool.false_ne_true, if_neg]
    intro z9
    obtain ⟨z, hz, e9⟩ := (inO_iff _ i _).mp z9
    obtain ⟨q, hq, e8, hb2⟩ := hok.2.1 z hz
    have : q = i := (nI_eq (by omega) (by omega)).mp (e8.symm.trans e9)
    rw [this, hb] at hb2; cases hb2
theorem RL.pipe (h : RL Wd Ht Pn rs old sc fw px py fr lo g gx gy gl X Y) (hm : m0 < 2 ^ Pn) {q : Nat} (hb : m0.testBit q = true) (k : Nat) :
    sn_pv k ((sn_join px py (nI m0) u l t j).1) ((sn_join px py (nI m0) u l t j).2.1) (sn_ch (sn_join px py (nI m0) u l t j).1 (sn_join px py (nI m0) u l t j).2.2.2.1 (sn_join px py (nI m0) u l t j).2.2.2.2.toNatClampNeg (sn_fill 1 12 0 fh)) lo ((sn_join px py (nI m0) u l t j).2.2.1) q
      = md_pv k (md_join gx gy Pn (nI m0) o u' l' h' t').2.2.1 (md_join gx gy Pn (nI m0) o u' l' h' t').2.2.2.1 (md_join gx gy Pn (nI m0) o u' l' h' t').2.2.2.2.1 gl (md_join gx gy Pn (nI m0) o u' l' h' t').2.2.2.2.2 q := by
  obtain ⟨_, hok, _, r⟩ := h.jn (u := u) (l := l) (t := t) (j := j) (fh := fh) (o := o) (u' := u') (l' := l') (h' := h') (t' := t') hm
  have hq := bit_lt hm hb
  obtain ⟨b1, b2, b3, b4, _⟩ := r q (by have := h.1.2.2; omega) hb
  match k with
  | 0 => exact b1
  | 1 => exact b2
  | 2 => exact b4
  | 3 =>
    show sn_lf lo _ 12 1 0 = md_loss gl _
    rw [b4, lf_eq _ h.2.2.2.2.2.1]
  | k + 4 => exact b3
theorem RL.al (h : RL Wd Ht Pn rs old sc fw px py fr lo g gx gy gl X Y) (hm : m0 < 2 ^ Pn) {q : Nat} (hb : m0.testBit q = true) :
    (sn_al lo (sn_join px py (nI m0) u l t j).1 (sn_join px py (nI m0) u l t j).2.1 (sn_ch (sn_join px py (nI m0) u l t j).1 (sn_join px py (nI m0) u l t j).2.2.2.1 (sn_join px py (nI m0) u l t j).2.2.2.2.toNatClampNeg (sn_fill 1 12 0 fh)) (sn_join px py (nI m0) u l t j).2.2.2.1 (sn_join px py (nI m0) u l t j).2.2.2.2.toNatClampNeg 0 fl) q
      = md_lst gl (md_join gx gy Pn (nI m0) o u' l' h' t').2.2.1 (md_join gx gy Pn (nI m0) o u' l' h' t').2.2.2.1 (md_join gx gy Pn (nI m0) o u' l' h' t').2.2.2.2.1 13 (nI q) 0 ∧
    ∃ v, v < 2 ^ 31 ∧ md_lst gl (md_join gx gy Pn (nI m0) o u' l' h' t').2.2.1 (md_join gx gy Pn (nI m0) o u' l' h' t').2.2.2.1 (md_join gx gy Pn (nI m0) o u' l' h' t').2.2.2.2.1 13 (nI q) 0 = nI v := by
  obtain ⟨e1, hok, e3, r⟩ := h.jn (u := u) (l := l) (t := t) (j := j) (fh := fh) (o := o) (u' := u') (l' := l') (h' := h') (t' := t') hm
  have hPn := h.1.2.2
  have hq := bit_lt hm hb
  obtain ⟨z, hz, ez⟩ := hok.2.2.2.1 q (by omega) hb
  rw [md_lst_wk, Int32.zero_add, ← ez]
  constructor
  · rw [al_congr (U := (md_join gx gy Pn (nI m0) o u' l' h' t').2.2.1) (L := (md_join gx gy Pn (nI m0) o u' l' h' t').2.2.2.1) (o := (md_join gx gy Pn (nI m0) o u' l' h' t').2.1) _ 0 _ (fun z _ hz => ?_)]
    · have hh := hok.al (lo := lo) (L := (md_join gx gy Pn (nI m0) o u' l' h' t').2.2.2.1) (ho := sn_ch (sn_join px py (nI m0) u l t j).1 (sn_join px py (nI m0) u l t j).2.2.2.1 (sn_join px py (nI m0) u l t j).2.2.2.2.toNatClampNeg (sn_fill 1 12 0 fh)) (F := md_lt gl (md_join gx gy Pn (nI m0) o u' l' h' t').2.2.2.1 (md_join gx gy Pn (nI m0) o u' l' h' t').2.2.2.2.1) (fun z hz => by
        obtain ⟨q2, hq2, a2, a3⟩ := hok.2.1 z hz
        rw [a2, nI_clamp (by omega), sn_lost, md_lt, (r q2 hq2 a3).2.2.2.1, lf_eq _ h.2.2.2.2.2.1]) (md_join gx gy Pn (nI m0) o u' l' h' t').1 0 fl (by omega) (fun z hz => absurd hz (Nat.not_lt_zero z)) z hz
      rw [← hh, ez, nI_clamp (by omega), ← e1]
    · rw [e1, Nat.zero_add] at hz
      obtain ⟨q2, hq2, a2, a3⟩ := hok.2.1 z hz
      rw [a2, nI_clamp (by omega)]
      exact ⟨by rw [← a2]; exact e3 z hz, (r q2 hq2 a3).1, (r q2 hq2 a3).2.1⟩
  · obtain ⟨v, hv, e⟩ := hok.wkbd (F := md_lt gl (md_join gx gy Pn (nI m0) o u' l' h' t').2.2.2.1 (md_join gx gy Pn (nI m0) o u' l' h' t').2.2.2.2.1) (B := 4680000) (fun z hz => by
      obtain ⟨q2, hq2, a2, a3⟩ := hok.2.1 z hz
      obtain ⟨_, _, _, _, ⟨d, hd, ed⟩, k, hk, ek⟩ := r q2 hq2 a3
      obtain ⟨w, hw, ew⟩ := loss_bd (nI k) h.2.2.2.2.2.1
      rw [a2, nI_clamp (by omega), md_lt, ed, ek, ew, pk_mul, pk_mul]
      refine ⟨_, ?_, rfl⟩
      have m1 := Nat.mul_le_mul (Nat.mul_le_mul hd hw) hk
      omega) 13 z hz
    exact ⟨v, by omega, e⟩
theorem RL.worst (h : RL Wd Ht Pn rs old sc fw px py fr lo g gx gy gl X Y) (hm : m0 < 2 ^ Pn) :
    sn_wo (nI m0) (sn_al lo (sn_join px py (nI m0) u l t j).1 (sn_join px py (nI m0) u l t j).2.1 (sn_ch (sn_join px py (nI m0) u l t j).1 (sn_join px py (nI m0) u l t j).2.2.2.1 (sn_join px py (nI m0) u l t j).2.2.2.2.toNatClampNeg (sn_fill 1 12 0 fh)) (sn_join px py (nI m0) u l t j).2.2.2.1 (sn_join px py (nI m0) u l t j).2.2.2.2.toNatClampNeg 0 fl) 12 0 (-1) (-1)
      = md_wo (nI m0) (md_lst gl (md_join gx gy Pn (nI m0) o u' l' h' t').2.2.1 (md_join gx gy Pn (nI m0) o u' l' h' t').2.2.2.1 (md_join gx gy Pn (nI m0) o u' l' h' t').2.2.2.2.1 13) Pn 0 (-1) := by
  have hPn := h.1.2.2
  have hm31 : m0 < 2 ^ 31 := Nat.lt_of_lt_of_le hm (Nat.pow_le_pow_right (by decide) (by omega))
  have e := wo_cut (st := nI m0) (lk := sn_al lo (sn_join px py (nI m0) u l t j).1 (sn_join px py (nI m0) u l t j).2.1 (sn_ch (sn_join px py (nI m0) u l t j).1 (sn_join px py (nI m0) u l t j).2.2.2.1 (sn_join px py (nI m0) u l t j).2.2.2.2.toNatClampNeg (sn_fill 1 12 0 fh)) (sn_join px py (nI m0) u l t j).2.2.2.1 (sn_join px py (nI m0) u l t j).2.2.2.2.toNatClampNeg 0 fl) Pn (12 - Pn) 0 (-1) (-1) (fun k h1 h2 => by
    rw [sn_hold_bit hm31 (by omega)]
    exact Nat.testBit_lt_two_pow (Nat.lt_of_lt_of_le hm (Nat.pow_le_pow_right (by decide) (by omega))))
  rw [show Pn + (12 - Pn) = 12 by omega] at e
  rw [e]
  refine wo_run hPn hm31 (fun q hq hb => ?_) Pn 0 (-1) (-1) (by omega) (Or.inl ⟨rfl, rfl⟩)
  obtain ⟨a1, v, hv, a2⟩ := h.al (u := u) (l := l) (t := t) (j := j) (fh := fh) (fl := fl) (o := o) (u' := u') (l' := l') (h' := h') (t' := t') hm hb
  exact ⟨a1, v, hv, a1.trans a2⟩
end PF
