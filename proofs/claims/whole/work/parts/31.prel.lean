def RL (Wd Ht Pn : Nat) (rs old sc : Int32) (fw px py fr lo g gx gy gl : Nat → Int32) (X Y : Nat → Nat) : Prop :=
  (Wd ≤ 16 ∧ Ht ≤ 16 ∧ Pn ≤ 12) ∧ (∀ i, i < Pn → px i = nI (X i) ∧ py i = nI (Y i) ∧ gx i = nI (X i) ∧ gy i = nI (Y i) ∧ X i < Wd ∧ Y i < Ht) ∧ (∀ x y, x < Wd → y < Ht → fw (y * 16 + x) = g (y * 16 + x)) ∧ (∀ x y, x < 16 → y < 16 → ¬ (x < Wd ∧ y < Ht) → fw (y * 16 + x) = 1) ∧ (∀ i, g i = 0 ∨ g i = 1) ∧ (∀ i, 1 ≤ i → i ≤ 12 → lo i = gl i ∧ (gl i = -1 ∨ ∃ z, z ≤ 1000 ∧ gl i = nI z)) ∧ sc = md_sz gl 12 1 0 ∧ (old = 0 → ∀ x y, x < 16 → y < 16 → fr (y * 16 + x) = if x < Wd ∧ y < Ht then md_rs g rs X Y x y Pn 0 0 else 0)
theorem p12 : ∀ P, P < 13 → nI (2 ^ P - 1) ^^^ (-1) = nI (4294967296 - 2 ^ P) ∧ (∀ j, j < 32 → (4294967296 - 2 ^ P).testBit j = decide (P ≤ j)) ∧ ((nI P &&& 31).toBitVec.smod 32).toNat = P := by decide +kernel
theorem nI_all (x : Int32) : ∃ k, k < 2 ^ 32 ∧ x = nI k := ⟨x.toBitVec.toNat, x.toBitVec.isLt, by rw [nI, Int32.ofNat_bitVecToNat]; rfl⟩
theorem nI_z {k : Nat} (h : k < 2 ^ 32) : nI k = 0 ↔ k = 0 := by
  refine ⟨fun e => ?_, fun e => by rw [e]; rfl⟩
  have := pk_tn h
  rw [e] at this; exact this.symm
theorem sn_set_iff {P : Nat} (hP : P ≤ 12) (x : Int32) : sn_set P x = true ↔ ∃ m, m < 2 ^ P ∧ x = nI m := by
  obtain ⟨t1, t2, _⟩ := p12 P (by omega)
  obtain ⟨k, hk, rfl⟩ := nI_all x
  rw [sn_set, decide_eq_true_iff, sn_all_eq hP, t1, md_and, nI_z (Nat.lt_of_le_of_lt Nat.and_le_left hk)]
  constructor
  · intro h
    refine ⟨k, ?_, rfl⟩
    refine Nat.lt_pow_two_of_testBit k (fun j hj => ?_)
    rcases Nat.lt_or_ge j 32 with q | q
    · have h2 : (k &&& (4294967296 - 2 ^ P)).testBit j = false := by rw [h]; exact Nat.zero_testBit j
      rw [Nat.testBit_and, t2 j q, decide_eq_true (by omega), Bool.and_true] at h2
      exact h2
    · exact Nat.testBit_lt_two_pow (Nat.lt_of_lt_of_le hk (Nat.pow_le_pow_right (by decide) q))
  · rintro ⟨m, hm, e⟩
    have hp := sn_pow hP
    have : k = m := by
      have a := pk_tn hk
      rw [e, pk_tn (by omega)] at a; exact a.symm
    subst this
    apply Nat.eq_of_testBit_eq
    intro j
    rw [Nat.testBit_and, Nat.zero_testBit]
    rcases Nat.lt_or_ge j P with q | q
    · rw [t2 j (by omega), decide_eq_false (by omega), Bool.and_false]
    · rw [Nat.testBit_lt_two_pow (Nat.lt_of_lt_of_le hm (Nat.pow_le_pow_right (by decide) q)), Bool.false_and]
theorem md_set_iff {P : Nat} (hP : P ≤ 12) (x : Int32) : md_set P x = true ↔ ∃ m, m < 2 ^ P ∧ x = nI m := by
  obtain ⟨_, _, t3⟩ := p12 P (by omega)
  have hp := sn_pow hP
  rw [md_set, Bool.and_eq_true, Bool.not_eq_true', decide_eq_false_iff_not, decide_eq_true_iff]
  constructor
  · rintro ⟨h1, h2⟩
    obtain ⟨k, hk, rfl⟩ := nI_of h1
    rw [pk_shrN hk _ P t3, nI_z (Nat.lt_of_le_of_lt (Nat.div_le_self _ _) (by omega))] at h2
    exact ⟨k, (Nat.div_eq_zero_iff_lt (Nat.two_pow_pos P)).mp h2, rfl⟩
  · rintro ⟨m, hm, rfl⟩
    refine ⟨nI_pos (by omega), ?_⟩
    rw [pk_shrN (by omega) _ P t3, Nat.div_eq_of_lt hm]; rfl
theorem set_eq {P : Nat} (hP : P ≤ 12) (x : Int32) : md_set P x = sn_set P x := by
  rw [Bool.eq_iff_iff, md_set_iff hP, sn_set_iff hP]
theorem md_th_isp {px py gx gy : Nat → Int32} {x y : Int32} : ∀ (n i : Nat) (s : Bool), (∀ k, i ≤ k → k < i + n → px k = gx k ∧ py k = gy k) → md_th gx gy x y n i s = (s || sn_isp px py x y n i) := by
  intro n
  induction n with
  | zero => intro i s _; rw [md_th, sn_isp, Bool.or_false]
  | succ n ih =>
    intro i s h
    rw [md_th, sn_isp, ih (i + 1) _ (fun k h1 h2 => h k (by omega) (by omega)), (h i (by omega) (by omega)).1, (h i (by omega) (by omega)).2, Bool.or_assoc]
theorem md_sz_c (f : Nat → Int32) : ∀ (n i : Nat) (c : Int32), md_sz f n i (c + 1) = md_sz f n i c + 1 := by
  intro n
  induction n with
  | zero => intro i c; rfl
  | succ n ih =>
    intro i c
    rw [md_sz, md_sz]
    split
    · rw [Int32.add_zero, Int32.add_zero, ih]
    · rw [ih]
theorem md_sz_upd {f : Nat → Int32} {h : Nat} {x : Int32} (hx : ¬ x < 0) : ∀ (n i : Nat) (c : Int32), md_sz (upd f h x) n i c = if i ≤ h ∧ h < i + n ∧ f h < 0 then md_sz f n i c + 1 else md_sz f n i c := by
  intro n
  induction n with
  | zero => intro i c; rw [if_neg (by omega)]; rfl
  | succ n ih =>
    intro i c
    rw [md_sz, md_sz, ih]
    by_cases e : i = h
    · subst e
      rw [pk_us, if_neg hx, if_neg (by omega)]
      by_cases q : f i < 0
      · rw [if_pos q, if_pos ⟨by omega, by omega, q⟩, md_sz_c, Int32.add_zero]
      · rw [if_neg q, if_neg (fun z => q z.2.2)]
    · rw [pk_un e]
      by_cases q : i + 1 ≤ h ∧ h < i + 1 + n ∧ f h < 0
      · rw [if_pos q, if_pos (c := i ≤ h ∧ h < i + (n + 1) ∧ f h < 0) ⟨by omega, by omega, q.2.2⟩]
      · rw [if_neg q, if_neg (c := i ≤ h ∧ h < i + (n + 1) ∧ f h < 0) (fun z => q ⟨by omega, by omega, z.2.2⟩)]
section PR
variable {Wd Ht Pn : Nat} {rs old sc : Int32} {fw px py fr lo g gx gy gl : Nat → Int32} {X Y : Nat → Nat}
theorem RL.find (h : RL Wd Ht Pn rs old sc fw px py fr lo g gx gy gl X Y) {x y : Nat} (hx : x < 16) (hy : y < 16) : sn_find Wd Ht fw rs X Y Pn old fr (y * 16 + x) = if x < Wd ∧ y < Ht then md_rs g rs X Y x y Pn 0 0 else 0 := by
  obtain ⟨⟨hW, hH, hPn⟩, hXY, hw, hwo, h01, hlo, hsc, hfr⟩ := h
  exact sn_find_at hW hH (fun x y hx hy => by rw [hw x y hx hy]) (fun q hq => (hXY q hq).2.2.2.2) hfr hx hy
theorem RL.dry1 (h : RL Wd Ht Pn rs old sc fw px py fr lo g gx gy gl X Y) (r : Nat → Int32) (st : Int32) {x y : Nat} (hx : x < Wd) (hy : y < Ht) : sn_dry fw (sn_find Wd Ht fw rs X Y Pn old fr) st (y * 16 + x) = md_dry g (md_fy g rs X Y Pn Wd Ht 0 r) st x y := by
  have hf := h.find (x := x) (y := y) (by have := h.1.1; omega) (by have := h.1.2.1; omega)
  obtain ⟨⟨hW, hH, hPn⟩, hXY, hw, hwo, h01, hlo, hsc, hfr⟩ := h
  rw [sn_dry, md_dry, hf, md_fy_at hW Ht 0 r x y (by omega), if_pos ⟨hx, hy⟩, if_pos ⟨by omega, by omega, hx⟩, md_free, hw x y hx hy]
theorem RL.dry2 (h : RL Wd Ht Pn rs old sc fw px py fr lo g gx gy gl X Y) (r : Nat → Int32) (st : Int32) {x y : Nat} (hx : x < 16) (hy : y < 16) (hd : sn_dry fw r st (y * 16 + x) = true) : x < Wd ∧ y < Ht := by
  obtain ⟨⟨hW, hH, hPn⟩, hXY, hw, hwo, h01, hlo, hsc, hfr⟩ := h
  by_cases c : x < Wd ∧ y < Ht
  · exact c
  · rw [sn_dry, hwo x y hx hy c] at hd
    exact absurd hd (by simp)
theorem RL.reached (h : RL Wd Ht Pn rs old sc fw px py fr lo g gx gy gl X Y) {q : Nat} (hq : q < Pn) : sn_rc (sn_find Wd Ht fw rs X Y Pn old fr) (nI q) 256 0 0 = md_cy g rs X Y q Wd Ht 0 0 := by
  have hf := fun x y (hx : x < 16) (hy : y < 16) => h.find (x := x) (y := y) hx hy
  obtain ⟨⟨hW, hH, hPn⟩, hXY, hw, hwo, h01, hlo, hsc, hfr⟩ := h
  rw [sn_rc_cnt, cnt_plan hW hH (fun x y hx hy hp => ?_), md_cy_cnt (P := fun i => sn_hold (sn_find Wd Ht fw rs X Y Pn old fr i) (nI q)) Ht 0 0 (fun x y' h1 h2 h3 => ?_)]
  · show sn_hold (sn_find Wd Ht fw rs X Y Pn old fr (y' * 16 + x)) (nI q) = _
    rw [hf x y' (by omega) (by omega), if_pos ⟨h1, by omega⟩, hold_rs hPn hq]
  · by_cases c : x < Wd ∧ y < Ht
    · exact c
    · have hp : sn_hold (sn_find Wd Ht fw rs X Y Pn old fr (y * 16 + x)) (nI q) = true := hp
      rw [hf x y hx hy, if_neg c, ← nI_0, sn_hold_bit (by omega) (by omega), Nat.zero_testBit] at hp
      exact absurd hp (by decide)
theorem RL.left0 (h : RL Wd Ht Pn rs old sc fw px py fr lo g gx gy gl X Y) (r : Nat → Int32) (st c : Int32) : md_dy g (md_fy g rs X Y Pn Wd Ht 0 r) st Wd Ht 0 c = cnt (sn_dry fw (sn_find Wd Ht fw rs X Y Pn old fr) st) 256 0 c := by
  rw [cnt_plan h.1.1 h.1.2.1 (fun x y hx hy hp => h.dry2 _ _ hx hy hp), md_dy_cnt (P := sn_dry fw (sn_find Wd Ht fw rs X Y Pn old fr) st) Ht 0 c (fun x y' h1 _ h3 => h.dry1 r st h1 (by omega))]
theorem RL.left (h : RL Wd Ht Pn rs old sc fw px py fr lo g gx gy gl X Y) (r : Nat → Int32) (st : Int32) : sn_lc fw (sn_find Wd Ht fw rs X Y Pn old fr) st 256 0 0 = md_dy g (md_fy g rs X Y Pn Wd Ht 0 r) st Wd Ht 0 0 := by
  rw [sn_lc_cnt, h.left0]
theorem RL.dry (h : RL Wd Ht Pn rs old sc fw px py fr lo g gx gy gl X Y) (r : Nat → Int32) (st kk : Int32) : sn_da (sn_dc fw (sn_find Wd Ht fw rs X Y Pn old fr) st kk 256 0 0) = md_ddy g (md_fy g rs X Y Pn Wd Ht 0 r) st Wd Ht 0 kk := by
  rw [sn_dc_fk, Int32.sub_zero, fk_plan h.1.1 h.1.2.1 (fun x y hx hy hp => h.dry2 _ _ hx hy hp), md_ddy_fk (P := sn_dry fw (sn_find Wd Ht fw rs X Y Pn old fr) st) h.1.1 Ht 0 kk (by have := h.1.2.1; omega) (fun x y' h1 _ h3 => h.dry1 r st h1 (by omega))]
end PR
theorem be_run {fw fr g r : Nat → Int32} {Wd Ht Pn : Nat} (hPn : Pn ≤ 12) (hc : ∀ i, md_dy g r (nI i) Wd Ht 0 0 = 0 ↔ ∀ k, k < 256 → sn_dry fw fr (nI i) k = false) (hex : ∃ j, j < 2 ^ Pn ∧ ∀ k, k < 256 → sn_dry fw fr (nI j) k = false) : ∀ (n i hd : Nat) (bs fe bs' : Int32), i + n = 2 ^ Pn → hd < 256 →
    ((bs' = -1 ∧ fe = nI (Pn + 1) ∧ ∀ j, j < i → ¬ ∀ k, k < 256 → sn_dry fw fr (nI j) k = false) ∨ (∃ j, j < i ∧ bs = nI j ∧ bs' = nI j ∧ fe = sn_pc (nI j))) → sn_bs fw fr n i bs fe hd = md_be g r Wd Ht n i bs' := by
  have hp := sn_pow hPn
  intro n
  induction n with
  | zero =>
    intro i hd bs fe bs' hi _ h
    rcases h with ⟨_, _, h⟩ | ⟨j, _, h1, h2, _⟩
    · obtain ⟨j, hj, hj2⟩ := hex
      exact absurd hj2 (h j (by omega))
    · rw [sn_bs, md_be, h1, h2]
  | succ n ih =>
    intro i hd bs fe bs' hi hh h
    have hi2 : i < 2 ^ Pn := by omega
    rw [md_be]
    by_cases c1 : fe ≤ sn_pc (nI i)
    · rw [sn_bs_few c1]
      rcases h with ⟨_, h2, h⟩ | ⟨j, hj, h1, h2, h3⟩
      · rw [h2] at c1
        exact absurd (sn_pc_lt hPn hi2) (Int32.not_lt.mpr c1)
      · rw [if_neg (fun q => ?_)]
        · exact ih (i + 1) hd bs fe bs' (by omega) hh (Or.inr ⟨j, by omega, h1, h2, h3⟩)
        · rcases q.1 with q | q
          · rw [h2] at q; exact absurd q (md_nne (by omega))
          · rw [h2, ← sn_pc_md (by omega), ← sn_pc_md (by omega), ← h3] at q; exact q c1
    · have keep : (¬ ∀ k, k < 256 → sn_dry fw fr (nI i) k = false) → ∀ hd2, hd2 < 256 → sn_bs fw fr n (i + 1) bs fe hd2 = md_be g r Wd Ht n (i + 1) (if (bs' = -1 ∨ ¬ md_pcn bs' ≤ md_pcn (nI i)) ∧ md_dy g r (nI i) Wd Ht 0 0 = 0 then nI i else bs') := fun q hd2 hh2 => by
        rw [if_neg (fun z => q ((hc i).mp z.2))]
        refine ih (i + 1) hd2 bs fe bs' (by omega) hh2 ?_
        rcases h with ⟨h1, h2, h⟩ | ⟨j, hj, h1, h2, h3⟩
        · refine Or.inl ⟨h1, h2, fun j hj => ?_⟩
          by_cases e : j = i
          · subst e; exact q
          · exact h j (by omega)
        · exact Or.inr ⟨j, by omega, h1, h2, h3⟩
      cases c2 : sn_dry fw fr (nI i) hd with
      | true => rw [sn_bs_dry c2]; exact keep (fun z => by rw [z hd hh] at c2; exact absurd c2 (by decide)) hd hh
      | false =>
        by_cases c3 : sn_dc fw fr (nI i) 0 256 0 0 = -1
        · rw [sn_bs_best c1 c2 c3]
          have cv : ∀ k, k < 256 → sn_dry fw fr (nI i) k = false := fun k hk => (sn_dc_0 fw fr (nI i) 256 0 (by omega)).mp c3 k (by omega) (by omega)
          have hps : bs' = -1 ∨ ¬ md_pcn bs' ≤ md_pcn (nI i) := by
            rcases h with ⟨h1, h2, h⟩ | ⟨j, hj, h1, h2, h3⟩
            · exact Or.inl h1
            · refine Or.inr (fun q => c1 ?_)
              rw [h2, ← sn_pc_md (by omega), ← sn_pc_md (by omega), ← h3] at q; exact q
          rw [if_pos ⟨hps, (hc i).mpr cv⟩]
          exact ih (i + 1) hd _ _ _ (by omega) hh (Or.inr ⟨i, by omega, rfl, rfl, rfl⟩)
        · obtain ⟨d, hd1, hd2⟩ := sn_dc_spec c3
          rw [sn_bs_hard c1 c2 hd2 hd1]
          exact keep (fun z => c3 ((sn_dc_0 fw fr (nI i) 256 0 (by omega)).mpr (fun k _ hk => z k (by omega)))) d hd1
theorem be_none {fw fr g r : Nat → Int32} {Wd Ht Pn : Nat} (hc : ∀ i, md_dy g r (nI i) Wd Ht 0 0 = 0 ↔ ∀ k, k < 256 → sn_dry fw fr (nI i) k = false) (hno : ∀ j, j < 2 ^ Pn → ¬ ∀ k, k < 256 → sn_dry fw fr (nI j) k = false) : ∀ (n i : Nat), i + n = 2 ^ Pn → md_be g r Wd Ht n i (-1) = -1 := by
  intro n
  induction n with
  | zero => intro i _; rfl
  | succ n ih => intro i hi; rw [md_be, if_neg (fun z => hno i (by omega) ((hc i).mp z.2)), ih (i + 1) (by omega)]
theorem RL.best {Wd Ht Pn : Nat} {rs old sc : Int32} {fw px py fr lo g gx gy gl : Nat → Int32} {X Y : Nat → Nat} (h : RL Wd Ht Pn rs old sc fw px py fr lo g gx gy gl X Y) (r : Nat → Int32) :
    sn_best fw (sn_find Wd Ht fw rs X Y Pn old fr) Pn = md_be g (md_fy g rs X Y Pn Wd Ht 0 r) Wd Ht (2 ^ Pn) 0 (-1) := by
  have hPn := h.1.2.2
  have hp := sn_pow hPn
  have hc : ∀ i, md_dy g (md_fy g rs X Y Pn Wd Ht 0 r) (nI i) Wd Ht 0 0 = 0 ↔ ∀ k, k < 256 → sn_dry fw (sn_find Wd Ht fw rs X Y Pn old fr) (nI i) k = false := fun i => by rw [h.left0, cnt_0]
  generalize sn_find Wd Ht fw rs X Y Pn old fr = FR at *
  have h1 : 0 < 2 ^ Pn := Nat.two_pow_pos Pn
  rw [sn_best]
  by_cases c : sn_dc fw FR (nI (2 ^ Pn - 1)) 0 256 0 0 = -1
  · rw [if_pos c]
    refine be_run hPn hc ⟨2 ^ Pn - 1, by omega, fun k hk => (sn_dc_0 fw FR _ 256 0 (by omega)).mp c k (by omega) (by omega)⟩ (2 ^ Pn) 0 0 _ _ _ (by omega) (by omega) (Or.inl ⟨rfl, rfl, fun j hj => absurd hj (by omega)⟩)
  · rw [if_neg c]
    refine (be_none (Pn := Pn) hc (fun j hj z => c ((sn_dc_0 fw FR _ 256 0 (by omega)).mpr (fun k _ hk => ?_))) (2 ^ Pn) 0 (by omega)).symm
    have zk := z k (by omega)
    rw [← Bool.not_eq_true] at zk ⊢
    refine fun q => zk ?_
    rw [sn_dry, Bool.and_eq_true, decide_eq_true_iff, decide_eq_true_iff] at q ⊢
    refine ⟨q.1, ?_⟩
    rw [show nI j = nI (2 ^ Pn - 1) &&& nI j by rw [md_and, Nat.and_comm, Nat.and_two_pow_sub_one_eq_mod, Nat.mod_eq_of_lt hj], ← Int32.and_assoc, q.2, Int32.zero_and]
