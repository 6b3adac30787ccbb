def lfirst (f : Nat → Int32) (hc : Int32) : Nat → Nat → Int32 → Int32
  | 0, _, l => l
  | n + 1, i, l => if ¬ f i < 0 ∧ ¬ nI i < hc then f i else lfirst f hc n (i + 1) l
theorem lfirst_snoc (f : Nat → Int32) (hc : Int32) : ∀ (n i : Nat) (l : Int32), lfirst f hc (n + 1) i l = lfirst f hc n i (if ¬ f (i + n) < 0 ∧ ¬ nI (i + n) < hc then f (i + n) else l) := by
  intro n
  induction n with
  | zero => intro i l; rfl
  | succ n ih => intro i l; rw [lfirst, ih (i + 1) l, lfirst, show i + 1 + n = i + (n + 1) by omega]
theorem md_l1_first (f : Nat → Int32) (hc : Int32) : ∀ (n : Nat) (l : Int32), md_l1 f hc n l = lfirst f hc n 1 l := by
  intro n
  induction n with
  | zero => intro l; rfl
  | succ n ih => intro l; rw [md_l1, ih, lfirst_snoc, show 1 + n = n + 1 by omega]
theorem md_l2_true (f : Nat → Int32) (hc : Int32) : ∀ (n i : Nat) (g : Int32), (md_l2 f hc n i true g).1 = true := by
  intro n
  induction n with
  | zero => intro i g; rfl
  | succ n ih => intro i g; rw [md_l2, Bool.true_or, ih]
theorem lf_run {f f' : Nat → Int32} (hc : Int32) (hf : ∀ i, 1 ≤ i → i ≤ 12 → f i = f' i ∧ (f' i = -1 ∨ ∃ z, z ≤ 1000 ∧ f' i = nI z)) : ∀ (n i : Nat) (g : Int32), 1 ≤ i → i + n ≤ 13 → sn_lf f hc n i g = if (md_l2 f' hc n i false g).1 = true then lfirst f' hc n i 0 else (md_l2 f' hc n i false g).2 := by
  intro n
  induction n with
  | zero => intro i g _ _; rfl
  | succ n ih =>
    intro i g h1 h2
    obtain ⟨e, h⟩ := hf i h1 (by omega)
    rw [sn_lf, md_l2, lfirst, e]
    rcases h with h | ⟨z, hz, h⟩
    · rw [if_pos h, ih (i + 1) g (by omega) (by omega), h, if_pos (c := (-1 : Int32) < 0) (by decide), if_neg (c := ¬ (-1 : Int32) < 0 ∧ ¬ nI i < hc) (fun q => q.1 (by decide))]
      simp
    · have hp : ¬ f' i < 0 := by rw [h]; exact nI_pos (by omega)
      rw [if_neg (by rw [h]; exact md_nne (by omega)), if_neg hp]
      by_cases c : nI i < hc
      · rw [if_pos c, ih (i + 1) (f' i) (by omega) (by omega), if_neg (c := ¬ f' i < 0 ∧ ¬ nI i < hc) (fun q => q.2 c)]
        simp [c]
      · rw [if_neg c, if_pos (c := ¬ f' i < 0 ∧ ¬ nI i < hc) ⟨hp, c⟩]
        simp only [decide_eq_false hp, decide_eq_false c, Bool.not_false, Bool.and_self, Bool.or_true, md_l2_true, if_true]
theorem lf_eq {f f' : Nat → Int32} (hc : Int32) (hf : ∀ i, 1 ≤ i → i ≤ 12 → f i = f' i ∧ (f' i = -1 ∨ ∃ z, z ≤ 1000 ∧ f' i = nI z)) : sn_lf f hc 12 1 0 = md_loss f' hc := by
  rw [lf_run hc hf 12 1 0 (by omega) (by omega), md_loss, md_l1_first]
theorem lf_bd {f f' : Nat → Int32} (hc : Int32) (hf : ∀ i, 1 ≤ i → i ≤ 12 → f i = f' i ∧ (f' i = -1 ∨ ∃ z, z ≤ 1000 ∧ f' i = nI z)) : ∀ (n i : Nat) (g : Int32), 1 ≤ i → i + n ≤ 13 → (∃ z, z ≤ 1000 ∧ g = nI z) → ∃ z, z ≤ 1000 ∧ sn_lf f hc n i g = nI z := by
  intro n
  induction n with
  | zero => intro i g _ _ h; exact h
  | succ n ih =>
    intro i g h1 h2 hg
    obtain ⟨e, h⟩ := hf i h1 (by omega)
    rw [sn_lf, e]
    by_cases c1 : f' i = -1
    · rw [if_pos c1]; exact ih (i + 1) g (by omega) (by omega) hg
    · rw [if_neg c1]
      have h := h.resolve_left c1
      split
      · exact ih (i + 1) _ (by omega) (by omega) h
      · exact h
theorem loss_bd {f f' : Nat → Int32} (hc : Int32) (hf : ∀ i, 1 ≤ i → i ≤ 12 → f i = f' i ∧ (f' i = -1 ∨ ∃ z, z ≤ 1000 ∧ f' i = nI z)) : ∃ z, z ≤ 1000 ∧ md_loss f' hc = nI z := by
  rw [← lf_eq hc hf]
  exact lf_bd hc hf 12 1 0 (by omega) (by omega) ⟨0, by omega, rfl⟩
section PK
variable {Wd Ht Pn : Nat} {rs old sc : Int32} {fw px py fr lo g gx gy gl : Nat → Int32} {X Y : Nat → Nat}
theorem RL.wall (h : RL Wd Ht Pn rs old sc fw px py fr lo g gx gy gl X Y) {a b : Nat} {on : Int32} (ha : a < Wd) (hb : b < Ht) (hon : on = 0 ∨ on = 1) : RL Wd Ht Pn rs 1 sc (upd fw (b * 16 + a) on) px py fr lo (upd g (b * 16 + a) on) gx gy gl X Y := by
  obtain ⟨⟨hW, hH, hPn⟩, hXY, hw, hwo, h01, hlo, hsc, hfr⟩ := h
  refine ⟨⟨hW, hH, hPn⟩, hXY, fun x y hx hy => ?_, fun x y hx hy hc => ?_, fun i => ?_, hlo, hsc, fun h => absurd h (by decide)⟩
  · by_cases e : y * 16 + x = b * 16 + a
    · rw [e, pk_us, pk_us]
    · rw [pk_un e, pk_un e]; exact hw x y hx hy
  · rw [pk_un (by intro e; exact hc ⟨by omega, by omega⟩)]; exact hwo x y hx hy hc
  · by_cases e : i = b * 16 + a
    · rw [e, pk_us]; exact hon
    · rw [pk_un e]; exact h01 i
theorem RL.reach (h : RL Wd Ht Pn rs old sc fw px py fr lo g gx gy gl X Y) (x : Int32) : RL Wd Ht Pn x 1 sc fw px py fr lo g gx gy gl X Y := by
  obtain ⟨hB, hXY, hw, hwo, h01, hlo, hsc, hfr⟩ := h
  exact ⟨hB, hXY, hw, hwo, h01, hlo, hsc, fun h => absurd h (by decide)⟩
theorem RL.place (h : RL Wd Ht Pn rs old sc fw px py fr lo g gx gy gl X Y) {a b : Nat} (ha : a < Wd) (hb : b < Ht) (hP : Pn < 12) : RL Wd Ht (Pn + 1) rs 1 sc fw (upd px Pn (nI a)) (upd py Pn (nI b)) fr lo g (upd gx Pn (nI a)) (upd gy Pn (nI b)) gl (fun i => if i = Pn then a else X i) (fun i => if i = Pn then b else Y i) := by
  obtain ⟨⟨hW, hH, hPn⟩, hXY, hw, hwo, h01, hlo, hsc, hfr⟩ := h
  refine ⟨⟨hW, hH, by omega⟩, fun i hi => ?_, hw, hwo, h01, hlo, hsc, fun h => absurd h (by decide)⟩
  by_cases e : i = Pn
  · subst e
    simp only [pk_us, if_true]
    exact ⟨trivial, trivial, trivial, trivial, ha, hb⟩
  · simp only [pk_un e, if_neg e]
    exact hXY i (by omega)
theorem RL.found (h : RL Wd Ht Pn rs old sc fw px py fr lo g gx gy gl X Y) : RL Wd Ht Pn rs 0 sc fw px py (sn_find Wd Ht fw rs X Y Pn old fr) lo g gx gy gl X Y := by
  have hf := fun x y (hx : x < 16) (hy : y < 16) => h.find (x := x) (y := y) hx hy
  obtain ⟨hB, hXY, hw, hwo, h01, hlo, hsc, hfr⟩ := h
  exact ⟨hB, hXY, hw, hwo, h01, hlo, hsc, fun _ x y hx hy => hf x y hx hy⟩
theorem RL.sizeEq (h : RL Wd Ht Pn rs old sc fw px py fr lo g gx gy gl X Y) {hh : Nat} {x : Int32} (h1 : 1 ≤ hh) (h2 : hh ≤ 12) (hx : sn_lok x = true) : sn_sz lo hh sc = md_sz (upd gl hh x) 12 1 0 := by
  obtain ⟨hB, hXY, hw, hwo, h01, hlo, hsc, hfr⟩ := h
  rw [sn_lok, Bool.and_eq_true, Bool.not_eq_true', decide_eq_false_iff_not] at hx
  obtain ⟨e, hq⟩ := hlo hh h1 h2
  rw [md_sz_upd hx.1, sn_sz, e, hsc]
  by_cases c : gl hh = -1
  · rw [if_pos c, if_pos ⟨h1, by omega, by rw [c]; decide⟩]
  · obtain ⟨z, hz, e2⟩ := hq.resolve_left c
    rw [if_neg c, if_neg (fun q => absurd q.2.2 (by rw [e2]; exact nI_pos (by omega)))]
theorem RL.size (h : RL Wd Ht Pn rs old sc fw px py fr lo g gx gy gl X Y) {hh : Nat} {x : Int32} (h1 : 1 ≤ hh) (h2 : hh ≤ 12) (hx : sn_lok x = true) : RL Wd Ht Pn rs old (sn_sz lo hh sc) fw px py fr (upd lo hh x) g gx gy (upd gl hh x) X Y := by
  have hs := h.sizeEq h1 h2 hx
  obtain ⟨hB, hXY, hw, hwo, h01, hlo, hsc, hfr⟩ := h
  refine ⟨hB, hXY, hw, hwo, h01, fun i i1 i2 => ?_, hs, hfr⟩
  by_cases e : i = hh
  · subst e
    rw [pk_us, pk_us]
    rw [sn_lok, Bool.and_eq_true, Bool.not_eq_true', decide_eq_false_iff_not, decide_eq_true_iff] at hx
    obtain ⟨j, hj, e⟩ := nI_of2 (M := 1000) (n := 1000) (by decide) hx.1 hx.2
    exact ⟨rfl, Or.inr ⟨j, hj, e⟩⟩
  · rw [pk_un e, pk_un e]; exact hlo i i1 i2
theorem RL.wallEq (h : RL Wd Ht Pn rs old sc fw px py fr lo g gx gy gl X Y) {a b : Nat} (ha : a < Wd) (hb : b < Ht) : bl (sn_wall Wd Ht fw (nI a) (nI b)) = if g (b * 16 + a) = 0 then 0 else 1 := by
  obtain ⟨⟨hW, hH, hPn⟩, hXY, hw, hwo, h01, hlo, hsc, hfr⟩ := h
  rw [sn_wall_nI fw hW hH ha hb, hw a b ha hb, bl]
  by_cases c : g (b * 16 + a) = 0
  · rw [if_pos c, decide_eq_false (fun q => q c), if_neg (by decide)]
  · rw [if_neg c, decide_eq_true c, if_pos rfl]
theorem RL.wallFree (h : RL Wd Ht Pn rs old sc fw px py fr lo g gx gy gl X Y) {a b : Nat} (ha : a < Wd) (hb : b < Ht) : sn_wall Wd Ht fw (nI a) (nI b) = !md_free g a b := by
  obtain ⟨⟨hW, hH, hPn⟩, hXY, hw, hwo, h01, hlo, hsc, hfr⟩ := h
  rw [sn_wall_nI fw hW hH ha hb, hw a b ha hb, md_free]; simp
theorem RL.isp (h : RL Wd Ht Pn rs old sc fw px py fr lo g gx gy gl X Y) (x y : Int32) : md_th gx gy x y Pn 0 false = sn_isp px py x y Pn 0 := by
  obtain ⟨⟨hW, hH, hPn⟩, hXY, hw, hwo, h01, hlo, hsc, hfr⟩ := h
  rw [md_th_isp (px := px) (py := py) Pn 0 false (fun k _ hk => ?_), Bool.false_or]
  have := hXY k (by omega)
  exact ⟨by rw [this.1, this.2.2.1], by rw [this.2.1, this.2.2.2.1]⟩
theorem RL.seen (h : RL Wd Ht Pn rs old sc fw px py fr lo g gx gy gl X Y) {a b u v : Nat} (ha : a < Wd) (hb : b < Ht) (hu : u < Wd) (hv : v < Ht) : sn_free Wd Ht fw a b u v = md_sees g a b u v :=
  sn_sees h.1.1 h.1.2.1 ha hb hu hv (fun x y hx hy => by rw [h.2.2.1 x y hx hy])
end PK
