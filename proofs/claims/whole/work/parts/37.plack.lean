theorem ch_congr {u j U o : Nat → Int32} : ∀ (n : Nat) (f : Nat → Int32), (∀ z, z < n → j z = o z ∧ u (o z).toNatClampNeg = U (o z).toNatClampNeg) → sn_ch u j n f = sn_ch U o n f := by
  intro n
  induction n with
  | zero => intro f _; rfl
  | succ n ih =>
    intro f h
    rw [sn_ch, sn_ch, (h n (by omega)).1, (h n (by omega)).2, ih _ (fun z hz => h z (by omega)), ih _ (fun z hz => h z (by omega))]
theorem al_congr {lo u l ho j U L o : Nat → Int32} : ∀ (n i : Nat) (k : Nat → Int32), (∀ z, i ≤ z → z < i + n → j z = o z ∧ u (o z).toNatClampNeg = U (o z).toNatClampNeg ∧ l (o z).toNatClampNeg = L (o z).toNatClampNeg) → sn_al lo u l ho j n i k = sn_al lo U L ho o n i k := by
  intro n
  induction n with
  | zero => intro i k _; rfl
  | succ n ih =>
    intro i k h
    have h0 := h i (by omega) (by omega)
    rw [sn_al, sn_al, h0.1, h0.2.1, ih (i + 1) _ (fun z h1 h2 => h z (by omega) (by omega)), ih (i + 1) _ (fun z h1 h2 => h z (by omega) (by omega)), sn_lost, sn_lost, h0.2.2]
theorem md_lst_wk (lo U L H : Nat → Int32) : ∀ (n : Nat) (p c : Int32), md_lst lo U L H n p c = c + wk U (md_lt lo L H) n p := by
  intro n
  induction n with
  | zero => intro p c; rw [md_lst, wk, Int32.add_zero]
  | succ n ih =>
    intro p c
    rw [md_lst, wk]
    split
    · rw [Int32.add_zero]
    · rw [ih, Int32.add_assoc]
section PL
variable {m0 J : Nat} {o U : Nat → Int32}
theorem OK.al (h : OK m0 J o U) {lo L ho F : Nat → Int32} (hF : ∀ z, z < J → sn_lost lo L ho (o z).toNatClampNeg = F (o z).toNatClampNeg) : ∀ (n i : Nat) (k : Nat → Int32), i + n = J → (∀ z, z < i → k (o z).toNatClampNeg = wk U F 13 (o z)) → ∀ z, z < J → sn_al lo U L ho o n i k (o z).toNatClampNeg = wk U F 13 (o z) := by
  intro n
  induction n with
  | zero => intro i k hi hk z hz; exact hk z (by omega)
  | succ n ih =>
    intro i k hi hk
    have key : ∀ x : Int32, x = wk U F 13 (o i) → ∀ z, z < i + 1 → upd k (o i).toNatClampNeg x (o z).toNatClampNeg = wk U F 13 (o z) := fun x hx z hz => by
      by_cases e : z = i
      · subst e; rw [pk_us, hx]
      · rw [pk_un]
        · exact hk z (by omega)
        · obtain ⟨q, hq, e5, _⟩ := h.2.1 z (by omega)
          obtain ⟨q2, hq2, e6, _⟩ := h.2.1 i (by omega)
          rw [e5, e6, nI_clamp (by omega), nI_clamp (by omega)]
          intro e7
          exact e (h.inj (by omega) (by omega) (by rw [e5, e6, e7]))
    rw [sn_al]
    have w1 := h.wk1 F (z := i) (by omega)
    rcases h.2.2.2.2 i (by omega) with e | ⟨z', hz', e⟩
    · rw [e, if_neg (fun q => q.1 (by decide))]
      refine ih (i + 1) _ (by omega) (key _ ?_)
      rw [w1, e, wk_m1, Int32.add_zero, hF i (by omega)]
    · obtain ⟨q', hq', e2, _⟩ := h.2.1 z' (by omega)
      have e3 := e.trans e2
      rw [e3, if_pos ⟨nI_pos (by omega), nI_ge (a := q') (b := 12) (by omega) (by omega)⟩]
      refine ih (i + 1) _ (by omega) (key _ ?_)
      rw [w1, e, ← hk z' (by omega), hF i (by omega), e2, Int32.add_comm]
theorem OK.wkbd (h : OK m0 J o U) {F : Nat → Int32} {B : Nat} (hF : ∀ z, z < J → ∃ v, v ≤ B ∧ F (o z).toNatClampNeg = nI v) : ∀ (n z : Nat), z < J → ∃ v, v ≤ n * B ∧ wk U F n (o z) = nI v := by
  intro n
  induction n with
  | zero => intro z _; exact ⟨0, by omega, rfl⟩
  | succ n ih =>
    intro z hz
    rw [wk, if_neg (h.ne1 hz)]
    obtain ⟨v, hv, e1⟩ := hF z hz
    rw [e1]
    have e2 : (n + 1) * B = n * B + B := by rw [Nat.add_mul, Nat.one_mul]
    rcases h.2.2.2.2 z hz with e | ⟨z', hz', e⟩
    · rw [e, wk_m1, Int32.add_zero]; exact ⟨v, by omega, rfl⟩
    · obtain ⟨v2, hv2, e3⟩ := ih z' (by omega)
      rw [e, e3, nI_add]; exact ⟨_, by omega, rfl⟩
end PL
def inO (o : Nat → Int32) (i : Nat) : Nat → Bool
  | 0 => false
  | n + 1 => inO o i n || decide (o n = nI i)
theorem inO_iff (o : Nat → Int32) (i : Nat) : ∀ n, inO o i n = true ↔ ∃ z, z < n ∧ o z = nI i := by
  intro n
  induction n with
  | zero => exact ⟨fun h => absurd h Bool.false_ne_true, fun ⟨z, hz, _⟩ => absurd hz (Nat.not_lt_zero z)⟩
  | succ n ih =>
    rw [inO, Bool.or_eq_true, ih, decide_eq_true_iff]
    constructor
    · rintro (⟨z, hz, e⟩ | e)
      · exact ⟨z, by omega, e⟩
      · exact ⟨n, by omega, e⟩
    · rintro ⟨z, hz, e⟩
      by_cases q : z = n
      · subst q; exact Or.inr e
      · exact Or.inl ⟨z, by omega, e⟩
theorem sm_inO {m0 J : Nat} {o U : Nat → Int32} (h : OK m0 J o U) (F : Nat → Int32) : ∀ n, n ≤ J → sm (fun z => F (o z).toNatClampNeg) n = sm (fun i => if inO o i n = true then F i else 0) 12 := by
  intro n
  induction n with
  | zero => intro _; rfl
  | succ n ih =>
    intro hn
    obtain ⟨q, hq, e, _⟩ := h.2.1 n (by omega)
    rw [sm, ih (by omega), e, nI_clamp (by omega)]
    refine (sm_upd (z' := q) 12 hq (fun z hz hne => ?_) ?_).symm
    · show (if inO o z (n + 1) = true then F z else 0) = if inO o z n = true then F z else 0
      rw [inO, decide_eq_false, Bool.or_false]
      rw [e, nI_eq (by omega) (by omega)]
      exact fun z9 => hne z9.symm
    · show (if inO o q (n + 1) = true then F q else 0) = (if inO o q n = true then F q else 0) + F q
      rw [if_pos ((inO_iff o q (n + 1)).mpr ⟨n, by omega, e⟩), if_neg, Int32.zero_add]
      intro z9
      obtain ⟨z, hz, e9⟩ := (inO_iff o q n).mp z9
      have := h.inj (z := z) (z' := n) (by omega) (by omega) (by rw [e9, e])
      omega
theorem ps_sm (st : Int32) (le : Nat → Int32) : ∀ n, ∀ (i : Nat) (c : Int32), sn_ps st le n i c = c + sm (fun k => if sn_hold st (nI (i + k)) = true then le (i + k) else 0) n := by
  have snoc : ∀ (n i : Nat) (c : Int32), sn_ps st le (n + 1) i c = sn_ps st le n i c + if sn_hold st (nI (i + n)) = true then le (i + n) else 0 := by
    intro n
    induction n with
    | zero =>
      intro i c
      show (if sn_hold st (nI i) = true then c + le i else c) = c + if sn_hold st (nI i) = true then le i else 0
      split
      · rfl
      · rw [Int32.add_zero]
    | succ n ih =>
      intro i c
      rw [sn_ps, ih, ih, sn_ps, show i + 1 + n = i + (n + 1) by omega]
      split <;> rfl
  intro n
  induction n with
  | zero => intro i c; rw [sn_ps, sm, Int32.add_zero]
  | succ n ih => intro i c; rw [snoc, ih, sm, Int32.add_assoc]
theorem pp_sm (le o : Nat → Int32) : ∀ n, ∀ (i : Nat) (c : Int32), md_pp le o n i c = c + sm (fun k => le (o (i + k)).toNatClampNeg) n := by
  have snoc : ∀ (n i : Nat) (c : Int32), md_pp le o (n + 1) i c = md_pp le o n i c + le (o (i + n)).toNatClampNeg := by
    intro n
    induction n with
    | zero => intro i c; rfl
    | succ n ih =>
      intro i c
      rw [md_pp, ih, md_pp, show i + 1 + n = i + (n + 1) by omega]
  intro n
  induction n with
  | zero => intro i c; rw [md_pp, sm, Int32.add_zero]
  | succ n ih => intro i c; rw [snoc, ih, sm, Int32.add_assoc]
theorem wo_run {m Pn : Nat} (hPn : Pn ≤ 12) (hm : m < 2 ^ 31) {lk : Nat → Int32} {lost : Int32 → Int32 → Int32} (hl : ∀ q, q < Pn → m.testBit q = true → lk q = lost (nI q) 0 ∧ ∃ v, v < 2 ^ 31 ∧ lk q = nI v) : ∀ (n i : Nat) (w mx : Int32), i + n ≤ Pn →
    ((w = -1 ∧ mx = -1) ∨ ∃ q, q < Pn ∧ m.testBit q = true ∧ w = nI q ∧ mx = lk q) → sn_wo (nI m) lk n i w mx = md_wo (nI m) lost n i w := by
  intro n
  induction n with
  | zero => intro i w mx _ _; rfl
  | succ n ih =>
    intro i w mx hi h
    rw [sn_wo, md_wo, sn_hold_bit hm (by omega), md_in_bit hm (by omega)]
    cases hb : m.testBit i with
    | false =>
      rw [if_neg (fun q => Bool.false_ne_true q.1), if_neg (fun q => Bool.false_ne_true q.1)]
      exact ih (i + 1) w mx (by omega) h
    | true =>
      obtain ⟨e1, v, hv, e2⟩ := hl i (by omega) hb
      have e : (true = true ∧ ¬ lk i ≤ mx) ↔ (true = true ∧ (w = -1 ∨ ¬ lost (nI i) 0 ≤ lost w 0)) := by
        rcases h with ⟨h1, h2⟩ | ⟨q, h1, h2, h3, h4⟩
        · refine ⟨fun _ => ⟨rfl, Or.inl h1⟩, fun _ => ⟨rfl, ?_⟩⟩
          rw [h2, e2]
          exact fun q => absurd (Int32.lt_of_le_of_lt q (by decide : (-1 : Int32) < 0)) (nI_pos hv)
        · rw [e1, h4, (hl q h1 h2).1, h3]
          exact ⟨fun q => ⟨rfl, Or.inr q.2⟩, fun q => ⟨rfl, q.2.resolve_left (md_nne (by omega))⟩⟩
      by_cases c : true = true ∧ ¬ lk i ≤ mx
      · rw [if_pos c, if_pos (e.mp c)]
        exact ih (i + 1) _ _ (by omega) (Or.inr ⟨i, by omega, hb, rfl, rfl⟩)
      · rw [if_neg c, if_neg (fun q => c (e.mpr q))]
        exact ih (i + 1) _ _ (by omega) h
theorem wo_cut {st : Int32} {lk : Nat → Int32} : ∀ (a b i : Nat) (w mx : Int32), (∀ k, i + a ≤ k → k < i + a + b → sn_hold st (nI k) = false) → sn_wo st lk (a + b) i w mx = sn_wo st lk a i w mx := by
  intro a
  induction a with
  | zero =>
    intro b
    rw [Nat.zero_add]
    induction b with
    | zero => intro i nr lt _; rfl
    | succ b ih =>
      intro i nr lt h
      rw [show sn_wo st lk 0 i nr lt = nr from rfl, sn_wo, h i (by omega) (by omega), if_neg (fun q => Bool.false_ne_true q.1), ih (i + 1) nr lt (fun k h1 h2 => h k (by omega) (by omega))]
      rfl
  | succ a ih =>
    intro b i nr lt h
    rw [show a + 1 + b = (a + b) + 1 by omega, sn_wo, sn_wo, ih b (i + 1) _ _ (fun k h1 h2 => h k (by omega) (by omega)), ih b (i + 1) _ _ (fun k h1 h2 => h k (by omega) (by omega))]
