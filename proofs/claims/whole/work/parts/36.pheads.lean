def sm (F : Nat → Int32) : Nat → Int32
  | 0 => 0
  | n + 1 => sm F n + F n
def wk (U F : Nat → Int32) : Nat → Int32 → Int32
  | 0, _ => 0
  | n + 1, p => if p = -1 then 0 else F p.toNatClampNeg + wk U F n (U p.toNatClampNeg)
def ind (w q : Nat) : Int32 := if q = w then 1 else 0
theorem i4_comm (a b c d : Int32) : a + b + (c + d) = a + c + (b + d) := by rw [Int32.add_assoc, Int32.add_assoc, ← Int32.add_assoc b c d, Int32.add_comm b c, Int32.add_assoc]
theorem i3_comm (a b c : Int32) : a + b + c = a + c + b := by rw [Int32.add_assoc, Int32.add_comm b c, ← Int32.add_assoc]
theorem sm_congr {F G : Nat → Int32} : ∀ n, (∀ z, z < n → F z = G z) → sm F n = sm G n := by
  intro n
  induction n with
  | zero => intro _; rfl
  | succ n ih => intro h; rw [sm, sm, ih (fun z hz => h z (by omega)), h n (by omega)]
theorem sm_upd {F G : Nat → Int32} {z' : Nat} {x : Int32} : ∀ n, z' < n → (∀ z, z < n → z ≠ z' → G z = F z) → G z' = F z' + x → sm G n = sm F n + x := by
  intro n
  induction n with
  | zero => intro h; omega
  | succ n ih =>
    intro h h1 h2
    rw [sm, sm]
    by_cases e : z' = n
    · subst e
      rw [sm_congr z' (fun z hz => h1 z (by omega) (by omega)), h2, Int32.add_assoc]
    · rw [ih (by omega) (fun z hz => h1 z (by omega)) h2, h1 n (by omega) (fun q => e q.symm), i3_comm]
theorem cl_wk (U : Nat → Int32) (w : Nat) : ∀ (n : Nat) (p : Int32) (h : Nat → Int32), md_cl U n p h w = h w + wk U (ind w) n p := by
  intro n
  induction n with
  | zero => intro p h; rw [md_cl, wk, Int32.add_zero]
  | succ n ih =>
    intro p h
    rw [md_cl, wk]
    by_cases c : p = -1
    · rw [if_pos c, if_pos c, Int32.add_zero]
    · rw [if_neg c, if_neg c, ih, ind]
      by_cases e : p.toNatClampNeg = w
      · rw [← e, pk_us, if_pos rfl, Int32.add_assoc]
      · rw [pk_un (fun q => e q.symm), if_neg e, Int32.zero_add]
theorem hs_snoc (U o : Nat → Int32) : ∀ (n i : Nat) (h : Nat → Int32), md_hs U o (n + 1) i h = md_cl U 13 (o (i + n)) (md_hs U o n i h) := by
  intro n
  induction n with
  | zero => intro i h; rfl
  | succ n ih => intro i h; rw [md_hs, ih, md_hs, show i + 1 + n = i + (n + 1) by omega]
theorem hs_sm (U o : Nat → Int32) (w : Nat) (h : Nat → Int32) : ∀ n, md_hs U o n 0 h w = h w + sm (fun z => wk U (ind w) 13 (o z)) n := by
  intro n
  induction n with
  | zero => rw [md_hs, sm, Int32.add_zero]
  | succ n ih => rw [hs_snoc, cl_wk, ih, sm, Nat.zero_add, Int32.add_assoc]
def OK (m0 J : Nat) (o U : Nat → Int32) : Prop :=
  J ≤ 12 ∧ (∀ z, z < J → ∃ q, q < 12 ∧ o z = nI q ∧ m0.testBit q = true) ∧ (∀ z z', z < z' → z' < J → o z ≠ o z') ∧ (∀ q, q < 12 → m0.testBit q = true → ∃ z, z < J ∧ o z = nI q) ∧
  (∀ z, z < J → U (o z).toNatClampNeg = -1 ∨ ∃ z', z' < z ∧ U (o z).toNatClampNeg = o z')
section PH
variable {m0 J : Nat} {o U : Nat → Int32}
theorem wk_m1 (F : Nat → Int32) (n : Nat) : wk U F n (-1) = 0 := by
  cases n with
  | zero => rfl
  | succ n => rw [wk, if_pos rfl]
theorem OK.inj (h : OK m0 J o U) {z z' : Nat} (hz : z < J) (hz' : z' < J) (e : o z = o z') : z = z' := by
  rcases Nat.lt_trichotomy z z' with q | q | q
  · exact absurd e (h.2.2.1 z z' q hz')
  · exact q
  · exact absurd e.symm (h.2.2.1 z' z q hz)
theorem OK.ne1 (h : OK m0 J o U) {z : Nat} (hz : z < J) : ¬ o z = -1 := by
  obtain ⟨q, hq, e, _⟩ := h.2.1 z hz
  rw [e]; exact md_nne (by omega)
theorem OK.fuel (h : OK m0 J o U) (F : Nat → Int32) : ∀ (k z : Nat), z < k → z < J → ∀ n n', z < n → z < n' → wk U F n (o z) = wk U F n' (o z) := by
  intro k
  induction k with
  | zero => intro z hz; omega
  | succ k ih =>
    intro z hk hz n n' hn hn'
    obtain ⟨n, rfl⟩ : ∃ i, n = i + 1 := ⟨n - 1, by omega⟩
    obtain ⟨n', rfl⟩ : ∃ i, n' = i + 1 := ⟨n' - 1, by omega⟩
    rw [wk, wk, if_neg (h.ne1 hz), if_neg (h.ne1 hz)]
    congr 1
    rcases h.2.2.2.2 z hz with e | ⟨z', hz', e⟩
    · rw [e, wk_m1, wk_m1]
    · rw [e]; exact ih z' (by omega) (by omega) n n' (by omega) (by omega)
theorem OK.wk1 (h : OK m0 J o U) (F : Nat → Int32) {z : Nat} (hz : z < J) : wk U F 13 (o z) = F (o z).toNatClampNeg + wk U F 13 (U (o z).toNatClampNeg) := by
  have hJ := h.1
  have e : wk U F 12 (U (o z).toNatClampNeg) = wk U F 13 (U (o z).toNatClampNeg) := by
    rcases h.2.2.2.2 z hz with e | ⟨z', hz', e⟩
    · rw [e, wk_m1, wk_m1]
    · rw [e]; exact h.fuel F (z' + 1) z' (by omega) (by omega) 12 13 (by omega) (by omega)
  rw [← e, wk, if_neg (h.ne1 hz)]
theorem ch_r1 (a b s c : Int32) : a + b + (s + b * c) = a + (s + b * (1 + c)) := by grind
theorem ch_r2 (a b s c : Int32) : a + (s + b * c) = a + (s + b * (0 + c)) := by grind
theorem OK.ch (h : OK m0 J o U) (w : Nat) : ∀ (n : Nat) (f : Nat → Int32), n ≤ J → sn_ch U o n f w = f w + sm (fun z => f (o z).toNatClampNeg * wk U (ind w) 13 (U (o z).toNatClampNeg)) n := by
  intro n
  induction n with
  | zero => intro f _; rw [sn_ch, sm, Int32.add_zero]
  | succ n ih =>
    intro f hn
    rw [sn_ch]
    rcases h.2.2.2.2 n (by omega) with e | ⟨z', hz', e⟩
    · rw [e, if_neg (fun q => q.1 (by decide)), ih f (by omega), sm, e, wk_m1, Int32.mul_zero, Int32.add_zero]
    · obtain ⟨q', hq', e2, _⟩ := h.2.1 z' (by omega)
      have e3 := e.trans e2
      rw [e3, if_pos ⟨nI_pos (by omega), nI_ge (a := q') (b := 12) (by omega) (by omega)⟩, nI_clamp (by omega), ih _ (by omega), sm, e3]
      have e4 := h.wk1 (ind w) (z := z') (by omega)
      rw [e2, nI_clamp (by omega)] at e4
      have e5 : sm (fun z => upd f q' (f q' + f (o n).toNatClampNeg) (o z).toNatClampNeg * wk U (ind w) 13 (U (o z).toNatClampNeg)) n = sm (fun z => f (o z).toNatClampNeg * wk U (ind w) 13 (U (o z).toNatClampNeg)) n + f (o n).toNatClampNeg * wk U (ind w) 13 (U q') := by
        refine sm_upd (z' := z') n hz' (fun z hz hne => ?_) ?_
        · obtain ⟨q, hq, e5, _⟩ := h.2.1 z (by omega)
          show upd f q' _ _ * _ = _
          rw [pk_un]
          rw [e5, nI_clamp (by omega)]
          intro e6
          exact hne (h.inj (by omega) (by omega) (by rw [e5, e6, e2]))
        · show upd f q' _ _ * _ = f _ * _ + _
          rw [e2, nI_clamp (by omega), pk_us, Int32.add_mul]
      rw [e5, e4]
      by_cases c : q' = w
      · subst c
        rw [pk_us, ind, if_pos rfl]
        exact ch_r1 _ _ _ _
      · rw [pk_un (fun z => c z.symm), ind, if_neg c]
        exact ch_r2 _ _ _ _
theorem OK.heads (h : OK m0 J o U) {w : Nat} (hw : w < 12) (hb : m0.testBit w = true) {f g : Nat → Int32} (hf : ∀ q, q < 12 → f q = 1) (hg : g w = 0) : sn_ch U o J f w = md_hs U o J 0 g w := by
  rw [h.ch w J f (Nat.le_refl _), hs_sm, hg, Int32.zero_add, hf w hw]
  obtain ⟨z', hz', e⟩ := h.2.2.2.1 w hw hb
  have e5 : sm (fun z => wk U (ind w) 13 (o z)) J = sm (fun z => f (o z).toNatClampNeg * wk U (ind w) 13 (U (o z).toNatClampNeg)) J + 1 := by
    refine sm_upd (z' := z') J hz' (fun z hz hne => ?_) ?_
    · show wk U (ind w) 13 (o z) = _
      obtain ⟨q, hq, e5, _⟩ := h.2.1 z hz
      rw [h.wk1 (ind w) hz, e5, nI_clamp (by omega), hf q hq, Int32.one_mul, ind, if_neg, Int32.zero_add]
      intro e6
      exact hne (h.inj hz hz' (by rw [e5, e6, e]))
    · show wk U (ind w) 13 (o z') = _
      rw [h.wk1 (ind w) hz', e, nI_clamp (by omega), hf w hw, Int32.one_mul, ind, if_pos rfl, Int32.add_comm]
  rw [e5, Int32.add_comm]
theorem wk_ind_bd (w : Nat) : ∀ (n : Nat) (p : Int32), ∃ k, k ≤ n ∧ wk U (ind w) n p = nI k := by
  intro n
  induction n with
  | zero => intro p; exact ⟨0, by omega, rfl⟩
  | succ n ih =>
    intro p
    rw [wk]
    split
    · exact ⟨0, by omega, rfl⟩
    · obtain ⟨k, hk, e⟩ := ih (U p.toNatClampNeg)
      rw [e, ind]
      split
      · exact ⟨k + 1, by omega, by rw [Int32.add_comm, nI_1]⟩
      · exact ⟨k, by omega, by rw [Int32.zero_add]⟩
theorem hs_bd {w : Nat} {g : Nat → Int32} (hg : g w = 0) : ∀ n, ∃ k, k ≤ 13 * n ∧ md_hs U o n 0 g w = nI k := by
  intro n
  rw [hs_sm, hg, Int32.zero_add]
  induction n with
  | zero => exact ⟨0, by omega, rfl⟩
  | succ n ih =>
    obtain ⟨k, hk, e⟩ := ih
    obtain ⟨k2, hk2, e2⟩ := wk_ind_bd (U := U) w 13 (o n)
    rw [sm, e, e2, nI_add]
    exact ⟨_, by omega, rfl⟩
end PH
