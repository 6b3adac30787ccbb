def sn_isp (px py : Nat → Int32) (x y : Int32) : Nat → Nat → Bool
  | 0, _ => false
  | n + 1, i => (decide (px i = x) && decide (py i = y)) || sn_isp px py x y n (i + 1)
def sn_dc (fw fr : Nat → Int32) (st kk : Int32) : Nat → Nat → Int32 → Int32
  | 0, _, _ => -1
  | n + 1, i, b => if sn_dry fw fr st i then (if b = kk then nI i else sn_dc fw fr st kk n (i + 1) (b + 1)) else sn_dc fw fr st kk n (i + 1) b
def sn_no (fl : Nat → Int32) (wt : Int32) : Nat → Nat → Int32 → Int32 → Int32
  | 0, _, nr, _ => nr
  | n + 1, i, nr, lt => if sn_hold wt (nI i) = true ∧ (nr = -1 ∨ ¬ lt ≤ fl i) then sn_no fl wt n (i + 1) (nI i) (fl i) else sn_no fl wt n (i + 1) nr lt
def sn_lf (f : Nat → Int32) (hc : Int32) : Nat → Nat → Int32 → Int32
  | 0, _, g => g
  | n + 1, i, g => if f i = -1 then sn_lf f hc n (i + 1) g else if nI i < hc then sn_lf f hc n (i + 1) (f i) else f i
def nd (a u : Nat) : Nat := (u - a) + (a - u)
theorem nd_lt {a u : Nat} (ha : a < 16) (hu : u < 16) : nd a u < 16 := by unfold nd; omega
theorem sn_abs {a u : Nat} (ha : a < 16) (hu : u < 16) : (if 0 ≤ nI u - nI a then nI u - nI a else 0 - (nI u - nI a)) = nI (nd a u) := by
  have e1 := pk_sub_toInt (a := u) (b := a) (by omega) (by omega)
  by_cases h : a ≤ u
  · rw [if_pos (by rw [Int32.le_iff_toInt_le, e1, Int32.toInt_zero]; omega), pk_sub h]
    congr 1; unfold nd; omega
  · rw [if_neg (by rw [Int32.le_iff_toInt_le, e1, Int32.toInt_zero]; omega)]
    have e2 : (0 : Int32) - (nI u - nI a) = nI a - nI u := by simp [Int32.neg_sub]
    rw [e2, pk_sub (by omega)]
    congr 1; unfold nd; omega
theorem sn_up (i j A B : Nat) : (2 * nI i + 1) * nI B - (2 * nI j + 1) * nI A = nI ((2 * i + 1) * B) - nI ((2 * j + 1) * A) := by
  rw [show (2 : Int32) = nI 2 from rfl, show (1 : Int32) = nI 1 from rfl, pk_mul, pk_mul, nI_add, nI_add, pk_mul, pk_mul]
theorem sn_p31 {i t B : Nat} (hi : i ≤ t) (hB : B < 16) (ht : t ≤ 31 := by omega) : (2 * i + 1) * B < 2 ^ 30 := by
  have h1 : (2 * i + 1) * B ≤ 63 * 16 := Nat.mul_le_mul (by omega) (by omega)
  omega
theorem sn_upgt {p q : Nat} (hp : p < 2 ^ 30) (hq : q < 2 ^ 30) : (0 < nI p - nI q) = (q < p) := by
  rw [Int32.lt_iff_toInt_lt, pk_sub_toInt hp hq, Int32.toInt_zero]
  exact propext ⟨fun h => by omega, fun h => by omega⟩
theorem sn_uplt {p q : Nat} (hp : p < 2 ^ 30) (hq : q < 2 ^ 30) : (nI p - nI q < 0) = (p < q) := by
  rw [Int32.lt_iff_toInt_lt, pk_sub_toInt hp hq, Int32.toInt_zero]
  exact propext ⟨fun h => by omega, fun h => by omega⟩
def sn_line (Wd Ht : Nat) (f : Nat → Int32) (a b A B : Nat) (sx sy : Int32) : Nat → Nat → Nat → Bool
  | 0, _, _ => true
  | n + 1, i, j => if sn_wall Wd Ht f (nI a + nI i * sx) (nI b + nI j * sy) = true then false else if i = A ∧ j = B then true else
    sn_line Wd Ht f a b A B sx sy n (if (2 * j + 1) * A < (2 * i + 1) * B then i else i + 1) (if (2 * i + 1) * B < (2 * j + 1) * A then j else j + 1)
theorem sn_line_step {Wd Ht : Nat} {f : Nat → Int32} {a b A B : Nat} {sx sy : Int32} {n i j : Nat} (h : sn_wall Wd Ht f (nI a + nI i * sx) (nI b + nI j * sy) = false) (hne : ¬ (i = A ∧ j = B)) : sn_line Wd Ht f a b A B sx sy (n + 1) i j = sn_line Wd Ht f a b A B sx sy n (if (2 * j + 1) * A < (2 * i + 1) * B then i else i + 1) (if (2 * i + 1) * B < (2 * j + 1) * A then j else j + 1) := by
  rw [sn_line, if_neg (by rw [h]; decide), if_neg hne]
theorem sn_line_end {Wd Ht : Nat} {f : Nat → Int32} {a b A B : Nat} {sx sy : Int32} {n i j : Nat} (h : sn_wall Wd Ht f (nI a + nI i * sx) (nI b + nI j * sy) = false) (hne : i = A ∧ j = B) : sn_line Wd Ht f a b A B sx sy (n + 1) i j = true := by
  rw [sn_line, if_neg (by rw [h]; decide), if_pos hne]
def sgn (a u : Nat) : Int32 := if a ≤ u then 1 else -1
def sn_sg (a b u v : Nat) (sx sy : Int32) : Prop := sx = sgn a u ∧ sy = sgn b v
def sn_free (Wd Ht : Nat) (f : Nat → Int32) (a b u v : Nat) : Bool := sn_line Wd Ht f a b (nd a u) (nd b v) (sgn a u) (sgn b v) (nd a u + nd b v + 1) 0 0
theorem sn_free_eq (Wd Ht : Nat) (f : Nat → Int32) (a b u v : Nat) : sn_free Wd Ht f a b u v = sn_line Wd Ht f a b (nd a u) (nd b v) (sgn a u) (sgn b v) (nd a u + nd b v + 1) 0 0 := rfl
set_option maxHeartbeats 4000000 in
set_option maxRecDepth 100000 in
theorem cN_isPlace (l : Launch) (dC : Nat → ClassId) (dI : Nat → Nat → Nat) (h0 a_walls a_placeX a_placeY a_reachers a_lossOf a_upper a_length a_headsOn a_turn a_lack a_joined : Nat) (Wd Ht Pn : Nat) (rs old sc jc : Int32) (cI : ClassId) (f_placeX f_placeY : Nat → Int32) (x y : Int32) (hPn : Pn ≤ 12) : Met l yN_isPlace (kN_isPlace :: WD) { frames := 0, cells := 0, slots := 0, locals := 0 } (va_Pc [.ref h0, .int x, .int y] (xw (dC, dI) snC [(h0, .inr (0, [.int (nI Wd), .int (nI Ht), .ref a_walls, .int rs, .ref a_placeX, .ref a_placeY, .int (nI Pn), .ref a_reachers, .int old, .ref a_lossOf, .int sc, .ref a_upper, .ref a_length, .ref a_headsOn, .ref a_turn, .ref a_lack, .ref a_joined, .int jc])), (a_placeX, .inl (cI, 12, .inl f_placeX)), (a_placeY, .inl (cI, 12, .inl f_placeY))] [(cI, .int)])) (xr_Q (fun r => r = bz (sn_isp f_placeX f_placeY x y Pn 0))) 0 0 (fun _ => False) := by
  refine Met.ofW (cc := bN_isPlace) (maxL := 4) (ret := (some .boolean)) (by decide) rfl ?_
  intro p e s m args below meth c s₁ B hml hv
  obtain ⟨rfl, hP, hK⟩ := hv
  have hx := B.exec
  have hb := B.bytes
  have hr := B.returns
  have hts : ∀ w ∈ WD, w.before _ s = true := fun w h => atoms_spec (ws := kN_isPlace :: WD) B.pre w (List.mem_cons_of_mem _ h)
  have hown : s.vm.findClass R_N = some m.cls := findClass_of_methodNamed B.named
  have hlocks := B.notSynchronized
  have hl := lv_entry ([.ref h0, .int x, .int y]) (n := 4) (Nat.le_of_ble_eq_true rfl)
  rw [lg_entry_eq]
  generalize (lg_sl ([.ref h0, .int x, .int y]) ++ List.replicate (4 - (lg_sl ([.ref h0, .int x, .int y])).length) Slot.unset).toArray = ls at hl ⊢
  have hl : lv_has ls 4 [(0, .ref h0), (1, .int x), (2, .int y)] := hl
  have lp2 : ∀ (k n : Nat) (i : Nat), n < k → i + n = Pn → sn_isp f_placeX f_placeY x y n i = sn_isp f_placeX f_placeY x y Pn 0 → ∀ ls : Array Slot, lv_has ls 4 [(3, .int (nI i)), (0, .ref h0), (1, .int x), (2, .int y)] → W p l e (headSpec (kN_isPlace :: WD) { frames := 0, cells := 0, slots := 0, locals := 0 }).room s m ([.ref h0, .int x, .int y]).toArray below meth c s.heap [] 0 0 (MQ below (xr_Q (fun r => r = bz (sn_isp f_placeX f_placeY x y Pn 0))) ([.ref h0, .int x, .int y]).toArray s 0 0 (fun _ => False)) (F0 m 2 ls []) := by
    intro k
    induction k with
    | zero => exact fun n _ h => absurd h (Nat.not_lt_zero n)
    | succ k ih =>
      intro n i hk hin hT ls hl
      refine lv_iload_n hx hb dN_isPlace_2 rfl (lv_at hl 0 rfl) ?_
      refine lv_bipush (v := (nI 12)) hx hb dN_isPlace_3 (by decide) ?_
      refine lv_icmp_ge (tgt := 44) hx hb dN_isPlace_5 (by decide) (fun c_1 => ?_) (fun c_1 => ?_)
      · have hz := (nI_leI (by omega) (by omega)).mp c_1
        obtain rfl : n = 0 := by omega
        refine lv_iconst (v := 0) hx hb dN_isPlace_44 (by decide) ?_
        exact W.zret (v := 0) hx hb hr (by decide) (fun t ht hW => ⟨⟨0, rfl, (by rw [← hT]; simp [bz, sn_isp, c_1])⟩, ht⟩) (fun _ h => absurd h List.not_mem_nil) dN_isPlace_45
      · refine lv_iload_n hx hb dN_isPlace_8 rfl (lv_at hl 0 rfl) ?_
        refine lv_aload_n hx hb dN_isPlace_9 rfl (lv_at hl 1 rfl) ?_
        refine va_get (D := (dC, dI)) (ci := 0) (v := .int (nI Pn)) (C := R_N) (T := T_N) (N := 18) hx hb hts in_N hown hK hP 0 rfl rfl 6 (by decide) (hts _ flN39) (fun _ h9 => h9) rfl dN_isPlace_10 ?_
        refine lv_icmp_ge (tgt := 44) hx hb dN_isPlace_13 (by decide) (fun c_2 => ?_) (fun c_2 => ?_)
        · have hz := (nI_leI (by omega) (by omega)).mp c_2
          obtain rfl : n = 0 := by omega
          refine lv_iconst (v := 0) hx hb dN_isPlace_44 (by decide) ?_
          exact W.zret (v := 0) hx hb hr (by decide) (fun t ht hW => ⟨⟨0, rfl, (by rw [← hT]; simp [bz, sn_isp, c_1, c_2])⟩, ht⟩) (fun _ h => absurd h List.not_mem_nil) dN_isPlace_45
        · have hz : i < Pn := by have h9 := mt (nI_leI (by omega) (by omega)).mpr c_2; omega
          obtain ⟨n, rfl⟩ : ∃ n', n = n' + 1 := ⟨n - 1, by omega⟩
          refine lv_aload_n hx hb dN_isPlace_16 rfl (lv_at hl 1 rfl) ?_
          refine va_get (D := (dC, dI)) (ci := 0) (v := .ref a_placeX) (C := R_N) (T := T_N) (N := 18) hx hb hts in_N hown hK hP 0 rfl rfl 4 (by decide) (hts _ flN32) (fun _ h9 => h9) rfl dN_isPlace_17 ?_
          refine lv_iload_n hx hb dN_isPlace_20 rfl (lv_at hl 0 rfl) ?_
          refine xa_iald hx hb hK hP 1 0 rfl rfl (i := i) (by omega) (by decide) dN_isPlace_21 ?_
          refine lv_iload_n hx hb dN_isPlace_22 rfl (lv_at hl 2 rfl) ?_
          refine lv_icmp_ne (tgt := 38) hx hb dN_isPlace_23 (by decide) (fun c_3 => ?_) (fun c_3 => ?_)
          · refine lv_iinc (v := (nI (i + 1))) (lv' := [(3, .int (nI (i + 1))), (0, .ref h0), (1, .int x), (2, .int y)]) hx hb dN_isPlace_38 hl (k := 0) rfl (nI_1 i) (by decide) rfl (fun ls hl => ?_)
            refine lv_goto (tgt := 2) hx hb dN_isPlace_41 (by decide) ?_
            exact ih n (i + 1) (by omega) (by omega) (by rw [← hT]; simp [sn_isp, c_1, c_2, c_3]) ls (lv_sub hl [0, 1, 2, 3] rfl)
          · refine lv_aload_n hx hb dN_isPlace_26 rfl (lv_at hl 1 rfl) ?_
            refine va_get (D := (dC, dI)) (ci := 0) (v := .ref a_placeY) (C := R_N) (T := T_N) (N := 18) hx hb hts in_N hown hK hP 0 rfl rfl 5 (by decide) (hts _ flN36) (fun _ h9 => h9) rfl dN_isPlace_27 ?_
            refine lv_iload_n hx hb dN_isPlace_30 rfl (lv_at hl 0 rfl) ?_
            refine xa_iald hx hb hK hP 2 0 rfl rfl (i := i) (by omega) (by decide) dN_isPlace_31 ?_
            refine lv_iload_n hx hb dN_isPlace_32 rfl (lv_at hl 3 rfl) ?_
            refine lv_icmp_ne (tgt := 38) hx hb dN_isPlace_33 (by decide) (fun c_4 => ?_) (fun c_4 => ?_)
            · refine lv_iinc (v := (nI (i + 1))) (lv' := [(3, .int (nI (i + 1))), (0, .ref h0), (1, .int x), (2, .int y)]) hx hb dN_isPlace_38 hl (k := 0) rfl (nI_1 i) (by decide) rfl (fun ls hl => ?_)
              refine lv_goto (tgt := 2) hx hb dN_isPlace_41 (by decide) ?_
              exact ih n (i + 1) (by omega) (by omega) (by rw [← hT]; simp [sn_isp, c_1, c_2, c_3, c_4]) ls (lv_sub hl [0, 1, 2, 3] rfl)
            · refine lv_iconst (v := 1) hx hb dN_isPlace_36 (by decide) ?_
              exact W.zret (v := 1) hx hb hr (by decide) (fun t ht hW => ⟨⟨1, rfl, (by rw [← hT]; simp [bz, sn_isp, c_1, c_2, c_3, c_4])⟩, ht⟩) (fun _ h => absurd h List.not_mem_nil) dN_isPlace_37
  refine lv_iconst (v := 0) hx hb dN_isPlace_0 (by decide) ?_
  refine lv_istore_n (lv' := [(3, .int 0), (0, .ref h0), (1, .int x), (2, .int y)]) hx hb dN_isPlace_1 rfl hl (by decide) rfl (fun ls hl => ?_)
  exact lp2 (Pn + 1) Pn 0 (by omega) (by omega) rfl ls (lv_sub hl [0, 1, 2, 3] rfl)
set_option maxHeartbeats 4000000 in
set_option maxRecDepth 100000 in
theorem cN_dryCell (l : Launch) (dC : Nat → ClassId) (dI : Nat → Nat → Nat) (h0 a_walls a_placeX a_placeY a_reachers a_lossOf a_upper a_length a_headsOn a_turn a_lack a_joined : Nat) (Wd Ht Pn : Nat) (rs old sc jc : Int32) (cZ cI : ClassId) (f_walls f_reachers : Nat → Int32) (st kk : Int32)  : Met l yN_dryCell (kN_dryCell :: WD) { frames := 1, cells := 0, slots := 0, locals := 22 } (va_Pc [.ref h0, .int st, .int kk] (xw (dC, dI) snC [(h0, .inr (0, [.int (nI Wd), .int (nI Ht), .ref a_walls, .int rs, .ref a_placeX, .ref a_placeY, .int (nI Pn), .ref a_reachers, .int old, .ref a_lossOf, .int sc, .ref a_upper, .ref a_length, .ref a_headsOn, .ref a_turn, .ref a_lack, .ref a_joined, .int jc])), (a_walls, .inl (cZ, 256, .inl f_walls)), (a_reachers, .inl (cI, 256, .inl f_reachers))] [(cZ, .boolean), (cI, .int)])) (xr_Q (fun r => r = sn_dc f_walls f_reachers st kk 256 0 0)) 0 0 (fun _ => False) := by
  refine Met.ofW (cc := bN_dryCell) (maxL := 5) (ret := (some .int)) (by decide) rfl ?_
  intro p e s m args below meth c s₁ B hml hv
  obtain ⟨rfl, hP, hK⟩ := hv
  have hx := B.exec
  have hb := B.bytes
  have hr := B.returns
  have hts : ∀ w ∈ WD, w.before _ s = true := fun w h => atoms_spec (ws := kN_dryCell :: WD) B.pre w (List.mem_cons_of_mem _ h)
  have hown : s.vm.findClass R_N = some m.cls := findClass_of_methodNamed B.named
  have hlocks := B.notSynchronized
  have hl := lv_entry ([.ref h0, .int st, .int kk]) (n := 5) (Nat.le_of_ble_eq_true rfl)
  rw [lg_entry_eq]
  generalize (lg_sl ([.ref h0, .int st, .int kk]) ++ List.replicate (5 - (lg_sl ([.ref h0, .int st, .int kk])).length) Slot.unset).toArray = ls at hl ⊢
  have hl : lv_has ls 5 [(0, .ref h0), (1, .int st), (2, .int kk)] := hl
  have lp5 : ∀ (k n : Nat) (i : Nat) (b : Int32), n < k → i + n = 256 → sn_dc f_walls f_reachers st kk n i b = sn_dc f_walls f_reachers st kk 256 0 0 → ∀ ls : Array Slot, lv_has ls 5 [(4, .int (nI i)), (3, .int b), (0, .ref h0), (1, .int st), (2, .int kk)] → W p l e (headSpec (kN_dryCell :: WD) { frames := 1, cells := 0, slots := 0, locals := 22 }).room s m ([.ref h0, .int st, .int kk]).toArray below meth c s.heap [] 0 0 (MQ below (xr_Q (fun r => r = sn_dc f_walls f_reachers st kk 256 0 0)) ([.ref h0, .int st, .int kk]).toArray s 0 0 (fun _ => False)) (F0 m 5 ls []) := by
    intro k
    induction k with
    | zero => exact fun n _ _ h => absurd h (Nat.not_lt_zero n)
    | succ k ih =>
      intro n i b hk hin hT ls hl
      refine lv_iload hx hb dN_dryCell_5 (lv_at hl 0 rfl) ?_
      refine lv_aload_n hx hb dN_dryCell_7 rfl (lv_at hl 2 rfl) ?_
      refine va_get (D := (dC, dI)) (ci := 0) (v := .ref a_walls) (C := R_N) (T := T_N) (N := 18) hx hb hts in_N hown hK hP 0 rfl rfl 2 (by decide) (hts _ flN25) (fun _ h9 => h9) rfl dN_dryCell_8 ?_
      refine va_alen (v := (nI 256)) hx hb hK hP 1 0 rfl rfl rfl dN_dryCell_11 ?_
      refine lv_icmp_ge (tgt := 42) hx hb dN_dryCell_12 (by decide) (fun c_1 => ?_) (fun c_1 => ?_)
      · have hz := (nI_leI (by omega) (by omega)).mp c_1
        obtain rfl : n = 0 := by omega
        refine lv_iconst (v := (-1)) hx hb dN_dryCell_42 (by decide) ?_
        exact W.iret (v := (-1)) hx hb hr (fun t ht hW => ⟨⟨(-1), rfl, (by rw [← hT]; simp [sn_dc, c_1])⟩, ht⟩) (fun _ h => absurd h List.not_mem_nil) dN_dryCell_43
      · have hz : i < 256 := by have h9 := mt (nI_leI (by omega) (by omega)).mpr c_1; omega
        obtain ⟨n, rfl⟩ : ∃ n', n = n' + 1 := ⟨n - 1, by omega⟩
        refine lv_aload_n hx hb dN_dryCell_15 rfl (lv_at hl 2 rfl) ?_
        refine lv_iload hx hb dN_dryCell_16 (lv_at hl 0 rfl) ?_
        refine lv_iload_n hx hb dN_dryCell_18 rfl (lv_at hl 3 rfl) ?_
        refine xr_V (As := [.int (nI i), .int st]) ⟨hx, hb, hml, hown, hts⟩ (cN_isDry l dC dI h0 a_walls a_placeX a_placeY a_reachers a_lossOf a_upper a_length a_headsOn a_turn a_lack a_joined Wd Ht Pn rs old sc jc cZ cI f_walls f_reachers i st (by omega)) (cwV 2 hts gN129 rfl rfl rfl (by decide +kernel) ⟨Nat.le_of_ble_eq_true rfl, Nat.le_of_ble_eq_true rfl⟩) hK hP [0, 1, 2] [0, 1] rfl rfl 0 0 rfl rfl rfl rfl hl.1 rfl (Nat.le_of_ble_eq_true rfl) dN_dryCell_19 ⟨Nat.zero_le _, Nat.zero_le _⟩ (fun r_2 hr_2 => ?_)
        subst hr_2
        refine lv_if_eq (tgt := 36) hx hb dN_dryCell_22 (by decide) (fun c_3 => ?_) (fun c_3 => ?_)
        · replace c_3 := bz_0 c_3
          refine lv_iinc (v := (nI (i + 1))) (lv' := [(4, .int (nI (i + 1))), (3, .int b), (0, .ref h0), (1, .int st), (2, .int kk)]) hx hb dN_dryCell_36 hl (k := 0) rfl (nI_1 i) (by decide) rfl (fun ls hl => ?_)
          refine lv_goto (tgt := 5) hx hb dN_dryCell_39 (by decide) ?_
          exact ih n (i + 1) b (by omega) (by omega) (by rw [← hT]; simp [sn_dc, c_1, c_3]) ls (lv_sub hl [0, 1, 2, 3, 4] rfl)
        · replace c_3 := bz_1 c_3
          refine lv_iload_n hx hb dN_dryCell_25 rfl (lv_at hl 1 rfl) ?_
          refine lv_iload_n hx hb dN_dryCell_26 rfl (lv_at hl 4 rfl) ?_
          refine lv_icmp_ne (tgt := 33) hx hb dN_dryCell_27 (by decide) (fun c_4 => ?_) (fun c_4 => ?_)
          · refine lv_iinc (v := (b + 1)) (lv' := [(3, .int (b + 1)), (4, .int (nI i)), (0, .ref h0), (1, .int st), (2, .int kk)]) hx hb dN_dryCell_33 hl (k := 1) rfl rfl (by decide) rfl (fun ls hl => ?_)
            refine lv_iinc (v := (nI (i + 1))) (lv' := [(4, .int (nI (i + 1))), (3, .int (b + 1)), (0, .ref h0), (1, .int st), (2, .int kk)]) hx hb dN_dryCell_36 hl (k := 1) rfl (nI_1 i) (by decide) rfl (fun ls hl => ?_)
            refine lv_goto (tgt := 5) hx hb dN_dryCell_39 (by decide) ?_
            exact ih n (i + 1) (b + 1) (by omega) (by omega) (by rw [← hT]; simp [sn_dc, c_1, c_3, c_4]) ls (lv_sub hl [0, 1, 2, 3, 4] rfl)
          · refine lv_iload hx hb dN_dryCell_30 (lv_at hl 0 rfl) ?_
            exact W.iret (v := nI i) hx hb hr (fun t ht hW => ⟨⟨nI i, rfl, (by rw [← hT]; simp [sn_dc, c_1, c_3, c_4])⟩, ht⟩) (fun _ h => absurd h List.not_mem_nil) dN_dryCell_32
  refine lv_iconst (v := 0) hx hb dN_dryCell_0 (by decide) ?_
  refine lv_istore_n (lv' := [(3, .int 0), (0, .ref h0), (1, .int st), (2, .int kk)]) hx hb dN_dryCell_1 rfl hl (by decide) rfl (fun ls hl => ?_)
  refine lv_iconst (v := 0) hx hb dN_dryCell_2 (by decide) ?_
  refine lv_istore (lv' := [(4, .int 0), (3, .int 0), (0, .ref h0), (1, .int st), (2, .int kk)]) hx hb dN_dryCell_3 hl (by decide) rfl (fun ls hl => ?_)
  exact lp5 257 256 0 0 (by omega) (by omega) rfl ls (lv_sub hl [0, 1, 2, 3, 4] rfl)
set_option maxHeartbeats 4000000 in
set_option maxRecDepth 100000 in
theorem cN_nearestOf (l : Launch) (dC : Nat → ClassId) (dI : Nat → Nat → Nat) (h0 a_walls a_placeX a_placeY a_reachers a_lossOf a_upper a_length a_headsOn a_turn a_lack a_joined : Nat) (Wd Ht Pn : Nat) (rs old sc jc : Int32) (cI : ClassId) (f_length : Nat → Int32) (wt : Int32)  : Met l yN_nearestOf (kN_nearestOf :: WD) { frames := 1, cells := 0, slots := 0, locals := 21 } (va_Pc [.ref h0, .int wt] (xw (dC, dI) snC [(h0, .inr (0, [.int (nI Wd), .int (nI Ht), .ref a_walls, .int rs, .ref a_placeX, .ref a_placeY, .int (nI Pn), .ref a_reachers, .int old, .ref a_lossOf, .int sc, .ref a_upper, .ref a_length, .ref a_headsOn, .ref a_turn, .ref a_lack, .ref a_joined, .int jc])), (a_length, .inl (cI, 12, .inl f_length))] [(cI, .int)])) (xr_Q (fun r => r = sn_no f_length wt 12 0 (-1) 0)) 0 0 (fun _ => False) := by
  refine Met.ofW (cc := bN_nearestOf) (maxL := 5) (ret := (some .int)) (by decide) rfl ?_
  intro p e s m args below meth c s₁ B hml hv
  obtain ⟨rfl, hP, hK⟩ := hv
  have hx := B.exec
  have hb := B.bytes
  have hr := B.returns
  have hts : ∀ w ∈ WD, w.before _ s = true := fun w h => atoms_spec (ws := kN_nearestOf :: WD) B.pre w (List.mem_cons_of_mem _ h)
  have hown : s.vm.findClass R_N = some m.cls := findClass_of_methodNamed B.named
  have hlocks := B.notSynchronized
  have hl := lv_entry ([.ref h0, .int wt]) (n := 5) (Nat.le_of_ble_eq_true rfl)
  rw [lg_entry_eq]
  generalize (lg_sl ([.ref h0, .int wt]) ++ List.replicate (5 - (lg_sl ([.ref h0, .int wt])).length) Slot.unset).toArray = ls at hl ⊢
  have hl : lv_has ls 5 [(0, .ref h0), (1, .int wt)] := hl
  have lp7 : ∀ (k n : Nat) (i : Nat) (nr lt : Int32), n < k → i + n = 12 → sn_no f_length wt n i nr lt = sn_no f_length wt 12 0 (-1) 0 → ∀ ls : Array Slot, lv_has ls 5 [(4, .int (nI i)), (2, .int nr), (3, .int lt), (0, .ref h0), (1, .int wt)] → W p l e (headSpec (kN_nearestOf :: WD) { frames := 1, cells := 0, slots := 0, locals := 21 }).room s m ([.ref h0, .int wt]).toArray below meth c s.heap [] 0 0 (MQ below (xr_Q (fun r => r = sn_no f_length wt 12 0 (-1) 0)) ([.ref h0, .int wt]).toArray s 0 0 (fun _ => False)) (F0 m 7 ls []) := by
    intro k
    induction k with
    | zero => exact fun n _ _ _ h => absurd h (Nat.not_lt_zero n)
    | succ k ih =>
      intro n i nr lt hk hin hT ls hl
      refine lv_iload hx hb dN_nearestOf_7 (lv_at hl 0 rfl) ?_
      refine lv_bipush (v := (nI 12)) hx hb dN_nearestOf_9 (by decide) ?_
      refine lv_icmp_ge (tgt := 56) hx hb dN_nearestOf_11 (by decide) (fun c_1 => ?_) (fun c_1 => ?_)
      · have hz := (nI_leI (by omega) (by omega)).mp c_1
        obtain rfl : n = 0 := by omega
        refine lv_iload_n hx hb dN_nearestOf_56 rfl (lv_at hl 1 rfl) ?_
        exact W.iret (v := nr) hx hb hr (fun t ht hW => ⟨⟨nr, rfl, (by rw [← hT]; simp [sn_no, c_1])⟩, ht⟩) (fun _ h => absurd h List.not_mem_nil) dN_nearestOf_57
      · have hz : i < 12 := by have h9 := mt (nI_leI (by omega) (by omega)).mpr c_1; omega
        obtain ⟨n, rfl⟩ : ∃ n', n = n' + 1 := ⟨n - 1, by omega⟩
        refine lv_iload_n hx hb dN_nearestOf_14 rfl (lv_at hl 4 rfl) ?_
        refine lv_iload hx hb dN_nearestOf_15 (lv_at hl 0 rfl) ?_
        refine xr_S (As := [.int wt, .int (nI i)]) ⟨hx, hb, hml, hown, hts⟩ (cN_holds l dC dI wt (nI i)) (va_cwS 2 hts gN123 rfl rfl rfl (by decide +kernel) ⟨Nat.le_of_ble_eq_true rfl, Nat.le_of_ble_eq_true rfl⟩) hK hP [] [] rfl rfl rfl hl.1 rfl (Nat.le_of_ble_eq_true rfl) dN_nearestOf_17 ⟨Nat.zero_le _, Nat.zero_le _⟩ (fun r_2 hr_2 => ?_)
        subst hr_2
        refine lv_if_eq (tgt := 50) hx hb dN_nearestOf_20 (by decide) (fun c_3 => ?_) (fun c_3 => ?_)
        · replace c_3 := bz_0 c_3
          refine lv_iinc (v := (nI (i + 1))) (lv' := [(4, .int (nI (i + 1))), (2, .int nr), (3, .int lt), (0, .ref h0), (1, .int wt)]) hx hb dN_nearestOf_50 hl (k := 0) rfl (nI_1 i) (by decide) rfl (fun ls hl => ?_)
          refine lv_goto (tgt := 7) hx hb dN_nearestOf_53 (by decide) ?_
          exact ih n (i + 1) nr lt (by omega) (by omega) (by rw [← hT]; simp [sn_no, c_1, c_3]) ls (lv_sub hl [0, 1, 2, 3, 4] rfl)
        · replace c_3 := bz_1 c_3
          refine lv_iload_n hx hb dN_nearestOf_23 rfl (lv_at hl 1 rfl) ?_
          refine lv_iconst (v := (-1)) hx hb dN_nearestOf_24 (by decide) ?_
          refine lv_icmp_eq (tgt := 39) hx hb dN_nearestOf_25 (by decide) (fun c_4 => ?_) (fun c_4 => ?_)
          · refine lv_iload hx hb dN_nearestOf_39 (lv_at hl 0 rfl) ?_
            refine lv_istore_n (lv' := [(2, .int (nI i)), (4, .int (nI i)), (3, .int lt), (0, .ref h0), (1, .int wt)]) hx hb dN_nearestOf_41 rfl hl (by decide) rfl (fun ls hl => ?_)
            refine lv_aload_n hx hb dN_nearestOf_42 rfl (lv_at hl 3 rfl) ?_
            refine va_get (D := (dC, dI)) (ci := 0) (v := .ref a_length) (C := R_N) (T := T_N) (N := 18) hx hb hts in_N hown hK hP 0 rfl rfl 12 (by decide) (hts _ flN64) (fun _ h9 => h9) rfl dN_nearestOf_43 ?_
            refine lv_iload hx hb dN_nearestOf_46 (lv_at hl 1 rfl) ?_
            refine xa_iald hx hb hK hP 1 0 rfl rfl (i := i) (by omega) (by decide) dN_nearestOf_48 ?_
            refine lv_istore_n (lv' := [(3, .int (f_length i)), (2, .int (nI i)), (4, .int (nI i)), (0, .ref h0), (1, .int wt)]) hx hb dN_nearestOf_49 rfl hl (by decide) rfl (fun ls hl => ?_)
            refine lv_iinc (v := (nI (i + 1))) (lv' := [(4, .int (nI (i + 1))), (3, .int (f_length i)), (2, .int (nI i)), (0, .ref h0), (1, .int wt)]) hx hb dN_nearestOf_50 hl (k := 2) rfl (nI_1 i) (by decide) rfl (fun ls hl => ?_)
            refine lv_goto (tgt := 7) hx hb dN_nearestOf_53 (by decide) ?_
            exact ih n (i + 1) (nI i) (f_length i) (by omega) (by omega) (by rw [← hT]; simp [sn_no, c_1, c_3, c_4]) ls (lv_sub hl [0, 2, 1, 3, 4] rfl)
          · refine lv_aload_n hx hb dN_nearestOf_28 rfl (lv_at hl 3 rfl) ?_
            refine va_get (D := (dC, dI)) (ci := 0) (v := .ref a_length) (C := R_N) (T := T_N) (N := 18) hx hb hts in_N hown hK hP 0 rfl rfl 12 (by decide) (hts _ flN64) (fun _ h9 => h9) rfl dN_nearestOf_29 ?_
            refine lv_iload hx hb dN_nearestOf_32 (lv_at hl 0 rfl) ?_
            refine xa_iald hx hb hK hP 1 0 rfl rfl (i := i) (by omega) (by decide) dN_nearestOf_34 ?_
            refine lv_iload_n hx hb dN_nearestOf_35 rfl (lv_at hl 2 rfl) ?_
            refine lv_icmp_ge (tgt := 50) hx hb dN_nearestOf_36 (by decide) (fun c_5 => ?_) (fun c_5 => ?_)
            · refine lv_iinc (v := (nI (i + 1))) (lv' := [(4, .int (nI (i + 1))), (2, .int nr), (3, .int lt), (0, .ref h0), (1, .int wt)]) hx hb dN_nearestOf_50 hl (k := 0) rfl (nI_1 i) (by decide) rfl (fun ls hl => ?_)
              refine lv_goto (tgt := 7) hx hb dN_nearestOf_53 (by decide) ?_
              exact ih n (i + 1) nr lt (by omega) (by omega) (by rw [← hT]; simp [sn_no, c_1, c_3, c_4, c_5]) ls (lv_sub hl [0, 1, 2, 3, 4] rfl)
            · refine lv_iload hx hb dN_nearestOf_39 (lv_at hl 0 rfl) ?_
              refine lv_istore_n (lv' := [(2, .int (nI i)), (4, .int (nI i)), (3, .int lt), (0, .ref h0), (1, .int wt)]) hx hb dN_nearestOf_41 rfl hl (by decide) rfl (fun ls hl => ?_)
              refine lv_aload_n hx hb dN_nearestOf_42 rfl (lv_at hl 3 rfl) ?_
              refine va_get (D := (dC, dI)) (ci := 0) (v := .ref a_length) (C := R_N) (T := T_N) (N := 18) hx hb hts in_N hown hK hP 0 rfl rfl 12 (by decide) (hts _ flN64) (fun _ h9 => h9) rfl dN_nearestOf_43 ?_
              refine lv_iload hx hb dN_nearestOf_46 (lv_at hl 1 rfl) ?_
              refine xa_iald hx hb hK hP 1 0 rfl rfl (i := i) (by omega) (by decide) dN_nearestOf_48 ?_
              refine lv_istore_n (lv' := [(3, .int (f_length i)), (2, .int (nI i)), (4, .int (nI i)), (0, .ref h0), (1, .int wt)]) hx hb dN_nearestOf_49 rfl hl (by decide) rfl (fun ls hl => ?_)
              refine lv_iinc (v := (nI (i + 1))) (lv' := [(4, .int (nI (i + 1))), (3, .int (f_length i)), (2, .int (nI i)), (0, .ref h0), (1, .int wt)]) hx hb dN_nearestOf_50 hl (k := 2) rfl (nI_1 i) (by decide) rfl (fun ls hl => ?_)
              refine lv_goto (tgt := 7) hx hb dN_nearestOf_53 (by decide) ?_
              exact ih n (i + 1) (nI i) (f_length i) (by omega) (by omega) (by rw [← hT]; simp [sn_no, c_1, c_3, c_4, c_5]) ls (lv_sub hl [0, 2, 1, 3, 4] rfl)
  refine lv_iconst (v := (-1)) hx hb dN_nearestOf_0 (by decide) ?_
  refine lv_istore_n (lv' := [(2, .int (-1)), (0, .ref h0), (1, .int wt)]) hx hb dN_nearestOf_1 rfl hl (by decide) rfl (fun ls hl => ?_)
  refine lv_iconst (v := 0) hx hb dN_nearestOf_2 (by decide) ?_
  refine lv_istore_n (lv' := [(3, .int 0), (2, .int (-1)), (0, .ref h0), (1, .int wt)]) hx hb dN_nearestOf_3 rfl hl (by decide) rfl (fun ls hl => ?_)
  refine lv_iconst (v := 0) hx hb dN_nearestOf_4 (by decide) ?_
  refine lv_istore (lv' := [(4, .int 0), (3, .int 0), (2, .int (-1)), (0, .ref h0), (1, .int wt)]) hx hb dN_nearestOf_5 hl (by decide) rfl (fun ls hl => ?_)
  exact lp7 13 12 0 (-1) 0 (by omega) (by omega) rfl ls (lv_sub hl [0, 2, 1, 3, 4] rfl)
set_option maxHeartbeats 4000000 in
set_option maxRecDepth 100000 in
theorem cN_lossFor (l : Launch) (dC : Nat → ClassId) (dI : Nat → Nat → Nat) (h0 a_walls a_placeX a_placeY a_reachers a_lossOf a_upper a_length a_headsOn a_turn a_lack a_joined : Nat) (Wd Ht Pn : Nat) (rs old sc jc : Int32) (cI : ClassId) (f_lossOf : Nat → Int32) (hc : Int32)  : Met l yN_lossFor (kN_lossFor :: WD) { frames := 0, cells := 0, slots := 0, locals := 0 } (va_Pc [.ref h0, .int hc] (xw (dC, dI) snC [(h0, .inr (0, [.int (nI Wd), .int (nI Ht), .ref a_walls, .int rs, .ref a_placeX, .ref a_placeY, .int (nI Pn), .ref a_reachers, .int old, .ref a_lossOf, .int sc, .ref a_upper, .ref a_length, .ref a_headsOn, .ref a_turn, .ref a_lack, .ref a_joined, .int jc])), (a_lossOf, .inl (cI, 13, .inl f_lossOf))] [(cI, .int)])) (xr_Q (fun r => r = sn_lf f_lossOf hc 12 1 0)) 0 0 (fun _ => False) := by
  refine Met.ofW (cc := bN_lossFor) (maxL := 4) (ret := (some .int)) (by decide) rfl ?_
  intro p e s m args below meth c s₁ B hml hv
  obtain ⟨rfl, hP, hK⟩ := hv
  have hx := B.exec
  have hb := B.bytes
  have hr := B.returns
  have hts : ∀ w ∈ WD, w.before _ s = true := fun w h => atoms_spec (ws := kN_lossFor :: WD) B.pre w (List.mem_cons_of_mem _ h)
  have hown : s.vm.findClass R_N = some m.cls := findClass_of_methodNamed B.named
  have hlocks := B.notSynchronized
  have hl := lv_entry ([.ref h0, .int hc]) (n := 4) (Nat.le_of_ble_eq_true rfl)
  rw [lg_entry_eq]
  generalize (lg_sl ([.ref h0, .int hc]) ++ List.replicate (4 - (lg_sl ([.ref h0, .int hc])).length) Slot.unset).toArray = ls at hl ⊢
  have hl : lv_has ls 4 [(0, .ref h0), (1, .int hc)] := hl
  have lp4 : ∀ (k n : Nat) (i : Nat) (g : Int32), n < k → i + n = 13 → sn_lf f_lossOf hc n i g = sn_lf f_lossOf hc 12 1 0 → ∀ ls : Array Slot, lv_has ls 4 [(3, .int (nI i)), (2, .int g), (0, .ref h0), (1, .int hc)] → W p l e (headSpec (kN_lossFor :: WD) { frames := 0, cells := 0, slots := 0, locals := 0 }).room s m ([.ref h0, .int hc]).toArray below meth c s.heap [] 0 0 (MQ below (xr_Q (fun r => r = sn_lf f_lossOf hc 12 1 0)) ([.ref h0, .int hc]).toArray s 0 0 (fun _ => False)) (F0 m 4 ls []) := by
    intro k
    induction k with
    | zero => exact fun n _ _ h => absurd h (Nat.not_lt_zero n)
    | succ k ih =>
      intro n i g hk hin hT ls hl
      refine lv_iload_n hx hb dN_lossFor_4 rfl (lv_at hl 0 rfl) ?_
      refine lv_bipush (v := (nI 12)) hx hb dN_lossFor_5 (by decide) ?_
      refine lv_icmp_gt (tgt := 40) hx hb dN_lossFor_7 (by decide) (fun c_1 => ?_) (fun c_1 => ?_)
      · have hz := (nI_ltI (by omega) (by omega)).mp c_1
        obtain rfl : n = 0 := by omega
        refine lv_iload_n hx hb dN_lossFor_40 rfl (lv_at hl 1 rfl) ?_
        exact W.iret (v := g) hx hb hr (fun t ht hW => ⟨⟨g, rfl, (by rw [← hT]; simp [sn_lf, c_1])⟩, ht⟩) (fun _ h => absurd h List.not_mem_nil) dN_lossFor_41
      · have hz : i ≤ 12 := by have h9 := mt (nI_ltI (by omega) (by omega)).mpr c_1; omega
        obtain ⟨n, rfl⟩ : ∃ n', n = n' + 1 := ⟨n - 1, by omega⟩
        refine lv_aload_n hx hb dN_lossFor_10 rfl (lv_at hl 2 rfl) ?_
        refine va_get (D := (dC, dI)) (ci := 0) (v := .ref a_lossOf) (C := R_N) (T := T_N) (N := 18) hx hb hts in_N hown hK hP 0 rfl rfl 9 (by decide) (hts _ flN49) (fun _ h9 => h9) rfl dN_lossFor_11 ?_
        refine lv_iload_n hx hb dN_lossFor_14 rfl (lv_at hl 0 rfl) ?_
        refine xa_iald hx hb hK hP 1 0 rfl rfl (i := i) (by omega) (by decide) dN_lossFor_15 ?_
        refine lv_iconst (v := (-1)) hx hb dN_lossFor_16 (by decide) ?_
        refine lv_icmp_eq (tgt := 34) hx hb dN_lossFor_17 (by decide) (fun c_2 => ?_) (fun c_2 => ?_)
        · refine lv_iinc (v := (nI (i + 1))) (lv' := [(3, .int (nI (i + 1))), (2, .int g), (0, .ref h0), (1, .int hc)]) hx hb dN_lossFor_34 hl (k := 0) rfl (nI_1 i) (by decide) rfl (fun ls hl => ?_)
          refine lv_goto (tgt := 4) hx hb dN_lossFor_37 (by decide) ?_
          exact ih n (i + 1) g (by omega) (by omega) (by rw [← hT]; simp [sn_lf, c_1, c_2]) ls (lv_sub hl [0, 1, 2, 3] rfl)
        · refine lv_aload_n hx hb dN_lossFor_20 rfl (lv_at hl 2 rfl) ?_
          refine va_get (D := (dC, dI)) (ci := 0) (v := .ref a_lossOf) (C := R_N) (T := T_N) (N := 18) hx hb hts in_N hown hK hP 0 rfl rfl 9 (by decide) (hts _ flN49) (fun _ h9 => h9) rfl dN_lossFor_21 ?_
          refine lv_iload_n hx hb dN_lossFor_24 rfl (lv_at hl 0 rfl) ?_
          refine xa_iald hx hb hK hP 1 0 rfl rfl (i := i) (by omega) (by decide) dN_lossFor_25 ?_
          refine lv_istore_n (lv' := [(2, .int (f_lossOf i)), (3, .int (nI i)), (0, .ref h0), (1, .int hc)]) hx hb dN_lossFor_26 rfl hl (by decide) rfl (fun ls hl => ?_)
          refine lv_iload_n hx hb dN_lossFor_27 rfl (lv_at hl 1 rfl) ?_
          refine lv_iload_n hx hb dN_lossFor_28 rfl (lv_at hl 3 rfl) ?_
          refine lv_icmp_lt (tgt := 34) hx hb dN_lossFor_29 (by decide) (fun c_3 => ?_) (fun c_3 => ?_)
          · refine lv_iinc (v := (nI (i + 1))) (lv' := [(3, .int (nI (i + 1))), (2, .int (f_lossOf i)), (0, .ref h0), (1, .int hc)]) hx hb dN_lossFor_34 hl (k := 1) rfl (nI_1 i) (by decide) rfl (fun ls hl => ?_)
            refine lv_goto (tgt := 4) hx hb dN_lossFor_37 (by decide) ?_
            exact ih n (i + 1) (f_lossOf i) (by omega) (by omega) (by rw [← hT]; simp [sn_lf, c_1, c_2, c_3]) ls (lv_sub hl [0, 1, 2, 3] rfl)
          · refine lv_iload_n hx hb dN_lossFor_32 rfl (lv_at hl 0 rfl) ?_
            exact W.iret (v := f_lossOf i) hx hb hr (fun t ht hW => ⟨⟨f_lossOf i, rfl, (by rw [← hT]; simp [sn_lf, c_1, c_2, c_3])⟩, ht⟩) (fun _ h => absurd h List.not_mem_nil) dN_lossFor_33
  refine lv_iconst (v := 0) hx hb dN_lossFor_0 (by decide) ?_
  refine lv_istore_n (lv' := [(2, .int 0), (0, .ref h0), (1, .int hc)]) hx hb dN_lossFor_1 rfl hl (by decide) rfl (fun ls hl => ?_)
  refine lv_iconst (v := 1) hx hb dN_lossFor_2 (by decide) ?_
  refine lv_istore_n (lv' := [(3, .int 1), (2, .int 0), (0, .ref h0), (1, .int hc)]) hx hb dN_lossFor_3 rfl hl (by decide) rfl (fun ls hl => ?_)
  exact lp4 13 12 1 0 (by omega) (by omega) rfl ls (lv_sub hl [0, 1, 2, 3] rfl)
set_option maxHeartbeats 4000000 in
set_option maxRecDepth 100000 in
theorem cN_lineIsFree (l : Launch) (dC : Nat → ClassId) (dI : Nat → Nat → Nat) (h0 a_walls a_placeX a_placeY a_reachers a_lossOf a_upper a_length a_headsOn a_turn a_lack a_joined : Nat) (Wd Ht Pn : Nat) (rs old sc jc : Int32) (cZ : ClassId) (f_walls : Nat → Int32) (a b u v : Nat) (hW : Wd ≤ 16) (hH : Ht ≤ 16) (ha : a < 16) (hb0 : b < 16) (hu : u < 16) (hv0 : v < 16) : Met l yN_lineIsFree (kN_lineIsFree :: WD) { frames := 2, cells := 0, slots := 0, locals := 44 } (va_Pc [.ref h0, .int (nI a), .int (nI b), .int (nI u), .int (nI v)] (xw (dC, dI) snC [(h0, .inr (0, [.int (nI Wd), .int (nI Ht), .ref a_walls, .int rs, .ref a_placeX, .ref a_placeY, .int (nI Pn), .ref a_reachers, .int old, .ref a_lossOf, .int sc, .ref a_upper, .ref a_length, .ref a_headsOn, .ref a_turn, .ref a_lack, .ref a_joined, .int jc])), (a_walls, .inl (cZ, 256, .inl f_walls))] [(cZ, .boolean)])) (xr_Q (fun r => r = bz (sn_free Wd Ht f_walls a b u v))) 0 0 (fun _ => False) := by
  refine Met.ofW (cc := bN_lineIsFree) (maxL := 13) (ret := (some .boolean)) (by decide) rfl ?_
  intro p e s m args below meth c s₁ B hml hv
  obtain ⟨rfl, hP, hK⟩ := hv
  have hx := B.exec
  have hb := B.bytes
  have hr := B.returns
  have hts : ∀ w ∈ WD, w.before _ s = true := fun w h => atoms_spec (ws := kN_lineIsFree :: WD) B.pre w (List.mem_cons_of_mem _ h)
  have hown : s.vm.findClass R_N = some m.cls := findClass_of_methodNamed B.named
  have hlocks := B.notSynchronized
  have hl := lv_entry ([.ref h0, .int (nI a), .int (nI b), .int (nI u), .int (nI v)]) (n := 13) (Nat.le_of_ble_eq_true rfl)
  rw [lg_entry_eq]
  generalize (lg_sl ([.ref h0, .int (nI a), .int (nI b), .int (nI u), .int (nI v)]) ++ List.replicate (13 - (lg_sl ([.ref h0, .int (nI a), .int (nI b), .int (nI u), .int (nI v)])).length) Slot.unset).toArray = ls at hl ⊢
  have hl : lv_has ls 13 [(0, .ref h0), (1, .int (nI a)), (2, .int (nI b)), (3, .int (nI u)), (4, .int (nI v))] := hl
  have hA := nd_lt ha hu
  have hB := nd_lt hb0 hv0
  have hc0 := sn_free_eq Wd Ht f_walls a b u v
  have lp51 : ∀ (k n : Nat) (t i j : Nat) (sx sy : Int32), n < k → t + n = nd a u + nd b v + 1 → i ≤ t → j ≤ t → sn_sg a b u v sx sy → sn_line Wd Ht f_walls a b (nd a u) (nd b v) sx sy n i j = sn_line Wd Ht f_walls a b (nd a u) (nd b v) sx sy (nd a u + nd b v + 1) 0 0 → ∀ ls : Array Slot, lv_has ls 13 [(11, .int (nI t)), (9, .int (nI i)), (10, .int (nI j)), (7, .int sx), (8, .int sy), (5, .int (nI (nd a u))), (6, .int (nI (nd b v))), (0, .ref h0), (1, .int (nI a)), (2, .int (nI b))] → W p l e (headSpec (kN_lineIsFree :: WD) { frames := 2, cells := 0, slots := 0, locals := 44 }).room s m ([.ref h0, .int (nI a), .int (nI b), .int (nI u), .int (nI v)]).toArray below meth c s.heap [] 0 0 (MQ below (xr_Q (fun r => r = bz (sn_free Wd Ht f_walls a b u v))) ([.ref h0, .int (nI a), .int (nI b), .int (nI u), .int (nI v)]).toArray s 0 0 (fun _ => False)) (F0 m 51 ls []) := by
    intro k
    induction k with
    | zero => exact fun n _ _ _ _ _ h => absurd h (Nat.not_lt_zero n)
    | succ k ih =>
      intro n t i j sx sy hk hin hit hjt hsx hT ls hl
      refine lv_iload hx hb dN_lineIsFree_51 (lv_at hl 0 rfl) ?_
      refine lv_iload hx hb dN_lineIsFree_53 (lv_at hl 5 rfl) ?_
      refine lv_iload hx hb dN_lineIsFree_55 (lv_at hl 6 rfl) ?_
      refine lv_iadd hx hb dN_lineIsFree_57 ?_
      refine lv_icmp_gt (tgt := 143) hx hb dN_lineIsFree_58 (by decide) (fun c_1 => ?_) (fun c_1 => ?_)
      · rw [nI_add] at c_1
        have hz := (nI_ltI (by omega) (by omega)).mp c_1
        obtain rfl : n = 0 := by omega
        refine lv_iconst (v := 1) hx hb dN_lineIsFree_143 (by decide) ?_
        exact W.zret (v := 1) hx hb hr (by decide) (fun t ht hW => ⟨⟨1, rfl, (by rw [hc0, ← hsx.1, ← hsx.2, ← hT]; simp [bz, sn_line, c_1])⟩, ht⟩) (fun _ h => absurd h List.not_mem_nil) dN_lineIsFree_144
      · rw [nI_add] at c_1
        have hz : t ≤ nd a u + nd b v := by have h9 := mt (nI_ltI (by omega) (by omega)).mpr c_1; omega
        obtain ⟨n, rfl⟩ : ∃ n', n = n' + 1 := ⟨n - 1, by omega⟩
        refine lv_aload_n hx hb dN_lineIsFree_61 rfl (lv_at hl 7 rfl) ?_
        refine lv_iload_n hx hb dN_lineIsFree_62 rfl (lv_at hl 8 rfl) ?_
        refine lv_iload hx hb dN_lineIsFree_63 (lv_at hl 1 rfl) ?_
        refine lv_iload hx hb dN_lineIsFree_65 (lv_at hl 3 rfl) ?_
        refine lv_imul hx hb dN_lineIsFree_67 ?_
        refine lv_iadd hx hb dN_lineIsFree_68 ?_
        refine lv_iload_n hx hb dN_lineIsFree_69 rfl (lv_at hl 9 rfl) ?_
        refine lv_iload hx hb dN_lineIsFree_70 (lv_at hl 2 rfl) ?_
        refine lv_iload hx hb dN_lineIsFree_72 (lv_at hl 4 rfl) ?_
        refine lv_imul hx hb dN_lineIsFree_74 ?_
        refine lv_iadd hx hb dN_lineIsFree_75 ?_
        refine xr_V (As := [.int ((nI a) + ((nI i) * sx)), .int ((nI b) + ((nI j) * sy))]) ⟨hx, hb, hml, hown, hts⟩ (cN_isWall l dC dI h0 a_walls a_placeX a_placeY a_reachers a_lossOf a_upper a_length a_headsOn a_turn a_lack a_joined Wd Ht Pn rs old sc jc cZ f_walls ((nI a) + ((nI i) * sx)) ((nI b) + ((nI j) * sy)) hW hH) (cwV 2 hts gN86 rfl rfl rfl (by decide +kernel) ⟨Nat.le_of_ble_eq_true rfl, Nat.le_of_ble_eq_true rfl⟩) hK hP [0, 1] [0] rfl rfl 0 0 rfl rfl rfl rfl hl.1 rfl (Nat.le_of_ble_eq_true rfl) dN_lineIsFree_76 ⟨Nat.zero_le _, Nat.zero_le _⟩ (fun r_2 hr_2 => ?_)
        subst hr_2
        refine lv_if_eq (tgt := 84) hx hb dN_lineIsFree_79 (by decide) (fun c_3 => ?_) (fun c_3 => ?_)
        · replace c_3 := bz_0 c_3
          have hw0 := c_3
          refine lv_iload hx hb dN_lineIsFree_84 (lv_at hl 1 rfl) ?_
          refine lv_iload hx hb dN_lineIsFree_86 (lv_at hl 5 rfl) ?_
          refine lv_icmp_ne (tgt := 100) hx hb dN_lineIsFree_88 (by decide) (fun c_4 => ?_) (fun c_4 => ?_)
          · rw [nI_eq (by omega) (by omega)] at c_4
            have hne : ¬ (i = nd a u ∧ j = nd b v) := fun h => c_4 h.1
            refine lv_iconst (v := 2) hx hb dN_lineIsFree_100 (by decide) ?_
            refine lv_iload hx hb dN_lineIsFree_101 (lv_at hl 1 rfl) ?_
            refine lv_imul hx hb dN_lineIsFree_103 ?_
            refine lv_iconst (v := 1) hx hb dN_lineIsFree_104 (by decide) ?_
            refine lv_iadd hx hb dN_lineIsFree_105 ?_
            refine lv_iload hx hb dN_lineIsFree_106 (lv_at hl 6 rfl) ?_
            refine lv_imul hx hb dN_lineIsFree_108 ?_
            refine lv_iconst (v := 2) hx hb dN_lineIsFree_109 (by decide) ?_
            refine lv_iload hx hb dN_lineIsFree_110 (lv_at hl 2 rfl) ?_
            refine lv_imul hx hb dN_lineIsFree_112 ?_
            refine lv_iconst (v := 1) hx hb dN_lineIsFree_113 (by decide) ?_
            refine lv_iadd hx hb dN_lineIsFree_114 ?_
            refine lv_iload hx hb dN_lineIsFree_115 (lv_at hl 5 rfl) ?_
            refine lv_imul hx hb dN_lineIsFree_117 ?_
            refine lv_isub hx hb dN_lineIsFree_118 ?_
            rw [show ((((2 * (nI i)) + 1) * (nI (nd b v))) - (((2 * (nI j)) + 1) * (nI (nd a u))) : Int32) = nI ((2 * i + 1) * nd b v) - nI ((2 * j + 1) * nd a u) from sn_up i j (nd a u) (nd b v)]
            refine lv_istore (lv' := [(12, .int (nI ((2 * i + 1) * nd b v) - nI ((2 * j + 1) * nd a u))), (11, .int (nI t)), (9, .int (nI i)), (10, .int (nI j)), (7, .int sx), (8, .int sy), (5, .int (nI (nd a u))), (6, .int (nI (nd b v))), (0, .ref h0), (1, .int (nI a)), (2, .int (nI b))]) hx hb dN_lineIsFree_119 hl (by decide) rfl (fun ls hl => ?_)
            refine lv_iload hx hb dN_lineIsFree_121 (lv_at hl 0 rfl) ?_
            refine lv_if_gt (tgt := 129) hx hb dN_lineIsFree_123 (by decide) (fun c_5 => ?_) (fun c_5 => ?_)
            · rw [sn_upgt (sn_p31 hit hB) (sn_p31 hjt hA)] at c_5
              refine lv_iload hx hb dN_lineIsFree_129 (lv_at hl 0 rfl) ?_
              refine lv_if_lt (tgt := 137) hx hb dN_lineIsFree_131 (by decide) (fun c_6 => ?_) (fun c_6 => ?_)
              · rw [sn_uplt (sn_p31 hit hB) (sn_p31 hjt hA)] at c_6
                refine lv_iinc (v := (nI (t + 1))) (lv' := [(11, .int (nI (t + 1))), (12, .int (nI ((2 * i + 1) * nd b v) - nI ((2 * j + 1) * nd a u))), (9, .int (nI i)), (10, .int (nI j)), (7, .int sx), (8, .int sy), (5, .int (nI (nd a u))), (6, .int (nI (nd b v))), (0, .ref h0), (1, .int (nI a)), (2, .int (nI b))]) hx hb dN_lineIsFree_137 hl (k := 1) rfl (nI_1 t) (by decide) rfl (fun ls hl => ?_)
                refine lv_goto (tgt := 51) hx hb dN_lineIsFree_140 (by decide) ?_
                exact ih n (t + 1) i j sx sy (by omega) (by omega) (by omega) (by omega) hsx (by rw [← hT, sn_line_step hw0 hne]; simp [c_5, c_6]) ls (lv_sub hl [0, 2, 3, 4, 5, 6, 7, 8, 9, 10] rfl)
              · rw [sn_uplt (sn_p31 hit hB) (sn_p31 hjt hA)] at c_6
                refine lv_iinc (v := (nI (j + 1))) (lv' := [(10, .int (nI (j + 1))), (12, .int (nI ((2 * i + 1) * nd b v) - nI ((2 * j + 1) * nd a u))), (11, .int (nI t)), (9, .int (nI i)), (7, .int sx), (8, .int sy), (5, .int (nI (nd a u))), (6, .int (nI (nd b v))), (0, .ref h0), (1, .int (nI a)), (2, .int (nI b))]) hx hb dN_lineIsFree_134 hl (k := 3) rfl (nI_1 j) (by decide) rfl (fun ls hl => ?_)
                refine lv_iinc (v := (nI (t + 1))) (lv' := [(11, .int (nI (t + 1))), (10, .int (nI (j + 1))), (12, .int (nI ((2 * i + 1) * nd b v) - nI ((2 * j + 1) * nd a u))), (9, .int (nI i)), (7, .int sx), (8, .int sy), (5, .int (nI (nd a u))), (6, .int (nI (nd b v))), (0, .ref h0), (1, .int (nI a)), (2, .int (nI b))]) hx hb dN_lineIsFree_137 hl (k := 2) rfl (nI_1 t) (by decide) rfl (fun ls hl => ?_)
                refine lv_goto (tgt := 51) hx hb dN_lineIsFree_140 (by decide) ?_
                exact ih n (t + 1) i (j + 1) sx sy (by omega) (by omega) (by omega) (by omega) hsx (by rw [← hT, sn_line_step hw0 hne]; simp [c_5, c_6]) ls (lv_sub hl [0, 3, 1, 4, 5, 6, 7, 8, 9, 10] rfl)
            · rw [sn_upgt (sn_p31 hit hB) (sn_p31 hjt hA)] at c_5
              refine lv_iinc (v := (nI (i + 1))) (lv' := [(9, .int (nI (i + 1))), (12, .int (nI ((2 * i + 1) * nd b v) - nI ((2 * j + 1) * nd a u))), (11, .int (nI t)), (10, .int (nI j)), (7, .int sx), (8, .int sy), (5, .int (nI (nd a u))), (6, .int (nI (nd b v))), (0, .ref h0), (1, .int (nI a)), (2, .int (nI b))]) hx hb dN_lineIsFree_126 hl (k := 2) rfl (nI_1 i) (by decide) rfl (fun ls hl => ?_)
              refine lv_iload hx hb dN_lineIsFree_129 (lv_at hl 1 rfl) ?_
              refine lv_if_lt (tgt := 137) hx hb dN_lineIsFree_131 (by decide) (fun c_7 => ?_) (fun c_7 => ?_)
              · rw [sn_uplt (sn_p31 hit hB) (sn_p31 hjt hA)] at c_7
                refine lv_iinc (v := (nI (t + 1))) (lv' := [(11, .int (nI (t + 1))), (9, .int (nI (i + 1))), (12, .int (nI ((2 * i + 1) * nd b v) - nI ((2 * j + 1) * nd a u))), (10, .int (nI j)), (7, .int sx), (8, .int sy), (5, .int (nI (nd a u))), (6, .int (nI (nd b v))), (0, .ref h0), (1, .int (nI a)), (2, .int (nI b))]) hx hb dN_lineIsFree_137 hl (k := 2) rfl (nI_1 t) (by decide) rfl (fun ls hl => ?_)
                refine lv_goto (tgt := 51) hx hb dN_lineIsFree_140 (by decide) ?_
                exact ih n (t + 1) (i + 1) j sx sy (by omega) (by omega) (by omega) (by omega) hsx (by rw [← hT, sn_line_step hw0 hne]; simp [c_5, c_7]) ls (lv_sub hl [0, 1, 3, 4, 5, 6, 7, 8, 9, 10] rfl)
              · rw [sn_uplt (sn_p31 hit hB) (sn_p31 hjt hA)] at c_7
                refine lv_iinc (v := (nI (j + 1))) (lv' := [(10, .int (nI (j + 1))), (9, .int (nI (i + 1))), (12, .int (nI ((2 * i + 1) * nd b v) - nI ((2 * j + 1) * nd a u))), (11, .int (nI t)), (7, .int sx), (8, .int sy), (5, .int (nI (nd a u))), (6, .int (nI (nd b v))), (0, .ref h0), (1, .int (nI a)), (2, .int (nI b))]) hx hb dN_lineIsFree_134 hl (k := 3) rfl (nI_1 j) (by decide) rfl (fun ls hl => ?_)
                refine lv_iinc (v := (nI (t + 1))) (lv' := [(11, .int (nI (t + 1))), (10, .int (nI (j + 1))), (9, .int (nI (i + 1))), (12, .int (nI ((2 * i + 1) * nd b v) - nI ((2 * j + 1) * nd a u))), (7, .int sx), (8, .int sy), (5, .int (nI (nd a u))), (6, .int (nI (nd b v))), (0, .ref h0), (1, .int (nI a)), (2, .int (nI b))]) hx hb dN_lineIsFree_137 hl (k := 3) rfl (nI_1 t) (by decide) rfl (fun ls hl => ?_)
                refine lv_goto (tgt := 51) hx hb dN_lineIsFree_140 (by decide) ?_
                exact ih n (t + 1) (i + 1) (j + 1) sx sy (by omega) (by omega) (by omega) (by omega) hsx (by rw [← hT, sn_line_step hw0 hne]; simp [c_5, c_7]) ls (lv_sub hl [0, 2, 1, 4, 5, 6, 7, 8, 9, 10] rfl)
          · rw [nI_eq (by omega) (by omega)] at c_4
            refine lv_iload hx hb dN_lineIsFree_91 (lv_at hl 2 rfl) ?_
            refine lv_iload hx hb dN_lineIsFree_93 (lv_at hl 6 rfl) ?_
            refine lv_icmp_ne (tgt := 100) hx hb dN_lineIsFree_95 (by decide) (fun c_8 => ?_) (fun c_8 => ?_)
            · rw [nI_eq (by omega) (by omega)] at c_8
              have hne : ¬ (i = nd a u ∧ j = nd b v) := fun h => c_8 h.2
              refine lv_iconst (v := 2) hx hb dN_lineIsFree_100 (by decide) ?_
              refine lv_iload hx hb dN_lineIsFree_101 (lv_at hl 1 rfl) ?_
              refine lv_imul hx hb dN_lineIsFree_103 ?_
              refine lv_iconst (v := 1) hx hb dN_lineIsFree_104 (by decide) ?_
              refine lv_iadd hx hb dN_lineIsFree_105 ?_
              refine lv_iload hx hb dN_lineIsFree_106 (lv_at hl 6 rfl) ?_
              refine lv_imul hx hb dN_lineIsFree_108 ?_
              refine lv_iconst (v := 2) hx hb dN_lineIsFree_109 (by decide) ?_
              refine lv_iload hx hb dN_lineIsFree_110 (lv_at hl 2 rfl) ?_
              refine lv_imul hx hb dN_lineIsFree_112 ?_
              refine lv_iconst (v := 1) hx hb dN_lineIsFree_113 (by decide) ?_
              refine lv_iadd hx hb dN_lineIsFree_114 ?_
              refine lv_iload hx hb dN_lineIsFree_115 (lv_at hl 5 rfl) ?_
              refine lv_imul hx hb dN_lineIsFree_117 ?_
              refine lv_isub hx hb dN_lineIsFree_118 ?_
              rw [show ((((2 * (nI i)) + 1) * (nI (nd b v))) - (((2 * (nI j)) + 1) * (nI (nd a u))) : Int32) = nI ((2 * i + 1) * nd b v) - nI ((2 * j + 1) * nd a u) from sn_up i j (nd a u) (nd b v)]
              refine lv_istore (lv' := [(12, .int (nI ((2 * i + 1) * nd b v) - nI ((2 * j + 1) * nd a u))), (11, .int (nI t)), (9, .int (nI i)), (10, .int (nI j)), (7, .int sx), (8, .int sy), (5, .int (nI (nd a u))), (6, .int (nI (nd b v))), (0, .ref h0), (1, .int (nI a)), (2, .int (nI b))]) hx hb dN_lineIsFree_119 hl (by decide) rfl (fun ls hl => ?_)
              refine lv_iload hx hb dN_lineIsFree_121 (lv_at hl 0 rfl) ?_
              refine lv_if_gt (tgt := 129) hx hb dN_lineIsFree_123 (by decide) (fun c_9 => ?_) (fun c_9 => ?_)
              · rw [sn_upgt (sn_p31 hit hB) (sn_p31 hjt hA)] at c_9
                refine lv_iload hx hb dN_lineIsFree_129 (lv_at hl 0 rfl) ?_
                refine lv_if_lt (tgt := 137) hx hb dN_lineIsFree_131 (by decide) (fun c_10 => ?_) (fun c_10 => ?_)
                · rw [sn_uplt (sn_p31 hit hB) (sn_p31 hjt hA)] at c_10
                  refine lv_iinc (v := (nI (t + 1))) (lv' := [(11, .int (nI (t + 1))), (12, .int (nI ((2 * i + 1) * nd b v) - nI ((2 * j + 1) * nd a u))), (9, .int (nI i)), (10, .int (nI j)), (7, .int sx), (8, .int sy), (5, .int (nI (nd a u))), (6, .int (nI (nd b v))), (0, .ref h0), (1, .int (nI a)), (2, .int (nI b))]) hx hb dN_lineIsFree_137 hl (k := 1) rfl (nI_1 t) (by decide) rfl (fun ls hl => ?_)
                  refine lv_goto (tgt := 51) hx hb dN_lineIsFree_140 (by decide) ?_
                  exact ih n (t + 1) i j sx sy (by omega) (by omega) (by omega) (by omega) hsx (by rw [← hT, sn_line_step hw0 hne]; simp [c_9, c_10]) ls (lv_sub hl [0, 2, 3, 4, 5, 6, 7, 8, 9, 10] rfl)
                · rw [sn_uplt (sn_p31 hit hB) (sn_p31 hjt hA)] at c_10
                  refine lv_iinc (v := (nI (j + 1))) (lv' := [(10, .int (nI (j + 1))), (12, .int (nI ((2 * i + 1) * nd b v) - nI ((2 * j + 1) * nd a u))), (11, .int (nI t)), (9, .int (nI i)), (7, .int sx), (8, .int sy), (5, .int (nI (nd a u))), (6, .int (nI (nd b v))), (0, .ref h0), (1, .int (nI a)), (2, .int (nI b))]) hx hb dN_lineIsFree_134 hl (k := 3) rfl (nI_1 j) (by decide) rfl (fun ls hl => ?_)
                  refine lv_iinc (v := (nI (t + 1))) (lv' := [(11, .int (nI (t + 1))), (10, .int (nI (j + 1))), (12, .int (nI ((2 * i + 1) * nd b v) - nI ((2 * j + 1) * nd a u))), (9, .int (nI i)), (7, .int sx), (8, .int sy), (5, .int (nI (nd a u))), (6, .int (nI (nd b v))), (0, .ref h0), (1, .int (nI a)), (2, .int (nI b))]) hx hb dN_lineIsFree_137 hl (k := 2) rfl (nI_1 t) (by decide) rfl (fun ls hl => ?_)
                  refine lv_goto (tgt := 51) hx hb dN_lineIsFree_140 (by decide) ?_
                  exact ih n (t + 1) i (j + 1) sx sy (by omega) (by omega) (by omega) (by omega) hsx (by rw [← hT, sn_line_step hw0 hne]; simp [c_9, c_10]) ls (lv_sub hl [0, 3, 1, 4, 5, 6, 7, 8, 9, 10] rfl)
              · rw [sn_upgt (sn_p31 hit hB) (sn_p31 hjt hA)] at c_9
                refine lv_iinc (v := (nI (i + 1))) (lv' := [(9, .int (nI (i + 1))), (12, .int (nI ((2 * i + 1) * nd b v) - nI ((2 * j + 1) * nd a u))), (11, .int (nI t)), (10, .int (nI j)), (7, .int sx), (8, .int sy), (5, .int (nI (nd a u))), (6, .int (nI (nd b v))), (0, .ref h0), (1, .int (nI a)), (2, .int (nI b))]) hx hb dN_lineIsFree_126 hl (k := 2) rfl (nI_1 i) (by decide) rfl (fun ls hl => ?_)
                refine lv_iload hx hb dN_lineIsFree_129 (lv_at hl 1 rfl) ?_
                refine lv_if_lt (tgt := 137) hx hb dN_lineIsFree_131 (by decide) (fun c_11 => ?_) (fun c_11 => ?_)
                · rw [sn_uplt (sn_p31 hit hB) (sn_p31 hjt hA)] at c_11
                  refine lv_iinc (v := (nI (t + 1))) (lv' := [(11, .int (nI (t + 1))), (9, .int (nI (i + 1))), (12, .int (nI ((2 * i + 1) * nd b v) - nI ((2 * j + 1) * nd a u))), (10, .int (nI j)), (7, .int sx), (8, .int sy), (5, .int (nI (nd a u))), (6, .int (nI (nd b v))), (0, .ref h0), (1, .int (nI a)), (2, .int (nI b))]) hx hb dN_lineIsFree_137 hl (k := 2) rfl (nI_1 t) (by decide) rfl (fun ls hl => ?_)
                  refine lv_goto (tgt := 51) hx hb dN_lineIsFree_140 (by decide) ?_
                  exact ih n (t + 1) (i + 1) j sx sy (by omega) (by omega) (by omega) (by omega) hsx (by rw [← hT, sn_line_step hw0 hne]; simp [c_9, c_11]) ls (lv_sub hl [0, 1, 3, 4, 5, 6, 7, 8, 9, 10] rfl)
                · rw [sn_uplt (sn_p31 hit hB) (sn_p31 hjt hA)] at c_11
                  refine lv_iinc (v := (nI (j + 1))) (lv' := [(10, .int (nI (j + 1))), (9, .int (nI (i + 1))), (12, .int (nI ((2 * i + 1) * nd b v) - nI ((2 * j + 1) * nd a u))), (11, .int (nI t)), (7, .int sx), (8, .int sy), (5, .int (nI (nd a u))), (6, .int (nI (nd b v))), (0, .ref h0), (1, .int (nI a)), (2, .int (nI b))]) hx hb dN_lineIsFree_134 hl (k := 3) rfl (nI_1 j) (by decide) rfl (fun ls hl => ?_)
                  refine lv_iinc (v := (nI (t + 1))) (lv' := [(11, .int (nI (t + 1))), (10, .int (nI (j + 1))), (9, .int (nI (i + 1))), (12, .int (nI ((2 * i + 1) * nd b v) - nI ((2 * j + 1) * nd a u))), (7, .int sx), (8, .int sy), (5, .int (nI (nd a u))), (6, .int (nI (nd b v))), (0, .ref h0), (1, .int (nI a)), (2, .int (nI b))]) hx hb dN_lineIsFree_137 hl (k := 3) rfl (nI_1 t) (by decide) rfl (fun ls hl => ?_)
                  refine lv_goto (tgt := 51) hx hb dN_lineIsFree_140 (by decide) ?_
                  exact ih n (t + 1) (i + 1) (j + 1) sx sy (by omega) (by omega) (by omega) (by omega) hsx (by rw [← hT, sn_line_step hw0 hne]; simp [c_9, c_11]) ls (lv_sub hl [0, 2, 1, 4, 5, 6, 7, 8, 9, 10] rfl)
            · rw [nI_eq (by omega) (by omega)] at c_8
              have hend : i = nd a u ∧ j = nd b v := ⟨by assumption, c_8⟩
              refine lv_iconst (v := 1) hx hb dN_lineIsFree_98 (by decide) ?_
              exact W.zret (v := 1) hx hb hr (by decide) (fun t ht hW => ⟨⟨1, rfl, (by rw [hc0, ← hsx.1, ← hsx.2, ← hT, sn_line_end hw0 hend]; rfl)⟩, ht⟩) (fun _ h => absurd h List.not_mem_nil) dN_lineIsFree_99
        · replace c_3 := bz_1 c_3
          refine lv_iconst (v := 0) hx hb dN_lineIsFree_82 (by decide) ?_
          exact W.zret (v := 0) hx hb hr (by decide) (fun t ht hW => ⟨⟨0, rfl, (by rw [hc0, ← hsx.1, ← hsx.2, ← hT]; simp [bz, sn_line, c_1, c_3])⟩, ht⟩) (fun _ h => absurd h List.not_mem_nil) dN_lineIsFree_83
  refine lv_iload_n hx hb dN_lineIsFree_0 rfl (lv_at hl 3 rfl) ?_
  refine lv_iload_n hx hb dN_lineIsFree_1 rfl (lv_at hl 1 rfl) ?_
  refine lv_isub hx hb dN_lineIsFree_2 ?_
  refine va_mabs hx hb (hml.trans hl.1.symm) hown (hts _ mlN168) (hts _ smH_abs) (hts _ iniH) (hts _ kwH_abs) (Nat.le_of_ble_eq_true rfl) (Nat.le_of_ble_eq_true rfl) (Nat.zero_le _) (Nat.zero_le _) dN_lineIsFree_3 ?_
  rw [show (if 0 ≤ ((nI u) - (nI a)) then ((nI u) - (nI a)) else 0 - ((nI u) - (nI a)) : Int32) = nI (nd a u) from sn_abs ha hu]
  refine lv_istore (lv' := [(5, .int (nI (nd a u))), (0, .ref h0), (1, .int (nI a)), (2, .int (nI b)), (3, .int (nI u)), (4, .int (nI v))]) hx hb dN_lineIsFree_6 hl (by decide) rfl (fun ls hl => ?_)
  refine lv_iload hx hb dN_lineIsFree_8 (lv_at hl 5 rfl) ?_
  refine lv_iload_n hx hb dN_lineIsFree_10 rfl (lv_at hl 3 rfl) ?_
  refine lv_isub hx hb dN_lineIsFree_11 ?_
  refine va_mabs hx hb (hml.trans hl.1.symm) hown (hts _ mlN168) (hts _ smH_abs) (hts _ iniH) (hts _ kwH_abs) (Nat.le_of_ble_eq_true rfl) (Nat.le_of_ble_eq_true rfl) (Nat.zero_le _) (Nat.zero_le _) dN_lineIsFree_12 ?_
  rw [show (if 0 ≤ ((nI v) - (nI b)) then ((nI v) - (nI b)) else 0 - ((nI v) - (nI b)) : Int32) = nI (nd b v) from sn_abs hb0 hv0]
  refine lv_istore (lv' := [(6, .int (nI (nd b v))), (5, .int (nI (nd a u))), (0, .ref h0), (1, .int (nI a)), (2, .int (nI b)), (3, .int (nI u)), (4, .int (nI v))]) hx hb dN_lineIsFree_15 hl (by decide) rfl (fun ls hl => ?_)
  refine lv_iload_n hx hb dN_lineIsFree_17 rfl (lv_at hl 5 rfl) ?_
  refine lv_iload_n hx hb dN_lineIsFree_18 rfl (lv_at hl 3 rfl) ?_
  refine lv_icmp_ge (tgt := 26) hx hb dN_lineIsFree_19 (by decide) (fun c_1 => ?_) (fun c_1 => ?_)
  · rw [nI_leI (by omega) (by omega)] at c_1
    refine lv_iconst (v := 1) hx hb dN_lineIsFree_26 (by decide) ?_
    refine lv_istore (lv' := [(7, .int 1), (6, .int (nI (nd b v))), (5, .int (nI (nd a u))), (0, .ref h0), (1, .int (nI a)), (2, .int (nI b)), (3, .int (nI u)), (4, .int (nI v))]) hx hb dN_lineIsFree_27 hl (by decide) rfl (fun ls hl => ?_)
    refine lv_iload hx hb dN_lineIsFree_29 (lv_at hl 7 rfl) ?_
    refine lv_iload_n hx hb dN_lineIsFree_31 rfl (lv_at hl 5 rfl) ?_
    refine lv_icmp_ge (tgt := 39) hx hb dN_lineIsFree_32 (by decide) (fun c_2 => ?_) (fun c_2 => ?_)
    · rw [nI_leI (by omega) (by omega)] at c_2
      refine lv_iconst (v := 1) hx hb dN_lineIsFree_39 (by decide) ?_
      refine lv_istore (lv' := [(8, .int 1), (7, .int 1), (6, .int (nI (nd b v))), (5, .int (nI (nd a u))), (0, .ref h0), (1, .int (nI a)), (2, .int (nI b)), (3, .int (nI u)), (4, .int (nI v))]) hx hb dN_lineIsFree_40 hl (by decide) rfl (fun ls hl => ?_)
      refine lv_iconst (v := 0) hx hb dN_lineIsFree_42 (by decide) ?_
      refine lv_istore (lv' := [(9, .int 0), (8, .int 1), (7, .int 1), (6, .int (nI (nd b v))), (5, .int (nI (nd a u))), (0, .ref h0), (1, .int (nI a)), (2, .int (nI b)), (3, .int (nI u)), (4, .int (nI v))]) hx hb dN_lineIsFree_43 hl (by decide) rfl (fun ls hl => ?_)
      refine lv_iconst (v := 0) hx hb dN_lineIsFree_45 (by decide) ?_
      refine lv_istore (lv' := [(10, .int 0), (9, .int 0), (8, .int 1), (7, .int 1), (6, .int (nI (nd b v))), (5, .int (nI (nd a u))), (0, .ref h0), (1, .int (nI a)), (2, .int (nI b)), (3, .int (nI u)), (4, .int (nI v))]) hx hb dN_lineIsFree_46 hl (by decide) rfl (fun ls hl => ?_)
      refine lv_iconst (v := 0) hx hb dN_lineIsFree_48 (by decide) ?_
      refine lv_istore (lv' := [(11, .int 0), (10, .int 0), (9, .int 0), (8, .int 1), (7, .int 1), (6, .int (nI (nd b v))), (5, .int (nI (nd a u))), (0, .ref h0), (1, .int (nI a)), (2, .int (nI b)), (3, .int (nI u)), (4, .int (nI v))]) hx hb dN_lineIsFree_49 hl (by decide) rfl (fun ls hl => ?_)
      exact lp51 (nd a u + nd b v + 2) (nd a u + nd b v + 1) 0 0 0 1 1 (by omega) (by omega) (by omega) (by omega) (by simp [sn_sg, sgn, c_1, c_2]) rfl ls (lv_sub hl [0, 2, 1, 4, 3, 6, 5, 7, 8, 9] rfl)
    · rw [nI_leI (by omega) (by omega)] at c_2
      refine lv_iconst (v := (-1)) hx hb dN_lineIsFree_35 (by decide) ?_
      refine lv_goto (tgt := 40) hx hb dN_lineIsFree_36 (by decide) ?_
      refine lv_istore (lv' := [(8, .int (-1)), (7, .int 1), (6, .int (nI (nd b v))), (5, .int (nI (nd a u))), (0, .ref h0), (1, .int (nI a)), (2, .int (nI b)), (3, .int (nI u)), (4, .int (nI v))]) hx hb dN_lineIsFree_40 hl (by decide) rfl (fun ls hl => ?_)
      refine lv_iconst (v := 0) hx hb dN_lineIsFree_42 (by decide) ?_
      refine lv_istore (lv' := [(9, .int 0), (8, .int (-1)), (7, .int 1), (6, .int (nI (nd b v))), (5, .int (nI (nd a u))), (0, .ref h0), (1, .int (nI a)), (2, .int (nI b)), (3, .int (nI u)), (4, .int (nI v))]) hx hb dN_lineIsFree_43 hl (by decide) rfl (fun ls hl => ?_)
      refine lv_iconst (v := 0) hx hb dN_lineIsFree_45 (by decide) ?_
      refine lv_istore (lv' := [(10, .int 0), (9, .int 0), (8, .int (-1)), (7, .int 1), (6, .int (nI (nd b v))), (5, .int (nI (nd a u))), (0, .ref h0), (1, .int (nI a)), (2, .int (nI b)), (3, .int (nI u)), (4, .int (nI v))]) hx hb dN_lineIsFree_46 hl (by decide) rfl (fun ls hl => ?_)
      refine lv_iconst (v := 0) hx hb dN_lineIsFree_48 (by decide) ?_
      refine lv_istore (lv' := [(11, .int 0), (10, .int 0), (9, .int 0), (8, .int (-1)), (7, .int 1), (6, .int (nI (nd b v))), (5, .int (nI (nd a u))), (0, .ref h0), (1, .int (nI a)), (2, .int (nI b)), (3, .int (nI u)), (4, .int (nI v))]) hx hb dN_lineIsFree_49 hl (by decide) rfl (fun ls hl => ?_)
      exact lp51 (nd a u + nd b v + 2) (nd a u + nd b v + 1) 0 0 0 1 (-1) (by omega) (by omega) (by omega) (by omega) (by simp [sn_sg, sgn, c_1, c_2]) rfl ls (lv_sub hl [0, 2, 1, 4, 3, 6, 5, 7, 8, 9] rfl)
  · rw [nI_leI (by omega) (by omega)] at c_1
    refine lv_iconst (v := (-1)) hx hb dN_lineIsFree_22 (by decide) ?_
    refine lv_goto (tgt := 27) hx hb dN_lineIsFree_23 (by decide) ?_
    refine lv_istore (lv' := [(7, .int (-1)), (6, .int (nI (nd b v))), (5, .int (nI (nd a u))), (0, .ref h0), (1, .int (nI a)), (2, .int (nI b)), (3, .int (nI u)), (4, .int (nI v))]) hx hb dN_lineIsFree_27 hl (by decide) rfl (fun ls hl => ?_)
    refine lv_iload hx hb dN_lineIsFree_29 (lv_at hl 7 rfl) ?_
    refine lv_iload_n hx hb dN_lineIsFree_31 rfl (lv_at hl 5 rfl) ?_
    refine lv_icmp_ge (tgt := 39) hx hb dN_lineIsFree_32 (by decide) (fun c_3 => ?_) (fun c_3 => ?_)
    · rw [nI_leI (by omega) (by omega)] at c_3
      refine lv_iconst (v := 1) hx hb dN_lineIsFree_39 (by decide) ?_
      refine lv_istore (lv' := [(8, .int 1), (7, .int (-1)), (6, .int (nI (nd b v))), (5, .int (nI (nd a u))), (0, .ref h0), (1, .int (nI a)), (2, .int (nI b)), (3, .int (nI u)), (4, .int (nI v))]) hx hb dN_lineIsFree_40 hl (by decide) rfl (fun ls hl => ?_)
      refine lv_iconst (v := 0) hx hb dN_lineIsFree_42 (by decide) ?_
      refine lv_istore (lv' := [(9, .int 0), (8, .int 1), (7, .int (-1)), (6, .int (nI (nd b v))), (5, .int (nI (nd a u))), (0, .ref h0), (1, .int (nI a)), (2, .int (nI b)), (3, .int (nI u)), (4, .int (nI v))]) hx hb dN_lineIsFree_43 hl (by decide) rfl (fun ls hl => ?_)
      refine lv_iconst (v := 0) hx hb dN_lineIsFree_45 (by decide) ?_
      refine lv_istore (lv' := [(10, .int 0), (9, .int 0), (8, .int 1), (7, .int (-1)), (6, .int (nI (nd b v))), (5, .int (nI (nd a u))), (0, .ref h0), (1, .int (nI a)), (2, .int (nI b)), (3, .int (nI u)), (4, .int (nI v))]) hx hb dN_lineIsFree_46 hl (by decide) rfl (fun ls hl => ?_)
      refine lv_iconst (v := 0) hx hb dN_lineIsFree_48 (by decide) ?_
      refine lv_istore (lv' := [(11, .int 0), (10, .int 0), (9, .int 0), (8, .int 1), (7, .int (-1)), (6, .int (nI (nd b v))), (5, .int (nI (nd a u))), (0, .ref h0), (1, .int (nI a)), (2, .int (nI b)), (3, .int (nI u)), (4, .int (nI v))]) hx hb dN_lineIsFree_49 hl (by decide) rfl (fun ls hl => ?_)
      exact lp51 (nd a u + nd b v + 2) (nd a u + nd b v + 1) 0 0 0 (-1) 1 (by omega) (by omega) (by omega) (by omega) (by simp [sn_sg, sgn, c_1, c_3]) rfl ls (lv_sub hl [0, 2, 1, 4, 3, 6, 5, 7, 8, 9] rfl)
    · rw [nI_leI (by omega) (by omega)] at c_3
      refine lv_iconst (v := (-1)) hx hb dN_lineIsFree_35 (by decide) ?_
      refine lv_goto (tgt := 40) hx hb dN_lineIsFree_36 (by decide) ?_
      refine lv_istore (lv' := [(8, .int (-1)), (7, .int (-1)), (6, .int (nI (nd b v))), (5, .int (nI (nd a u))), (0, .ref h0), (1, .int (nI a)), (2, .int (nI b)), (3, .int (nI u)), (4, .int (nI v))]) hx hb dN_lineIsFree_40 hl (by decide) rfl (fun ls hl => ?_)
      refine lv_iconst (v := 0) hx hb dN_lineIsFree_42 (by decide) ?_
      refine lv_istore (lv' := [(9, .int 0), (8, .int (-1)), (7, .int (-1)), (6, .int (nI (nd b v))), (5, .int (nI (nd a u))), (0, .ref h0), (1, .int (nI a)), (2, .int (nI b)), (3, .int (nI u)), (4, .int (nI v))]) hx hb dN_lineIsFree_43 hl (by decide) rfl (fun ls hl => ?_)
      refine lv_iconst (v := 0) hx hb dN_lineIsFree_45 (by decide) ?_
      refine lv_istore (lv' := [(10, .int 0), (9, .int 0), (8, .int (-1)), (7, .int (-1)), (6, .int (nI (nd b v))), (5, .int (nI (nd a u))), (0, .ref h0), (1, .int (nI a)), (2, .int (nI b)), (3, .int (nI u)), (4, .int (nI v))]) hx hb dN_lineIsFree_46 hl (by decide) rfl (fun ls hl => ?_)
      refine lv_iconst (v := 0) hx hb dN_lineIsFree_48 (by decide) ?_
      refine lv_istore (lv' := [(11, .int 0), (10, .int 0), (9, .int 0), (8, .int (-1)), (7, .int (-1)), (6, .int (nI (nd b v))), (5, .int (nI (nd a u))), (0, .ref h0), (1, .int (nI a)), (2, .int (nI b)), (3, .int (nI u)), (4, .int (nI v))]) hx hb dN_lineIsFree_49 hl (by decide) rfl (fun ls hl => ?_)
      exact lp51 (nd a u + nd b v + 2) (nd a u + nd b v + 1) 0 0 0 (-1) (-1) (by omega) (by omega) (by omega) (by omega) (by simp [sn_sg, sgn, c_1, c_3]) rfl ls (lv_sub hl [0, 2, 1, 4, 3, 6, 5, 7, 8, 9] rfl)
