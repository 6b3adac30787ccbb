def md_set (Pn : Nat) (x : Int32) : Bool := !decide (x < 0) && decide (x >>> (nI Pn &&& 31) = 0)
def md_free (g : Nat → Int32) (a b : Nat) : Bool := decide (g (b * 16 + a) = 0)
theorem md_cell (a b : Nat) : 16 * nI b + nI a = nI (b * 16 + a) := by
  rw [show (16 : Int32) = nI 16 from rfl, pk_mul, nI_add, Nat.mul_comm]
def md_least (x y : Int32) : Int32 := if y ≤ x then y else x
def md_most (x y : Int32) : Int32 := if x ≤ y then y else x
def md_side (ax ay bx by0 x y : Int32) : Int32 := (bx - ax) * (y - ay) - (by0 - ay) * (x - ax)
def md_plain (x : Int32) : Int32 := if 0 ≤ x then x else -x
def md_in (x y : Int32) : Bool := decide ((x >>> (y &&& 31)) &&& 1 = 1)
def md_o (x : Int32) : Int32 := 2 * x + 1
def md_low (x y u v wx wy : Int32) : Int32 := md_least (md_least (md_side (md_o x) (md_o y) (md_o u) (md_o v) (2 * wx) (2 * wy)) (md_side (md_o x) (md_o y) (md_o u) (md_o v) (2 * wx + 2) (2 * wy))) (md_least (md_side (md_o x) (md_o y) (md_o u) (md_o v) (2 * wx) (2 * wy + 2)) (md_side (md_o x) (md_o y) (md_o u) (md_o v) (2 * wx + 2) (2 * wy + 2)))
def md_high (x y u v wx wy : Int32) : Int32 := md_most (md_most (md_side (md_o x) (md_o y) (md_o u) (md_o v) (2 * wx) (2 * wy)) (md_side (md_o x) (md_o y) (md_o u) (md_o v) (2 * wx + 2) (2 * wy))) (md_most (md_side (md_o x) (md_o y) (md_o u) (md_o v) (2 * wx) (2 * wy + 2)) (md_side (md_o x) (md_o y) (md_o u) (md_o v) (2 * wx + 2) (2 * wy + 2)))
def md_cross (x y u v wx wy : Int32) : Bool := !decide (md_most (md_o x) (md_o u) ≤ 2 * wx) && (!decide (2 * wx + 2 ≤ md_least (md_o x) (md_o u)) && (!decide (md_most (md_o y) (md_o v) ≤ 2 * wy) && (decide (md_least (md_o y) (md_o v) < 2 * wy + 2) && (!decide (0 ≤ md_low x y u v wx wy) && !decide (md_high x y u v wx wy ≤ 0)))))
set_option maxHeartbeats 4000000 in
set_option maxRecDepth 100000 in
theorem cM_thrown (l : Launch) (dC : Nat → ClassId) (dI : Nat → Nat → Nat) (h1 b_wall b_px b_py b_loss b_reached b_order b_upper b_length b_heads b_turn : Nat) (cd : Int32) (Wd Ht Pn : Nat) (rs jc : Int32)  : Met l yM_thrown (kM_thrown :: WD) { frames := 0, cells := 0, slots := 0, locals := 0 } (va_Pc [.ref h1] (xw (dC, dI) snC [(h1, .inr (1, [.int cd, .int (nI Wd), .int (nI Ht), .ref b_wall, .int rs, .int (nI Pn), .ref b_px, .ref b_py, .ref b_loss, .ref b_reached, .int jc, .ref b_order, .ref b_upper, .ref b_length, .ref b_heads, .ref b_turn]))] [])) (xr_Q (fun r => r = cd)) 0 0 (fun _ => False) := by
  refine Met.ofW (cc := bM_thrown) (maxL := 1) (ret := (some .int)) (by decide) rfl ?_
  intro p e s m args below meth c s₁ B hml hv
  obtain ⟨rfl, hP, hK⟩ := hv
  have hx := B.exec
  have hb := B.bytes
  have hr := B.returns
  have hts : ∀ w ∈ WD, w.before _ s = true := fun w h => atoms_spec (ws := kM_thrown :: WD) B.pre w (List.mem_cons_of_mem _ h)
  have hown : s.vm.findClass R_M = some m.cls := findClass_of_methodNamed B.named
  have hlocks := B.notSynchronized
  have hl := lv_entry ([.ref h1]) (n := 1) (Nat.le_of_ble_eq_true rfl)
  rw [lg_entry_eq]
  generalize (lg_sl ([.ref h1]) ++ List.replicate (1 - (lg_sl ([.ref h1])).length) Slot.unset).toArray = ls at hl ⊢
  have hl : lv_has ls 1 [(0, .ref h1)] := hl
  refine lv_aload_n hx hb dM_thrown_0 rfl (lv_at hl 0 rfl) ?_
  refine va_get (D := (dC, dI)) (ci := 1) (v := .int cd) (C := R_M) (T := T_M) (N := 16) hx hb hts in_M hown hK hP 0 rfl rfl 0 (by decide) (hts _ flM51) (fun _ h9 => h9) rfl dM_thrown_1 ?_
  exact W.iret (v := cd) hx hb hr (fun t ht hW => ⟨⟨cd, rfl, rfl⟩, ht⟩) (fun _ h => absurd h List.not_mem_nil) dM_thrown_4
set_option maxHeartbeats 4000000 in
set_option maxRecDepth 100000 in
theorem cM_isCell (l : Launch) (dC : Nat → ClassId) (dI : Nat → Nat → Nat) (h1 b_wall b_px b_py b_loss b_reached b_order b_upper b_length b_heads b_turn : Nat) (cd : Int32) (Wd Ht Pn : Nat) (rs jc : Int32) (x y : Int32)  : Met l yM_isCell (kM_isCell :: WD) { frames := 0, cells := 0, slots := 0, locals := 0 } (va_Pc [.ref h1, .int x, .int y] (xw (dC, dI) snC [(h1, .inr (1, [.int cd, .int (nI Wd), .int (nI Ht), .ref b_wall, .int rs, .int (nI Pn), .ref b_px, .ref b_py, .ref b_loss, .ref b_reached, .int jc, .ref b_order, .ref b_upper, .ref b_length, .ref b_heads, .ref b_turn]))] [])) (xr_Q (fun r => r = bz (sn_in Wd Ht x y))) 0 0 (fun _ => False) := by
  refine Met.ofW (cc := bM_isCell) (maxL := 3) (ret := (some .boolean)) (by decide) rfl ?_
  intro p e s m args below meth c s₁ B hml hv
  obtain ⟨rfl, hP, hK⟩ := hv
  have hx := B.exec
  have hb := B.bytes
  have hr := B.returns
  have hts : ∀ w ∈ WD, w.before _ s = true := fun w h => atoms_spec (ws := kM_isCell :: WD) B.pre w (List.mem_cons_of_mem _ h)
  have hown : s.vm.findClass R_M = some m.cls := findClass_of_methodNamed B.named
  have hlocks := B.notSynchronized
  have hl := lv_entry ([.ref h1, .int x, .int y]) (n := 3) (Nat.le_of_ble_eq_true rfl)
  rw [lg_entry_eq]
  generalize (lg_sl ([.ref h1, .int x, .int y]) ++ List.replicate (3 - (lg_sl ([.ref h1, .int x, .int y])).length) Slot.unset).toArray = ls at hl ⊢
  have hl : lv_has ls 3 [(0, .ref h1), (1, .int x), (2, .int y)] := hl
  refine lv_iload_n hx hb dM_isCell_0 rfl (lv_at hl 1 rfl) ?_
  refine lv_if_lt (tgt := 28) hx hb dM_isCell_1 (by decide) (fun c_1 => ?_) (fun c_1 => ?_)
  · refine lv_iconst (v := 0) hx hb dM_isCell_28 (by decide) ?_
    exact W.zret (v := 0) hx hb hr (by decide) (fun t ht hW => ⟨⟨0, rfl, (by simp [bz, sn_in, c_1])⟩, ht⟩) (fun _ h => absurd h List.not_mem_nil) dM_isCell_29
  · refine lv_iload_n hx hb dM_isCell_4 rfl (lv_at hl 1 rfl) ?_
    refine lv_aload_n hx hb dM_isCell_5 rfl (lv_at hl 0 rfl) ?_
    refine va_get (D := (dC, dI)) (ci := 1) (v := .int (nI Wd)) (C := R_M) (T := T_M) (N := 16) hx hb hts in_M hown hK hP 0 rfl rfl 1 (by decide) (hts _ flM45) (fun _ h9 => h9) rfl dM_isCell_6 ?_
    refine lv_icmp_ge (tgt := 28) hx hb dM_isCell_9 (by decide) (fun c_2 => ?_) (fun c_2 => ?_)
    · refine lv_iconst (v := 0) hx hb dM_isCell_28 (by decide) ?_
      exact W.zret (v := 0) hx hb hr (by decide) (fun t ht hW => ⟨⟨0, rfl, (by simp [bz, sn_in, c_1, c_2])⟩, ht⟩) (fun _ h => absurd h List.not_mem_nil) dM_isCell_29
    · refine lv_iload_n hx hb dM_isCell_12 rfl (lv_at hl 2 rfl) ?_
      refine lv_if_lt (tgt := 28) hx hb dM_isCell_13 (by decide) (fun c_3 => ?_) (fun c_3 => ?_)
      · refine lv_iconst (v := 0) hx hb dM_isCell_28 (by decide) ?_
        exact W.zret (v := 0) hx hb hr (by decide) (fun t ht hW => ⟨⟨0, rfl, (by simp [bz, sn_in, c_1, c_2, c_3])⟩, ht⟩) (fun _ h => absurd h List.not_mem_nil) dM_isCell_29
      · refine lv_iload_n hx hb dM_isCell_16 rfl (lv_at hl 2 rfl) ?_
        refine lv_aload_n hx hb dM_isCell_17 rfl (lv_at hl 0 rfl) ?_
        refine va_get (D := (dC, dI)) (ci := 1) (v := .int (nI Ht)) (C := R_M) (T := T_M) (N := 16) hx hb hts in_M hown hK hP 0 rfl rfl 2 (by decide) (hts _ flM48) (fun _ h9 => h9) rfl dM_isCell_18 ?_
        refine lv_icmp_ge (tgt := 28) hx hb dM_isCell_21 (by decide) (fun c_4 => ?_) (fun c_4 => ?_)
        · refine lv_iconst (v := 0) hx hb dM_isCell_28 (by decide) ?_
          exact W.zret (v := 0) hx hb hr (by decide) (fun t ht hW => ⟨⟨0, rfl, (by simp [bz, sn_in, c_1, c_2, c_3, c_4])⟩, ht⟩) (fun _ h => absurd h List.not_mem_nil) dM_isCell_29
        · refine lv_iconst (v := 1) hx hb dM_isCell_24 (by decide) ?_
          refine lv_goto (tgt := 29) hx hb dM_isCell_25 (by decide) ?_
          exact W.zret (v := 1) hx hb hr (by decide) (fun t ht hW => ⟨⟨1, rfl, (by simp [bz, sn_in, c_1, c_2, c_3, c_4])⟩, ht⟩) (fun _ h => absurd h List.not_mem_nil) dM_isCell_29
set_option maxHeartbeats 4000000 in
set_option maxRecDepth 100000 in
theorem cM_isPlace (l : Launch) (dC : Nat → ClassId) (dI : Nat → Nat → Nat) (h1 b_wall b_px b_py b_loss b_reached b_order b_upper b_length b_heads b_turn : Nat) (cd : Int32) (Wd Ht Pn : Nat) (rs jc : Int32) (x : Int32)  : Met l yM_isPlace (kM_isPlace :: WD) { frames := 0, cells := 0, slots := 0, locals := 0 } (va_Pc [.ref h1, .int x] (xw (dC, dI) snC [(h1, .inr (1, [.int cd, .int (nI Wd), .int (nI Ht), .ref b_wall, .int rs, .int (nI Pn), .ref b_px, .ref b_py, .ref b_loss, .ref b_reached, .int jc, .ref b_order, .ref b_upper, .ref b_length, .ref b_heads, .ref b_turn]))] [])) (xr_Q (fun r => r = bz (sn_pl Pn x))) 0 0 (fun _ => False) := by
  refine Met.ofW (cc := bM_isPlace) (maxL := 2) (ret := (some .boolean)) (by decide) rfl ?_
  intro p e s m args below meth c s₁ B hml hv
  obtain ⟨rfl, hP, hK⟩ := hv
  have hx := B.exec
  have hb := B.bytes
  have hr := B.returns
  have hts : ∀ w ∈ WD, w.before _ s = true := fun w h => atoms_spec (ws := kM_isPlace :: WD) B.pre w (List.mem_cons_of_mem _ h)
  have hown : s.vm.findClass R_M = some m.cls := findClass_of_methodNamed B.named
  have hlocks := B.notSynchronized
  have hl := lv_entry ([.ref h1, .int x]) (n := 2) (Nat.le_of_ble_eq_true rfl)
  rw [lg_entry_eq]
  generalize (lg_sl ([.ref h1, .int x]) ++ List.replicate (2 - (lg_sl ([.ref h1, .int x])).length) Slot.unset).toArray = ls at hl ⊢
  have hl : lv_has ls 2 [(0, .ref h1), (1, .int x)] := hl
  refine lv_iload_n hx hb dM_isPlace_0 rfl (lv_at hl 1 rfl) ?_
  refine lv_if_lt (tgt := 16) hx hb dM_isPlace_1 (by decide) (fun c_1 => ?_) (fun c_1 => ?_)
  · refine lv_iconst (v := 0) hx hb dM_isPlace_16 (by decide) ?_
    exact W.zret (v := 0) hx hb hr (by decide) (fun t ht hW => ⟨⟨0, rfl, (by simp [bz, sn_pl, c_1])⟩, ht⟩) (fun _ h => absurd h List.not_mem_nil) dM_isPlace_17
  · refine lv_iload_n hx hb dM_isPlace_4 rfl (lv_at hl 1 rfl) ?_
    refine lv_aload_n hx hb dM_isPlace_5 rfl (lv_at hl 0 rfl) ?_
    refine va_get (D := (dC, dI)) (ci := 1) (v := .int (nI Pn)) (C := R_M) (T := T_M) (N := 16) hx hb hts in_M hown hK hP 0 rfl rfl 5 (by decide) (hts _ flM54) (fun _ h9 => h9) rfl dM_isPlace_6 ?_
    refine lv_icmp_ge (tgt := 16) hx hb dM_isPlace_9 (by decide) (fun c_2 => ?_) (fun c_2 => ?_)
    · replace c_2 := Int32.not_lt.mpr c_2
      refine lv_iconst (v := 0) hx hb dM_isPlace_16 (by decide) ?_
      exact W.zret (v := 0) hx hb hr (by decide) (fun t ht hW => ⟨⟨0, rfl, (by simp [bz, sn_pl, c_1, c_2])⟩, ht⟩) (fun _ h => absurd h List.not_mem_nil) dM_isPlace_17
    · replace c_2 := Int32.not_le.mp c_2
      refine lv_iconst (v := 1) hx hb dM_isPlace_12 (by decide) ?_
      refine lv_goto (tgt := 17) hx hb dM_isPlace_13 (by decide) ?_
      exact W.zret (v := 1) hx hb hr (by decide) (fun t ht hW => ⟨⟨1, rfl, (by simp [bz, sn_pl, c_1, c_2])⟩, ht⟩) (fun _ h => absurd h List.not_mem_nil) dM_isPlace_17
set_option maxHeartbeats 4000000 in
set_option maxRecDepth 100000 in
theorem cM_isSet (l : Launch) (dC : Nat → ClassId) (dI : Nat → Nat → Nat) (h1 b_wall b_px b_py b_loss b_reached b_order b_upper b_length b_heads b_turn : Nat) (cd : Int32) (Wd Ht Pn : Nat) (rs jc : Int32) (x : Int32)  : Met l yM_isSet (kM_isSet :: WD) { frames := 0, cells := 0, slots := 0, locals := 0 } (va_Pc [.ref h1, .int x] (xw (dC, dI) snC [(h1, .inr (1, [.int cd, .int (nI Wd), .int (nI Ht), .ref b_wall, .int rs, .int (nI Pn), .ref b_px, .ref b_py, .ref b_loss, .ref b_reached, .int jc, .ref b_order, .ref b_upper, .ref b_length, .ref b_heads, .ref b_turn]))] [])) (xr_Q (fun r => r = bz (md_set Pn x))) 0 0 (fun _ => False) := by
  refine Met.ofW (cc := bM_isSet) (maxL := 2) (ret := (some .boolean)) (by decide) rfl ?_
  intro p e s m args below meth c s₁ B hml hv
  obtain ⟨rfl, hP, hK⟩ := hv
  have hx := B.exec
  have hb := B.bytes
  have hr := B.returns
  have hts : ∀ w ∈ WD, w.before _ s = true := fun w h => atoms_spec (ws := kM_isSet :: WD) B.pre w (List.mem_cons_of_mem _ h)
  have hown : s.vm.findClass R_M = some m.cls := findClass_of_methodNamed B.named
  have hlocks := B.notSynchronized
  have hl := lv_entry ([.ref h1, .int x]) (n := 2) (Nat.le_of_ble_eq_true rfl)
  rw [lg_entry_eq]
  generalize (lg_sl ([.ref h1, .int x]) ++ List.replicate (2 - (lg_sl ([.ref h1, .int x])).length) Slot.unset).toArray = ls at hl ⊢
  have hl : lv_has ls 2 [(0, .ref h1), (1, .int x)] := hl
  refine lv_iload_n hx hb dM_isSet_0 rfl (lv_at hl 1 rfl) ?_
  refine lv_if_lt (tgt := 17) hx hb dM_isSet_1 (by decide) (fun c_1 => ?_) (fun c_1 => ?_)
  · refine lv_iconst (v := 0) hx hb dM_isSet_17 (by decide) ?_
    exact W.zret (v := 0) hx hb hr (by decide) (fun t ht hW => ⟨⟨0, rfl, (by simp [bz, md_set, c_1])⟩, ht⟩) (fun _ h => absurd h List.not_mem_nil) dM_isSet_18
  · refine lv_iload_n hx hb dM_isSet_4 rfl (lv_at hl 1 rfl) ?_
    refine lv_aload_n hx hb dM_isSet_5 rfl (lv_at hl 0 rfl) ?_
    refine va_get (D := (dC, dI)) (ci := 1) (v := .int (nI Pn)) (C := R_M) (T := T_M) (N := 16) hx hb hts in_M hown hK hP 0 rfl rfl 5 (by decide) (hts _ flM54) (fun _ h9 => h9) rfl dM_isSet_6 ?_
    refine lv_ishr hx hb dM_isSet_9 ?_
    refine lv_if_ne (tgt := 17) hx hb dM_isSet_10 (by decide) (fun c_2 => ?_) (fun c_2 => ?_)
    · refine lv_iconst (v := 0) hx hb dM_isSet_17 (by decide) ?_
      exact W.zret (v := 0) hx hb hr (by decide) (fun t ht hW => ⟨⟨0, rfl, (by simp [bz, md_set, c_1, c_2])⟩, ht⟩) (fun _ h => absurd h List.not_mem_nil) dM_isSet_18
    · refine lv_iconst (v := 1) hx hb dM_isSet_13 (by decide) ?_
      refine lv_goto (tgt := 18) hx hb dM_isSet_14 (by decide) ?_
      exact W.zret (v := 1) hx hb hr (by decide) (fun t ht hW => ⟨⟨1, rfl, (by simp [bz, md_set, c_1, c_2])⟩, ht⟩) (fun _ h => absurd h List.not_mem_nil) dM_isSet_18
set_option maxHeartbeats 4000000 in
set_option maxRecDepth 100000 in
theorem cM_isFree (l : Launch) (dC : Nat → ClassId) (dI : Nat → Nat → Nat) (h1 b_wall b_px b_py b_loss b_reached b_order b_upper b_length b_heads b_turn : Nat) (cd : Int32) (Wd Ht Pn : Nat) (rs jc : Int32) (cZ : ClassId) (g_wall : Nat → Int32) (a b : Nat) (ha : a < 16) (hb0 : b < 16) : Met l yM_isFree (kM_isFree :: WD) { frames := 0, cells := 0, slots := 0, locals := 0 } (va_Pc [.ref h1, .int (nI a), .int (nI b)] (xw (dC, dI) snC [(h1, .inr (1, [.int cd, .int (nI Wd), .int (nI Ht), .ref b_wall, .int rs, .int (nI Pn), .ref b_px, .ref b_py, .ref b_loss, .ref b_reached, .int jc, .ref b_order, .ref b_upper, .ref b_length, .ref b_heads, .ref b_turn])), (b_wall, .inl (cZ, 256, .inl g_wall))] [(cZ, .boolean)])) (xr_Q (fun r => r = bz (md_free g_wall a b))) 0 0 (fun _ => False) := by
  refine Met.ofW (cc := bM_isFree) (maxL := 3) (ret := (some .boolean)) (by decide) rfl ?_
  intro p e s m args below meth c s₁ B hml hv
  obtain ⟨rfl, hP, hK⟩ := hv
  have hx := B.exec
  have hb := B.bytes
  have hr := B.returns
  have hts : ∀ w ∈ WD, w.before _ s = true := fun w h => atoms_spec (ws := kM_isFree :: WD) B.pre w (List.mem_cons_of_mem _ h)
  have hown : s.vm.findClass R_M = some m.cls := findClass_of_methodNamed B.named
  have hlocks := B.notSynchronized
  have hl := lv_entry ([.ref h1, .int (nI a), .int (nI b)]) (n := 3) (Nat.le_of_ble_eq_true rfl)
  rw [lg_entry_eq]
  generalize (lg_sl ([.ref h1, .int (nI a), .int (nI b)]) ++ List.replicate (3 - (lg_sl ([.ref h1, .int (nI a), .int (nI b)])).length) Slot.unset).toArray = ls at hl ⊢
  have hl : lv_has ls 3 [(0, .ref h1), (1, .int (nI a)), (2, .int (nI b))] := hl
  refine lv_aload_n hx hb dM_isFree_0 rfl (lv_at hl 0 rfl) ?_
  refine va_get (D := (dC, dI)) (ci := 1) (v := .ref b_wall) (C := R_M) (T := T_M) (N := 16) hx hb hts in_M hown hK hP 0 rfl rfl 3 (by decide) (hts _ flM7) (fun _ h9 => h9) rfl dM_isFree_1 ?_
  refine lv_bipush (v := 16) hx hb dM_isFree_4 (by decide) ?_
  refine lv_iload_n hx hb dM_isFree_6 rfl (lv_at hl 2 rfl) ?_
  refine lv_imul hx hb dM_isFree_7 ?_
  refine lv_iload_n hx hb dM_isFree_8 rfl (lv_at hl 1 rfl) ?_
  refine lv_iadd hx hb dM_isFree_9 ?_
  rw [show ((16 * (nI b)) + (nI a) : Int32) = nI (b * 16 + a) from md_cell a b]
  refine xa_zald hx hb hK hP 1 0 rfl rfl (i := (b * 16 + a)) (by omega) (by first | decide | omega) dM_isFree_10 ?_
  refine lv_if_ne (tgt := 18) hx hb dM_isFree_11 (by decide) (fun c_1 => ?_) (fun c_1 => ?_)
  · refine lv_iconst (v := 0) hx hb dM_isFree_18 (by decide) ?_
    exact W.zret (v := 0) hx hb hr (by decide) (fun t ht hW => ⟨⟨0, rfl, (by simp [bz, md_free, c_1])⟩, ht⟩) (fun _ h => absurd h List.not_mem_nil) dM_isFree_19
  · refine lv_iconst (v := 1) hx hb dM_isFree_14 (by decide) ?_
    refine lv_goto (tgt := 19) hx hb dM_isFree_15 (by decide) ?_
    exact W.zret (v := 1) hx hb hr (by decide) (fun t ht hW => ⟨⟨1, rfl, (by simp [bz, md_free, c_1])⟩, ht⟩) (fun _ h => absurd h List.not_mem_nil) dM_isFree_19
set_option maxHeartbeats 4000000 in
set_option maxRecDepth 100000 in
theorem cM_least (l : Launch) (dC : Nat → ClassId) (dI : Nat → Nat → Nat) (x y : Int32)  : Met l yM_least (kM_least :: WD) { frames := 0, cells := 0, slots := 0, locals := 0 } (va_Pc [.int x, .int y] (xw (dC, dI) snC [] [])) (xr_Q (fun r => r = md_least x y)) 0 0 (fun _ => False) := by
  refine Met.ofW (cc := bM_least) (maxL := 2) (ret := (some .int)) (by decide) rfl ?_
  intro p e s m args below meth c s₁ B hml hv
  obtain ⟨rfl, hP, hK⟩ := hv
  have hx := B.exec
  have hb := B.bytes
  have hr := B.returns
  have hts : ∀ w ∈ WD, w.before _ s = true := fun w h => atoms_spec (ws := kM_least :: WD) B.pre w (List.mem_cons_of_mem _ h)
  have hown : s.vm.findClass R_M = some m.cls := findClass_of_methodNamed B.named
  have hlocks := B.notSynchronized
  have hl := lv_entry ([.int x, .int y]) (n := 2) (Nat.le_of_ble_eq_true rfl)
  rw [lg_entry_eq]
  generalize (lg_sl ([.int x, .int y]) ++ List.replicate (2 - (lg_sl ([.int x, .int y])).length) Slot.unset).toArray = ls at hl ⊢
  have hl : lv_has ls 2 [(0, .int x), (1, .int y)] := hl
  refine lv_iload_n hx hb dM_least_0 rfl (lv_at hl 0 rfl) ?_
  refine lv_iload_n hx hb dM_least_1 rfl (lv_at hl 1 rfl) ?_
  refine lv_icmp_ge (tgt := 9) hx hb dM_least_2 (by decide) (fun c_1 => ?_) (fun c_1 => ?_)
  · refine lv_iload_n hx hb dM_least_9 rfl (lv_at hl 1 rfl) ?_
    exact W.iret (v := y) hx hb hr (fun t ht hW => ⟨⟨y, rfl, (by simp [md_least, c_1])⟩, ht⟩) (fun _ h => absurd h List.not_mem_nil) dM_least_10
  · refine lv_iload_n hx hb dM_least_5 rfl (lv_at hl 0 rfl) ?_
    refine lv_goto (tgt := 10) hx hb dM_least_6 (by decide) ?_
    exact W.iret (v := x) hx hb hr (fun t ht hW => ⟨⟨x, rfl, (by simp [md_least, c_1])⟩, ht⟩) (fun _ h => absurd h List.not_mem_nil) dM_least_10
set_option maxHeartbeats 4000000 in
set_option maxRecDepth 100000 in
theorem cM_most (l : Launch) (dC : Nat → ClassId) (dI : Nat → Nat → Nat) (x y : Int32)  : Met l yM_most (kM_most :: WD) { frames := 0, cells := 0, slots := 0, locals := 0 } (va_Pc [.int x, .int y] (xw (dC, dI) snC [] [])) (xr_Q (fun r => r = md_most x y)) 0 0 (fun _ => False) := by
  refine Met.ofW (cc := bM_most) (maxL := 2) (ret := (some .int)) (by decide) rfl ?_
  intro p e s m args below meth c s₁ B hml hv
  obtain ⟨rfl, hP, hK⟩ := hv
  have hx := B.exec
  have hb := B.bytes
  have hr := B.returns
  have hts : ∀ w ∈ WD, w.before _ s = true := fun w h => atoms_spec (ws := kM_most :: WD) B.pre w (List.mem_cons_of_mem _ h)
  have hown : s.vm.findClass R_M = some m.cls := findClass_of_methodNamed B.named
  have hlocks := B.notSynchronized
  have hl := lv_entry ([.int x, .int y]) (n := 2) (Nat.le_of_ble_eq_true rfl)
  rw [lg_entry_eq]
  generalize (lg_sl ([.int x, .int y]) ++ List.replicate (2 - (lg_sl ([.int x, .int y])).length) Slot.unset).toArray = ls at hl ⊢
  have hl : lv_has ls 2 [(0, .int x), (1, .int y)] := hl
  refine lv_iload_n hx hb dM_most_0 rfl (lv_at hl 0 rfl) ?_
  refine lv_iload_n hx hb dM_most_1 rfl (lv_at hl 1 rfl) ?_
  refine lv_icmp_le (tgt := 9) hx hb dM_most_2 (by decide) (fun c_1 => ?_) (fun c_1 => ?_)
  · refine lv_iload_n hx hb dM_most_9 rfl (lv_at hl 1 rfl) ?_
    exact W.iret (v := y) hx hb hr (fun t ht hW => ⟨⟨y, rfl, (by simp [md_most, c_1])⟩, ht⟩) (fun _ h => absurd h List.not_mem_nil) dM_most_10
  · refine lv_iload_n hx hb dM_most_5 rfl (lv_at hl 0 rfl) ?_
    refine lv_goto (tgt := 10) hx hb dM_most_6 (by decide) ?_
    exact W.iret (v := x) hx hb hr (fun t ht hW => ⟨⟨x, rfl, (by simp [md_most, c_1])⟩, ht⟩) (fun _ h => absurd h List.not_mem_nil) dM_most_10
set_option maxHeartbeats 4000000 in
set_option maxRecDepth 100000 in
theorem cM_side (l : Launch) (dC : Nat → ClassId) (dI : Nat → Nat → Nat) (ax ay bx by0 x y : Int32)  : Met l yM_side (kM_side :: WD) { frames := 0, cells := 0, slots := 0, locals := 0 } (va_Pc [.int ax, .int ay, .int bx, .int by0, .int x, .int y] (xw (dC, dI) snC [] [])) (xr_Q (fun r => r = md_side ax ay bx by0 x y)) 0 0 (fun _ => False) := by
  refine Met.ofW (cc := bM_side) (maxL := 6) (ret := (some .int)) (by decide) rfl ?_
  intro p e s m args below meth c s₁ B hml hv
  obtain ⟨rfl, hP, hK⟩ := hv
  have hx := B.exec
  have hb := B.bytes
  have hr := B.returns
  have hts : ∀ w ∈ WD, w.before _ s = true := fun w h => atoms_spec (ws := kM_side :: WD) B.pre w (List.mem_cons_of_mem _ h)
  have hown : s.vm.findClass R_M = some m.cls := findClass_of_methodNamed B.named
  have hlocks := B.notSynchronized
  have hl := lv_entry ([.int ax, .int ay, .int bx, .int by0, .int x, .int y]) (n := 6) (Nat.le_of_ble_eq_true rfl)
  rw [lg_entry_eq]
  generalize (lg_sl ([.int ax, .int ay, .int bx, .int by0, .int x, .int y]) ++ List.replicate (6 - (lg_sl ([.int ax, .int ay, .int bx, .int by0, .int x, .int y])).length) Slot.unset).toArray = ls at hl ⊢
  have hl : lv_has ls 6 [(0, .int ax), (1, .int ay), (2, .int bx), (3, .int by0), (4, .int x), (5, .int y)] := hl
  refine lv_iload_n hx hb dM_side_0 rfl (lv_at hl 2 rfl) ?_
  refine lv_iload_n hx hb dM_side_1 rfl (lv_at hl 0 rfl) ?_
  refine lv_isub hx hb dM_side_2 ?_
  refine lv_iload hx hb dM_side_3 (lv_at hl 5 rfl) ?_
  refine lv_iload_n hx hb dM_side_5 rfl (lv_at hl 1 rfl) ?_
  refine lv_isub hx hb dM_side_6 ?_
  refine lv_imul hx hb dM_side_7 ?_
  refine lv_iload_n hx hb dM_side_8 rfl (lv_at hl 3 rfl) ?_
  refine lv_iload_n hx hb dM_side_9 rfl (lv_at hl 1 rfl) ?_
  refine lv_isub hx hb dM_side_10 ?_
  refine lv_iload hx hb dM_side_11 (lv_at hl 4 rfl) ?_
  refine lv_iload_n hx hb dM_side_13 rfl (lv_at hl 0 rfl) ?_
  refine lv_isub hx hb dM_side_14 ?_
  refine lv_imul hx hb dM_side_15 ?_
  refine lv_isub hx hb dM_side_16 ?_
  exact W.iret (v := ((bx - ax) * (y - ay)) - ((by0 - ay) * (x - ax))) hx hb hr (fun t ht hW => ⟨⟨((bx - ax) * (y - ay)) - ((by0 - ay) * (x - ax)), rfl, rfl⟩, ht⟩) (fun _ h => absurd h List.not_mem_nil) dM_side_17
set_option maxHeartbeats 4000000 in
set_option maxRecDepth 100000 in
theorem cM_plain (l : Launch) (dC : Nat → ClassId) (dI : Nat → Nat → Nat) (x : Int32)  : Met l yM_plain (kM_plain :: WD) { frames := 0, cells := 0, slots := 0, locals := 0 } (va_Pc [.int x] (xw (dC, dI) snC [] [])) (xr_Q (fun r => r = md_plain x)) 0 0 (fun _ => False) := by
  refine Met.ofW (cc := bM_plain) (maxL := 1) (ret := (some .int)) (by decide) rfl ?_
  intro p e s m args below meth c s₁ B hml hv
  obtain ⟨rfl, hP, hK⟩ := hv
  have hx := B.exec
  have hb := B.bytes
  have hr := B.returns
  have hts : ∀ w ∈ WD, w.before _ s = true := fun w h => atoms_spec (ws := kM_plain :: WD) B.pre w (List.mem_cons_of_mem _ h)
  have hown : s.vm.findClass R_M = some m.cls := findClass_of_methodNamed B.named
  have hlocks := B.notSynchronized
  have hl := lv_entry ([.int x]) (n := 1) (Nat.le_of_ble_eq_true rfl)
  rw [lg_entry_eq]
  generalize (lg_sl ([.int x]) ++ List.replicate (1 - (lg_sl ([.int x])).length) Slot.unset).toArray = ls at hl ⊢
  have hl : lv_has ls 1 [(0, .int x)] := hl
  refine lv_iload_n hx hb dM_plain_0 rfl (lv_at hl 0 rfl) ?_
  refine lv_if_ge (tgt := 9) hx hb dM_plain_1 (by decide) (fun c_1 => ?_) (fun c_1 => ?_)
  · refine lv_iload_n hx hb dM_plain_9 rfl (lv_at hl 0 rfl) ?_
    exact W.iret (v := x) hx hb hr (fun t ht hW => ⟨⟨x, rfl, (by simp [md_plain, c_1])⟩, ht⟩) (fun _ h => absurd h List.not_mem_nil) dM_plain_10
  · refine lv_iload_n hx hb dM_plain_4 rfl (lv_at hl 0 rfl) ?_
    refine lv_ineg hx hb dM_plain_5 ?_
    refine lv_goto (tgt := 10) hx hb dM_plain_6 (by decide) ?_
    exact W.iret (v := -x) hx hb hr (fun t ht hW => ⟨⟨-x, rfl, (by simp [md_plain, c_1])⟩, ht⟩) (fun _ h => absurd h List.not_mem_nil) dM_plain_10
set_option maxHeartbeats 4000000 in
set_option maxRecDepth 100000 in
theorem cM_isIn (l : Launch) (dC : Nat → ClassId) (dI : Nat → Nat → Nat) (h1 b_wall b_px b_py b_loss b_reached b_order b_upper b_length b_heads b_turn : Nat) (cd : Int32) (Wd Ht Pn : Nat) (rs jc : Int32) (x y : Int32)  : Met l yM_isIn (kM_isIn :: WD) { frames := 0, cells := 0, slots := 0, locals := 0 } (va_Pc [.ref h1, .int x, .int y] (xw (dC, dI) snC [(h1, .inr (1, [.int cd, .int (nI Wd), .int (nI Ht), .ref b_wall, .int rs, .int (nI Pn), .ref b_px, .ref b_py, .ref b_loss, .ref b_reached, .int jc, .ref b_order, .ref b_upper, .ref b_length, .ref b_heads, .ref b_turn]))] [])) (xr_Q (fun r => r = bz (md_in x y))) 0 0 (fun _ => False) := by
  refine Met.ofW (cc := bM_isIn) (maxL := 3) (ret := (some .boolean)) (by decide) rfl ?_
  intro p e s m args below meth c s₁ B hml hv
  obtain ⟨rfl, hP, hK⟩ := hv
  have hx := B.exec
  have hb := B.bytes
  have hr := B.returns
  have hts : ∀ w ∈ WD, w.before _ s = true := fun w h => atoms_spec (ws := kM_isIn :: WD) B.pre w (List.mem_cons_of_mem _ h)
  have hown : s.vm.findClass R_M = some m.cls := findClass_of_methodNamed B.named
  have hlocks := B.notSynchronized
  have hl := lv_entry ([.ref h1, .int x, .int y]) (n := 3) (Nat.le_of_ble_eq_true rfl)
  rw [lg_entry_eq]
  generalize (lg_sl ([.ref h1, .int x, .int y]) ++ List.replicate (3 - (lg_sl ([.ref h1, .int x, .int y])).length) Slot.unset).toArray = ls at hl ⊢
  have hl : lv_has ls 3 [(0, .ref h1), (1, .int x), (2, .int y)] := hl
  refine lv_iload_n hx hb dM_isIn_0 rfl (lv_at hl 1 rfl) ?_
  refine lv_iload_n hx hb dM_isIn_1 rfl (lv_at hl 2 rfl) ?_
  refine lv_ishr hx hb dM_isIn_2 ?_
  refine lv_iconst (v := 1) hx hb dM_isIn_3 (by decide) ?_
  refine lv_iand hx hb dM_isIn_4 ?_
  refine lv_iconst (v := 1) hx hb dM_isIn_5 (by decide) ?_
  refine lv_icmp_ne (tgt := 13) hx hb dM_isIn_6 (by decide) (fun c_1 => ?_) (fun c_1 => ?_)
  · refine lv_iconst (v := 0) hx hb dM_isIn_13 (by decide) ?_
    exact W.zret (v := 0) hx hb hr (by decide) (fun t ht hW => ⟨⟨0, rfl, (by simp [bz, md_in, c_1])⟩, ht⟩) (fun _ h => absurd h List.not_mem_nil) dM_isIn_14
  · refine lv_iconst (v := 1) hx hb dM_isIn_9 (by decide) ?_
    refine lv_goto (tgt := 14) hx hb dM_isIn_10 (by decide) ?_
    exact W.zret (v := 1) hx hb hr (by decide) (fun t ht hW => ⟨⟨1, rfl, (by simp [bz, md_in, c_1])⟩, ht⟩) (fun _ h => absurd h List.not_mem_nil) dM_isIn_14
set_option maxHeartbeats 4000000 in
set_option maxRecDepth 100000 in
theorem cM_crosses (l : Launch) (dC : Nat → ClassId) (dI : Nat → Nat → Nat) (x y u v wx wy : Int32)  : Met l yM_crosses (kM_crosses :: WD) { frames := 1, cells := 0, slots := 0, locals := 25 } (va_Pc [.int x, .int y, .int u, .int v, .int wx, .int wy] (xw (dC, dI) snC [] [])) (xr_Q (fun r => r = bz (md_cross x y u v wx wy))) 0 0 (fun _ => False) := by
  refine Met.ofW (cc := bM_crosses) (maxL := 18) (ret := (some .boolean)) (by decide) rfl ?_
  intro p e s m args below meth c s₁ B hml hv
  obtain ⟨rfl, hP, hK⟩ := hv
  have hx := B.exec
  have hb := B.bytes
  have hr := B.returns
  have hts : ∀ w ∈ WD, w.before _ s = true := fun w h => atoms_spec (ws := kM_crosses :: WD) B.pre w (List.mem_cons_of_mem _ h)
  have hown : s.vm.findClass R_M = some m.cls := findClass_of_methodNamed B.named
  have hlocks := B.notSynchronized
  have hl := lv_entry ([.int x, .int y, .int u, .int v, .int wx, .int wy]) (n := 18) (Nat.le_of_ble_eq_true rfl)
  rw [lg_entry_eq]
  generalize (lg_sl ([.int x, .int y, .int u, .int v, .int wx, .int wy]) ++ List.replicate (18 - (lg_sl ([.int x, .int y, .int u, .int v, .int wx, .int wy])).length) Slot.unset).toArray = ls at hl ⊢
  have hl : lv_has ls 18 [(0, .int x), (1, .int y), (2, .int u), (3, .int v), (4, .int wx), (5, .int wy)] := hl
  refine lv_iconst (v := 2) hx hb dM_crosses_0 (by decide) ?_
  refine lv_iload_n hx hb dM_crosses_1 rfl (lv_at hl 0 rfl) ?_
  refine lv_imul hx hb dM_crosses_2 ?_
  refine lv_iconst (v := 1) hx hb dM_crosses_3 (by decide) ?_
  refine lv_iadd hx hb dM_crosses_4 ?_
  rw [show ((2 * x) + 1 : Int32) = md_o x from rfl]
  refine lv_istore (lv' := [(6, .int (md_o x)), (0, .int x), (1, .int y), (2, .int u), (3, .int v), (4, .int wx), (5, .int wy)]) hx hb dM_crosses_5 hl (by decide) rfl (fun ls hl => ?_)
  refine lv_iconst (v := 2) hx hb dM_crosses_7 (by decide) ?_
  refine lv_iload_n hx hb dM_crosses_8 rfl (lv_at hl 2 rfl) ?_
  refine lv_imul hx hb dM_crosses_9 ?_
  refine lv_iconst (v := 1) hx hb dM_crosses_10 (by decide) ?_
  refine lv_iadd hx hb dM_crosses_11 ?_
  rw [show ((2 * y) + 1 : Int32) = md_o y from rfl]
  refine lv_istore (lv' := [(7, .int (md_o y)), (6, .int (md_o x)), (0, .int x), (1, .int y), (2, .int u), (3, .int v), (4, .int wx), (5, .int wy)]) hx hb dM_crosses_12 hl (by decide) rfl (fun ls hl => ?_)
  refine lv_iconst (v := 2) hx hb dM_crosses_14 (by decide) ?_
  refine lv_iload_n hx hb dM_crosses_15 rfl (lv_at hl 4 rfl) ?_
  refine lv_imul hx hb dM_crosses_16 ?_
  refine lv_iconst (v := 1) hx hb dM_crosses_17 (by decide) ?_
  refine lv_iadd hx hb dM_crosses_18 ?_
  rw [show ((2 * u) + 1 : Int32) = md_o u from rfl]
  refine lv_istore (lv' := [(8, .int (md_o u)), (7, .int (md_o y)), (6, .int (md_o x)), (0, .int x), (1, .int y), (2, .int u), (3, .int v), (4, .int wx), (5, .int wy)]) hx hb dM_crosses_19 hl (by decide) rfl (fun ls hl => ?_)
  refine lv_iconst (v := 2) hx hb dM_crosses_21 (by decide) ?_
  refine lv_iload_n hx hb dM_crosses_22 rfl (lv_at hl 6 rfl) ?_
  refine lv_imul hx hb dM_crosses_23 ?_
  refine lv_iconst (v := 1) hx hb dM_crosses_24 (by decide) ?_
  refine lv_iadd hx hb dM_crosses_25 ?_
  rw [show ((2 * v) + 1 : Int32) = md_o v from rfl]
  refine lv_istore (lv' := [(9, .int (md_o v)), (8, .int (md_o u)), (7, .int (md_o y)), (6, .int (md_o x)), (0, .int x), (1, .int y), (2, .int u), (3, .int v), (4, .int wx), (5, .int wy)]) hx hb dM_crosses_26 hl (by decide) rfl (fun ls hl => ?_)
  refine lv_iconst (v := 2) hx hb dM_crosses_28 (by decide) ?_
  refine lv_iload hx hb dM_crosses_29 (lv_at hl 8 rfl) ?_
  refine lv_imul hx hb dM_crosses_31 ?_
  refine lv_istore (lv' := [(10, .int (2 * wx)), (9, .int (md_o v)), (8, .int (md_o u)), (7, .int (md_o y)), (6, .int (md_o x)), (0, .int x), (1, .int y), (2, .int u), (3, .int v), (4, .int wx), (5, .int wy)]) hx hb dM_crosses_32 hl (by decide) rfl (fun ls hl => ?_)
  refine lv_iconst (v := 2) hx hb dM_crosses_34 (by decide) ?_
  refine lv_iload hx hb dM_crosses_35 (lv_at hl 10 rfl) ?_
  refine lv_imul hx hb dM_crosses_37 ?_
  refine lv_istore (lv' := [(11, .int (2 * wy)), (10, .int (2 * wx)), (9, .int (md_o v)), (8, .int (md_o u)), (7, .int (md_o y)), (6, .int (md_o x)), (0, .int x), (1, .int y), (2, .int u), (3, .int v), (4, .int wx), (5, .int wy)]) hx hb dM_crosses_38 hl (by decide) rfl (fun ls hl => ?_)
  refine lv_iload hx hb dM_crosses_40 (lv_at hl 5 rfl) ?_
  refine lv_iload hx hb dM_crosses_42 (lv_at hl 3 rfl) ?_
  refine xr_S (As := [.int (md_o x), .int (md_o u)]) ⟨hx, hb, hml, hown, hts⟩ (cM_most l dC dI (md_o x) (md_o u)) (va_cwS 2 hts gM64 rfl rfl rfl (by decide +kernel) ⟨Nat.le_of_ble_eq_true rfl, Nat.le_of_ble_eq_true rfl⟩) hK hP [] [] rfl rfl rfl hl.1 rfl (Nat.le_of_ble_eq_true rfl) dM_crosses_44 ⟨Nat.le_of_ble_eq_true rfl, Nat.le_of_ble_eq_true rfl⟩ (fun r_1 hr_1 => ?_)
  subst hr_1
  refine lv_iload hx hb dM_crosses_47 (lv_at hl 1 rfl) ?_
  refine lv_icmp_le (tgt := 92) hx hb dM_crosses_49 (by decide) (fun c_2 => ?_) (fun c_2 => ?_)
  · refine lv_iconst (v := 0) hx hb dM_crosses_92 (by decide) ?_
    exact W.zret (v := 0) hx hb hr (by decide) (fun t ht hW => ⟨⟨0, rfl, (by simp only [bz, md_cross, c_2]; simp)⟩, ht⟩) (fun _ h => absurd h List.not_mem_nil) dM_crosses_93
  · refine lv_iload hx hb dM_crosses_52 (lv_at hl 5 rfl) ?_
    refine lv_iload hx hb dM_crosses_54 (lv_at hl 3 rfl) ?_
    refine xr_S (As := [.int (md_o x), .int (md_o u)]) ⟨hx, hb, hml, hown, hts⟩ (cM_least l dC dI (md_o x) (md_o u)) (va_cwS 2 hts gM68 rfl rfl rfl (by decide +kernel) ⟨Nat.le_of_ble_eq_true rfl, Nat.le_of_ble_eq_true rfl⟩) hK hP [] [] rfl rfl rfl hl.1 rfl (Nat.le_of_ble_eq_true rfl) dM_crosses_56 ⟨Nat.le_of_ble_eq_true rfl, Nat.le_of_ble_eq_true rfl⟩ (fun r_3 hr_3 => ?_)
    subst hr_3
    refine lv_iload hx hb dM_crosses_59 (lv_at hl 1 rfl) ?_
    refine lv_iconst (v := 2) hx hb dM_crosses_61 (by decide) ?_
    refine lv_iadd hx hb dM_crosses_62 ?_
    refine lv_icmp_ge (tgt := 92) hx hb dM_crosses_63 (by decide) (fun c_4 => ?_) (fun c_4 => ?_)
    · refine lv_iconst (v := 0) hx hb dM_crosses_92 (by decide) ?_
      exact W.zret (v := 0) hx hb hr (by decide) (fun t ht hW => ⟨⟨0, rfl, (by simp only [bz, md_cross, c_2, c_4]; simp)⟩, ht⟩) (fun _ h => absurd h List.not_mem_nil) dM_crosses_93
    · refine lv_iload hx hb dM_crosses_66 (lv_at hl 4 rfl) ?_
      refine lv_iload hx hb dM_crosses_68 (lv_at hl 2 rfl) ?_
      refine xr_S (As := [.int (md_o y), .int (md_o v)]) ⟨hx, hb, hml, hown, hts⟩ (cM_most l dC dI (md_o y) (md_o v)) (va_cwS 2 hts gM64 rfl rfl rfl (by decide +kernel) ⟨Nat.le_of_ble_eq_true rfl, Nat.le_of_ble_eq_true rfl⟩) hK hP [] [] rfl rfl rfl hl.1 rfl (Nat.le_of_ble_eq_true rfl) dM_crosses_70 ⟨Nat.le_of_ble_eq_true rfl, Nat.le_of_ble_eq_true rfl⟩ (fun r_5 hr_5 => ?_)
      subst hr_5
      refine lv_iload hx hb dM_crosses_73 (lv_at hl 0 rfl) ?_
      refine lv_icmp_le (tgt := 92) hx hb dM_crosses_75 (by decide) (fun c_6 => ?_) (fun c_6 => ?_)
      · refine lv_iconst (v := 0) hx hb dM_crosses_92 (by decide) ?_
        exact W.zret (v := 0) hx hb hr (by decide) (fun t ht hW => ⟨⟨0, rfl, (by simp only [bz, md_cross, c_2, c_4, c_6]; simp)⟩, ht⟩) (fun _ h => absurd h List.not_mem_nil) dM_crosses_93
      · refine lv_iload hx hb dM_crosses_78 (lv_at hl 4 rfl) ?_
        refine lv_iload hx hb dM_crosses_80 (lv_at hl 2 rfl) ?_
        refine xr_S (As := [.int (md_o y), .int (md_o v)]) ⟨hx, hb, hml, hown, hts⟩ (cM_least l dC dI (md_o y) (md_o v)) (va_cwS 2 hts gM68 rfl rfl rfl (by decide +kernel) ⟨Nat.le_of_ble_eq_true rfl, Nat.le_of_ble_eq_true rfl⟩) hK hP [] [] rfl rfl rfl hl.1 rfl (Nat.le_of_ble_eq_true rfl) dM_crosses_82 ⟨Nat.le_of_ble_eq_true rfl, Nat.le_of_ble_eq_true rfl⟩ (fun r_7 hr_7 => ?_)
        subst hr_7
        refine lv_iload hx hb dM_crosses_85 (lv_at hl 0 rfl) ?_
        refine lv_iconst (v := 2) hx hb dM_crosses_87 (by decide) ?_
        refine lv_iadd hx hb dM_crosses_88 ?_
        refine lv_icmp_lt (tgt := 94) hx hb dM_crosses_89 (by decide) (fun c_8 => ?_) (fun c_8 => ?_)
        · refine lv_iload hx hb dM_crosses_94 (lv_at hl 5 rfl) ?_
          refine lv_iload hx hb dM_crosses_96 (lv_at hl 4 rfl) ?_
          refine lv_iload hx hb dM_crosses_98 (lv_at hl 3 rfl) ?_
          refine lv_iload hx hb dM_crosses_100 (lv_at hl 2 rfl) ?_
          refine lv_iload hx hb dM_crosses_102 (lv_at hl 1 rfl) ?_
          refine lv_iload hx hb dM_crosses_104 (lv_at hl 0 rfl) ?_
          refine xr_S (As := [.int (md_o x), .int (md_o y), .int (md_o u), .int (md_o v), .int (2 * wx), .int (2 * wy)]) ⟨hx, hb, hml, hown, hts⟩ (cM_side l dC dI (md_o x) (md_o y) (md_o u) (md_o v) (2 * wx) (2 * wy)) (va_cwS 6 hts gM71 rfl rfl rfl (by decide +kernel) ⟨Nat.le_of_ble_eq_true rfl, Nat.le_of_ble_eq_true rfl⟩) hK hP [] [] rfl rfl rfl hl.1 rfl (Nat.le_of_ble_eq_true rfl) dM_crosses_106 ⟨Nat.le_of_ble_eq_true rfl, Nat.le_of_ble_eq_true rfl⟩ (fun r_9 hr_9 => ?_)
          subst hr_9
          refine lv_istore (lv' := [(12, .int (md_side (md_o x) (md_o y) (md_o u) (md_o v) (2 * wx) (2 * wy))), (11, .int (2 * wy)), (10, .int (2 * wx)), (9, .int (md_o v)), (8, .int (md_o u)), (7, .int (md_o y)), (6, .int (md_o x)), (0, .int x), (1, .int y), (2, .int u), (3, .int v), (4, .int wx), (5, .int wy)]) hx hb dM_crosses_109 hl (by decide) rfl (fun ls hl => ?_)
          refine lv_iload hx hb dM_crosses_111 (lv_at hl 6 rfl) ?_
          refine lv_iload hx hb dM_crosses_113 (lv_at hl 5 rfl) ?_
          refine lv_iload hx hb dM_crosses_115 (lv_at hl 4 rfl) ?_
          refine lv_iload hx hb dM_crosses_117 (lv_at hl 3 rfl) ?_
          refine lv_iload hx hb dM_crosses_119 (lv_at hl 2 rfl) ?_
          refine lv_iconst (v := 2) hx hb dM_crosses_121 (by decide) ?_
          refine lv_iadd hx hb dM_crosses_122 ?_
          refine lv_iload hx hb dM_crosses_123 (lv_at hl 1 rfl) ?_
          refine xr_S (As := [.int (md_o x), .int (md_o y), .int (md_o u), .int (md_o v), .int ((2 * wx) + 2), .int (2 * wy)]) ⟨hx, hb, hml, hown, hts⟩ (cM_side l dC dI (md_o x) (md_o y) (md_o u) (md_o v) ((2 * wx) + 2) (2 * wy)) (va_cwS 6 hts gM71 rfl rfl rfl (by decide +kernel) ⟨Nat.le_of_ble_eq_true rfl, Nat.le_of_ble_eq_true rfl⟩) hK hP [] [] rfl rfl rfl hl.1 rfl (Nat.le_of_ble_eq_true rfl) dM_crosses_125 ⟨Nat.le_of_ble_eq_true rfl, Nat.le_of_ble_eq_true rfl⟩ (fun r_10 hr_10 => ?_)
          subst hr_10
          refine lv_istore (lv' := [(13, .int (md_side (md_o x) (md_o y) (md_o u) (md_o v) ((2 * wx) + 2) (2 * wy))), (12, .int (md_side (md_o x) (md_o y) (md_o u) (md_o v) (2 * wx) (2 * wy))), (11, .int (2 * wy)), (10, .int (2 * wx)), (9, .int (md_o v)), (8, .int (md_o u)), (7, .int (md_o y)), (6, .int (md_o x)), (0, .int x), (1, .int y), (2, .int u), (3, .int v), (4, .int wx), (5, .int wy)]) hx hb dM_crosses_128 hl (by decide) rfl (fun ls hl => ?_)
          refine lv_iload hx hb dM_crosses_130 (lv_at hl 7 rfl) ?_
          refine lv_iload hx hb dM_crosses_132 (lv_at hl 6 rfl) ?_
          refine lv_iload hx hb dM_crosses_134 (lv_at hl 5 rfl) ?_
          refine lv_iload hx hb dM_crosses_136 (lv_at hl 4 rfl) ?_
          refine lv_iload hx hb dM_crosses_138 (lv_at hl 3 rfl) ?_
          refine lv_iload hx hb dM_crosses_140 (lv_at hl 2 rfl) ?_
          refine lv_iconst (v := 2) hx hb dM_crosses_142 (by decide) ?_
          refine lv_iadd hx hb dM_crosses_143 ?_
          refine xr_S (As := [.int (md_o x), .int (md_o y), .int (md_o u), .int (md_o v), .int (2 * wx), .int ((2 * wy) + 2)]) ⟨hx, hb, hml, hown, hts⟩ (cM_side l dC dI (md_o x) (md_o y) (md_o u) (md_o v) (2 * wx) ((2 * wy) + 2)) (va_cwS 6 hts gM71 rfl rfl rfl (by decide +kernel) ⟨Nat.le_of_ble_eq_true rfl, Nat.le_of_ble_eq_true rfl⟩) hK hP [] [] rfl rfl rfl hl.1 rfl (Nat.le_of_ble_eq_true rfl) dM_crosses_144 ⟨Nat.le_of_ble_eq_true rfl, Nat.le_of_ble_eq_true rfl⟩ (fun r_11 hr_11 => ?_)
          subst hr_11
          refine lv_istore (lv' := [(14, .int (md_side (md_o x) (md_o y) (md_o u) (md_o v) (2 * wx) ((2 * wy) + 2))), (13, .int (md_side (md_o x) (md_o y) (md_o u) (md_o v) ((2 * wx) + 2) (2 * wy))), (12, .int (md_side (md_o x) (md_o y) (md_o u) (md_o v) (2 * wx) (2 * wy))), (11, .int (2 * wy)), (10, .int (2 * wx)), (9, .int (md_o v)), (8, .int (md_o u)), (7, .int (md_o y)), (6, .int (md_o x)), (0, .int x), (1, .int y), (2, .int u), (3, .int v), (4, .int wx), (5, .int wy)]) hx hb dM_crosses_147 hl (by decide) rfl (fun ls hl => ?_)
          refine lv_iload hx hb dM_crosses_149 (lv_at hl 8 rfl) ?_
          refine lv_iload hx hb dM_crosses_151 (lv_at hl 7 rfl) ?_
          refine lv_iload hx hb dM_crosses_153 (lv_at hl 6 rfl) ?_
          refine lv_iload hx hb dM_crosses_155 (lv_at hl 5 rfl) ?_
          refine lv_iload hx hb dM_crosses_157 (lv_at hl 4 rfl) ?_
          refine lv_iconst (v := 2) hx hb dM_crosses_159 (by decide) ?_
          refine lv_iadd hx hb dM_crosses_160 ?_
          refine lv_iload hx hb dM_crosses_161 (lv_at hl 3 rfl) ?_
          refine lv_iconst (v := 2) hx hb dM_crosses_163 (by decide) ?_
          refine lv_iadd hx hb dM_crosses_164 ?_
          refine xr_S (As := [.int (md_o x), .int (md_o y), .int (md_o u), .int (md_o v), .int ((2 * wx) + 2), .int ((2 * wy) + 2)]) ⟨hx, hb, hml, hown, hts⟩ (cM_side l dC dI (md_o x) (md_o y) (md_o u) (md_o v) ((2 * wx) + 2) ((2 * wy) + 2)) (va_cwS 6 hts gM71 rfl rfl rfl (by decide +kernel) ⟨Nat.le_of_ble_eq_true rfl, Nat.le_of_ble_eq_true rfl⟩) hK hP [] [] rfl rfl rfl hl.1 rfl (Nat.le_of_ble_eq_true rfl) dM_crosses_165 ⟨Nat.le_of_ble_eq_true rfl, Nat.le_of_ble_eq_true rfl⟩ (fun r_12 hr_12 => ?_)
          subst hr_12
          refine lv_istore (lv' := [(15, .int (md_side (md_o x) (md_o y) (md_o u) (md_o v) ((2 * wx) + 2) ((2 * wy) + 2))), (14, .int (md_side (md_o x) (md_o y) (md_o u) (md_o v) (2 * wx) ((2 * wy) + 2))), (13, .int (md_side (md_o x) (md_o y) (md_o u) (md_o v) ((2 * wx) + 2) (2 * wy))), (12, .int (md_side (md_o x) (md_o y) (md_o u) (md_o v) (2 * wx) (2 * wy))), (11, .int (2 * wy)), (10, .int (2 * wx)), (9, .int (md_o v)), (8, .int (md_o u)), (7, .int (md_o y)), (6, .int (md_o x)), (0, .int x), (1, .int y), (2, .int u), (3, .int v), (4, .int wx), (5, .int wy)]) hx hb dM_crosses_168 hl (by decide) rfl (fun ls hl => ?_)
          refine lv_iload hx hb dM_crosses_170 (lv_at hl 3 rfl) ?_
          refine lv_iload hx hb dM_crosses_172 (lv_at hl 2 rfl) ?_
          refine xr_S (As := [.int (md_side (md_o x) (md_o y) (md_o u) (md_o v) (2 * wx) (2 * wy)), .int (md_side (md_o x) (md_o y) (md_o u) (md_o v) ((2 * wx) + 2) (2 * wy))]) ⟨hx, hb, hml, hown, hts⟩ (cM_least l dC dI (md_side (md_o x) (md_o y) (md_o u) (md_o v) (2 * wx) (2 * wy)) (md_side (md_o x) (md_o y) (md_o u) (md_o v) ((2 * wx) + 2) (2 * wy))) (va_cwS 2 hts gM68 rfl rfl rfl (by decide +kernel) ⟨Nat.le_of_ble_eq_true rfl, Nat.le_of_ble_eq_true rfl⟩) hK hP [] [] rfl rfl rfl hl.1 rfl (Nat.le_of_ble_eq_true rfl) dM_crosses_174 ⟨Nat.le_of_ble_eq_true rfl, Nat.le_of_ble_eq_true rfl⟩ (fun r_13 hr_13 => ?_)
          subst hr_13
          refine lv_iload hx hb dM_crosses_177 (lv_at hl 1 rfl) ?_
          refine lv_iload hx hb dM_crosses_179 (lv_at hl 0 rfl) ?_
          refine xr_S (As := [.int (md_side (md_o x) (md_o y) (md_o u) (md_o v) (2 * wx) ((2 * wy) + 2)), .int (md_side (md_o x) (md_o y) (md_o u) (md_o v) ((2 * wx) + 2) ((2 * wy) + 2))]) ⟨hx, hb, hml, hown, hts⟩ (cM_least l dC dI (md_side (md_o x) (md_o y) (md_o u) (md_o v) (2 * wx) ((2 * wy) + 2)) (md_side (md_o x) (md_o y) (md_o u) (md_o v) ((2 * wx) + 2) ((2 * wy) + 2))) (va_cwS 2 hts gM68 rfl rfl rfl (by decide +kernel) ⟨Nat.le_of_ble_eq_true rfl, Nat.le_of_ble_eq_true rfl⟩) hK hP [] [] rfl rfl rfl hl.1 rfl (Nat.le_of_ble_eq_true rfl) dM_crosses_181 ⟨Nat.le_of_ble_eq_true rfl, Nat.le_of_ble_eq_true rfl⟩ (fun r_14 hr_14 => ?_)
          subst hr_14
          refine xr_S (As := [.int (md_least (md_side (md_o x) (md_o y) (md_o u) (md_o v) (2 * wx) (2 * wy)) (md_side (md_o x) (md_o y) (md_o u) (md_o v) ((2 * wx) + 2) (2 * wy))), .int (md_least (md_side (md_o x) (md_o y) (md_o u) (md_o v) (2 * wx) ((2 * wy) + 2)) (md_side (md_o x) (md_o y) (md_o u) (md_o v) ((2 * wx) + 2) ((2 * wy) + 2)))]) ⟨hx, hb, hml, hown, hts⟩ (cM_least l dC dI (md_least (md_side (md_o x) (md_o y) (md_o u) (md_o v) (2 * wx) (2 * wy)) (md_side (md_o x) (md_o y) (md_o u) (md_o v) ((2 * wx) + 2) (2 * wy))) (md_least (md_side (md_o x) (md_o y) (md_o u) (md_o v) (2 * wx) ((2 * wy) + 2)) (md_side (md_o x) (md_o y) (md_o u) (md_o v) ((2 * wx) + 2) ((2 * wy) + 2)))) (va_cwS 2 hts gM68 rfl rfl rfl (by decide +kernel) ⟨Nat.le_of_ble_eq_true rfl, Nat.le_of_ble_eq_true rfl⟩) hK hP [] [] rfl rfl rfl hl.1 rfl (Nat.le_of_ble_eq_true rfl) dM_crosses_184 ⟨Nat.le_of_ble_eq_true rfl, Nat.le_of_ble_eq_true rfl⟩ (fun r_15 hr_15 => ?_)
          subst hr_15
          rw [show (md_least (md_least (md_side (md_o x) (md_o y) (md_o u) (md_o v) (2 * wx) (2 * wy)) (md_side (md_o x) (md_o y) (md_o u) (md_o v) ((2 * wx) + 2) (2 * wy))) (md_least (md_side (md_o x) (md_o y) (md_o u) (md_o v) (2 * wx) ((2 * wy) + 2)) (md_side (md_o x) (md_o y) (md_o u) (md_o v) ((2 * wx) + 2) ((2 * wy) + 2))) : Int32) = md_low x y u v wx wy from rfl]
          refine lv_istore (lv' := [(16, .int (md_low x y u v wx wy)), (15, .int (md_side (md_o x) (md_o y) (md_o u) (md_o v) ((2 * wx) + 2) ((2 * wy) + 2))), (14, .int (md_side (md_o x) (md_o y) (md_o u) (md_o v) (2 * wx) ((2 * wy) + 2))), (13, .int (md_side (md_o x) (md_o y) (md_o u) (md_o v) ((2 * wx) + 2) (2 * wy))), (12, .int (md_side (md_o x) (md_o y) (md_o u) (md_o v) (2 * wx) (2 * wy))), (11, .int (2 * wy)), (10, .int (2 * wx)), (9, .int (md_o v)), (8, .int (md_o u)), (7, .int (md_o y)), (6, .int (md_o x)), (0, .int x), (1, .int y), (2, .int u), (3, .int v), (4, .int wx), (5, .int wy)]) hx hb dM_crosses_187 hl (by decide) rfl (fun ls hl => ?_)
          refine lv_iload hx hb dM_crosses_189 (lv_at hl 4 rfl) ?_
          refine lv_iload hx hb dM_crosses_191 (lv_at hl 3 rfl) ?_
          refine xr_S (As := [.int (md_side (md_o x) (md_o y) (md_o u) (md_o v) (2 * wx) (2 * wy)), .int (md_side (md_o x) (md_o y) (md_o u) (md_o v) ((2 * wx) + 2) (2 * wy))]) ⟨hx, hb, hml, hown, hts⟩ (cM_most l dC dI (md_side (md_o x) (md_o y) (md_o u) (md_o v) (2 * wx) (2 * wy)) (md_side (md_o x) (md_o y) (md_o u) (md_o v) ((2 * wx) + 2) (2 * wy))) (va_cwS 2 hts gM64 rfl rfl rfl (by decide +kernel) ⟨Nat.le_of_ble_eq_true rfl, Nat.le_of_ble_eq_true rfl⟩) hK hP [] [] rfl rfl rfl hl.1 rfl (Nat.le_of_ble_eq_true rfl) dM_crosses_193 ⟨Nat.le_of_ble_eq_true rfl, Nat.le_of_ble_eq_true rfl⟩ (fun r_16 hr_16 => ?_)
          subst hr_16
          refine lv_iload hx hb dM_crosses_196 (lv_at hl 2 rfl) ?_
          refine lv_iload hx hb dM_crosses_198 (lv_at hl 1 rfl) ?_
          refine xr_S (As := [.int (md_side (md_o x) (md_o y) (md_o u) (md_o v) (2 * wx) ((2 * wy) + 2)), .int (md_side (md_o x) (md_o y) (md_o u) (md_o v) ((2 * wx) + 2) ((2 * wy) + 2))]) ⟨hx, hb, hml, hown, hts⟩ (cM_most l dC dI (md_side (md_o x) (md_o y) (md_o u) (md_o v) (2 * wx) ((2 * wy) + 2)) (md_side (md_o x) (md_o y) (md_o u) (md_o v) ((2 * wx) + 2) ((2 * wy) + 2))) (va_cwS 2 hts gM64 rfl rfl rfl (by decide +kernel) ⟨Nat.le_of_ble_eq_true rfl, Nat.le_of_ble_eq_true rfl⟩) hK hP [] [] rfl rfl rfl hl.1 rfl (Nat.le_of_ble_eq_true rfl) dM_crosses_200 ⟨Nat.le_of_ble_eq_true rfl, Nat.le_of_ble_eq_true rfl⟩ (fun r_17 hr_17 => ?_)
          subst hr_17
          refine xr_S (As := [.int (md_most (md_side (md_o x) (md_o y) (md_o u) (md_o v) (2 * wx) (2 * wy)) (md_side (md_o x) (md_o y) (md_o u) (md_o v) ((2 * wx) + 2) (2 * wy))), .int (md_most (md_side (md_o x) (md_o y) (md_o u) (md_o v) (2 * wx) ((2 * wy) + 2)) (md_side (md_o x) (md_o y) (md_o u) (md_o v) ((2 * wx) + 2) ((2 * wy) + 2)))]) ⟨hx, hb, hml, hown, hts⟩ (cM_most l dC dI (md_most (md_side (md_o x) (md_o y) (md_o u) (md_o v) (2 * wx) (2 * wy)) (md_side (md_o x) (md_o y) (md_o u) (md_o v) ((2 * wx) + 2) (2 * wy))) (md_most (md_side (md_o x) (md_o y) (md_o u) (md_o v) (2 * wx) ((2 * wy) + 2)) (md_side (md_o x) (md_o y) (md_o u) (md_o v) ((2 * wx) + 2) ((2 * wy) + 2)))) (va_cwS 2 hts gM64 rfl rfl rfl (by decide +kernel) ⟨Nat.le_of_ble_eq_true rfl, Nat.le_of_ble_eq_true rfl⟩) hK hP [] [] rfl rfl rfl hl.1 rfl (Nat.le_of_ble_eq_true rfl) dM_crosses_203 ⟨Nat.le_of_ble_eq_true rfl, Nat.le_of_ble_eq_true rfl⟩ (fun r_18 hr_18 => ?_)
          subst hr_18
          rw [show (md_most (md_most (md_side (md_o x) (md_o y) (md_o u) (md_o v) (2 * wx) (2 * wy)) (md_side (md_o x) (md_o y) (md_o u) (md_o v) ((2 * wx) + 2) (2 * wy))) (md_most (md_side (md_o x) (md_o y) (md_o u) (md_o v) (2 * wx) ((2 * wy) + 2)) (md_side (md_o x) (md_o y) (md_o u) (md_o v) ((2 * wx) + 2) ((2 * wy) + 2))) : Int32) = md_high x y u v wx wy from rfl]
          refine lv_istore (lv' := [(17, .int (md_high x y u v wx wy)), (16, .int (md_low x y u v wx wy)), (15, .int (md_side (md_o x) (md_o y) (md_o u) (md_o v) ((2 * wx) + 2) ((2 * wy) + 2))), (14, .int (md_side (md_o x) (md_o y) (md_o u) (md_o v) (2 * wx) ((2 * wy) + 2))), (13, .int (md_side (md_o x) (md_o y) (md_o u) (md_o v) ((2 * wx) + 2) (2 * wy))), (12, .int (md_side (md_o x) (md_o y) (md_o u) (md_o v) (2 * wx) (2 * wy))), (11, .int (2 * wy)), (10, .int (2 * wx)), (9, .int (md_o v)), (8, .int (md_o u)), (7, .int (md_o y)), (6, .int (md_o x)), (0, .int x), (1, .int y), (2, .int u), (3, .int v), (4, .int wx), (5, .int wy)]) hx hb dM_crosses_206 hl (by decide) rfl (fun ls hl => ?_)
          refine lv_iload hx hb dM_crosses_208 (lv_at hl 1 rfl) ?_
          refine lv_if_ge (tgt := 222) hx hb dM_crosses_210 (by decide) (fun c_19 => ?_) (fun c_19 => ?_)
          · refine lv_iconst (v := 0) hx hb dM_crosses_222 (by decide) ?_
            exact W.zret (v := 0) hx hb hr (by decide) (fun t ht hW => ⟨⟨0, rfl, (by simp only [bz, md_cross, c_2, c_4, c_6, c_8, c_19]; simp)⟩, ht⟩) (fun _ h => absurd h List.not_mem_nil) dM_crosses_223
          · refine lv_iload hx hb dM_crosses_213 (lv_at hl 0 rfl) ?_
            refine lv_if_le (tgt := 222) hx hb dM_crosses_215 (by decide) (fun c_20 => ?_) (fun c_20 => ?_)
            · refine lv_iconst (v := 0) hx hb dM_crosses_222 (by decide) ?_
              exact W.zret (v := 0) hx hb hr (by decide) (fun t ht hW => ⟨⟨0, rfl, (by simp only [bz, md_cross, c_2, c_4, c_6, c_8, c_19, c_20]; simp)⟩, ht⟩) (fun _ h => absurd h List.not_mem_nil) dM_crosses_223
            · refine lv_iconst (v := 1) hx hb dM_crosses_218 (by decide) ?_
              refine lv_goto (tgt := 223) hx hb dM_crosses_219 (by decide) ?_
              exact W.zret (v := 1) hx hb hr (by decide) (fun t ht hW => ⟨⟨1, rfl, (by simp only [bz, md_cross, c_2, c_4, c_6, c_8, c_19, c_20]; simp)⟩, ht⟩) (fun _ h => absurd h List.not_mem_nil) dM_crosses_223
        · refine lv_iconst (v := 0) hx hb dM_crosses_92 (by decide) ?_
          exact W.zret (v := 0) hx hb hr (by decide) (fun t ht hW => ⟨⟨0, rfl, (by simp only [bz, md_cross, c_2, c_4, c_6, c_8]; simp)⟩, ht⟩) (fun _ h => absurd h List.not_mem_nil) dM_crosses_93
