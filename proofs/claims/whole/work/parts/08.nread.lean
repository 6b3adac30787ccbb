def bz (b : Bool) : Int32 := if b then 1 else 0
theorem bz_0 {b : Bool} (h : bz b = 0) : b = false := by cases b with
  | false => rfl
  | true => exact absurd h (by decide)
theorem bz_1 {b : Bool} (h : ¬ bz b = 0) : b = true := by cases b with
  | false => exact absurd rfl h
  | true => rfl
def sn_hold (x y : Int32) : Bool := decide (¬ (x >>> (y &&& 31)) &&& 1 = 0)
def sn_in (W H : Nat) (x y : Int32) : Bool := !decide (x < 0) && (!decide (nI W ≤ x) && (!decide (y < 0) && !decide (nI H ≤ y)))
def sn_wall (W H : Nat) (f : Nat → Int32) (x y : Int32) : Bool := !sn_in W H x y || decide (¬ f (y * 16 + x).toNatClampNeg = 0)
def sn_near (rs x y u v : Int32) : Bool := !decide (rs < (x - u) * (x - u) + (y - v) * (y - v))
def sn_all (P : Nat) : Int32 := 1 <<< (nI P &&& 31) - 1
def sn_dry (fw fr : Nat → Int32) (st : Int32) (i : Nat) : Bool := decide (fw i = 0) && decide (fr i &&& st = 0)
theorem sn_in_spec {W H : Nat} {x y : Int32} (hW : W ≤ 16) (hH : H ≤ 16) (h : sn_in W H x y = true) : ∃ a b : Nat, a < W ∧ b < H ∧ x = nI a ∧ y = nI b := by
  simp [sn_in] at h
  obtain ⟨h1, h2, h3, h4⟩ := h
  rcases pk_ix x (n := W) (by omega) with q | q | ⟨a, ha, ea⟩
  · exact absurd (Int32.not_lt.mpr h1 q) id
  · exact absurd (Int32.not_le.mpr h2 q) id
  rcases pk_ix y (n := H) (by omega) with q | q | ⟨b, hb, eb⟩
  · exact absurd (Int32.not_lt.mpr h3 q) id
  · exact absurd (Int32.not_le.mpr h4 q) id
  exact ⟨a, b, ha, hb, ea, eb⟩
theorem sn_cell (a b : Nat) : nI b * 16 + nI a = nI (b * 16 + a) := by
  rw [show (16 : Int32) = nI 16 from rfl, pk_mul, nI_add]
theorem sn_ix {W H : Nat} {x y : Int32} (hW : W ≤ 16) (hH : H ≤ 16) (h : sn_in W H x y = true) : vp_in (y * 16 + x) 256 := by
  obtain ⟨a, b, ha, hb, rfl, rfl⟩ := sn_in_spec hW hH h
  rw [sn_cell]
  exact vp_in_nI (by omega) (by decide)
set_option maxHeartbeats 4000000 in
set_option maxRecDepth 100000 in
theorem cN_cellAt (l : Launch) (dC : Nat → ClassId) (dI : Nat → Nat → Nat) (x y : Int32)  : Met l yN_cellAt (kN_cellAt :: WD) { frames := 0, cells := 0, slots := 0, locals := 0 } (va_Pc [.int x, .int y] (xw (dC, dI) snC [] [])) (xr_Q (fun r => r = y * 16 + x)) 0 0 (fun _ => False) := by
  refine Met.ofW (cc := bN_cellAt) (maxL := 2) (ret := (some .int)) (by decide) rfl ?_
  intro p e s m args below meth c s₁ B hml hv
  obtain ⟨rfl, hP, hK⟩ := hv
  have hx := B.exec
  have hb := B.bytes
  have hr := B.returns
  have hts : ∀ w ∈ WD, w.before _ s = true := fun w h => atoms_spec (ws := kN_cellAt :: WD) B.pre w (List.mem_cons_of_mem _ h)
  have hown : s.vm.findClass R_N = some m.cls := findClass_of_methodNamed B.named
  have hlocks := B.notSynchronized
  have hl := lv_entry ([.int x, .int y]) (n := 2) (Nat.le_of_ble_eq_true rfl)
  rw [lg_entry_eq]
  generalize (lg_sl ([.int x, .int y]) ++ List.replicate (2 - (lg_sl ([.int x, .int y])).length) Slot.unset).toArray = ls at hl ⊢
  have hl : lv_has ls 2 [(0, .int x), (1, .int y)] := hl
  refine lv_iload_n hx hb dN_cellAt_0 rfl (lv_at hl 1 rfl) ?_
  refine lv_bipush (v := 16) hx hb dN_cellAt_1 (by decide) ?_
  refine lv_imul hx hb dN_cellAt_3 ?_
  refine lv_iload_n hx hb dN_cellAt_4 rfl (lv_at hl 0 rfl) ?_
  refine lv_iadd hx hb dN_cellAt_5 ?_
  exact W.iret (v := (y * 16) + x) hx hb hr (fun t ht hW => ⟨⟨(y * 16) + x, rfl, rfl⟩, ht⟩) (fun _ h => absurd h List.not_mem_nil) dN_cellAt_6
set_option maxHeartbeats 4000000 in
set_option maxRecDepth 100000 in
theorem cN_holds (l : Launch) (dC : Nat → ClassId) (dI : Nat → Nat → Nat) (x y : Int32)  : Met l yN_holds (kN_holds :: WD) { frames := 0, cells := 0, slots := 0, locals := 0 } (va_Pc [.int x, .int y] (xw (dC, dI) snC [] [])) (xr_Q (fun r => r = bz (sn_hold x y))) 0 0 (fun _ => False) := by
  refine Met.ofW (cc := bN_holds) (maxL := 2) (ret := (some .boolean)) (by decide) rfl ?_
  intro p e s m args below meth c s₁ B hml hv
  obtain ⟨rfl, hP, hK⟩ := hv
  have hx := B.exec
  have hb := B.bytes
  have hr := B.returns
  have hts : ∀ w ∈ WD, w.before _ s = true := fun w h => atoms_spec (ws := kN_holds :: WD) B.pre w (List.mem_cons_of_mem _ h)
  have hown : s.vm.findClass R_N = some m.cls := findClass_of_methodNamed B.named
  have hlocks := B.notSynchronized
  have hl := lv_entry ([.int x, .int y]) (n := 2) (Nat.le_of_ble_eq_true rfl)
  rw [lg_entry_eq]
  generalize (lg_sl ([.int x, .int y]) ++ List.replicate (2 - (lg_sl ([.int x, .int y])).length) Slot.unset).toArray = ls at hl ⊢
  have hl : lv_has ls 2 [(0, .int x), (1, .int y)] := hl
  refine lv_iload_n hx hb dN_holds_0 rfl (lv_at hl 0 rfl) ?_
  refine lv_iload_n hx hb dN_holds_1 rfl (lv_at hl 1 rfl) ?_
  refine lv_ishr hx hb dN_holds_2 ?_
  refine lv_iconst (v := 1) hx hb dN_holds_3 (by decide) ?_
  refine lv_iand hx hb dN_holds_4 ?_
  refine lv_if_eq (tgt := 12) hx hb dN_holds_5 (by decide) (fun c_1 => ?_) (fun c_1 => ?_)
  · refine lv_iconst (v := 0) hx hb dN_holds_12 (by decide) ?_
    exact W.zret (v := 0) hx hb hr (by decide) (fun t ht hW => ⟨⟨0, rfl, (by simp [bz, sn_hold, c_1])⟩, ht⟩) (fun _ h => absurd h List.not_mem_nil) dN_holds_13
  · refine lv_iconst (v := 1) hx hb dN_holds_8 (by decide) ?_
    refine lv_goto (tgt := 13) hx hb dN_holds_9 (by decide) ?_
    exact W.zret (v := 1) hx hb hr (by decide) (fun t ht hW => ⟨⟨1, rfl, (by simp [bz, sn_hold, c_1])⟩, ht⟩) (fun _ h => absurd h List.not_mem_nil) dN_holds_13
set_option maxHeartbeats 4000000 in
set_option maxRecDepth 100000 in
theorem cN_inPlan (l : Launch) (dC : Nat → ClassId) (dI : Nat → Nat → Nat) (h0 a_walls a_placeX a_placeY a_reachers a_lossOf a_upper a_length a_headsOn a_turn a_lack a_joined : Nat) (Wd Ht Pn : Nat) (rs old sc jc : Int32) (x y : Int32)  : Met l yN_inPlan (kN_inPlan :: WD) { frames := 0, cells := 0, slots := 0, locals := 0 } (va_Pc [.ref h0, .int x, .int y] (xw (dC, dI) snC [(h0, .inr (0, [.int (nI Wd), .int (nI Ht), .ref a_walls, .int rs, .ref a_placeX, .ref a_placeY, .int (nI Pn), .ref a_reachers, .int old, .ref a_lossOf, .int sc, .ref a_upper, .ref a_length, .ref a_headsOn, .ref a_turn, .ref a_lack, .ref a_joined, .int jc]))] [])) (xr_Q (fun r => r = bz (sn_in Wd Ht x y))) 0 0 (fun _ => False) := by
  refine Met.ofW (cc := bN_inPlan) (maxL := 3) (ret := (some .boolean)) (by decide) rfl ?_
  intro p e s m args below meth c s₁ B hml hv
  obtain ⟨rfl, hP, hK⟩ := hv
  have hx := B.exec
  have hb := B.bytes
  have hr := B.returns
  have hts : ∀ w ∈ WD, w.before _ s = true := fun w h => atoms_spec (ws := kN_inPlan :: WD) B.pre w (List.mem_cons_of_mem _ h)
  have hown : s.vm.findClass R_N = some m.cls := findClass_of_methodNamed B.named
  have hlocks := B.notSynchronized
  have hl := lv_entry ([.ref h0, .int x, .int y]) (n := 3) (Nat.le_of_ble_eq_true rfl)
  rw [lg_entry_eq]
  generalize (lg_sl ([.ref h0, .int x, .int y]) ++ List.replicate (3 - (lg_sl ([.ref h0, .int x, .int y])).length) Slot.unset).toArray = ls at hl ⊢
  have hl : lv_has ls 3 [(0, .ref h0), (1, .int x), (2, .int y)] := hl
  refine lv_iload_n hx hb dN_inPlan_0 rfl (lv_at hl 1 rfl) ?_
  refine lv_if_lt (tgt := 28) hx hb dN_inPlan_1 (by decide) (fun c_1 => ?_) (fun c_1 => ?_)
  · refine lv_iconst (v := 0) hx hb dN_inPlan_28 (by decide) ?_
    exact W.zret (v := 0) hx hb hr (by decide) (fun t ht hW => ⟨⟨0, rfl, (by simp [bz, sn_in, *])⟩, ht⟩) (fun _ h => absurd h List.not_mem_nil) dN_inPlan_29
  · refine lv_iload_n hx hb dN_inPlan_4 rfl (lv_at hl 1 rfl) ?_
    refine lv_aload_n hx hb dN_inPlan_5 rfl (lv_at hl 0 rfl) ?_
    refine va_get (D := (dC, dI)) (ci := 0) (v := .int (nI Wd)) (C := R_N) (T := T_N) (N := 18) hx hb hts in_N hown hK hP 0 rfl rfl 0 (by decide) (hts _ flN18) (fun _ h9 => h9) rfl dN_inPlan_6 ?_
    refine lv_icmp_ge (tgt := 28) hx hb dN_inPlan_9 (by decide) (fun c_2 => ?_) (fun c_2 => ?_)
    · refine lv_iconst (v := 0) hx hb dN_inPlan_28 (by decide) ?_
      exact W.zret (v := 0) hx hb hr (by decide) (fun t ht hW => ⟨⟨0, rfl, (by simp [bz, sn_in, *])⟩, ht⟩) (fun _ h => absurd h List.not_mem_nil) dN_inPlan_29
    · refine lv_iload_n hx hb dN_inPlan_12 rfl (lv_at hl 2 rfl) ?_
      refine lv_if_lt (tgt := 28) hx hb dN_inPlan_13 (by decide) (fun c_3 => ?_) (fun c_3 => ?_)
      · refine lv_iconst (v := 0) hx hb dN_inPlan_28 (by decide) ?_
        exact W.zret (v := 0) hx hb hr (by decide) (fun t ht hW => ⟨⟨0, rfl, (by simp [bz, sn_in, *])⟩, ht⟩) (fun _ h => absurd h List.not_mem_nil) dN_inPlan_29
      · refine lv_iload_n hx hb dN_inPlan_16 rfl (lv_at hl 2 rfl) ?_
        refine lv_aload_n hx hb dN_inPlan_17 rfl (lv_at hl 0 rfl) ?_
        refine va_get (D := (dC, dI)) (ci := 0) (v := .int (nI Ht)) (C := R_N) (T := T_N) (N := 18) hx hb hts in_N hown hK hP 0 rfl rfl 1 (by decide) (hts _ flN22) (fun _ h9 => h9) rfl dN_inPlan_18 ?_
        refine lv_icmp_ge (tgt := 28) hx hb dN_inPlan_21 (by decide) (fun c_4 => ?_) (fun c_4 => ?_)
        · refine lv_iconst (v := 0) hx hb dN_inPlan_28 (by decide) ?_
          exact W.zret (v := 0) hx hb hr (by decide) (fun t ht hW => ⟨⟨0, rfl, (by simp [bz, sn_in, *])⟩, ht⟩) (fun _ h => absurd h List.not_mem_nil) dN_inPlan_29
        · refine lv_iconst (v := 1) hx hb dN_inPlan_24 (by decide) ?_
          refine lv_goto (tgt := 29) hx hb dN_inPlan_25 (by decide) ?_
          exact W.zret (v := 1) hx hb hr (by decide) (fun t ht hW => ⟨⟨1, rfl, (by simp [bz, sn_in, *])⟩, ht⟩) (fun _ h => absurd h List.not_mem_nil) dN_inPlan_29
set_option maxHeartbeats 4000000 in
set_option maxRecDepth 100000 in
theorem cN_isWall (l : Launch) (dC : Nat → ClassId) (dI : Nat → Nat → Nat) (h0 a_walls a_placeX a_placeY a_reachers a_lossOf a_upper a_length a_headsOn a_turn a_lack a_joined : Nat) (Wd Ht Pn : Nat) (rs old sc jc : Int32) (cZ : ClassId) (f_walls : Nat → Int32) (x y : Int32) (hW : Wd ≤ 16) (hH : Ht ≤ 16) : Met l yN_isWall (kN_isWall :: WD) { frames := 1, cells := 0, slots := 0, locals := 22 } (va_Pc [.ref h0, .int x, .int y] (xw (dC, dI) snC [(h0, .inr (0, [.int (nI Wd), .int (nI Ht), .ref a_walls, .int rs, .ref a_placeX, .ref a_placeY, .int (nI Pn), .ref a_reachers, .int old, .ref a_lossOf, .int sc, .ref a_upper, .ref a_length, .ref a_headsOn, .ref a_turn, .ref a_lack, .ref a_joined, .int jc])), (a_walls, .inl (cZ, 256, .inl f_walls))] [(cZ, .boolean)])) (xr_Q (fun r => r = bz (sn_wall Wd Ht f_walls x y))) 0 0 (fun _ => False) := by
  refine Met.ofW (cc := bN_isWall) (maxL := 3) (ret := (some .boolean)) (by decide) rfl ?_
  intro p e s m args below meth c s₁ B hml hv
  obtain ⟨rfl, hP, hK⟩ := hv
  have hx := B.exec
  have hb := B.bytes
  have hr := B.returns
  have hts : ∀ w ∈ WD, w.before _ s = true := fun w h => atoms_spec (ws := kN_isWall :: WD) B.pre w (List.mem_cons_of_mem _ h)
  have hown : s.vm.findClass R_N = some m.cls := findClass_of_methodNamed B.named
  have hlocks := B.notSynchronized
  have hl := lv_entry ([.ref h0, .int x, .int y]) (n := 3) (Nat.le_of_ble_eq_true rfl)
  rw [lg_entry_eq]
  generalize (lg_sl ([.ref h0, .int x, .int y]) ++ List.replicate (3 - (lg_sl ([.ref h0, .int x, .int y])).length) Slot.unset).toArray = ls at hl ⊢
  have hl : lv_has ls 3 [(0, .ref h0), (1, .int x), (2, .int y)] := hl
  refine lv_aload_n hx hb dN_isWall_0 rfl (lv_at hl 0 rfl) ?_
  refine lv_iload_n hx hb dN_isWall_1 rfl (lv_at hl 1 rfl) ?_
  refine lv_iload_n hx hb dN_isWall_2 rfl (lv_at hl 2 rfl) ?_
  refine xr_V (As := [.int x, .int y]) ⟨hx, hb, hml, hown, hts⟩ (cN_inPlan l dC dI h0 a_walls a_placeX a_placeY a_reachers a_lossOf a_upper a_length a_headsOn a_turn a_lack a_joined Wd Ht Pn rs old sc jc x y) (cwV 2 hts gN159 rfl rfl rfl (by decide +kernel) ⟨Nat.le_of_ble_eq_true rfl, Nat.le_of_ble_eq_true rfl⟩) hK hP [0] [] rfl rfl 0 0 rfl rfl rfl rfl hl.1 rfl (Nat.le_of_ble_eq_true rfl) dN_isWall_3 ⟨Nat.zero_le _, Nat.zero_le _⟩ (fun r_1 hr_1 => ?_)
  subst hr_1
  refine lv_if_eq (tgt := 22) hx hb dN_isWall_6 (by decide) (fun c_2 => ?_) (fun c_2 => ?_)
  · replace c_2 := bz_0 c_2
    refine lv_iconst (v := 1) hx hb dN_isWall_22 (by decide) ?_
    refine lv_goto (tgt := 27) hx hb dN_isWall_23 (by decide) ?_
    exact W.zret (v := 1) hx hb hr (by decide) (fun t ht hW => ⟨⟨1, rfl, (by simp [bz, sn_wall, *])⟩, ht⟩) (fun _ h => absurd h List.not_mem_nil) dN_isWall_27
  · replace c_2 := bz_1 c_2
    refine lv_aload_n hx hb dN_isWall_9 rfl (lv_at hl 0 rfl) ?_
    refine va_get (D := (dC, dI)) (ci := 0) (v := .ref a_walls) (C := R_N) (T := T_N) (N := 18) hx hb hts in_N hown hK hP 0 rfl rfl 2 (by decide) (hts _ flN25) (fun _ h9 => h9) rfl dN_isWall_10 ?_
    refine lv_iload_n hx hb dN_isWall_13 rfl (lv_at hl 1 rfl) ?_
    refine lv_iload_n hx hb dN_isWall_14 rfl (lv_at hl 2 rfl) ?_
    refine xr_S (As := [.int x, .int y]) ⟨hx, hb, hml, hown, hts⟩ (cN_cellAt l dC dI x y) (va_cwS 2 hts gN90 rfl rfl rfl (by decide +kernel) ⟨Nat.le_of_ble_eq_true rfl, Nat.le_of_ble_eq_true rfl⟩) hK hP [] [] rfl rfl rfl hl.1 rfl (Nat.le_of_ble_eq_true rfl) dN_isWall_15 ⟨Nat.zero_le _, Nat.zero_le _⟩ (fun r_3 hr_3 => ?_)
    subst hr_3
    refine va_zald hx hb hK hP 1 0 rfl rfl (sn_ix hW hH c_2) dN_isWall_18 ?_
    refine lv_if_eq (tgt := 26) hx hb dN_isWall_19 (by decide) (fun c_4 => ?_) (fun c_4 => ?_)
    · refine lv_iconst (v := 0) hx hb dN_isWall_26 (by decide) ?_
      exact W.zret (v := 0) hx hb hr (by decide) (fun t ht hW => ⟨⟨0, rfl, (by simp [bz, sn_wall, *])⟩, ht⟩) (fun _ h => absurd h List.not_mem_nil) dN_isWall_27
    · refine lv_iconst (v := 1) hx hb dN_isWall_22 (by decide) ?_
      refine lv_goto (tgt := 27) hx hb dN_isWall_23 (by decide) ?_
      exact W.zret (v := 1) hx hb hr (by decide) (fun t ht hW => ⟨⟨1, rfl, (by simp [bz, sn_wall, *])⟩, ht⟩) (fun _ h => absurd h List.not_mem_nil) dN_isWall_27
set_option maxHeartbeats 4000000 in
set_option maxRecDepth 100000 in
theorem cN_isNear (l : Launch) (dC : Nat → ClassId) (dI : Nat → Nat → Nat) (h0 a_walls a_placeX a_placeY a_reachers a_lossOf a_upper a_length a_headsOn a_turn a_lack a_joined : Nat) (Wd Ht Pn : Nat) (rs old sc jc : Int32) (x y u v : Int32)  : Met l yN_isNear (kN_isNear :: WD) { frames := 0, cells := 0, slots := 0, locals := 0 } (va_Pc [.ref h0, .int x, .int y, .int u, .int v] (xw (dC, dI) snC [(h0, .inr (0, [.int (nI Wd), .int (nI Ht), .ref a_walls, .int rs, .ref a_placeX, .ref a_placeY, .int (nI Pn), .ref a_reachers, .int old, .ref a_lossOf, .int sc, .ref a_upper, .ref a_length, .ref a_headsOn, .ref a_turn, .ref a_lack, .ref a_joined, .int jc]))] [])) (xr_Q (fun r => r = bz (sn_near rs x y u v))) 0 0 (fun _ => False) := by
  refine Met.ofW (cc := bN_isNear) (maxL := 5) (ret := (some .boolean)) (by decide) rfl ?_
  intro p e s m args below meth c s₁ B hml hv
  obtain ⟨rfl, hP, hK⟩ := hv
  have hx := B.exec
  have hb := B.bytes
  have hr := B.returns
  have hts : ∀ w ∈ WD, w.before _ s = true := fun w h => atoms_spec (ws := kN_isNear :: WD) B.pre w (List.mem_cons_of_mem _ h)
  have hown : s.vm.findClass R_N = some m.cls := findClass_of_methodNamed B.named
  have hlocks := B.notSynchronized
  have hl := lv_entry ([.ref h0, .int x, .int y, .int u, .int v]) (n := 5) (Nat.le_of_ble_eq_true rfl)
  rw [lg_entry_eq]
  generalize (lg_sl ([.ref h0, .int x, .int y, .int u, .int v]) ++ List.replicate (5 - (lg_sl ([.ref h0, .int x, .int y, .int u, .int v])).length) Slot.unset).toArray = ls at hl ⊢
  have hl : lv_has ls 5 [(0, .ref h0), (1, .int x), (2, .int y), (3, .int u), (4, .int v)] := hl
  refine lv_iload_n hx hb dN_isNear_0 rfl (lv_at hl 1 rfl) ?_
  refine lv_iload_n hx hb dN_isNear_1 rfl (lv_at hl 3 rfl) ?_
  refine lv_isub hx hb dN_isNear_2 ?_
  refine lv_iload_n hx hb dN_isNear_3 rfl (lv_at hl 1 rfl) ?_
  refine lv_iload_n hx hb dN_isNear_4 rfl (lv_at hl 3 rfl) ?_
  refine lv_isub hx hb dN_isNear_5 ?_
  refine lv_imul hx hb dN_isNear_6 ?_
  refine lv_iload_n hx hb dN_isNear_7 rfl (lv_at hl 2 rfl) ?_
  refine lv_iload hx hb dN_isNear_8 (lv_at hl 4 rfl) ?_
  refine lv_isub hx hb dN_isNear_10 ?_
  refine lv_iload_n hx hb dN_isNear_11 rfl (lv_at hl 2 rfl) ?_
  refine lv_iload hx hb dN_isNear_12 (lv_at hl 4 rfl) ?_
  refine lv_isub hx hb dN_isNear_14 ?_
  refine lv_imul hx hb dN_isNear_15 ?_
  refine lv_iadd hx hb dN_isNear_16 ?_
  refine lv_aload_n hx hb dN_isNear_17 rfl (lv_at hl 0 rfl) ?_
  refine va_get (D := (dC, dI)) (ci := 0) (v := .int rs) (C := R_N) (T := T_N) (N := 18) hx hb hts in_N hown hK hP 0 rfl rfl 3 (by decide) (hts _ flN29) (fun _ h9 => h9) rfl dN_isNear_18 ?_
  refine lv_icmp_gt (tgt := 28) hx hb dN_isNear_21 (by decide) (fun c_1 => ?_) (fun c_1 => ?_)
  · refine lv_iconst (v := 0) hx hb dN_isNear_28 (by decide) ?_
    exact W.zret (v := 0) hx hb hr (by decide) (fun t ht hW => ⟨⟨0, rfl, (by simp [bz, sn_near, *])⟩, ht⟩) (fun _ h => absurd h List.not_mem_nil) dN_isNear_29
  · refine lv_iconst (v := 1) hx hb dN_isNear_24 (by decide) ?_
    refine lv_goto (tgt := 29) hx hb dN_isNear_25 (by decide) ?_
    exact W.zret (v := 1) hx hb hr (by decide) (fun t ht hW => ⟨⟨1, rfl, (by simp [bz, sn_near, *])⟩, ht⟩) (fun _ h => absurd h List.not_mem_nil) dN_isNear_29
set_option maxHeartbeats 4000000 in
set_option maxRecDepth 100000 in
theorem cN_allPlaces (l : Launch) (dC : Nat → ClassId) (dI : Nat → Nat → Nat) (h0 a_walls a_placeX a_placeY a_reachers a_lossOf a_upper a_length a_headsOn a_turn a_lack a_joined : Nat) (Wd Ht Pn : Nat) (rs old sc jc : Int32)  : Met l yN_allPlaces (kN_allPlaces :: WD) { frames := 0, cells := 0, slots := 0, locals := 0 } (va_Pc [.ref h0] (xw (dC, dI) snC [(h0, .inr (0, [.int (nI Wd), .int (nI Ht), .ref a_walls, .int rs, .ref a_placeX, .ref a_placeY, .int (nI Pn), .ref a_reachers, .int old, .ref a_lossOf, .int sc, .ref a_upper, .ref a_length, .ref a_headsOn, .ref a_turn, .ref a_lack, .ref a_joined, .int jc]))] [])) (xr_Q (fun r => r = sn_all Pn)) 0 0 (fun _ => False) := by
  refine Met.ofW (cc := bN_allPlaces) (maxL := 1) (ret := (some .int)) (by decide) rfl ?_
  intro p e s m args below meth c s₁ B hml hv
  obtain ⟨rfl, hP, hK⟩ := hv
  have hx := B.exec
  have hb := B.bytes
  have hr := B.returns
  have hts : ∀ w ∈ WD, w.before _ s = true := fun w h => atoms_spec (ws := kN_allPlaces :: WD) B.pre w (List.mem_cons_of_mem _ h)
  have hown : s.vm.findClass R_N = some m.cls := findClass_of_methodNamed B.named
  have hlocks := B.notSynchronized
  have hl := lv_entry ([.ref h0]) (n := 1) (Nat.le_of_ble_eq_true rfl)
  rw [lg_entry_eq]
  generalize (lg_sl ([.ref h0]) ++ List.replicate (1 - (lg_sl ([.ref h0])).length) Slot.unset).toArray = ls at hl ⊢
  have hl : lv_has ls 1 [(0, .ref h0)] := hl
  refine lv_iconst (v := 1) hx hb dN_allPlaces_0 (by decide) ?_
  refine lv_aload_n hx hb dN_allPlaces_1 rfl (lv_at hl 0 rfl) ?_
  refine va_get (D := (dC, dI)) (ci := 0) (v := .int (nI Pn)) (C := R_N) (T := T_N) (N := 18) hx hb hts in_N hown hK hP 0 rfl rfl 6 (by decide) (hts _ flN39) (fun _ h9 => h9) rfl dN_allPlaces_2 ?_
  refine lv_ishl hx hb dN_allPlaces_5 ?_
  refine lv_iconst (v := 1) hx hb dN_allPlaces_6 (by decide) ?_
  refine lv_isub hx hb dN_allPlaces_7 ?_
  exact W.iret (v := (1 <<< ((nI Pn) &&& 31)) - 1) hx hb hr (fun t ht hW => ⟨⟨(1 <<< ((nI Pn) &&& 31)) - 1, rfl, rfl⟩, ht⟩) (fun _ h => absurd h List.not_mem_nil) dN_allPlaces_8
set_option maxHeartbeats 4000000 in
set_option maxRecDepth 100000 in
theorem cN_isDry (l : Launch) (dC : Nat → ClassId) (dI : Nat → Nat → Nat) (h0 a_walls a_placeX a_placeY a_reachers a_lossOf a_upper a_length a_headsOn a_turn a_lack a_joined : Nat) (Wd Ht Pn : Nat) (rs old sc jc : Int32) (cZ cI : ClassId) (f_walls f_reachers : Nat → Int32) (i : Nat) (st : Int32) (hi : i < 256) : Met l yN_isDry (kN_isDry :: WD) { frames := 0, cells := 0, slots := 0, locals := 0 } (va_Pc [.ref h0, .int (nI i), .int st] (xw (dC, dI) snC [(h0, .inr (0, [.int (nI Wd), .int (nI Ht), .ref a_walls, .int rs, .ref a_placeX, .ref a_placeY, .int (nI Pn), .ref a_reachers, .int old, .ref a_lossOf, .int sc, .ref a_upper, .ref a_length, .ref a_headsOn, .ref a_turn, .ref a_lack, .ref a_joined, .int jc])), (a_walls, .inl (cZ, 256, .inl f_walls)), (a_reachers, .inl (cI, 256, .inl f_reachers))] [(cZ, .boolean), (cI, .int)])) (xr_Q (fun r => r = bz (sn_dry f_walls f_reachers st i))) 0 0 (fun _ => False) := by
  refine Met.ofW (cc := bN_isDry) (maxL := 3) (ret := (some .boolean)) (by decide) rfl ?_
  intro p e s m args below meth c s₁ B hml hv
  obtain ⟨rfl, hP, hK⟩ := hv
  have hx := B.exec
  have hb := B.bytes
  have hr := B.returns
  have hts : ∀ w ∈ WD, w.before _ s = true := fun w h => atoms_spec (ws := kN_isDry :: WD) B.pre w (List.mem_cons_of_mem _ h)
  have hown : s.vm.findClass R_N = some m.cls := findClass_of_methodNamed B.named
  have hlocks := B.notSynchronized
  have hl := lv_entry ([.ref h0, .int (nI i), .int st]) (n := 3) (Nat.le_of_ble_eq_true rfl)
  rw [lg_entry_eq]
  generalize (lg_sl ([.ref h0, .int (nI i), .int st]) ++ List.replicate (3 - (lg_sl ([.ref h0, .int (nI i), .int st])).length) Slot.unset).toArray = ls at hl ⊢
  have hl : lv_has ls 3 [(0, .ref h0), (1, .int (nI i)), (2, .int st)] := hl
  refine lv_aload_n hx hb dN_isDry_0 rfl (lv_at hl 0 rfl) ?_
  refine va_get (D := (dC, dI)) (ci := 0) (v := .ref a_walls) (C := R_N) (T := T_N) (N := 18) hx hb hts in_N hown hK hP 0 rfl rfl 2 (by decide) (hts _ flN25) (fun _ h9 => h9) rfl dN_isDry_1 ?_
  refine lv_iload_n hx hb dN_isDry_4 rfl (lv_at hl 1 rfl) ?_
  refine xa_zald hx hb hK hP 1 0 rfl rfl (i := i) (by omega) (by decide) dN_isDry_5 ?_
  refine lv_if_ne (tgt := 24) hx hb dN_isDry_6 (by decide) (fun c_1 => ?_) (fun c_1 => ?_)
  · refine lv_iconst (v := 0) hx hb dN_isDry_24 (by decide) ?_
    exact W.zret (v := 0) hx hb hr (by decide) (fun t ht hW => ⟨⟨0, rfl, (by simp [bz, sn_dry, *])⟩, ht⟩) (fun _ h => absurd h List.not_mem_nil) dN_isDry_25
  · refine lv_aload_n hx hb dN_isDry_9 rfl (lv_at hl 0 rfl) ?_
    refine va_get (D := (dC, dI)) (ci := 0) (v := .ref a_reachers) (C := R_N) (T := T_N) (N := 18) hx hb hts in_N hown hK hP 0 rfl rfl 7 (by decide) (hts _ flN42) (fun _ h9 => h9) rfl dN_isDry_10 ?_
    refine lv_iload_n hx hb dN_isDry_13 rfl (lv_at hl 1 rfl) ?_
    refine xa_iald hx hb hK hP 2 1 rfl rfl (i := i) (by omega) (by decide) dN_isDry_14 ?_
    refine lv_iload_n hx hb dN_isDry_15 rfl (lv_at hl 2 rfl) ?_
    refine lv_iand hx hb dN_isDry_16 ?_
    refine lv_if_ne (tgt := 24) hx hb dN_isDry_17 (by decide) (fun c_2 => ?_) (fun c_2 => ?_)
    · refine lv_iconst (v := 0) hx hb dN_isDry_24 (by decide) ?_
      exact W.zret (v := 0) hx hb hr (by decide) (fun t ht hW => ⟨⟨0, rfl, (by simp [bz, sn_dry, *])⟩, ht⟩) (fun _ h => absurd h List.not_mem_nil) dN_isDry_25
    · refine lv_iconst (v := 1) hx hb dN_isDry_20 (by decide) ?_
      refine lv_goto (tgt := 25) hx hb dN_isDry_21 (by decide) ?_
      exact W.zret (v := 1) hx hb hr (by decide) (fun t ht hW => ⟨⟨1, rfl, (by simp [bz, sn_dry, *])⟩, ht⟩) (fun _ h => absurd h List.not_mem_nil) dN_isDry_25
