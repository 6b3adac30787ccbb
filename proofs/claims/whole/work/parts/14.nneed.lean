def sn_pl (Pn : Nat) (x : Int32) : Bool := !decide (x < 0) && decide (x < nI Pn)
def sn_set (Pn : Nat) (x : Int32) : Bool := decide (x &&& (sn_all Pn ^^^ (-1)) = 0)
set_option maxHeartbeats 4000000 in
set_option maxRecDepth 100000 in
theorem cN_needCell (l : Launch) (dC : Nat → ClassId) (dI : Nat → Nat → Nat) (h0 a_walls a_placeX a_placeY a_reachers a_lossOf a_upper a_length a_headsOn a_turn a_lack a_joined : Nat) (Wd Ht Pn : Nat) (rs old sc jc : Int32) (x y : Int32) (hok : sn_in Wd Ht x y = true) : Met l yN_needCell (kN_needCell :: WD) { frames := 1, cells := 0, slots := 0, locals := 22 } (va_Pc [.ref h0, .int x, .int y] (xw (dC, dI) snC [(h0, .inr (0, [.int (nI Wd), .int (nI Ht), .ref a_walls, .int rs, .ref a_placeX, .ref a_placeY, .int (nI Pn), .ref a_reachers, .int old, .ref a_lossOf, .int sc, .ref a_upper, .ref a_length, .ref a_headsOn, .ref a_turn, .ref a_lack, .ref a_joined, .int jc]))] [])) (xr_Qv) 0 0 (fun _ => False) := by
  refine Met.ofW (cc := bN_needCell) (maxL := 3) (ret := none) (by decide) rfl ?_
  intro p e s m args below meth c s₁ B hml hv
  obtain ⟨rfl, hP, hK⟩ := hv
  have hx := B.exec
  have hb := B.bytes
  have hr := B.returns
  have hts : ∀ w ∈ WD, w.before _ s = true := fun w h => atoms_spec (ws := kN_needCell :: WD) B.pre w (List.mem_cons_of_mem _ h)
  have hown : s.vm.findClass R_N = some m.cls := findClass_of_methodNamed B.named
  have hlocks := B.notSynchronized
  have hl := lv_entry ([.ref h0, .int x, .int y]) (n := 3) (Nat.le_of_ble_eq_true rfl)
  rw [lg_entry_eq]
  generalize (lg_sl ([.ref h0, .int x, .int y]) ++ List.replicate (3 - (lg_sl ([.ref h0, .int x, .int y])).length) Slot.unset).toArray = ls at hl ⊢
  have hl : lv_has ls 3 [(0, .ref h0), (1, .int x), (2, .int y)] := hl
  refine lv_aload_n hx hb dN_needCell_0 rfl (lv_at hl 0 rfl) ?_
  refine lv_iload_n hx hb dN_needCell_1 rfl (lv_at hl 1 rfl) ?_
  refine lv_iload_n hx hb dN_needCell_2 rfl (lv_at hl 2 rfl) ?_
  refine xr_V (As := [.int x, .int y]) ⟨hx, hb, hml, hown, hts⟩ (cN_inPlan l dC dI h0 a_walls a_placeX a_placeY a_reachers a_lossOf a_upper a_length a_headsOn a_turn a_lack a_joined Wd Ht Pn rs old sc jc x y) (cwV 2 hts gN159 rfl rfl rfl (by decide +kernel) ⟨Nat.le_of_ble_eq_true rfl, Nat.le_of_ble_eq_true rfl⟩) hK hP [0] [] rfl rfl 0 0 rfl rfl rfl rfl hl.1 rfl (Nat.le_of_ble_eq_true rfl) dN_needCell_3 ⟨Nat.zero_le _, Nat.zero_le _⟩ (fun r_1 hr_1 => ?_)
  subst hr_1
  refine lv_if_ne (tgt := 19) hx hb dN_needCell_6 (by decide) (fun c_2 => ?_) (fun c_2 => ?_)
  · replace c_2 := bz_1 c_2
    exact W.vret hx hb hr (fun t ht hW => ⟨rfl, ht⟩) (fun _ h => absurd h List.not_mem_nil) dN_needCell_19
  · replace c_2 := bz_0 c_2
    exact absurd hok (by rw [c_2]; decide)
set_option maxHeartbeats 4000000 in
set_option maxRecDepth 100000 in
theorem cN_needCell_T (l : Launch) (hlt : l.stackTraces = false) (dC : Nat → ClassId) (dI : Nat → Nat → Nat) (h0 a_walls a_placeX a_placeY a_reachers a_lossOf a_upper a_length a_headsOn a_turn a_lack a_joined : Nat) (Wd Ht Pn : Nat) (rs old sc jc : Int32) (x y : Int32) (hno : sn_in Wd Ht x y = false) : MetT l yN_needCell (kN_needCell :: WD) { frames := 6, cells := 1, slots := 6, locals := 82 } (va_Pc [.ref h0, .int x, .int y] (xt_B (dC, dI) snC [(h0, .inr (0, [.int (nI Wd), .int (nI Ht), .ref a_walls, .int rs, .ref a_placeX, .ref a_placeY, .int (nI Pn), .ref a_reachers, .int old, .ref a_lossOf, .int sc, .ref a_upper, .ref a_length, .ref a_headsOn, .ref a_turn, .ref a_lack, .ref a_joined, .int jc]))] [])) xt_IAE := by
  refine vx_ofW (cc := bN_needCell) (maxL := 3) (ret := none) (by decide) rfl ?_
  intro p e s m args below meth c s₁ B hml hout hv
  obtain ⟨rfl, ⟨hP, hK⟩, hSt⟩ := hv
  have hx := B.exec
  have hb := B.bytes
  have hr := B.returns
  have hts : ∀ w ∈ WD, w.before _ s = true := fun w h => atoms_spec (ws := kN_needCell :: WD) B.pre w (List.mem_cons_of_mem _ h)
  have hown : s.vm.findClass R_N = some m.cls := findClass_of_methodNamed B.named
  have hlocks := B.notSynchronized
  have hl := lv_entry ([.ref h0, .int x, .int y]) (n := 3) (Nat.le_of_ble_eq_true rfl)
  rw [lg_entry_eq]
  generalize (lg_sl ([.ref h0, .int x, .int y]) ++ List.replicate (3 - (lg_sl ([.ref h0, .int x, .int y])).length) Slot.unset).toArray = ls at hl ⊢
  have hl : lv_has ls 3 [(0, .ref h0), (1, .int x), (2, .int y)] := hl
  refine lv_aload_n hx hb dN_needCell_0 rfl (lv_at hl 0 rfl) ?_
  refine lv_iload_n hx hb dN_needCell_1 rfl (lv_at hl 1 rfl) ?_
  refine lv_iload_n hx hb dN_needCell_2 rfl (lv_at hl 2 rfl) ?_
  refine xr_V (As := [.int x, .int y]) ⟨hx, hb, hml, hown, hts⟩ (cN_inPlan l dC dI h0 a_walls a_placeX a_placeY a_reachers a_lossOf a_upper a_length a_headsOn a_turn a_lack a_joined Wd Ht Pn rs old sc jc x y) (cwV 2 hts gN159 rfl rfl rfl (by decide +kernel) ⟨Nat.le_of_ble_eq_true rfl, Nat.le_of_ble_eq_true rfl⟩) hK hP [0] [] rfl rfl 0 0 rfl rfl rfl rfl hl.1 rfl (Nat.le_of_ble_eq_true rfl) dN_needCell_3 ⟨Nat.zero_le _, Nat.zero_le _⟩ (fun r_1 hr_1 => ?_)
  subst hr_1
  refine lv_if_ne (tgt := 19) hx hb dN_needCell_6 (by decide) (fun c_2 => ?_) (fun c_2 => ?_)
  · exact absurd c_2 (by simp [hno, bz])
  · replace c_2 := bz_0 c_2
    exact xt_I (text := "there is no such cell") hx hb hlt hown hts hSt (by decide) (hl.1.trans hml.symm) dN_needCell_9 dN_needCell_12 dN_needCell_13 dN_needCell_15 dN_needCell_18 hout (Nat.le_of_ble_eq_true rfl) (Nat.le_of_ble_eq_true rfl) (Nat.le_of_ble_eq_true rfl) (Nat.le_of_ble_eq_true rfl) hlocks
set_option maxHeartbeats 4000000 in
set_option maxRecDepth 100000 in
theorem cN_needPlace (l : Launch) (dC : Nat → ClassId) (dI : Nat → Nat → Nat) (h0 a_walls a_placeX a_placeY a_reachers a_lossOf a_upper a_length a_headsOn a_turn a_lack a_joined : Nat) (Wd Ht Pn : Nat) (rs old sc jc : Int32) (x : Int32) (hok : sn_pl Pn x = true) : Met l yN_needPlace (kN_needPlace :: WD) { frames := 0, cells := 0, slots := 0, locals := 0 } (va_Pc [.ref h0, .int x] (xw (dC, dI) snC [(h0, .inr (0, [.int (nI Wd), .int (nI Ht), .ref a_walls, .int rs, .ref a_placeX, .ref a_placeY, .int (nI Pn), .ref a_reachers, .int old, .ref a_lossOf, .int sc, .ref a_upper, .ref a_length, .ref a_headsOn, .ref a_turn, .ref a_lack, .ref a_joined, .int jc]))] [])) (xr_Qv) 0 0 (fun _ => False) := by
  refine Met.ofW (cc := bN_needPlace) (maxL := 2) (ret := none) (by decide) rfl ?_
  intro p e s m args below meth c s₁ B hml hv
  obtain ⟨rfl, hP, hK⟩ := hv
  have hx := B.exec
  have hb := B.bytes
  have hr := B.returns
  have hts : ∀ w ∈ WD, w.before _ s = true := fun w h => atoms_spec (ws := kN_needPlace :: WD) B.pre w (List.mem_cons_of_mem _ h)
  have hown : s.vm.findClass R_N = some m.cls := findClass_of_methodNamed B.named
  have hlocks := B.notSynchronized
  have hl := lv_entry ([.ref h0, .int x]) (n := 2) (Nat.le_of_ble_eq_true rfl)
  rw [lg_entry_eq]
  generalize (lg_sl ([.ref h0, .int x]) ++ List.replicate (2 - (lg_sl ([.ref h0, .int x])).length) Slot.unset).toArray = ls at hl ⊢
  have hl : lv_has ls 2 [(0, .ref h0), (1, .int x)] := hl
  refine lv_iload_n hx hb dN_needPlace_0 rfl (lv_at hl 1 rfl) ?_
  refine lv_if_lt (tgt := 12) hx hb dN_needPlace_1 (by decide) (fun c_1 => ?_) (fun c_1 => ?_)
  · exact absurd hok (by simp [sn_pl, *])
  · refine lv_iload_n hx hb dN_needPlace_4 rfl (lv_at hl 1 rfl) ?_
    refine lv_aload_n hx hb dN_needPlace_5 rfl (lv_at hl 0 rfl) ?_
    refine va_get (D := (dC, dI)) (ci := 0) (v := .int (nI Pn)) (C := R_N) (T := T_N) (N := 18) hx hb hts in_N hown hK hP 0 rfl rfl 6 (by decide) (hts _ flN39) (fun _ h9 => h9) rfl dN_needPlace_6 ?_
    refine lv_icmp_lt (tgt := 22) hx hb dN_needPlace_9 (by decide) (fun c_2 => ?_) (fun c_2 => ?_)
    · exact W.vret hx hb hr (fun t ht hW => ⟨rfl, ht⟩) (fun _ h => absurd h List.not_mem_nil) dN_needPlace_22
    · exact absurd hok (by simp [sn_pl, *])
set_option maxHeartbeats 4000000 in
set_option maxRecDepth 100000 in
theorem cN_needPlace_T (l : Launch) (hlt : l.stackTraces = false) (dC : Nat → ClassId) (dI : Nat → Nat → Nat) (h0 a_walls a_placeX a_placeY a_reachers a_lossOf a_upper a_length a_headsOn a_turn a_lack a_joined : Nat) (Wd Ht Pn : Nat) (rs old sc jc : Int32) (x : Int32) (hno : sn_pl Pn x = false) : MetT l yN_needPlace (kN_needPlace :: WD) { frames := 6, cells := 1, slots := 6, locals := 82 } (va_Pc [.ref h0, .int x] (xt_B (dC, dI) snC [(h0, .inr (0, [.int (nI Wd), .int (nI Ht), .ref a_walls, .int rs, .ref a_placeX, .ref a_placeY, .int (nI Pn), .ref a_reachers, .int old, .ref a_lossOf, .int sc, .ref a_upper, .ref a_length, .ref a_headsOn, .ref a_turn, .ref a_lack, .ref a_joined, .int jc]))] [])) xt_IAE := by
  refine vx_ofW (cc := bN_needPlace) (maxL := 2) (ret := none) (by decide) rfl ?_
  intro p e s m args below meth c s₁ B hml hout hv
  obtain ⟨rfl, ⟨hP, hK⟩, hSt⟩ := hv
  have hx := B.exec
  have hb := B.bytes
  have hr := B.returns
  have hts : ∀ w ∈ WD, w.before _ s = true := fun w h => atoms_spec (ws := kN_needPlace :: WD) B.pre w (List.mem_cons_of_mem _ h)
  have hown : s.vm.findClass R_N = some m.cls := findClass_of_methodNamed B.named
  have hlocks := B.notSynchronized
  have hl := lv_entry ([.ref h0, .int x]) (n := 2) (Nat.le_of_ble_eq_true rfl)
  rw [lg_entry_eq]
  generalize (lg_sl ([.ref h0, .int x]) ++ List.replicate (2 - (lg_sl ([.ref h0, .int x])).length) Slot.unset).toArray = ls at hl ⊢
  have hl : lv_has ls 2 [(0, .ref h0), (1, .int x)] := hl
  refine lv_iload_n hx hb dN_needPlace_0 rfl (lv_at hl 1 rfl) ?_
  refine lv_if_lt (tgt := 12) hx hb dN_needPlace_1 (by decide) (fun c_1 => ?_) (fun c_1 => ?_)
  · exact xt_I (text := "there is no such place") hx hb hlt hown hts hSt (by decide) (hl.1.trans hml.symm) dN_needPlace_12 dN_needPlace_15 dN_needPlace_16 dN_needPlace_18 dN_needPlace_21 hout (Nat.le_of_ble_eq_true rfl) (Nat.le_of_ble_eq_true rfl) (Nat.le_of_ble_eq_true rfl) (Nat.le_of_ble_eq_true rfl) hlocks
  · refine lv_iload_n hx hb dN_needPlace_4 rfl (lv_at hl 1 rfl) ?_
    refine lv_aload_n hx hb dN_needPlace_5 rfl (lv_at hl 0 rfl) ?_
    refine va_get (D := (dC, dI)) (ci := 0) (v := .int (nI Pn)) (C := R_N) (T := T_N) (N := 18) hx hb hts in_N hown hK hP 0 rfl rfl 6 (by decide) (hts _ flN39) (fun _ h9 => h9) rfl dN_needPlace_6 ?_
    refine lv_icmp_lt (tgt := 22) hx hb dN_needPlace_9 (by decide) (fun c_2 => ?_) (fun c_2 => ?_)
    · exact absurd hno (by simp [sn_pl, *])
    · exact xt_I (text := "there is no such place") hx hb hlt hown hts hSt (by decide) (hl.1.trans hml.symm) dN_needPlace_12 dN_needPlace_15 dN_needPlace_16 dN_needPlace_18 dN_needPlace_21 hout (Nat.le_of_ble_eq_true rfl) (Nat.le_of_ble_eq_true rfl) (Nat.le_of_ble_eq_true rfl) (Nat.le_of_ble_eq_true rfl) hlocks
set_option maxHeartbeats 4000000 in
set_option maxRecDepth 100000 in
theorem cN_needSet (l : Launch) (dC : Nat → ClassId) (dI : Nat → Nat → Nat) (h0 a_walls a_placeX a_placeY a_reachers a_lossOf a_upper a_length a_headsOn a_turn a_lack a_joined : Nat) (Wd Ht Pn : Nat) (rs old sc jc : Int32) (x : Int32) (hok : sn_set Pn x = true) : Met l yN_needSet (kN_needSet :: WD) { frames := 1, cells := 0, slots := 0, locals := 20 } (va_Pc [.ref h0, .int x] (xw (dC, dI) snC [(h0, .inr (0, [.int (nI Wd), .int (nI Ht), .ref a_walls, .int rs, .ref a_placeX, .ref a_placeY, .int (nI Pn), .ref a_reachers, .int old, .ref a_lossOf, .int sc, .ref a_upper, .ref a_length, .ref a_headsOn, .ref a_turn, .ref a_lack, .ref a_joined, .int jc]))] [])) (xr_Qv) 0 0 (fun _ => False) := by
  refine Met.ofW (cc := bN_needSet) (maxL := 2) (ret := none) (by decide) rfl ?_
  intro p e s m args below meth c s₁ B hml hv
  obtain ⟨rfl, hP, hK⟩ := hv
  have hx := B.exec
  have hb := B.bytes
  have hr := B.returns
  have hts : ∀ w ∈ WD, w.before _ s = true := fun w h => atoms_spec (ws := kN_needSet :: WD) B.pre w (List.mem_cons_of_mem _ h)
  have hown : s.vm.findClass R_N = some m.cls := findClass_of_methodNamed B.named
  have hlocks := B.notSynchronized
  have hl := lv_entry ([.ref h0, .int x]) (n := 2) (Nat.le_of_ble_eq_true rfl)
  rw [lg_entry_eq]
  generalize (lg_sl ([.ref h0, .int x]) ++ List.replicate (2 - (lg_sl ([.ref h0, .int x])).length) Slot.unset).toArray = ls at hl ⊢
  have hl : lv_has ls 2 [(0, .ref h0), (1, .int x)] := hl
  refine lv_iload_n hx hb dN_needSet_0 rfl (lv_at hl 1 rfl) ?_
  refine lv_aload_n hx hb dN_needSet_1 rfl (lv_at hl 0 rfl) ?_
  refine xr_V (As := []) ⟨hx, hb, hml, hown, hts⟩ (cN_allPlaces l dC dI h0 a_walls a_placeX a_placeY a_reachers a_lossOf a_upper a_length a_headsOn a_turn a_lack a_joined Wd Ht Pn rs old sc jc) (cwV 0 hts gN137 rfl rfl rfl (by decide +kernel) ⟨Nat.le_of_ble_eq_true rfl, Nat.le_of_ble_eq_true rfl⟩) hK hP [0] [] rfl rfl 0 0 rfl rfl rfl rfl hl.1 rfl (Nat.le_of_ble_eq_true rfl) dN_needSet_2 ⟨Nat.zero_le _, Nat.zero_le _⟩ (fun r_1 hr_1 => ?_)
  subst hr_1
  refine lv_iconst (v := (-1)) hx hb dN_needSet_5 (by decide) ?_
  refine lv_ixor hx hb dN_needSet_6 ?_
  refine lv_iand hx hb dN_needSet_7 ?_
  refine lv_if_eq (tgt := 21) hx hb dN_needSet_8 (by decide) (fun c_2 => ?_) (fun c_2 => ?_)
  · exact W.vret hx hb hr (fun t ht hW => ⟨rfl, ht⟩) (fun _ h => absurd h List.not_mem_nil) dN_needSet_21
  · exact absurd (of_decide_eq_true hok) c_2
set_option maxHeartbeats 4000000 in
set_option maxRecDepth 100000 in
theorem cN_needSet_T (l : Launch) (hlt : l.stackTraces = false) (dC : Nat → ClassId) (dI : Nat → Nat → Nat) (h0 a_walls a_placeX a_placeY a_reachers a_lossOf a_upper a_length a_headsOn a_turn a_lack a_joined : Nat) (Wd Ht Pn : Nat) (rs old sc jc : Int32) (x : Int32) (hno : sn_set Pn x = false) : MetT l yN_needSet (kN_needSet :: WD) { frames := 6, cells := 1, slots := 6, locals := 82 } (va_Pc [.ref h0, .int x] (xt_B (dC, dI) snC [(h0, .inr (0, [.int (nI Wd), .int (nI Ht), .ref a_walls, .int rs, .ref a_placeX, .ref a_placeY, .int (nI Pn), .ref a_reachers, .int old, .ref a_lossOf, .int sc, .ref a_upper, .ref a_length, .ref a_headsOn, .ref a_turn, .ref a_lack, .ref a_joined, .int jc]))] [])) xt_IAE := by
  refine vx_ofW (cc := bN_needSet) (maxL := 2) (ret := none) (by decide) rfl ?_
  intro p e s m args below meth c s₁ B hml hout hv
  obtain ⟨rfl, ⟨hP, hK⟩, hSt⟩ := hv
  have hx := B.exec
  have hb := B.bytes
  have hr := B.returns
  have hts : ∀ w ∈ WD, w.before _ s = true := fun w h => atoms_spec (ws := kN_needSet :: WD) B.pre w (List.mem_cons_of_mem _ h)
  have hown : s.vm.findClass R_N = some m.cls := findClass_of_methodNamed B.named
  have hlocks := B.notSynchronized
  have hl := lv_entry ([.ref h0, .int x]) (n := 2) (Nat.le_of_ble_eq_true rfl)
  rw [lg_entry_eq]
  generalize (lg_sl ([.ref h0, .int x]) ++ List.replicate (2 - (lg_sl ([.ref h0, .int x])).length) Slot.unset).toArray = ls at hl ⊢
  have hl : lv_has ls 2 [(0, .ref h0), (1, .int x)] := hl
  refine lv_iload_n hx hb dN_needSet_0 rfl (lv_at hl 1 rfl) ?_
  refine lv_aload_n hx hb dN_needSet_1 rfl (lv_at hl 0 rfl) ?_
  refine xr_V (As := []) ⟨hx, hb, hml, hown, hts⟩ (cN_allPlaces l dC dI h0 a_walls a_placeX a_placeY a_reachers a_lossOf a_upper a_length a_headsOn a_turn a_lack a_joined Wd Ht Pn rs old sc jc) (cwV 0 hts gN137 rfl rfl rfl (by decide +kernel) ⟨Nat.le_of_ble_eq_true rfl, Nat.le_of_ble_eq_true rfl⟩) hK hP [0] [] rfl rfl 0 0 rfl rfl rfl rfl hl.1 rfl (Nat.le_of_ble_eq_true rfl) dN_needSet_2 ⟨Nat.zero_le _, Nat.zero_le _⟩ (fun r_1 hr_1 => ?_)
  subst hr_1
  refine lv_iconst (v := (-1)) hx hb dN_needSet_5 (by decide) ?_
  refine lv_ixor hx hb dN_needSet_6 ?_
  refine lv_iand hx hb dN_needSet_7 ?_
  refine lv_if_eq (tgt := 21) hx hb dN_needSet_8 (by decide) (fun c_2 => ?_) (fun c_2 => ?_)
  · exact absurd c_2 (of_decide_eq_false hno)
  · exact xt_I (text := "a bit of the set is no place") hx hb hlt hown hts hSt (by decide) (hl.1.trans hml.symm) dN_needSet_11 dN_needSet_14 dN_needSet_15 dN_needSet_17 dN_needSet_20 hout (Nat.le_of_ble_eq_true rfl) (Nat.le_of_ble_eq_true rfl) (Nat.le_of_ble_eq_true rfl) (Nat.le_of_ble_eq_true rfl) hlocks
