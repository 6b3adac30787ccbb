theorem bz_nar (b : Bool) : narrow .boolean (.int (bz b)) = .int (bz b) := by cases b <;> rfl
theorem sn_in_nI {Wd Ht a b : Nat} (hW : Wd ≤ 16) (hH : Ht ≤ 16) (ha : a < Wd) (hb : b < Ht) : sn_in Wd Ht (nI a) (nI b) = true := by
  have h1 := nI_pos (n := a) (by omega)
  have h2 := nI_pos (n := b) (by omega)
  have h3 := nI_ge (a := a) (b := Wd) ha (by omega)
  have h4 := nI_ge (a := b) (b := Ht) hb (by omega)
  simp only [sn_in, h1, h2, h3, h4, decide_false, Bool.not_false, Bool.and_true]
def sn_rok (x : Int32) : Bool := !decide (x < 1) && decide (x ≤ 400)
def sn_hok (x : Int32) : Bool := !decide (x < 1) && decide (x ≤ 12)
def sn_lok (x : Int32) : Bool := !decide (x < 0) && decide (x ≤ 1000)
def sn_wok (x : Int32) : Bool := !decide (x < 0) && decide (x ≤ 4)
def sn_sz (f : Nat → Int32) (h : Nat) (sc : Int32) : Int32 := if f h = -1 then sc + 1 else sc
set_option maxHeartbeats 4000000 in
set_option maxRecDepth 100000 in
theorem cN_wall (l : Launch) (dC : Nat → ClassId) (dI : Nat → Nat → Nat) (h0 a_walls a_placeX a_placeY a_reachers a_lossOf a_upper a_length a_headsOn a_turn a_lack a_joined : Nat) (Wd Ht Pn : Nat) (rs old sc jc : Int32) (cZ cI : ClassId) (f_walls f_placeX f_placeY f_reachers f_lossOf f_upper f_length f_headsOn f_turn f_lack f_joined : Nat → Int32) (a b : Nat) (on : Int32) (sz : Nat) (hW : Wd ≤ 16) (hH : Ht ≤ 16) (ha : a < Wd) (hb0 : b < Ht) (hon : on = 0 ∨ on = 1) : Met l yN_wall (kN_wall :: WD) { frames := 2, cells := 0, slots := 0, locals := 44 } (va_Pc [.ref h0, .int (nI a), .int (nI b), .int on] (xm (dC, dI) snC [(h0, .inr (0, [.int (nI Wd), .int (nI Ht), .ref a_walls, .int rs, .ref a_placeX, .ref a_placeY, .int (nI Pn), .ref a_reachers, .int old, .ref a_lossOf, .int sc, .ref a_upper, .ref a_length, .ref a_headsOn, .ref a_turn, .ref a_lack, .ref a_joined, .int jc])), (a_walls, .inl (cZ, 256, .inl f_walls)), (a_placeX, .inl (cI, 12, .inl f_placeX)), (a_placeY, .inl (cI, 12, .inl f_placeY)), (a_reachers, .inl (cI, 256, .inl f_reachers)), (a_lossOf, .inl (cI, 13, .inl f_lossOf)), (a_upper, .inl (cI, 12, .inl f_upper)), (a_length, .inl (cI, 12, .inl f_length)), (a_headsOn, .inl (cI, 12, .inl f_headsOn)), (a_turn, .inl (cI, 12, .inl f_turn)), (a_lack, .inl (cI, 12, .inl f_lack)), (a_joined, .inl (cI, 12, .inl f_joined))] [(cZ, .boolean), (cI, .int)] sz)) (va_Qi (fun (r : Int32) (_ : Unit) => r = bz (sn_wall Wd Ht f_walls (nI a) (nI b))) (fun _ => xo (dC, dI) snC [(h0, .inr (0, [.int (nI Wd), .int (nI Ht), .ref a_walls, .int rs, .ref a_placeX, .ref a_placeY, .int (nI Pn), .ref a_reachers, .int 1, .ref a_lossOf, .int sc, .ref a_upper, .ref a_length, .ref a_headsOn, .ref a_turn, .ref a_lack, .ref a_joined, .int jc])), (a_walls, .inl (cZ, 256, .inl (upd f_walls (b * 16 + a) on))), (a_placeX, .inl (cI, 12, .inl f_placeX)), (a_placeY, .inl (cI, 12, .inl f_placeY)), (a_reachers, .inl (cI, 256, .inl f_reachers)), (a_lossOf, .inl (cI, 13, .inl f_lossOf)), (a_upper, .inl (cI, 12, .inl f_upper)), (a_length, .inl (cI, 12, .inl f_length)), (a_headsOn, .inl (cI, 12, .inl f_headsOn)), (a_turn, .inl (cI, 12, .inl f_turn)), (a_lack, .inl (cI, 12, .inl f_lack)), (a_joined, .inl (cI, 12, .inl f_joined))] [(cZ, .boolean), (cI, .int)] (va_A [(h0, .inr (0, [.int (nI Wd), .int (nI Ht), .ref a_walls, .int rs, .ref a_placeX, .ref a_placeY, .int (nI Pn), .ref a_reachers, .int old, .ref a_lossOf, .int sc, .ref a_upper, .ref a_length, .ref a_headsOn, .ref a_turn, .ref a_lack, .ref a_joined, .int jc])), (a_walls, .inl (cZ, 256, .inl f_walls)), (a_placeX, .inl (cI, 12, .inl f_placeX)), (a_placeY, .inl (cI, 12, .inl f_placeY)), (a_reachers, .inl (cI, 256, .inl f_reachers)), (a_lossOf, .inl (cI, 13, .inl f_lossOf)), (a_upper, .inl (cI, 12, .inl f_upper)), (a_length, .inl (cI, 12, .inl f_length)), (a_headsOn, .inl (cI, 12, .inl f_headsOn)), (a_turn, .inl (cI, 12, .inl f_turn)), (a_lack, .inl (cI, 12, .inl f_lack)), (a_joined, .inl (cI, 12, .inl f_joined))] sz)) (va_A [(h0, .inr (0, [.int (nI Wd), .int (nI Ht), .ref a_walls, .int rs, .ref a_placeX, .ref a_placeY, .int (nI Pn), .ref a_reachers, .int old, .ref a_lossOf, .int sc, .ref a_upper, .ref a_length, .ref a_headsOn, .ref a_turn, .ref a_lack, .ref a_joined, .int jc])), (a_walls, .inl (cZ, 256, .inl f_walls)), (a_placeX, .inl (cI, 12, .inl f_placeX)), (a_placeY, .inl (cI, 12, .inl f_placeY)), (a_reachers, .inl (cI, 256, .inl f_reachers)), (a_lossOf, .inl (cI, 13, .inl f_lossOf)), (a_upper, .inl (cI, 12, .inl f_upper)), (a_length, .inl (cI, 12, .inl f_length)), (a_headsOn, .inl (cI, 12, .inl f_headsOn)), (a_turn, .inl (cI, 12, .inl f_turn)), (a_lack, .inl (cI, 12, .inl f_lack)), (a_joined, .inl (cI, 12, .inl f_joined))] sz)) 0 0 (va_A [(h0, .inr (0, [.int (nI Wd), .int (nI Ht), .ref a_walls, .int rs, .ref a_placeX, .ref a_placeY, .int (nI Pn), .ref a_reachers, .int old, .ref a_lossOf, .int sc, .ref a_upper, .ref a_length, .ref a_headsOn, .ref a_turn, .ref a_lack, .ref a_joined, .int jc])), (a_walls, .inl (cZ, 256, .inl f_walls)), (a_placeX, .inl (cI, 12, .inl f_placeX)), (a_placeY, .inl (cI, 12, .inl f_placeY)), (a_reachers, .inl (cI, 256, .inl f_reachers)), (a_lossOf, .inl (cI, 13, .inl f_lossOf)), (a_upper, .inl (cI, 12, .inl f_upper)), (a_length, .inl (cI, 12, .inl f_length)), (a_headsOn, .inl (cI, 12, .inl f_headsOn)), (a_turn, .inl (cI, 12, .inl f_turn)), (a_lack, .inl (cI, 12, .inl f_lack)), (a_joined, .inl (cI, 12, .inl f_joined))] sz) := by
  refine Met.ofW (cc := bN_wall) (maxL := 5) (ret := (some .boolean)) (by decide) rfl ?_
  intro p e s m args below meth c s₁ B hml hv
  obtain ⟨rfl, hsz, hP, hK, hD0⟩ := hv
  have hx := B.exec
  have hb := B.bytes
  have hr := B.returns
  have hts : ∀ w ∈ WD, w.before _ s = true := fun w h => atoms_spec (ws := kN_wall :: WD) B.pre w (List.mem_cons_of_mem _ h)
  have hown : s.vm.findClass R_N = some m.cls := findClass_of_methodNamed B.named
  have hlocks := B.notSynchronized
  subst hsz
  have hD := hD0.self (sz := s.heap.size)
  generalize hAe : va_A [(h0, .inr (0, [.int (nI Wd), .int (nI Ht), .ref a_walls, .int rs, .ref a_placeX, .ref a_placeY, .int (nI Pn), .ref a_reachers, .int old, .ref a_lossOf, .int sc, .ref a_upper, .ref a_length, .ref a_headsOn, .ref a_turn, .ref a_lack, .ref a_joined, .int jc])), (a_walls, .inl (cZ, 256, .inl f_walls)), (a_placeX, .inl (cI, 12, .inl f_placeX)), (a_placeY, .inl (cI, 12, .inl f_placeY)), (a_reachers, .inl (cI, 256, .inl f_reachers)), (a_lossOf, .inl (cI, 13, .inl f_lossOf)), (a_upper, .inl (cI, 12, .inl f_upper)), (a_length, .inl (cI, 12, .inl f_length)), (a_headsOn, .inl (cI, 12, .inl f_headsOn)), (a_turn, .inl (cI, 12, .inl f_turn)), (a_lack, .inl (cI, 12, .inl f_lack)), (a_joined, .inl (cI, 12, .inl f_joined))] s.heap.size = A at hD ⊢
  have hA : ∀ q : Nat, s.heap.size ≤ q → A q := fun q h => by rw [← hAe]; exact Or.inr h
  have hS : va_S A s.heap s.heap [] := va_S.rf
  have hl := lv_entry ([.ref h0, .int (nI a), .int (nI b), .int on]) (n := 5) (Nat.le_of_ble_eq_true rfl)
  rw [lg_entry_eq]
  generalize (lg_sl ([.ref h0, .int (nI a), .int (nI b), .int on]) ++ List.replicate (5 - (lg_sl ([.ref h0, .int (nI a), .int (nI b), .int on])).length) Slot.unset).toArray = ls at hl ⊢
  have hl : lv_has ls 5 [(0, .ref h0), (1, .int (nI a)), (2, .int (nI b)), (3, .int on)] := hl
  refine lv_aload_n hx hb dN_wall_0 rfl (lv_at hl 0 rfl) ?_
  refine lv_iload_n hx hb dN_wall_1 rfl (lv_at hl 1 rfl) ?_
  refine lv_iload_n hx hb dN_wall_2 rfl (lv_at hl 2 rfl) ?_
  refine xr_Vv (As := [.int (nI a), .int (nI b)]) ⟨hx, hb, hml, hown, hts⟩ (cN_needCell l dC dI h0 a_walls a_placeX a_placeY a_reachers a_lossOf a_upper a_length a_headsOn a_turn a_lack a_joined Wd Ht Pn rs old sc jc (nI a) (nI b) (sn_in_nI hW hH ha hb0)) (cwV 2 hts gN82 rfl rfl rfl (by decide +kernel) ⟨Nat.le_of_ble_eq_true rfl, Nat.le_of_ble_eq_true rfl⟩) hK hP [0] [] rfl rfl 0 0 rfl rfl rfl rfl hl.1 rfl (Nat.le_of_ble_eq_true rfl) dN_wall_3 ⟨Nat.zero_le _, Nat.zero_le _⟩ ?_
  refine lv_aload_n hx hb dN_wall_6 rfl (lv_at hl 0 rfl) ?_
  refine lv_iload_n hx hb dN_wall_7 rfl (lv_at hl 1 rfl) ?_
  refine lv_iload_n hx hb dN_wall_8 rfl (lv_at hl 2 rfl) ?_
  refine xr_V (As := [.int (nI a), .int (nI b)]) ⟨hx, hb, hml, hown, hts⟩ (cN_isWall l dC dI h0 a_walls a_placeX a_placeY a_reachers a_lossOf a_upper a_length a_headsOn a_turn a_lack a_joined Wd Ht Pn rs old sc jc cZ f_walls (nI a) (nI b) hW hH) (cwV 2 hts gN86 rfl rfl rfl (by decide +kernel) ⟨Nat.le_of_ble_eq_true rfl, Nat.le_of_ble_eq_true rfl⟩) hK hP [0, 1] [0] rfl rfl 0 0 rfl rfl rfl rfl hl.1 rfl (Nat.le_of_ble_eq_true rfl) dN_wall_9 ⟨Nat.zero_le _, Nat.zero_le _⟩ (fun r_2 hr_2 => ?_)
  subst hr_2
  refine lv_istore (lv' := [(4, .int (bz (sn_wall Wd Ht f_walls (nI a) (nI b)))), (0, .ref h0), (1, .int (nI a)), (2, .int (nI b)), (3, .int on)]) hx hb dN_wall_12 hl (by decide) rfl (fun ls hl => ?_)
  refine lv_aload_n hx hb dN_wall_14 rfl (lv_at hl 1 rfl) ?_
  refine va_get (D := (dC, dI)) (ci := 0) (v := .ref a_walls) (C := R_N) (T := T_N) (N := 18) hx hb hts in_N hown hK hP 0 rfl rfl 2 (by decide) (hts _ flN25) (fun _ h9 => h9) rfl dN_wall_15 ?_
  refine lv_iload_n hx hb dN_wall_18 rfl (lv_at hl 2 rfl) ?_
  refine lv_iload_n hx hb dN_wall_19 rfl (lv_at hl 3 rfl) ?_
  refine xr_S (As := [.int (nI a), .int (nI b)]) ⟨hx, hb, hml, hown, hts⟩ (cN_cellAt l dC dI (nI a) (nI b)) (va_cwS 2 hts gN90 rfl rfl rfl (by decide +kernel) ⟨Nat.le_of_ble_eq_true rfl, Nat.le_of_ble_eq_true rfl⟩) hK hP [] [] rfl rfl rfl hl.1 rfl (Nat.le_of_ble_eq_true rfl) dN_wall_20 ⟨Nat.zero_le _, Nat.zero_le _⟩ (fun r_3 hr_3 => ?_)
  subst hr_3
  rw [show ((nI b) * 16 + (nI a) : Int32) = nI (b * 16 + a) from sn_cell a b]
  refine lv_iload_n hx hb dN_wall_23 rfl (lv_at hl 4 rfl) ?_
  refine xa_zast hx hb hK hP hD hS 1 0 rfl rfl (i := (b * 16 + a)) (x := on) hon (by omega) (by first | decide | omega) dN_wall_24 (fun H locs hP hD hS => ?_)
  have hP : va_P (dC, dI) snC [(h0, .inr (0, [.int (nI Wd), .int (nI Ht), .ref a_walls, .int rs, .ref a_placeX, .ref a_placeY, .int (nI Pn), .ref a_reachers, .int old, .ref a_lossOf, .int sc, .ref a_upper, .ref a_length, .ref a_headsOn, .ref a_turn, .ref a_lack, .ref a_joined, .int jc])), (a_walls, .inl (cZ, 256, .inl (upd f_walls (b * 16 + a) on))), (a_placeX, .inl (cI, 12, .inl f_placeX)), (a_placeY, .inl (cI, 12, .inl f_placeY)), (a_reachers, .inl (cI, 256, .inl f_reachers)), (a_lossOf, .inl (cI, 13, .inl f_lossOf)), (a_upper, .inl (cI, 12, .inl f_upper)), (a_length, .inl (cI, 12, .inl f_length)), (a_headsOn, .inl (cI, 12, .inl f_headsOn)), (a_turn, .inl (cI, 12, .inl f_turn)), (a_lack, .inl (cI, 12, .inl f_lack)), (a_joined, .inl (cI, 12, .inl f_joined))] H := hP
  have hD : va_D A [(h0, .inr (0, [.int (nI Wd), .int (nI Ht), .ref a_walls, .int rs, .ref a_placeX, .ref a_placeY, .int (nI Pn), .ref a_reachers, .int old, .ref a_lossOf, .int sc, .ref a_upper, .ref a_length, .ref a_headsOn, .ref a_turn, .ref a_lack, .ref a_joined, .int jc])), (a_walls, .inl (cZ, 256, .inl (upd f_walls (b * 16 + a) on))), (a_placeX, .inl (cI, 12, .inl f_placeX)), (a_placeY, .inl (cI, 12, .inl f_placeY)), (a_reachers, .inl (cI, 256, .inl f_reachers)), (a_lossOf, .inl (cI, 13, .inl f_lossOf)), (a_upper, .inl (cI, 12, .inl f_upper)), (a_length, .inl (cI, 12, .inl f_length)), (a_headsOn, .inl (cI, 12, .inl f_headsOn)), (a_turn, .inl (cI, 12, .inl f_turn)), (a_lack, .inl (cI, 12, .inl f_lack)), (a_joined, .inl (cI, 12, .inl f_joined))] := hD
  refine lv_aload_n hx hb dN_wall_25 rfl (lv_at hl 1 rfl) ?_
  refine lv_iconst (v := 1) hx hb dN_wall_26 (by decide) ?_
  refine va_put (D := (dC, dI)) (ci := 0) (v := .int 1) (ty := .boolean) (C := R_N) (T := T_N) (N := 18) hx hb hts in_N t_N tok_N n_N hown hK hP hD hS 0 rfl rfl 8 (by decide) (hts _ flN45) (fun _ h9 => h9) rfl (by decide +kernel) rfl rfl (Nat.le_of_ble_eq_true rfl) dN_wall_27 (fun H locs hP hD hS => ?_)
  have hP : va_P (dC, dI) snC [(h0, .inr (0, [.int (nI Wd), .int (nI Ht), .ref a_walls, .int rs, .ref a_placeX, .ref a_placeY, .int (nI Pn), .ref a_reachers, .int 1, .ref a_lossOf, .int sc, .ref a_upper, .ref a_length, .ref a_headsOn, .ref a_turn, .ref a_lack, .ref a_joined, .int jc])), (a_walls, .inl (cZ, 256, .inl (upd f_walls (b * 16 + a) on))), (a_placeX, .inl (cI, 12, .inl f_placeX)), (a_placeY, .inl (cI, 12, .inl f_placeY)), (a_reachers, .inl (cI, 256, .inl f_reachers)), (a_lossOf, .inl (cI, 13, .inl f_lossOf)), (a_upper, .inl (cI, 12, .inl f_upper)), (a_length, .inl (cI, 12, .inl f_length)), (a_headsOn, .inl (cI, 12, .inl f_headsOn)), (a_turn, .inl (cI, 12, .inl f_turn)), (a_lack, .inl (cI, 12, .inl f_lack)), (a_joined, .inl (cI, 12, .inl f_joined))] H := hP
  have hD : va_D A [(h0, .inr (0, [.int (nI Wd), .int (nI Ht), .ref a_walls, .int rs, .ref a_placeX, .ref a_placeY, .int (nI Pn), .ref a_reachers, .int 1, .ref a_lossOf, .int sc, .ref a_upper, .ref a_length, .ref a_headsOn, .ref a_turn, .ref a_lack, .ref a_joined, .int jc])), (a_walls, .inl (cZ, 256, .inl (upd f_walls (b * 16 + a) on))), (a_placeX, .inl (cI, 12, .inl f_placeX)), (a_placeY, .inl (cI, 12, .inl f_placeY)), (a_reachers, .inl (cI, 256, .inl f_reachers)), (a_lossOf, .inl (cI, 13, .inl f_lossOf)), (a_upper, .inl (cI, 12, .inl f_upper)), (a_length, .inl (cI, 12, .inl f_length)), (a_headsOn, .inl (cI, 12, .inl f_headsOn)), (a_turn, .inl (cI, 12, .inl f_turn)), (a_lack, .inl (cI, 12, .inl f_lack)), (a_joined, .inl (cI, 12, .inl f_joined))] := hD
  refine lv_iload hx hb dN_wall_30 (lv_at hl 0 rfl) ?_
  exact W.zret (v := bz (sn_wall Wd Ht f_walls (nI a) (nI b))) hx hb hr (bz_nar _) (fun t ht hW => ⟨⟨bz (sn_wall Wd Ht f_walls (nI a) (nI b)), (), rfl, rfl, by rw [ht]; exact hP, va_K.moved hW.alike hK, hD⟩, hS.F ht⟩) hS.2.2 dN_wall_32
set_option maxHeartbeats 4000000 in
set_option maxRecDepth 100000 in
theorem cN_wall_T (l : Launch) (hlt : l.stackTraces = false) (dC : Nat → ClassId) (dI : Nat → Nat → Nat) (h0 a_walls a_placeX a_placeY a_reachers a_lossOf a_upper a_length a_headsOn a_turn a_lack a_joined : Nat) (Wd Ht Pn : Nat) (rs old sc jc : Int32) (x y on : Int32) (hno : sn_in Wd Ht x y = false) : MetT l yN_wall (kN_wall :: WD) { frames := 7, cells := 1, slots := 6, locals := 104 } (va_Pc [.ref h0, .int x, .int y, .int on] (xt_B (dC, dI) snC [(h0, .inr (0, [.int (nI Wd), .int (nI Ht), .ref a_walls, .int rs, .ref a_placeX, .ref a_placeY, .int (nI Pn), .ref a_reachers, .int old, .ref a_lossOf, .int sc, .ref a_upper, .ref a_length, .ref a_headsOn, .ref a_turn, .ref a_lack, .ref a_joined, .int jc]))] [])) xt_IAE := by
  refine vx_ofW (cc := bN_wall) (maxL := 5) (ret := (some .boolean)) (by decide) rfl ?_
  intro p e s m args below meth c s₁ B hml hout hv
  obtain ⟨rfl, ⟨hP, hK⟩, hSt⟩ := hv
  have hx := B.exec
  have hb := B.bytes
  have hr := B.returns
  have hts : ∀ w ∈ WD, w.before _ s = true := fun w h => atoms_spec (ws := kN_wall :: WD) B.pre w (List.mem_cons_of_mem _ h)
  have hown : s.vm.findClass R_N = some m.cls := findClass_of_methodNamed B.named
  have hlocks := B.notSynchronized
  have hl := lv_entry ([.ref h0, .int x, .int y, .int on]) (n := 5) (Nat.le_of_ble_eq_true rfl)
  rw [lg_entry_eq]
  generalize (lg_sl ([.ref h0, .int x, .int y, .int on]) ++ List.replicate (5 - (lg_sl ([.ref h0, .int x, .int y, .int on])).length) Slot.unset).toArray = ls at hl ⊢
  have hl : lv_has ls 5 [(0, .ref h0), (1, .int x), (2, .int y), (3, .int on)] := hl
  refine lv_aload_n hx hb dN_wall_0 rfl (lv_at hl 0 rfl) ?_
  refine lv_iload_n hx hb dN_wall_1 rfl (lv_at hl 1 rfl) ?_
  refine lv_iload_n hx hb dN_wall_2 rfl (lv_at hl 2 rfl) ?_
  exact xt_V (As := [.int x, .int y]) ⟨hx, hb, hml, hown, hts⟩ (cN_needCell_T l hlt dC dI h0 a_walls a_placeX a_placeY a_reachers a_lossOf a_upper a_length a_headsOn a_turn a_lack a_joined Wd Ht Pn rs old sc jc x y hno) (cwV 2 hts gN82 rfl rfl rfl (by decide +kernel) ⟨Nat.le_of_ble_eq_true rfl, Nat.le_of_ble_eq_true rfl⟩) hSt hK hP [0] [] rfl rfl 0 0 rfl rfl rfl rfl hl.1 rfl (Nat.le_of_ble_eq_true rfl) dN_wall_3 ⟨Nat.le_of_ble_eq_true rfl, Nat.le_of_ble_eq_true rfl⟩ hout hlocks
set_option maxHeartbeats 4000000 in
set_option maxRecDepth 100000 in
theorem cN_reach (l : Launch) (dC : Nat → ClassId) (dI : Nat → Nat → Nat) (h0 a_walls a_placeX a_placeY a_reachers a_lossOf a_upper a_length a_headsOn a_turn a_lack a_joined : Nat) (Wd Ht Pn : Nat) (rs old sc jc : Int32) (cZ cI : ClassId) (f_walls f_placeX f_placeY f_reachers f_lossOf f_upper f_length f_headsOn f_turn f_lack f_joined : Nat → Int32) (x : Int32) (sz : Nat) (hok : sn_rok x = true) : Met l yN_reach (kN_reach :: WD) { frames := 0, cells := 0, slots := 0, locals := 0 } (va_Pc [.ref h0, .int x] (xm (dC, dI) snC [(h0, .inr (0, [.int (nI Wd), .int (nI Ht), .ref a_walls, .int rs, .ref a_placeX, .ref a_placeY, .int (nI Pn), .ref a_reachers, .int old, .ref a_lossOf, .int sc, .ref a_upper, .ref a_length, .ref a_headsOn, .ref a_turn, .ref a_lack, .ref a_joined, .int jc])), (a_walls, .inl (cZ, 256, .inl f_walls)), (a_placeX, .inl (cI, 12, .inl f_placeX)), (a_placeY, .inl (cI, 12, .inl f_placeY)), (a_reachers, .inl (cI, 256, .inl f_reachers)), (a_lossOf, .inl (cI, 13, .inl f_lossOf)), (a_upper, .inl (cI, 12, .inl f_upper)), (a_length, .inl (cI, 12, .inl f_length)), (a_headsOn, .inl (cI, 12, .inl f_headsOn)), (a_turn, .inl (cI, 12, .inl f_turn)), (a_lack, .inl (cI, 12, .inl f_lack)), (a_joined, .inl (cI, 12, .inl f_joined))] [(cZ, .boolean), (cI, .int)] sz)) (va_Qi (fun (r : Int32) (_ : Unit) => r = rs) (fun _ => xo (dC, dI) snC [(h0, .inr (0, [.int (nI Wd), .int (nI Ht), .ref a_walls, .int x, .ref a_placeX, .ref a_placeY, .int (nI Pn), .ref a_reachers, .int 1, .ref a_lossOf, .int sc, .ref a_upper, .ref a_length, .ref a_headsOn, .ref a_turn, .ref a_lack, .ref a_joined, .int jc])), (a_walls, .inl (cZ, 256, .inl f_walls)), (a_placeX, .inl (cI, 12, .inl f_placeX)), (a_placeY, .inl (cI, 12, .inl f_placeY)), (a_reachers, .inl (cI, 256, .inl f_reachers)), (a_lossOf, .inl (cI, 13, .inl f_lossOf)), (a_upper, .inl (cI, 12, .inl f_upper)), (a_length, .inl (cI, 12, .inl f_length)), (a_headsOn, .inl (cI, 12, .inl f_headsOn)), (a_turn, .inl (cI, 12, .inl f_turn)), (a_lack, .inl (cI, 12, .inl f_lack)), (a_joined, .inl (cI, 12, .inl f_joined))] [(cZ, .boolean), (cI, .int)] (va_A [(h0, .inr (0, [.int (nI Wd), .int (nI Ht), .ref a_walls, .int rs, .ref a_placeX, .ref a_placeY, .int (nI Pn), .ref a_reachers, .int old, .ref a_lossOf, .int sc, .ref a_upper, .ref a_length, .ref a_headsOn, .ref a_turn, .ref a_lack, .ref a_joined, .int jc])), (a_walls, .inl (cZ, 256, .inl f_walls)), (a_placeX, .inl (cI, 12, .inl f_placeX)), (a_placeY, .inl (cI, 12, .inl f_placeY)), (a_reachers, .inl (cI, 256, .inl f_reachers)), (a_lossOf, .inl (cI, 13, .inl f_lossOf)), (a_upper, .inl (cI, 12, .inl f_upper)), (a_length, .inl (cI, 12, .inl f_length)), (a_headsOn, .inl (cI, 12, .inl f_headsOn)), (a_turn, .inl (cI, 12, .inl f_turn)), (a_lack, .inl (cI, 12, .inl f_lack)), (a_joined, .inl (cI, 12, .inl f_joined))] sz)) (va_A [(h0, .inr (0, [.int (nI Wd), .int (nI Ht), .ref a_walls, .int rs, .ref a_placeX, .ref a_placeY, .int (nI Pn), .ref a_reachers, .int old, .ref a_lossOf, .int sc, .ref a_upper, .ref a_length, .ref a_headsOn, .ref a_turn, .ref a_lack, .ref a_joined, .int jc])), (a_walls, .inl (cZ, 256, .inl f_walls)), (a_placeX, .inl (cI, 12, .inl f_placeX)), (a_placeY, .inl (cI, 12, .inl f_placeY)), (a_reachers, .inl (cI, 256, .inl f_reachers)), (a_lossOf, .inl (cI, 13, .inl f_lossOf)), (a_upper, .inl (cI, 12, .inl f_upper)), (a_length, .inl (cI, 12, .inl f_length)), (a_headsOn, .inl (cI, 12, .inl f_headsOn)), (a_turn, .inl (cI, 12, .inl f_turn)), (a_lack, .inl (cI, 12, .inl f_lack)), (a_joined, .inl (cI, 12, .inl f_joined))] sz)) 0 0 (va_A [(h0, .inr (0, [.int (nI Wd), .int (nI Ht), .ref a_walls, .int rs, .ref a_placeX, .ref a_placeY, .int (nI Pn), .ref a_reachers, .int old, .ref a_lossOf, .int sc, .ref a_upper, .ref a_length, .ref a_headsOn, .ref a_turn, .ref a_lack, .ref a_joined, .int jc])), (a_walls, .inl (cZ, 256, .inl f_walls)), (a_placeX, .inl (cI, 12, .inl f_placeX)), (a_placeY, .inl (cI, 12, .inl f_placeY)), (a_reachers, .inl (cI, 256, .inl f_reachers)), (a_lossOf, .inl (cI, 13, .inl f_lossOf)), (a_upper, .inl (cI, 12, .inl f_upper)), (a_length, .inl (cI, 12, .inl f_length)), (a_headsOn, .inl (cI, 12, .inl f_headsOn)), (a_turn, .inl (cI, 12, .inl f_turn)), (a_lack, .inl (cI, 12, .inl f_lack)), (a_joined, .inl (cI, 12, .inl f_joined))] sz) := by
  refine Met.ofW (cc := bN_reach) (maxL := 3) (ret := (some .int)) (by decide) rfl ?_
  intro p e s m args below meth c s₁ B hml hv
  obtain ⟨rfl, hsz, hP, hK, hD0⟩ := hv
  have hx := B.exec
  have hb := B.bytes
  have hr := B.returns
  have hts : ∀ w ∈ WD, w.before _ s = true := fun w h => atoms_spec (ws := kN_reach :: WD) B.pre w (List.mem_cons_of_mem _ h)
  have hown : s.vm.findClass R_N = some m.cls := findClass_of_methodNamed B.named
  have hlocks := B.notSynchronized
  subst hsz
  have hD := hD0.self (sz := s.heap.size)
  generalize hAe : va_A [(h0, .inr (0, [.int (nI Wd), .int (nI Ht), .ref a_walls, .int rs, .ref a_placeX, .ref a_placeY, .int (nI Pn), .ref a_reachers, .int old, .ref a_lossOf, .int sc, .ref a_upper, .ref a_length, .ref a_headsOn, .ref a_turn, .ref a_lack, .ref a_joined, .int jc])), (a_walls, .inl (cZ, 256, .inl f_walls)), (a_placeX, .inl (cI, 12, .inl f_placeX)), (a_placeY, .inl (cI, 12, .inl f_placeY)), (a_reachers, .inl (cI, 256, .inl f_reachers)), (a_lossOf, .inl (cI, 13, .inl f_lossOf)), (a_upper, .inl (cI, 12, .inl f_upper)), (a_length, .inl (cI, 12, .inl f_length)), (a_headsOn, .inl (cI, 12, .inl f_headsOn)), (a_turn, .inl (cI, 12, .inl f_turn)), (a_lack, .inl (cI, 12, .inl f_lack)), (a_joined, .inl (cI, 12, .inl f_joined))] s.heap.size = A at hD ⊢
  have hA : ∀ q : Nat, s.heap.size ≤ q → A q := fun q h => by rw [← hAe]; exact Or.inr h
  have hS : va_S A s.heap s.heap [] := va_S.rf
  have hl := lv_entry ([.ref h0, .int x]) (n := 3) (Nat.le_of_ble_eq_true rfl)
  rw [lg_entry_eq]
  generalize (lg_sl ([.ref h0, .int x]) ++ List.replicate (3 - (lg_sl ([.ref h0, .int x])).length) Slot.unset).toArray = ls at hl ⊢
  have hl : lv_has ls 3 [(0, .ref h0), (1, .int x)] := hl
  refine lv_iload_n hx hb dN_reach_0 rfl (lv_at hl 1 rfl) ?_
  refine lv_iconst (v := 1) hx hb dN_reach_1 (by decide) ?_
  refine lv_icmp_lt (tgt := 12) hx hb dN_reach_2 (by decide) (fun c_1 => ?_) (fun c_1 => ?_)
  · exact absurd hok (by simp [sn_rok, *])
  · refine lv_iload_n hx hb dN_reach_5 rfl (lv_at hl 1 rfl) ?_
    refine lv_sipush (v := 400) hx hb dN_reach_6 (by decide) ?_
    refine lv_icmp_le (tgt := 22) hx hb dN_reach_9 (by decide) (fun c_2 => ?_) (fun c_2 => ?_)
    · refine lv_aload_n hx hb dN_reach_22 rfl (lv_at hl 0 rfl) ?_
      refine va_get (D := (dC, dI)) (ci := 0) (v := .int rs) (C := R_N) (T := T_N) (N := 18) hx hb hts in_N hown hK hP 0 rfl rfl 3 (by decide) (hts _ flN29) (fun _ h9 => h9) rfl dN_reach_23 ?_
      refine lv_istore_n (lv' := [(2, .int rs), (0, .ref h0), (1, .int x)]) hx hb dN_reach_26 rfl hl (by decide) rfl (fun ls hl => ?_)
      refine lv_aload_n hx hb dN_reach_27 rfl (lv_at hl 1 rfl) ?_
      refine lv_iload_n hx hb dN_reach_28 rfl (lv_at hl 2 rfl) ?_
      refine va_put (D := (dC, dI)) (ci := 0) (v := .int x) (ty := .int) (C := R_N) (T := T_N) (N := 18) hx hb hts in_N t_N tok_N n_N hown hK hP hD hS 0 rfl rfl 3 (by decide) (hts _ flN29) (fun _ h9 => h9) rfl (by decide +kernel) rfl rfl (Nat.le_of_ble_eq_true rfl) dN_reach_29 (fun H locs hP hD hS => ?_)
      have hP : va_P (dC, dI) snC [(h0, .inr (0, [.int (nI Wd), .int (nI Ht), .ref a_walls, .int x, .ref a_placeX, .ref a_placeY, .int (nI Pn), .ref a_reachers, .int old, .ref a_lossOf, .int sc, .ref a_upper, .ref a_length, .ref a_headsOn, .ref a_turn, .ref a_lack, .ref a_joined, .int jc])), (a_walls, .inl (cZ, 256, .inl f_walls)), (a_placeX, .inl (cI, 12, .inl f_placeX)), (a_placeY, .inl (cI, 12, .inl f_placeY)), (a_reachers, .inl (cI, 256, .inl f_reachers)), (a_lossOf, .inl (cI, 13, .inl f_lossOf)), (a_upper, .inl (cI, 12, .inl f_upper)), (a_length, .inl (cI, 12, .inl f_length)), (a_headsOn, .inl (cI, 12, .inl f_headsOn)), (a_turn, .inl (cI, 12, .inl f_turn)), (a_lack, .inl (cI, 12, .inl f_lack)), (a_joined, .inl (cI, 12, .inl f_joined))] H := hP
      have hD : va_D A [(h0, .inr (0, [.int (nI Wd), .int (nI Ht), .ref a_walls, .int x, .ref a_placeX, .ref a_placeY, .int (nI Pn), .ref a_reachers, .int old, .ref a_lossOf, .int sc, .ref a_upper, .ref a_length, .ref a_headsOn, .ref a_turn, .ref a_lack, .ref a_joined, .int jc])), (a_walls, .inl (cZ, 256, .inl f_walls)), (a_placeX, .inl (cI, 12, .inl f_placeX)), (a_placeY, .inl (cI, 12, .inl f_placeY)), (a_reachers, .inl (cI, 256, .inl f_reachers)), (a_lossOf, .inl (cI, 13, .inl f_lossOf)), (a_upper, .inl (cI, 12, .inl f_upper)), (a_length, .inl (cI, 12, .inl f_length)), (a_headsOn, .inl (cI, 12, .inl f_headsOn)), (a_turn, .inl (cI, 12, .inl f_turn)), (a_lack, .inl (cI, 12, .inl f_lack)), (a_joined, .inl (cI, 12, .inl f_joined))] := hD
      refine lv_aload_n hx hb dN_reach_32 rfl (lv_at hl 1 rfl) ?_
      refine lv_iconst (v := 1) hx hb dN_reach_33 (by decide) ?_
      refine va_put (D := (dC, dI)) (ci := 0) (v := .int 1) (ty := .boolean) (C := R_N) (T := T_N) (N := 18) hx hb hts in_N t_N tok_N n_N hown hK hP hD hS 0 rfl rfl 8 (by decide) (hts _ flN45) (fun _ h9 => h9) rfl (by decide +kernel) rfl rfl (Nat.le_of_ble_eq_true rfl) dN_reach_34 (fun H locs hP hD hS => ?_)
      have hP : va_P (dC, dI) snC [(h0, .inr (0, [.int (nI Wd), .int (nI Ht), .ref a_walls, .int x, .ref a_placeX, .ref a_placeY, .int (nI Pn), .ref a_reachers, .int 1, .ref a_lossOf, .int sc, .ref a_upper, .ref a_length, .ref a_headsOn, .ref a_turn, .ref a_lack, .ref a_joined, .int jc])), (a_walls, .inl (cZ, 256, .inl f_walls)), (a_placeX, .inl (cI, 12, .inl f_placeX)), (a_placeY, .inl (cI, 12, .inl f_placeY)), (a_reachers, .inl (cI, 256, .inl f_reachers)), (a_lossOf, .inl (cI, 13, .inl f_lossOf)), (a_upper, .inl (cI, 12, .inl f_upper)), (a_length, .inl (cI, 12, .inl f_length)), (a_headsOn, .inl (cI, 12, .inl f_headsOn)), (a_turn, .inl (cI, 12, .inl f_turn)), (a_lack, .inl (cI, 12, .inl f_lack)), (a_joined, .inl (cI, 12, .inl f_joined))] H := hP
      have hD : va_D A [(h0, .inr (0, [.int (nI Wd), .int (nI Ht), .ref a_walls, .int x, .ref a_placeX, .ref a_placeY, .int (nI Pn), .ref a_reachers, .int 1, .ref a_lossOf, .int sc, .ref a_upper, .ref a_length, .ref a_headsOn, .ref a_turn, .ref a_lack, .ref a_joined, .int jc])), (a_walls, .inl (cZ, 256, .inl f_walls)), (a_placeX, .inl (cI, 12, .inl f_placeX)), (a_placeY, .inl (cI, 12, .inl f_placeY)), (a_reachers, .inl (cI, 256, .inl f_reachers)), (a_lossOf, .inl (cI, 13, .inl f_lossOf)), (a_upper, .inl (cI, 12, .inl f_upper)), (a_length, .inl (cI, 12, .inl f_length)), (a_headsOn, .inl (cI, 12, .inl f_headsOn)), (a_turn, .inl (cI, 12, .inl f_turn)), (a_lack, .inl (cI, 12, .inl f_lack)), (a_joined, .inl (cI, 12, .inl f_joined))] := hD
      refine lv_iload_n hx hb dN_reach_37 rfl (lv_at hl 0 rfl) ?_
      exact W.iret (v := rs) hx hb hr (fun t ht hW => ⟨⟨rs, (), rfl, rfl, by rw [ht]; exact hP, va_K.moved hW.alike hK, hD⟩, hS.F ht⟩) hS.2.2 dN_reach_38
    · exact absurd hok (by simp [sn_rok, *])
set_option maxHeartbeats 4000000 in
set_option maxRecDepth 100000 in
theorem cN_reach_T (l : Launch) (hlt : l.stackTraces = false) (dC : Nat → ClassId) (dI : Nat → Nat → Nat) (h0 a_walls a_placeX a_placeY a_reachers a_lossOf a_upper a_length a_headsOn a_turn a_lack a_joined : Nat) (Wd Ht Pn : Nat) (rs old sc jc : Int32) (x : Int32) (hno : sn_rok x = false) : MetT l yN_reach (kN_reach :: WD) { frames := 6, cells := 1, slots := 6, locals := 82 } (va_Pc [.ref h0, .int x] (xt_B (dC, dI) snC [(h0, .inr (0, [.int (nI Wd), .int (nI Ht), .ref a_walls, .int rs, .ref a_placeX, .ref a_placeY, .int (nI Pn), .ref a_reachers, .int old, .ref a_lossOf, .int sc, .ref a_upper, .ref a_length, .ref a_headsOn, .ref a_turn, .ref a_lack, .ref a_joined, .int jc]))] [])) xt_IAE := by
  refine vx_ofW (cc := bN_reach) (maxL := 3) (ret := (some .int)) (by decide) rfl ?_
  intro p e s m args below meth c s₁ B hml hout hv
  obtain ⟨rfl, ⟨hP, hK⟩, hSt⟩ := hv
  have hx := B.exec
  have hb := B.bytes
  have hr := B.returns
  have hts : ∀ w ∈ WD, w.before _ s = true := fun w h => atoms_spec (ws := kN_reach :: WD) B.pre w (List.mem_cons_of_mem _ h)
  have hown : s.vm.findClass R_N = some m.cls := findClass_of_methodNamed B.named
  have hlocks := B.notSynchronized
  have hl := lv_entry ([.ref h0, .int x]) (n := 3) (Nat.le_of_ble_eq_true rfl)
  rw [lg_entry_eq]
  generalize (lg_sl ([.ref h0, .int x]) ++ List.replicate (3 - (lg_sl ([.ref h0, .int x])).length) Slot.unset).toArray = ls at hl ⊢
  have hl : lv_has ls 3 [(0, .ref h0), (1, .int x)] := hl
  refine lv_iload_n hx hb dN_reach_0 rfl (lv_at hl 1 rfl) ?_
  refine lv_iconst (v := 1) hx hb dN_reach_1 (by decide) ?_
  refine lv_icmp_lt (tgt := 12) hx hb dN_reach_2 (by decide) (fun c_1 => ?_) (fun c_1 => ?_)
  · exact xt_I (text := "reach is out of its bounds") hx hb hlt hown hts hSt (by decide) (hl.1.trans hml.symm) dN_reach_12 dN_reach_15 dN_reach_16 dN_reach_18 dN_reach_21 hout (Nat.le_of_ble_eq_true rfl) (Nat.le_of_ble_eq_true rfl) (Nat.le_of_ble_eq_true rfl) (Nat.le_of_ble_eq_true rfl) hlocks
  · refine lv_iload_n hx hb dN_reach_5 rfl (lv_at hl 1 rfl) ?_
    refine lv_sipush (v := 400) hx hb dN_reach_6 (by decide) ?_
    refine lv_icmp_le (tgt := 22) hx hb dN_reach_9 (by decide) (fun c_2 => ?_) (fun c_2 => ?_)
    · exact absurd hno (by simp [sn_rok, *])
    · exact xt_I (text := "reach is out of its bounds") hx hb hlt hown hts hSt (by decide) (hl.1.trans hml.symm) dN_reach_12 dN_reach_15 dN_reach_16 dN_reach_18 dN_reach_21 hout (Nat.le_of_ble_eq_true rfl) (Nat.le_of_ble_eq_true rfl) (Nat.le_of_ble_eq_true rfl) (Nat.le_of_ble_eq_true rfl) hlocks
set_option maxHeartbeats 4000000 in
set_option maxRecDepth 100000 in
theorem cN_place (l : Launch) (dC : Nat → ClassId) (dI : Nat → Nat → Nat) (h0 a_walls a_placeX a_placeY a_reachers a_lossOf a_upper a_length a_headsOn a_turn a_lack a_joined : Nat) (Wd Ht Pn : Nat) (rs old sc jc : Int32) (cZ cI : ClassId) (f_walls f_placeX f_placeY f_reachers f_lossOf f_upper f_length f_headsOn f_turn f_lack f_joined : Nat → Int32) (a b : Nat) (sz : Nat) (hW : Wd ≤ 16) (hH : Ht ≤ 16) (ha : a < Wd) (hb0 : b < Ht) (hw0 : sn_wall Wd Ht f_walls (nI a) (nI b) = false) (hp0 : sn_isp f_placeX f_placeY (nI a) (nI b) Pn 0 = false) (hPl : Pn < 12) : Met l yN_place (kN_place :: WD) { frames := 2, cells := 0, slots := 0, locals := 44 } (va_Pc [.ref h0, .int (nI a), .int (nI b)] (xm (dC, dI) snC [(h0, .inr (0, [.int (nI Wd), .int (nI Ht), .ref a_walls, .int rs, .ref a_placeX, .ref a_placeY, .int (nI Pn), .ref a_reachers, .int old, .ref a_lossOf, .int sc, .ref a_upper, .ref a_length, .ref a_headsOn, .ref a_turn, .ref a_lack, .ref a_joined, .int jc])), (a_walls, .inl (cZ, 256, .inl f_walls)), (a_placeX, .inl (cI, 12, .inl f_placeX)), (a_placeY, .inl (cI, 12, .inl f_placeY)), (a_reachers, .inl (cI, 256, .inl f_reachers)), (a_lossOf, .inl (cI, 13, .inl f_lossOf)), (a_upper, .inl (cI, 12, .inl f_upper)), (a_length, .inl (cI, 12, .inl f_length)), (a_headsOn, .inl (cI, 12, .inl f_headsOn)), (a_turn, .inl (cI, 12, .inl f_turn)), (a_lack, .inl (cI, 12, .inl f_lack)), (a_joined, .inl (cI, 12, .inl f_joined))] [(cZ, .boolean), (cI, .int)] sz)) (va_Qi (fun (r : Int32) (_ : Unit) => r = nI Pn) (fun _ => xo (dC, dI) snC [(h0, .inr (0, [.int (nI Wd), .int (nI Ht), .ref a_walls, .int rs, .ref a_placeX, .ref a_placeY, .int (nI (Pn + 1)), .ref a_reachers, .int 1, .ref a_lossOf, .int sc, .ref a_upper, .ref a_length, .ref a_headsOn, .ref a_turn, .ref a_lack, .ref a_joined, .int jc])), (a_walls, .inl (cZ, 256, .inl f_walls)), (a_placeX, .inl (cI, 12, .inl (upd f_placeX Pn (nI a)))), (a_placeY, .inl (cI, 12, .inl (upd f_placeY Pn (nI b)))), (a_reachers, .inl (cI, 256, .inl f_reachers)), (a_lossOf, .inl (cI, 13, .inl f_lossOf)), (a_upper, .inl (cI, 12, .inl f_upper)), (a_length, .inl (cI, 12, .inl f_length)), (a_headsOn, .inl (cI, 12, .inl f_headsOn)), (a_turn, .inl (cI, 12, .inl f_turn)), (a_lack, .inl (cI, 12, .inl f_lack)), (a_joined, .inl (cI, 12, .inl f_joined))] [(cZ, .boolean), (cI, .int)] (va_A [(h0, .inr (0, [.int (nI Wd), .int (nI Ht), .ref a_walls, .int rs, .ref a_placeX, .ref a_placeY, .int (nI Pn), .ref a_reachers, .int old, .ref a_lossOf, .int sc, .ref a_upper, .ref a_length, .ref a_headsOn, .ref a_turn, .ref a_lack, .ref a_joined, .int jc])), (a_walls, .inl (cZ, 256, .inl f_walls)), (a_placeX, .inl (cI, 12, .inl f_placeX)), (a_placeY, .inl (cI, 12, .inl f_placeY)), (a_reachers, .inl (cI, 256, .inl f_reachers)), (a_lossOf, .inl (cI, 13, .inl f_lossOf)), (a_upper, .inl (cI, 12, .inl f_upper)), (a_length, .inl (cI, 12, .inl f_length)), (a_headsOn, .inl (cI, 12, .inl f_headsOn)), (a_turn, .inl (cI, 12, .inl f_turn)), (a_lack, .inl (cI, 12, .inl f_lack)), (a_joined, .inl (cI, 12, .inl f_joined))] sz)) (va_A [(h0, .inr (0, [.int (nI Wd), .int (nI Ht), .ref a_walls, .int rs, .ref a_placeX, .ref a_placeY, .int (nI Pn), .ref a_reachers, .int old, .ref a_lossOf, .int sc, .ref a_upper, .ref a_length, .ref a_headsOn, .ref a_turn, .ref a_lack, .ref a_joined, .int jc])), (a_walls, .inl (cZ, 256, .inl f_walls)), (a_placeX, .inl (cI, 12, .inl f_placeX)), (a_placeY, .inl (cI, 12, .inl f_placeY)), (a_reachers, .inl (cI, 256, .inl f_reachers)), (a_lossOf, .inl (cI, 13, .inl f_lossOf)), (a_upper, .inl (cI, 12, .inl f_upper)), (a_length, .inl (cI, 12, .inl f_length)), (a_headsOn, .inl (cI, 12, .inl f_headsOn)), (a_turn, .inl (cI, 12, .inl f_turn)), (a_lack, .inl (cI, 12, .inl f_lack)), (a_joined, .inl (cI, 12, .inl f_joined))] sz)) 0 0 (va_A [(h0, .inr (0, [.int (nI Wd), .int (nI Ht), .ref a_walls, .int rs, .ref a_placeX, .ref a_placeY, .int (nI Pn), .ref a_reachers, .int old, .ref a_lossOf, .int sc, .ref a_upper, .ref a_length, .ref a_headsOn, .ref a_turn, .ref a_lack, .ref a_joined, .int jc])), (a_walls, .inl (cZ, 256, .inl f_walls)), (a_placeX, .inl (cI, 12, .inl f_placeX)), (a_placeY, .inl (cI, 12, .inl f_placeY)), (a_reachers, .inl (cI, 256, .inl f_reachers)), (a_lossOf, .inl (cI, 13, .inl f_lossOf)), (a_upper, .inl (cI, 12, .inl f_upper)), (a_length, .inl (cI, 12, .inl f_length)), (a_headsOn, .inl (cI, 12, .inl f_headsOn)), (a_turn, .inl (cI, 12, .inl f_turn)), (a_lack, .inl (cI, 12, .inl f_lack)), (a_joined, .inl (cI, 12, .inl f_joined))] sz) := by
  refine Met.ofW (cc := bN_place) (maxL := 4) (ret := (some .int)) (by decide) rfl ?_
  intro p e s m args below meth c s₁ B hml hv
  obtain ⟨rfl, hsz, hP, hK, hD0⟩ := hv
  have hx := B.exec
  have hb := B.bytes
  have hr := B.returns
  have hts : ∀ w ∈ WD, w.before _ s = true := fun w h => atoms_spec (ws := kN_place :: WD) B.pre w (List.mem_cons_of_mem _ h)
  have hown : s.vm.findClass R_N = some m.cls := findClass_of_methodNamed B.named
  have hlocks := B.notSynchronized
  subst hsz
  have hD := hD0.self (sz := s.heap.size)
  generalize hAe : va_A [(h0, .inr (0, [.int (nI Wd), .int (nI Ht), .ref a_walls, .int rs, .ref a_placeX, .ref a_placeY, .int (nI Pn), .ref a_reachers, .int old, .ref a_lossOf, .int sc, .ref a_upper, .ref a_length, .ref a_headsOn, .ref a_turn, .ref a_lack, .ref a_joined, .int jc])), (a_walls, .inl (cZ, 256, .inl f_walls)), (a_placeX, .inl (cI, 12, .inl f_placeX)), (a_placeY, .inl (cI, 12, .inl f_placeY)), (a_reachers, .inl (cI, 256, .inl f_reachers)), (a_lossOf, .inl (cI, 13, .inl f_lossOf)), (a_upper, .inl (cI, 12, .inl f_upper)), (a_length, .inl (cI, 12, .inl f_length)), (a_headsOn, .inl (cI, 12, .inl f_headsOn)), (a_turn, .inl (cI, 12, .inl f_turn)), (a_lack, .inl (cI, 12, .inl f_lack)), (a_joined, .inl (cI, 12, .inl f_joined))] s.heap.size = A at hD ⊢
  have hA : ∀ q : Nat, s.heap.size ≤ q → A q := fun q h => by rw [← hAe]; exact Or.inr h
  have hS : va_S A s.heap s.heap [] := va_S.rf
  have hl := lv_entry ([.ref h0, .int (nI a), .int (nI b)]) (n := 4) (Nat.le_of_ble_eq_true rfl)
  rw [lg_entry_eq]
  generalize (lg_sl ([.ref h0, .int (nI a), .int (nI b)]) ++ List.replicate (4 - (lg_sl ([.ref h0, .int (nI a), .int (nI b)])).length) Slot.unset).toArray = ls at hl ⊢
  have hl : lv_has ls 4 [(0, .ref h0), (1, .int (nI a)), (2, .int (nI b))] := hl
  have hPn : Pn ≤ 12 := by omega
  refine lv_aload_n hx hb dN_place_0 rfl (lv_at hl 0 rfl) ?_
  refine lv_iload_n hx hb dN_place_1 rfl (lv_at hl 1 rfl) ?_
  refine lv_iload_n hx hb dN_place_2 rfl (lv_at hl 2 rfl) ?_
  refine xr_Vv (As := [.int (nI a), .int (nI b)]) ⟨hx, hb, hml, hown, hts⟩ (cN_needCell l dC dI h0 a_walls a_placeX a_placeY a_reachers a_lossOf a_upper a_length a_headsOn a_turn a_lack a_joined Wd Ht Pn rs old sc jc (nI a) (nI b) (sn_in_nI hW hH ha hb0)) (cwV 2 hts gN82 rfl rfl rfl (by decide +kernel) ⟨Nat.le_of_ble_eq_true rfl, Nat.le_of_ble_eq_true rfl⟩) hK hP [0] [] rfl rfl 0 0 rfl rfl rfl rfl hl.1 rfl (Nat.le_of_ble_eq_true rfl) dN_place_3 ⟨Nat.zero_le _, Nat.zero_le _⟩ ?_
  refine lv_aload_n hx hb dN_place_6 rfl (lv_at hl 0 rfl) ?_
  refine lv_iload_n hx hb dN_place_7 rfl (lv_at hl 1 rfl) ?_
  refine lv_iload_n hx hb dN_place_8 rfl (lv_at hl 2 rfl) ?_
  refine xr_V (As := [.int (nI a), .int (nI b)]) ⟨hx, hb, hml, hown, hts⟩ (cN_isWall l dC dI h0 a_walls a_placeX a_placeY a_reachers a_lossOf a_upper a_length a_headsOn a_turn a_lack a_joined Wd Ht Pn rs old sc jc cZ f_walls (nI a) (nI b) hW hH) (cwV 2 hts gN86 rfl rfl rfl (by decide +kernel) ⟨Nat.le_of_ble_eq_true rfl, Nat.le_of_ble_eq_true rfl⟩) hK hP [0, 1] [0] rfl rfl 0 0 rfl rfl rfl rfl hl.1 rfl (Nat.le_of_ble_eq_true rfl) dN_place_9 ⟨Nat.zero_le _, Nat.zero_le _⟩ (fun r_2 hr_2 => ?_)
  subst hr_2
  refine lv_if_eq (tgt := 25) hx hb dN_place_12 (by decide) (fun c_3 => ?_) (fun c_3 => ?_)
  · replace c_3 := bz_0 c_3
    refine lv_aload_n hx hb dN_place_25 rfl (lv_at hl 0 rfl) ?_
    refine lv_iload_n hx hb dN_place_26 rfl (lv_at hl 1 rfl) ?_
    refine lv_iload_n hx hb dN_place_27 rfl (lv_at hl 2 rfl) ?_
    refine xr_V (As := [.int (nI a), .int (nI b)]) ⟨hx, hb, hml, hown, hts⟩ (cN_isPlace l dC dI h0 a_walls a_placeX a_placeY a_reachers a_lossOf a_upper a_length a_headsOn a_turn a_lack a_joined Wd Ht Pn rs old sc jc cI f_placeX f_placeY (nI a) (nI b) hPn) (cwV 2 hts gN105 rfl rfl rfl (by decide +kernel) ⟨Nat.le_of_ble_eq_true rfl, Nat.le_of_ble_eq_true rfl⟩) hK hP [0, 2, 3] [1] rfl rfl 0 0 rfl rfl rfl rfl hl.1 rfl (Nat.le_of_ble_eq_true rfl) dN_place_28 ⟨Nat.zero_le _, Nat.zero_le _⟩ (fun r_4 hr_4 => ?_)
    subst hr_4
    refine lv_if_eq (tgt := 44) hx hb dN_place_31 (by decide) (fun c_5 => ?_) (fun c_5 => ?_)
    · replace c_5 := bz_0 c_5
      refine lv_aload_n hx hb dN_place_44 rfl (lv_at hl 0 rfl) ?_
      refine va_get (D := (dC, dI)) (ci := 0) (v := .int (nI Pn)) (C := R_N) (T := T_N) (N := 18) hx hb hts in_N hown hK hP 0 rfl rfl 6 (by decide) (hts _ flN39) (fun _ h9 => h9) rfl dN_place_45 ?_
      refine lv_bipush (v := (nI 12)) hx hb dN_place_48 (by decide) ?_
      refine lv_icmp_lt (tgt := 63) hx hb dN_place_50 (by decide) (fun c_6 => ?_) (fun c_6 => ?_)
      · refine lv_aload_n hx hb dN_place_63 rfl (lv_at hl 0 rfl) ?_
        refine va_get (D := (dC, dI)) (ci := 0) (v := .int (nI Pn)) (C := R_N) (T := T_N) (N := 18) hx hb hts in_N hown hK hP 0 rfl rfl 6 (by decide) (hts _ flN39) (fun _ h9 => h9) rfl dN_place_64 ?_
        refine lv_istore_n (lv' := [(3, .int (nI Pn)), (0, .ref h0), (1, .int (nI a)), (2, .int (nI b))]) hx hb dN_place_67 rfl hl (by decide) rfl (fun ls hl => ?_)
        refine lv_aload_n hx hb dN_place_68 rfl (lv_at hl 1 rfl) ?_
        refine va_get (D := (dC, dI)) (ci := 0) (v := .ref a_placeX) (C := R_N) (T := T_N) (N := 18) hx hb hts in_N hown hK hP 0 rfl rfl 4 (by decide) (hts _ flN32) (fun _ h9 => h9) rfl dN_place_69 ?_
        refine lv_iload_n hx hb dN_place_72 rfl (lv_at hl 0 rfl) ?_
        refine lv_iload_n hx hb dN_place_73 rfl (lv_at hl 2 rfl) ?_
        refine xa_iast hx hb hK hP hD hS 2 1 rfl rfl (i := Pn) (x := nI a) (by omega) (by first | decide | omega) dN_place_74 (fun H locs hP hD hS => ?_)
        have hP : va_P (dC, dI) snC [(h0, .inr (0, [.int (nI Wd), .int (nI Ht), .ref a_walls, .int rs, .ref a_placeX, .ref a_placeY, .int (nI Pn), .ref a_reachers, .int old, .ref a_lossOf, .int sc, .ref a_upper, .ref a_length, .ref a_headsOn, .ref a_turn, .ref a_lack, .ref a_joined, .int jc])), (a_walls, .inl (cZ, 256, .inl f_walls)), (a_placeX, .inl (cI, 12, .inl (upd f_placeX Pn (nI a)))), (a_placeY, .inl (cI, 12, .inl f_placeY)), (a_reachers, .inl (cI, 256, .inl f_reachers)), (a_lossOf, .inl (cI, 13, .inl f_lossOf)), (a_upper, .inl (cI, 12, .inl f_upper)), (a_length, .inl (cI, 12, .inl f_length)), (a_headsOn, .inl (cI, 12, .inl f_headsOn)), (a_turn, .inl (cI, 12, .inl f_turn)), (a_lack, .inl (cI, 12, .inl f_lack)), (a_joined, .inl (cI, 12, .inl f_joined))] H := hP
        have hD : va_D A [(h0, .inr (0, [.int (nI Wd), .int (nI Ht), .ref a_walls, .int rs, .ref a_placeX, .ref a_placeY, .int (nI Pn), .ref a_reachers, .int old, .ref a_lossOf, .int sc, .ref a_upper, .ref a_length, .ref a_headsOn, .ref a_turn, .ref a_lack, .ref a_joined, .int jc])), (a_walls, .inl (cZ, 256, .inl f_walls)), (a_placeX, .inl (cI, 12, .inl (upd f_placeX Pn (nI a)))), (a_placeY, .inl (cI, 12, .inl f_placeY)), (a_reachers, .inl (cI, 256, .inl f_reachers)), (a_lossOf, .inl (cI, 13, .inl f_lossOf)), (a_upper, .inl (cI, 12, .inl f_upper)), (a_length, .inl (cI, 12, .inl f_length)), (a_headsOn, .inl (cI, 12, .inl f_headsOn)), (a_turn, .inl (cI, 12, .inl f_turn)), (a_lack, .inl (cI, 12, .inl f_lack)), (a_joined, .inl (cI, 12, .inl f_joined))] := hD
        refine lv_aload_n hx hb dN_place_75 rfl (lv_at hl 1 rfl) ?_
        refine va_get (D := (dC, dI)) (ci := 0) (v := .ref a_placeY) (C := R_N) (T := T_N) (N := 18) hx hb hts in_N hown hK hP 0 rfl rfl 5 (by decide) (hts _ flN36) (fun _ h9 => h9) rfl dN_place_76 ?_
        refine lv_iload_n hx hb dN_place_79 rfl (lv_at hl 0 rfl) ?_
        refine lv_iload_n hx hb dN_place_80 rfl (lv_at hl 3 rfl) ?_
        refine xa_iast hx hb hK hP hD hS 3 1 rfl rfl (i := Pn) (x := nI b) (by omega) (by first | decide | omega) dN_place_81 (fun H locs hP hD hS => ?_)
        have hP : va_P (dC, dI) snC [(h0, .inr (0, [.int (nI Wd), .int (nI Ht), .ref a_walls, .int rs, .ref a_placeX, .ref a_placeY, .int (nI Pn), .ref a_reachers, .int old, .ref a_lossOf, .int sc, .ref a_upper, .ref a_length, .ref a_headsOn, .ref a_turn, .ref a_lack, .ref a_joined, .int jc])), (a_walls, .inl (cZ, 256, .inl f_walls)), (a_placeX, .inl (cI, 12, .inl (upd f_placeX Pn (nI a)))), (a_placeY, .inl (cI, 12, .inl (upd f_placeY Pn (nI b)))), (a_reachers, .inl (cI, 256, .inl f_reachers)), (a_lossOf, .inl (cI, 13, .inl f_lossOf)), (a_upper, .inl (cI, 12, .inl f_upper)), (a_length, .inl (cI, 12, .inl f_length)), (a_headsOn, .inl (cI, 12, .inl f_headsOn)), (a_turn, .inl (cI, 12, .inl f_turn)), (a_lack, .inl (cI, 12, .inl f_lack)), (a_joined, .inl (cI, 12, .inl f_joined))] H := hP
        have hD : va_D A [(h0, .inr (0, [.int (nI Wd), .int (nI Ht), .ref a_walls, .int rs, .ref a_placeX, .ref a_placeY, .int (nI Pn), .ref a_reachers, .int old, .ref a_lossOf, .int sc, .ref a_upper, .ref a_length, .ref a_headsOn, .ref a_turn, .ref a_lack, .ref a_joined, .int jc])), (a_walls, .inl (cZ, 256, .inl f_walls)), (a_placeX, .inl (cI, 12, .inl (upd f_placeX Pn (nI a)))), (a_placeY, .inl (cI, 12, .inl (upd f_placeY Pn (nI b)))), (a_reachers, .inl (cI, 256, .inl f_reachers)), (a_lossOf, .inl (cI, 13, .inl f_lossOf)), (a_upper, .inl (cI, 12, .inl f_upper)), (a_length, .inl (cI, 12, .inl f_length)), (a_headsOn, .inl (cI, 12, .inl f_headsOn)), (a_turn, .inl (cI, 12, .inl f_turn)), (a_lack, .inl (cI, 12, .inl f_lack)), (a_joined, .inl (cI, 12, .inl f_joined))] := hD
        refine lv_aload_n hx hb dN_place_82 rfl (lv_at hl 1 rfl) ?_
        refine lv_dup hx hb dN_place_83 rfl ?_
        refine va_get (D := (dC, dI)) (ci := 0) (v := .int (nI Pn)) (C := R_N) (T := T_N) (N := 18) hx hb hts in_N hown hK hP 0 rfl rfl 6 (by decide) (hts _ flN39) (fun _ h9 => h9) rfl dN_place_84 ?_
        refine lv_iconst (v := 1) hx hb dN_place_87 (by decide) ?_
        refine lv_iadd hx hb dN_place_88 ?_
        rw [show ((nI Pn) + 1 : Int32) = nI (Pn + 1) from (nI_1 Pn)]
        refine va_put (D := (dC, dI)) (ci := 0) (v := .int (nI (Pn + 1))) (ty := .int) (C := R_N) (T := T_N) (N := 18) hx hb hts in_N t_N tok_N n_N hown hK hP hD hS 0 rfl rfl 6 (by decide) (hts _ flN39) (fun _ h9 => h9) rfl (by decide +kernel) rfl rfl (Nat.le_of_ble_eq_true rfl) dN_place_89 (fun H locs hP hD hS => ?_)
        have hP : va_P (dC, dI) snC [(h0, .inr (0, [.int (nI Wd), .int (nI Ht), .ref a_walls, .int rs, .ref a_placeX, .ref a_placeY, .int (nI (Pn + 1)), .ref a_reachers, .int old, .ref a_lossOf, .int sc, .ref a_upper, .ref a_length, .ref a_headsOn, .ref a_turn, .ref a_lack, .ref a_joined, .int jc])), (a_walls, .inl (cZ, 256, .inl f_walls)), (a_placeX, .inl (cI, 12, .inl (upd f_placeX Pn (nI a)))), (a_placeY, .inl (cI, 12, .inl (upd f_placeY Pn (nI b)))), (a_reachers, .inl (cI, 256, .inl f_reachers)), (a_lossOf, .inl (cI, 13, .inl f_lossOf)), (a_upper, .inl (cI, 12, .inl f_upper)), (a_length, .inl (cI, 12, .inl f_length)), (a_headsOn, .inl (cI, 12, .inl f_headsOn)), (a_turn, .inl (cI, 12, .inl f_turn)), (a_lack, .inl (cI, 12, .inl f_lack)), (a_joined, .inl (cI, 12, .inl f_joined))] H := hP
        have hD : va_D A [(h0, .inr (0, [.int (nI Wd), .int (nI Ht), .ref a_walls, .int rs, .ref a_placeX, .ref a_placeY, .int (nI (Pn + 1)), .ref a_reachers, .int old, .ref a_lossOf, .int sc, .ref a_upper, .ref a_length, .ref a_headsOn, .ref a_turn, .ref a_lack, .ref a_joined, .int jc])), (a_walls, .inl (cZ, 256, .inl f_walls)), (a_placeX, .inl (cI, 12, .inl (upd f_placeX Pn (nI a)))), (a_placeY, .inl (cI, 12, .inl (upd f_placeY Pn (nI b)))), (a_reachers, .inl (cI, 256, .inl f_reachers)), (a_lossOf, .inl (cI, 13, .inl f_lossOf)), (a_upper, .inl (cI, 12, .inl f_upper)), (a_length, .inl (cI, 12, .inl f_length)), (a_headsOn, .inl (cI, 12, .inl f_headsOn)), (a_turn, .inl (cI, 12, .inl f_turn)), (a_lack, .inl (cI, 12, .inl f_lack)), (a_joined, .inl (cI, 12, .inl f_joined))] := hD
        refine lv_aload_n hx hb dN_place_92 rfl (lv_at hl 1 rfl) ?_
        refine lv_iconst (v := 1) hx hb dN_place_93 (by decide) ?_
        refine va_put (D := (dC, dI)) (ci := 0) (v := .int 1) (ty := .boolean) (C := R_N) (T := T_N) (N := 18) hx hb hts in_N t_N tok_N n_N hown hK hP hD hS 0 rfl rfl 8 (by decide) (hts _ flN45) (fun _ h9 => h9) rfl (by decide +kernel) rfl rfl (Nat.le_of_ble_eq_true rfl) dN_place_94 (fun H locs hP hD hS => ?_)
        have hP : va_P (dC, dI) snC [(h0, .inr (0, [.int (nI Wd), .int (nI Ht), .ref a_walls, .int rs, .ref a_placeX, .ref a_placeY, .int (nI (Pn + 1)), .ref a_reachers, .int 1, .ref a_lossOf, .int sc, .ref a_upper, .ref a_length, .ref a_headsOn, .ref a_turn, .ref a_lack, .ref a_joined, .int jc])), (a_walls, .inl (cZ, 256, .inl f_walls)), (a_placeX, .inl (cI, 12, .inl (upd f_placeX Pn (nI a)))), (a_placeY, .inl (cI, 12, .inl (upd f_placeY Pn (nI b)))), (a_reachers, .inl (cI, 256, .inl f_reachers)), (a_lossOf, .inl (cI, 13, .inl f_lossOf)), (a_upper, .inl (cI, 12, .inl f_upper)), (a_length, .inl (cI, 12, .inl f_length)), (a_headsOn, .inl (cI, 12, .inl f_headsOn)), (a_turn, .inl (cI, 12, .inl f_turn)), (a_lack, .inl (cI, 12, .inl f_lack)), (a_joined, .inl (cI, 12, .inl f_joined))] H := hP
        have hD : va_D A [(h0, .inr (0, [.int (nI Wd), .int (nI Ht), .ref a_walls, .int rs, .ref a_placeX, .ref a_placeY, .int (nI (Pn + 1)), .ref a_reachers, .int 1, .ref a_lossOf, .int sc, .ref a_upper, .ref a_length, .ref a_headsOn, .ref a_turn, .ref a_lack, .ref a_joined, .int jc])), (a_walls, .inl (cZ, 256, .inl f_walls)), (a_placeX, .inl (cI, 12, .inl (upd f_placeX Pn (nI a)))), (a_placeY, .inl (cI, 12, .inl (upd f_placeY Pn (nI b)))), (a_reachers, .inl (cI, 256, .inl f_reachers)), (a_lossOf, .inl (cI, 13, .inl f_lossOf)), (a_upper, .inl (cI, 12, .inl f_upper)), (a_length, .inl (cI, 12, .inl f_length)), (a_headsOn, .inl (cI, 12, .inl f_headsOn)), (a_turn, .inl (cI, 12, .inl f_turn)), (a_lack, .inl (cI, 12, .inl f_lack)), (a_joined, .inl (cI, 12, .inl f_joined))] := hD
        refine lv_iload_n hx hb dN_place_97 rfl (lv_at hl 0 rfl) ?_
        exact W.iret (v := nI Pn) hx hb hr (fun t ht hW => ⟨⟨nI Pn, (), rfl, rfl, by rw [ht]; exact hP, va_K.moved hW.alike hK, hD⟩, hS.F ht⟩) hS.2.2 dN_place_98
      · exact absurd ((nI_ltI (by omega) (by omega)).mpr hPl) c_6
    · replace c_5 := bz_1 c_5
      exact absurd hp0 (by rw [c_5]; decide)
  · replace c_3 := bz_1 c_3
    exact absurd hw0 (by rw [c_3]; decide)
set_option maxHeartbeats 4000000 in
set_option maxRecDepth 100000 in
theorem cN_place_T (l : Launch) (hlt : l.stackTraces = false) (dC : Nat → ClassId) (dI : Nat → Nat → Nat) (h0 a_walls a_placeX a_placeY a_reachers a_lossOf a_upper a_length a_headsOn a_turn a_lack a_joined : Nat) (Wd Ht Pn : Nat) (rs old sc jc : Int32) (x y : Int32) (hno : sn_in Wd Ht x y = false) : MetT l yN_place (kN_place :: WD) { frames := 7, cells := 1, slots := 6, locals := 104 } (va_Pc [.ref h0, .int x, .int y] (xt_B (dC, dI) snC [(h0, .inr (0, [.int (nI Wd), .int (nI Ht), .ref a_walls, .int rs, .ref a_placeX, .ref a_placeY, .int (nI Pn), .ref a_reachers, .int old, .ref a_lossOf, .int sc, .ref a_upper, .ref a_length, .ref a_headsOn, .ref a_turn, .ref a_lack, .ref a_joined, .int jc]))] [])) xt_IAE := by
  refine vx_ofW (cc := bN_place) (maxL := 4) (ret := (some .int)) (by decide) rfl ?_
  intro p e s m args below meth c s₁ B hml hout hv
  obtain ⟨rfl, ⟨hP, hK⟩, hSt⟩ := hv
  have hx := B.exec
  have hb := B.bytes
  have hr := B.returns
  have hts : ∀ w ∈ WD, w.before _ s = true := fun w h => atoms_spec (ws := kN_place :: WD) B.pre w (List.mem_cons_of_mem _ h)
  have hown : s.vm.findClass R_N = some m.cls := findClass_of_methodNamed B.named
  have hlocks := B.notSynchronized
  have hl := lv_entry ([.ref h0, .int x, .int y]) (n := 4) (Nat.le_of_ble_eq_true rfl)
  rw [lg_entry_eq]
  generalize (lg_sl ([.ref h0, .int x, .int y]) ++ List.replicate (4 - (lg_sl ([.ref h0, .int x, .int y])).length) Slot.unset).toArray = ls at hl ⊢
  have hl : lv_has ls 4 [(0, .ref h0), (1, .int x), (2, .int y)] := hl
  refine lv_aload_n hx hb dN_place_0 rfl (lv_at hl 0 rfl) ?_
  refine lv_iload_n hx hb dN_place_1 rfl (lv_at hl 1 rfl) ?_
  refine lv_iload_n hx hb dN_place_2 rfl (lv_at hl 2 rfl) ?_
  exact xt_V (As := [.int x, .int y]) ⟨hx, hb, hml, hown, hts⟩ (cN_needCell_T l hlt dC dI h0 a_walls a_placeX a_placeY a_reachers a_lossOf a_upper a_length a_headsOn a_turn a_lack a_joined Wd Ht Pn rs old sc jc x y hno) (cwV 2 hts gN82 rfl rfl rfl (by decide +kernel) ⟨Nat.le_of_ble_eq_true rfl, Nat.le_of_ble_eq_true rfl⟩) hSt hK hP [0] [] rfl rfl 0 0 rfl rfl rfl rfl hl.1 rfl (Nat.le_of_ble_eq_true rfl) dN_place_3 ⟨Nat.le_of_ble_eq_true rfl, Nat.le_of_ble_eq_true rfl⟩ hout hlocks
set_option maxHeartbeats 4000000 in
set_option maxRecDepth 100000 in
theorem cN_place_TS (l : Launch) (hlt : l.stackTraces = false) (dC : Nat → ClassId) (dI : Nat → Nat → Nat) (h0 a_walls a_placeX a_placeY a_reachers a_lossOf a_upper a_length a_headsOn a_turn a_lack a_joined : Nat) (Wd Ht Pn : Nat) (rs old sc jc : Int32) (cZ cI : ClassId) (f_walls f_placeX f_placeY f_reachers f_lossOf f_upper f_length f_headsOn f_turn f_lack f_joined : Nat → Int32) (a b : Nat) (hW : Wd ≤ 16) (hH : Ht ≤ 16) (ha : a < Wd) (hb0 : b < Ht) (hPn : Pn ≤ 12) (hno : sn_wall Wd Ht f_walls (nI a) (nI b) = true ∨ sn_isp f_placeX f_placeY (nI a) (nI b) Pn 0 = true ∨ Pn = 12) : MetT l yN_place (kN_place :: WD) { frames := 6, cells := 1, slots := 6, locals := 82 } (va_Pc [.ref h0, .int (nI a), .int (nI b)] (xt_B (dC, dI) snC [(h0, .inr (0, [.int (nI Wd), .int (nI Ht), .ref a_walls, .int rs, .ref a_placeX, .ref a_placeY, .int (nI Pn), .ref a_reachers, .int old, .ref a_lossOf, .int sc, .ref a_upper, .ref a_length, .ref a_headsOn, .ref a_turn, .ref a_lack, .ref a_joined, .int jc])), (a_walls, .inl (cZ, 256, .inl f_walls)), (a_placeX, .inl (cI, 12, .inl f_placeX)), (a_placeY, .inl (cI, 12, .inl f_placeY)), (a_reachers, .inl (cI, 256, .inl f_reachers)), (a_lossOf, .inl (cI, 13, .inl f_lossOf)), (a_upper, .inl (cI, 12, .inl f_upper)), (a_length, .inl (cI, 12, .inl f_length)), (a_headsOn, .inl (cI, 12, .inl f_headsOn)), (a_turn, .inl (cI, 12, .inl f_turn)), (a_lack, .inl (cI, 12, .inl f_lack)), (a_joined, .inl (cI, 12, .inl f_joined))] [(cZ, .boolean), (cI, .int)])) xt_ISE := by
  refine vx_ofW (cc := bN_place) (maxL := 4) (ret := (some .int)) (by decide) rfl ?_
  intro p e s m args below meth c s₁ B hml hout hv
  obtain ⟨rfl, ⟨hP, hK⟩, hSt⟩ := hv
  have hx := B.exec
  have hb := B.bytes
  have hr := B.returns
  have hts : ∀ w ∈ WD, w.before _ s = true := fun w h => atoms_spec (ws := kN_place :: WD) B.pre w (List.mem_cons_of_mem _ h)
  have hown : s.vm.findClass R_N = some m.cls := findClass_of_methodNamed B.named
  have hlocks := B.notSynchronized
  have hl := lv_entry ([.ref h0, .int (nI a), .int (nI b)]) (n := 4) (Nat.le_of_ble_eq_true rfl)
  rw [lg_entry_eq]
  generalize (lg_sl ([.ref h0, .int (nI a), .int (nI b)]) ++ List.replicate (4 - (lg_sl ([.ref h0, .int (nI a), .int (nI b)])).length) Slot.unset).toArray = ls at hl ⊢
  have hl : lv_has ls 4 [(0, .ref h0), (1, .int (nI a)), (2, .int (nI b))] := hl
  refine lv_aload_n hx hb dN_place_0 rfl (lv_at hl 0 rfl) ?_
  refine lv_iload_n hx hb dN_place_1 rfl (lv_at hl 1 rfl) ?_
  refine lv_iload_n hx hb dN_place_2 rfl (lv_at hl 2 rfl) ?_
  refine xr_Vv (As := [.int (nI a), .int (nI b)]) ⟨hx, hb, hml, hown, hts⟩ (cN_needCell l dC dI h0 a_walls a_placeX a_placeY a_reachers a_lossOf a_upper a_length a_headsOn a_turn a_lack a_joined Wd Ht Pn rs old sc jc (nI a) (nI b) (sn_in_nI hW hH ha hb0)) (cwV 2 hts gN82 rfl rfl rfl (by decide +kernel) ⟨Nat.le_of_ble_eq_true rfl, Nat.le_of_ble_eq_true rfl⟩) hK hP [0] [] rfl rfl 0 0 rfl rfl rfl rfl hl.1 rfl (Nat.le_of_ble_eq_true rfl) dN_place_3 ⟨Nat.zero_le _, Nat.zero_le _⟩ ?_
  refine lv_aload_n hx hb dN_place_6 rfl (lv_at hl 0 rfl) ?_
  refine lv_iload_n hx hb dN_place_7 rfl (lv_at hl 1 rfl) ?_
  refine lv_iload_n hx hb dN_place_8 rfl (lv_at hl 2 rfl) ?_
  refine xr_V (As := [.int (nI a), .int (nI b)]) ⟨hx, hb, hml, hown, hts⟩ (cN_isWall l dC dI h0 a_walls a_placeX a_placeY a_reachers a_lossOf a_upper a_length a_headsOn a_turn a_lack a_joined Wd Ht Pn rs old sc jc cZ f_walls (nI a) (nI b) hW hH) (cwV 2 hts gN86 rfl rfl rfl (by decide +kernel) ⟨Nat.le_of_ble_eq_true rfl, Nat.le_of_ble_eq_true rfl⟩) hK hP [0, 1] [0] rfl rfl 0 0 rfl rfl rfl rfl hl.1 rfl (Nat.le_of_ble_eq_true rfl) dN_place_9 ⟨Nat.zero_le _, Nat.zero_le _⟩ (fun r_2 hr_2 => ?_)
  subst hr_2
  refine lv_if_eq (tgt := 25) hx hb dN_place_12 (by decide) (fun c_3 => ?_) (fun c_3 => ?_)
  · replace c_3 := bz_0 c_3
    refine lv_aload_n hx hb dN_place_25 rfl (lv_at hl 0 rfl) ?_
    refine lv_iload_n hx hb dN_place_26 rfl (lv_at hl 1 rfl) ?_
    refine lv_iload_n hx hb dN_place_27 rfl (lv_at hl 2 rfl) ?_
    refine xr_V (As := [.int (nI a), .int (nI b)]) ⟨hx, hb, hml, hown, hts⟩ (cN_isPlace l dC dI h0 a_walls a_placeX a_placeY a_reachers a_lossOf a_upper a_length a_headsOn a_turn a_lack a_joined Wd Ht Pn rs old sc jc cI f_placeX f_placeY (nI a) (nI b) hPn) (cwV 2 hts gN105 rfl rfl rfl (by decide +kernel) ⟨Nat.le_of_ble_eq_true rfl, Nat.le_of_ble_eq_true rfl⟩) hK hP [0, 2, 3] [1] rfl rfl 0 0 rfl rfl rfl rfl hl.1 rfl (Nat.le_of_ble_eq_true rfl) dN_place_28 ⟨Nat.zero_le _, Nat.zero_le _⟩ (fun r_4 hr_4 => ?_)
    subst hr_4
    refine lv_if_eq (tgt := 44) hx hb dN_place_31 (by decide) (fun c_5 => ?_) (fun c_5 => ?_)
    · replace c_5 := bz_0 c_5
      refine lv_aload_n hx hb dN_place_44 rfl (lv_at hl 0 rfl) ?_
      refine va_get (D := (dC, dI)) (ci := 0) (v := .int (nI Pn)) (C := R_N) (T := T_N) (N := 18) hx hb hts in_N hown hK hP 0 rfl rfl 6 (by decide) (hts _ flN39) (fun _ h9 => h9) rfl dN_place_45 ?_
      refine lv_bipush (v := (nI 12)) hx hb dN_place_48 (by decide) ?_
      refine lv_icmp_lt (tgt := 63) hx hb dN_place_50 (by decide) (fun c_6 => ?_) (fun c_6 => ?_)
      · exact absurd hno (by simp [*]; have := (nI_ltI (by omega) (by omega)).mp c_6; omega)
      · exact xt_St (text := "there are as many places as there may be") hx hb hlt hown hts hSt (by decide) (hl.1.trans hml.symm) dN_place_53 dN_place_56 dN_place_57 dN_place_59 dN_place_62 hout (Nat.le_of_ble_eq_true rfl) (Nat.le_of_ble_eq_true rfl) (Nat.le_of_ble_eq_true rfl) (Nat.le_of_ble_eq_true rfl) hlocks
    · replace c_5 := bz_1 c_5
      exact xt_St (text := "the cell is a place already") hx hb hlt hown hts hSt (by decide) (hl.1.trans hml.symm) dN_place_34 dN_place_37 dN_place_38 dN_place_40 dN_place_43 hout (Nat.le_of_ble_eq_true rfl) (Nat.le_of_ble_eq_true rfl) (Nat.le_of_ble_eq_true rfl) (Nat.le_of_ble_eq_true rfl) hlocks
  · replace c_3 := bz_1 c_3
    exact xt_St (text := "the cell is a wall") hx hb hlt hown hts hSt (by decide) (hl.1.trans hml.symm) dN_place_15 dN_place_18 dN_place_19 dN_place_21 dN_place_24 hout (Nat.le_of_ble_eq_true rfl) (Nat.le_of_ble_eq_true rfl) (Nat.le_of_ble_eq_true rfl) (Nat.le_of_ble_eq_true rfl) hlocks
set_option maxHeartbeats 4000000 in
set_option maxRecDepth 100000 in
theorem cN_seen (l : Launch) (dC : Nat → ClassId) (dI : Nat → Nat → Nat) (h0 a_walls a_placeX a_placeY a_reachers a_lossOf a_upper a_length a_headsOn a_turn a_lack a_joined : Nat) (Wd Ht Pn : Nat) (rs old sc jc : Int32) (cZ : ClassId) (f_walls : Nat → Int32) (a b u v : Nat) (hW : Wd ≤ 16) (hH : Ht ≤ 16) (ha : a < Wd) (hb0 : b < Ht) (hu : u < Wd) (hv0 : v < Ht) : Met l yN_seen (kN_seen :: WD) { frames := 3, cells := 0, slots := 0, locals := 76 } (va_Pc [.ref h0, .int (nI a), .int (nI b), .int (nI u), .int (nI v)] (xw (dC, dI) snC [(h0, .inr (0, [.int (nI Wd), .int (nI Ht), .ref a_walls, .int rs, .ref a_placeX, .ref a_placeY, .int (nI Pn), .ref a_reachers, .int old, .ref a_lossOf, .int sc, .ref a_upper, .ref a_length, .ref a_headsOn, .ref a_turn, .ref a_lack, .ref a_joined, .int jc])), (a_walls, .inl (cZ, 256, .inl f_walls))] [(cZ, .boolean)])) (xr_Q (fun r => r = bz (sn_free Wd Ht f_walls a b u v))) 0 0 (fun _ => False) := by
  refine Met.ofW (cc := bN_seen) (maxL := 5) (ret := (some .boolean)) (by decide) rfl ?_
  intro p e s m args below meth c s₁ B hml hv
  obtain ⟨rfl, hP, hK⟩ := hv
  have hx := B.exec
  have hb := B.bytes
  have hr := B.returns
  have hts : ∀ w ∈ WD, w.before _ s = true := fun w h => atoms_spec (ws := kN_seen :: WD) B.pre w (List.mem_cons_of_mem _ h)
  have hown : s.vm.findClass R_N = some m.cls := findClass_of_methodNamed B.named
  have hlocks := B.notSynchronized
  have hl := lv_entry ([.ref h0, .int (nI a), .int (nI b), .int (nI u), .int (nI v)]) (n := 5) (Nat.le_of_ble_eq_true rfl)
  rw [lg_entry_eq]
  generalize (lg_sl ([.ref h0, .int (nI a), .int (nI b), .int (nI u), .int (nI v)]) ++ List.replicate (5 - (lg_sl ([.ref h0, .int (nI a), .int (nI b), .int (nI u), .int (nI v)])).length) Slot.unset).toArray = ls at hl ⊢
  have hl : lv_has ls 5 [(0, .ref h0), (1, .int (nI a)), (2, .int (nI b)), (3, .int (nI u)), (4, .int (nI v))] := hl
  refine lv_aload_n hx hb dN_seen_0 rfl (lv_at hl 0 rfl) ?_
  refine lv_iload_n hx hb dN_seen_1 rfl (lv_at hl 1 rfl) ?_
  refine lv_iload_n hx hb dN_seen_2 rfl (lv_at hl 2 rfl) ?_
  refine xr_Vv (As := [.int (nI a), .int (nI b)]) ⟨hx, hb, hml, hown, hts⟩ (cN_needCell l dC dI h0 a_walls a_placeX a_placeY a_reachers a_lossOf a_upper a_length a_headsOn a_turn a_lack a_joined Wd Ht Pn rs old sc jc (nI a) (nI b) (sn_in_nI hW hH ha hb0)) (cwV 2 hts gN82 rfl rfl rfl (by decide +kernel) ⟨Nat.le_of_ble_eq_true rfl, Nat.le_of_ble_eq_true rfl⟩) hK hP [0] [] rfl rfl 0 0 rfl rfl rfl rfl hl.1 rfl (Nat.le_of_ble_eq_true rfl) dN_seen_3 ⟨Nat.zero_le _, Nat.zero_le _⟩ ?_
  refine lv_aload_n hx hb dN_seen_6 rfl (lv_at hl 0 rfl) ?_
  refine lv_iload_n hx hb dN_seen_7 rfl (lv_at hl 3 rfl) ?_
  refine lv_iload hx hb dN_seen_8 (lv_at hl 4 rfl) ?_
  refine xr_Vv (As := [.int (nI u), .int (nI v)]) ⟨hx, hb, hml, hown, hts⟩ (cN_needCell l dC dI h0 a_walls a_placeX a_placeY a_reachers a_lossOf a_upper a_length a_headsOn a_turn a_lack a_joined Wd Ht Pn rs old sc jc (nI u) (nI v) (sn_in_nI hW hH hu hv0)) (cwV 2 hts gN82 rfl rfl rfl (by decide +kernel) ⟨Nat.le_of_ble_eq_true rfl, Nat.le_of_ble_eq_true rfl⟩) hK hP [0] [] rfl rfl 0 0 rfl rfl rfl rfl hl.1 rfl (Nat.le_of_ble_eq_true rfl) dN_seen_10 ⟨Nat.zero_le _, Nat.zero_le _⟩ ?_
  refine lv_aload_n hx hb dN_seen_13 rfl (lv_at hl 0 rfl) ?_
  refine lv_iload_n hx hb dN_seen_14 rfl (lv_at hl 1 rfl) ?_
  refine lv_iload_n hx hb dN_seen_15 rfl (lv_at hl 2 rfl) ?_
  refine lv_iload_n hx hb dN_seen_16 rfl (lv_at hl 3 rfl) ?_
  refine lv_iload hx hb dN_seen_17 (lv_at hl 4 rfl) ?_
  refine xr_V (As := [.int (nI a), .int (nI b), .int (nI u), .int (nI v)]) ⟨hx, hb, hml, hown, hts⟩ (cN_lineIsFree l dC dI h0 a_walls a_placeX a_placeY a_reachers a_lossOf a_upper a_length a_headsOn a_turn a_lack a_joined Wd Ht Pn rs old sc jc cZ f_walls a b u v hW hH (by omega) (by omega) (by omega) (by omega)) (cwV 4 hts gN112 rfl rfl rfl (by decide +kernel) ⟨Nat.le_of_ble_eq_true rfl, Nat.le_of_ble_eq_true rfl⟩) hK hP [0, 1] [0] rfl rfl 0 0 rfl rfl rfl rfl hl.1 rfl (Nat.le_of_ble_eq_true rfl) dN_seen_19 ⟨Nat.zero_le _, Nat.zero_le _⟩ (fun r_3 hr_3 => ?_)
  subst hr_3
  exact W.zret (v := bz (sn_free Wd Ht f_walls a b u v)) hx hb hr (bz_nar _) (fun t ht hW => ⟨⟨bz (sn_free Wd Ht f_walls a b u v), rfl, rfl⟩, ht⟩) (fun _ h => absurd h List.not_mem_nil) dN_seen_22
set_option maxHeartbeats 4000000 in
set_option maxRecDepth 100000 in
theorem cN_seen_T (l : Launch) (hlt : l.stackTraces = false) (dC : Nat → ClassId) (dI : Nat → Nat → Nat) (h0 a_walls a_placeX a_placeY a_reachers a_lossOf a_upper a_length a_headsOn a_turn a_lack a_joined : Nat) (Wd Ht Pn : Nat) (rs old sc jc : Int32) (x y u v : Int32) (hno : sn_in Wd Ht x y = false ∨ sn_in Wd Ht u v = false) : MetT l yN_seen (kN_seen :: WD) { frames := 7, cells := 1, slots := 6, locals := 104 } (va_Pc [.ref h0, .int x, .int y, .int u, .int v] (xt_B (dC, dI) snC [(h0, .inr (0, [.int (nI Wd), .int (nI Ht), .ref a_walls, .int rs, .ref a_placeX, .ref a_placeY, .int (nI Pn), .ref a_reachers, .int old, .ref a_lossOf, .int sc, .ref a_upper, .ref a_length, .ref a_headsOn, .ref a_turn, .ref a_lack, .ref a_joined, .int jc]))] [])) xt_IAE := by
  refine vx_ofW (cc := bN_seen) (maxL := 5) (ret := (some .boolean)) (by decide) rfl ?_
  intro p e s m args below meth c s₁ B hml hout hv
  obtain ⟨rfl, ⟨hP, hK⟩, hSt⟩ := hv
  have hx := B.exec
  have hb := B.bytes
  have hr := B.returns
  have hts : ∀ w ∈ WD, w.before _ s = true := fun w h => atoms_spec (ws := kN_seen :: WD) B.pre w (List.mem_cons_of_mem _ h)
  have hown : s.vm.findClass R_N = some m.cls := findClass_of_methodNamed B.named
  have hlocks := B.notSynchronized
  have hl := lv_entry ([.ref h0, .int x, .int y, .int u, .int v]) (n := 5) (Nat.le_of_ble_eq_true rfl)
  rw [lg_entry_eq]
  generalize (lg_sl ([.ref h0, .int x, .int y, .int u, .int v]) ++ List.replicate (5 - (lg_sl ([.ref h0, .int x, .int y, .int u, .int v])).length) Slot.unset).toArray = ls at hl ⊢
  have hl : lv_has ls 5 [(0, .ref h0), (1, .int x), (2, .int y), (3, .int u), (4, .int v)] := hl
  refine lv_aload_n hx hb dN_seen_0 rfl (lv_at hl 0 rfl) ?_
  refine lv_iload_n hx hb dN_seen_1 rfl (lv_at hl 1 rfl) ?_
  refine lv_iload_n hx hb dN_seen_2 rfl (lv_at hl 2 rfl) ?_
  rcases Bool.eq_false_or_eq_true (sn_in Wd Ht x y) with q_1 | q_1
  · refine xr_Vv (As := [.int x, .int y]) ⟨hx, hb, hml, hown, hts⟩ (cN_needCell l dC dI h0 a_walls a_placeX a_placeY a_reachers a_lossOf a_upper a_length a_headsOn a_turn a_lack a_joined Wd Ht Pn rs old sc jc x y q_1) (cwV 2 hts gN82 rfl rfl rfl (by decide +kernel) ⟨Nat.le_of_ble_eq_true rfl, Nat.le_of_ble_eq_true rfl⟩) hK hP [0] [] rfl rfl 0 0 rfl rfl rfl rfl hl.1 rfl (Nat.le_of_ble_eq_true rfl) dN_seen_3 ⟨Nat.zero_le _, Nat.zero_le _⟩ ?_
    refine lv_aload_n hx hb dN_seen_6 rfl (lv_at hl 0 rfl) ?_
    refine lv_iload_n hx hb dN_seen_7 rfl (lv_at hl 3 rfl) ?_
    refine lv_iload hx hb dN_seen_8 (lv_at hl 4 rfl) ?_
    exact xt_V (As := [.int u, .int v]) ⟨hx, hb, hml, hown, hts⟩ (cN_needCell_T l hlt dC dI h0 a_walls a_placeX a_placeY a_reachers a_lossOf a_upper a_length a_headsOn a_turn a_lack a_joined Wd Ht Pn rs old sc jc u v (by simpa [*] using hno)) (cwV 2 hts gN82 rfl rfl rfl (by decide +kernel) ⟨Nat.le_of_ble_eq_true rfl, Nat.le_of_ble_eq_true rfl⟩) hSt hK hP [0] [] rfl rfl 0 0 rfl rfl rfl rfl hl.1 rfl (Nat.le_of_ble_eq_true rfl) dN_seen_10 ⟨Nat.le_of_ble_eq_true rfl, Nat.le_of_ble_eq_true rfl⟩ hout hlocks
  · exact xt_V (As := [.int x, .int y]) ⟨hx, hb, hml, hown, hts⟩ (cN_needCell_T l hlt dC dI h0 a_walls a_placeX a_placeY a_reachers a_lossOf a_upper a_length a_headsOn a_turn a_lack a_joined Wd Ht Pn rs old sc jc x y q_1) (cwV 2 hts gN82 rfl rfl rfl (by decide +kernel) ⟨Nat.le_of_ble_eq_true rfl, Nat.le_of_ble_eq_true rfl⟩) hSt hK hP [0] [] rfl rfl 0 0 rfl rfl rfl rfl hl.1 rfl (Nat.le_of_ble_eq_true rfl) dN_seen_3 ⟨Nat.le_of_ble_eq_true rfl, Nat.le_of_ble_eq_true rfl⟩ hout hlocks
set_option maxHeartbeats 4000000 in
set_option maxRecDepth 100000 in
theorem cN_size (l : Launch) (dC : Nat → ClassId) (dI : Nat → Nat → Nat) (h0 a_walls a_placeX a_placeY a_reachers a_lossOf a_upper a_length a_headsOn a_turn a_lack a_joined : Nat) (Wd Ht Pn : Nat) (rs old sc jc : Int32) (cZ cI : ClassId) (f_walls f_placeX f_placeY f_reachers f_lossOf f_upper f_length f_headsOn f_turn f_lack f_joined : Nat → Int32) (h : Nat) (lo : Int32) (sz : Nat) (hh1 : 1 ≤ h) (hh2 : h ≤ 12) (hok : sn_lok lo = true) : Met l yN_size (kN_size :: WD) { frames := 0, cells := 0, slots := 0, locals := 0 } (va_Pc [.ref h0, .int (nI h), .int lo] (xm (dC, dI) snC [(h0, .inr (0, [.int (nI Wd), .int (nI Ht), .ref a_walls, .int rs, .ref a_placeX, .ref a_placeY, .int (nI Pn), .ref a_reachers, .int old, .ref a_lossOf, .int sc, .ref a_upper, .ref a_length, .ref a_headsOn, .ref a_turn, .ref a_lack, .ref a_joined, .int jc])), (a_walls, .inl (cZ, 256, .inl f_walls)), (a_placeX, .inl (cI, 12, .inl f_placeX)), (a_placeY, .inl (cI, 12, .inl f_placeY)), (a_reachers, .inl (cI, 256, .inl f_reachers)), (a_lossOf, .inl (cI, 13, .inl f_lossOf)), (a_upper, .inl (cI, 12, .inl f_upper)), (a_length, .inl (cI, 12, .inl f_length)), (a_headsOn, .inl (cI, 12, .inl f_headsOn)), (a_turn, .inl (cI, 12, .inl f_turn)), (a_lack, .inl (cI, 12, .inl f_lack)), (a_joined, .inl (cI, 12, .inl f_joined))] [(cZ, .boolean), (cI, .int)] sz)) (va_Qi (fun (r : Int32) (_ : Unit) => r = sn_sz f_lossOf h sc) (fun _ => xo (dC, dI) snC [(h0, .inr (0, [.int (nI Wd), .int (nI Ht), .ref a_walls, .int rs, .ref a_placeX, .ref a_placeY, .int (nI Pn), .ref a_reachers, .int old, .ref a_lossOf, .int (sn_sz f_lossOf h sc), .ref a_upper, .ref a_length, .ref a_headsOn, .ref a_turn, .ref a_lack, .ref a_joined, .int jc])), (a_walls, .inl (cZ, 256, .inl f_walls)), (a_placeX, .inl (cI, 12, .inl f_placeX)), (a_placeY, .inl (cI, 12, .inl f_placeY)), (a_reachers, .inl (cI, 256, .inl f_reachers)), (a_lossOf, .inl (cI, 13, .inl (upd f_lossOf h lo))), (a_upper, .inl (cI, 12, .inl f_upper)), (a_length, .inl (cI, 12, .inl f_length)), (a_headsOn, .inl (cI, 12, .inl f_headsOn)), (a_turn, .inl (cI, 12, .inl f_turn)), (a_lack, .inl (cI, 12, .inl f_lack)), (a_joined, .inl (cI, 12, .inl f_joined))] [(cZ, .boolean), (cI, .int)] (va_A [(h0, .inr (0, [.int (nI Wd), .int (nI Ht), .ref a_walls, .int rs, .ref a_placeX, .ref a_placeY, .int (nI Pn), .ref a_reachers, .int old, .ref a_lossOf, .int sc, .ref a_upper, .ref a_length, .ref a_headsOn, .ref a_turn, .ref a_lack, .ref a_joined, .int jc])), (a_walls, .inl (cZ, 256, .inl f_walls)), (a_placeX, .inl (cI, 12, .inl f_placeX)), (a_placeY, .inl (cI, 12, .inl f_placeY)), (a_reachers, .inl (cI, 256, .inl f_reachers)), (a_lossOf, .inl (cI, 13, .inl f_lossOf)), (a_upper, .inl (cI, 12, .inl f_upper)), (a_length, .inl (cI, 12, .inl f_length)), (a_headsOn, .inl (cI, 12, .inl f_headsOn)), (a_turn, .inl (cI, 12, .inl f_turn)), (a_lack, .inl (cI, 12, .inl f_lack)), (a_joined, .inl (cI, 12, .inl f_joined))] sz)) (va_A [(h0, .inr (0, [.int (nI Wd), .int (nI Ht), .ref a_walls, .int rs, .ref a_placeX, .ref a_placeY, .int (nI Pn), .ref a_reachers, .int old, .ref a_lossOf, .int sc, .ref a_upper, .ref a_length, .ref a_headsOn, .ref a_turn, .ref a_lack, .ref a_joined, .int jc])), (a_walls, .inl (cZ, 256, .inl f_walls)), (a_placeX, .inl (cI, 12, .inl f_placeX)), (a_placeY, .inl (cI, 12, .inl f_placeY)), (a_reachers, .inl (cI, 256, .inl f_reachers)), (a_lossOf, .inl (cI, 13, .inl f_lossOf)), (a_upper, .inl (cI, 12, .inl f_upper)), (a_length, .inl (cI, 12, .inl f_length)), (a_headsOn, .inl (cI, 12, .inl f_headsOn)), (a_turn, .inl (cI, 12, .inl f_turn)), (a_lack, .inl (cI, 12, .inl f_lack)), (a_joined, .inl (cI, 12, .inl f_joined))] sz)) 0 0 (va_A [(h0, .inr (0, [.int (nI Wd), .int (nI Ht), .ref a_walls, .int rs, .ref a_placeX, .ref a_placeY, .int (nI Pn), .ref a_reachers, .int old, .ref a_lossOf, .int sc, .ref a_upper, .ref a_length, .ref a_headsOn, .ref a_turn, .ref a_lack, .ref a_joined, .int jc])), (a_walls, .inl (cZ, 256, .inl f_walls)), (a_placeX, .inl (cI, 12, .inl f_placeX)), (a_placeY, .inl (cI, 12, .inl f_placeY)), (a_reachers, .inl (cI, 256, .inl f_reachers)), (a_lossOf, .inl (cI, 13, .inl f_lossOf)), (a_upper, .inl (cI, 12, .inl f_upper)), (a_length, .inl (cI, 12, .inl f_length)), (a_headsOn, .inl (cI, 12, .inl f_headsOn)), (a_turn, .inl (cI, 12, .inl f_turn)), (a_lack, .inl (cI, 12, .inl f_lack)), (a_joined, .inl (cI, 12, .inl f_joined))] sz) := by
  refine Met.ofW (cc := bN_size) (maxL := 3) (ret := (some .int)) (by decide) rfl ?_
  intro p e s m args below meth c s₁ B hml hv
  obtain ⟨rfl, hsz, hP, hK, hD0⟩ := hv
  have hx := B.exec
  have hb := B.bytes
  have hr := B.returns
  have hts : ∀ w ∈ WD, w.before _ s = true := fun w h => atoms_spec (ws := kN_size :: WD) B.pre w (List.mem_cons_of_mem _ h)
  have hown : s.vm.findClass R_N = some m.cls := findClass_of_methodNamed B.named
  have hlocks := B.notSynchronized
  subst hsz
  have hD := hD0.self (sz := s.heap.size)
  generalize hAe : va_A [(h0, .inr (0, [.int (nI Wd), .int (nI Ht), .ref a_walls, .int rs, .ref a_placeX, .ref a_placeY, .int (nI Pn), .ref a_reachers, .int old, .ref a_lossOf, .int sc, .ref a_upper, .ref a_length, .ref a_headsOn, .ref a_turn, .ref a_lack, .ref a_joined, .int jc])), (a_walls, .inl (cZ, 256, .inl f_walls)), (a_placeX, .inl (cI, 12, .inl f_placeX)), (a_placeY, .inl (cI, 12, .inl f_placeY)), (a_reachers, .inl (cI, 256, .inl f_reachers)), (a_lossOf, .inl (cI, 13, .inl f_lossOf)), (a_upper, .inl (cI, 12, .inl f_upper)), (a_length, .inl (cI, 12, .inl f_length)), (a_headsOn, .inl (cI, 12, .inl f_headsOn)), (a_turn, .inl (cI, 12, .inl f_turn)), (a_lack, .inl (cI, 12, .inl f_lack)), (a_joined, .inl (cI, 12, .inl f_joined))] s.heap.size = A at hD ⊢
  have hA : ∀ q : Nat, s.heap.size ≤ q → A q := fun q h => by rw [← hAe]; exact Or.inr h
  have hS : va_S A s.heap s.heap [] := va_S.rf
  have hl := lv_entry ([.ref h0, .int (nI h), .int lo]) (n := 3) (Nat.le_of_ble_eq_true rfl)
  rw [lg_entry_eq]
  generalize (lg_sl ([.ref h0, .int (nI h), .int lo]) ++ List.replicate (3 - (lg_sl ([.ref h0, .int (nI h), .int lo])).length) Slot.unset).toArray = ls at hl ⊢
  have hl : lv_has ls 3 [(0, .ref h0), (1, .int (nI h)), (2, .int lo)] := hl
  refine lv_iload_n hx hb dN_size_0 rfl (lv_at hl 1 rfl) ?_
  refine lv_iconst (v := (nI 1)) hx hb dN_size_1 (by decide) ?_
  refine lv_icmp_lt (tgt := 11) hx hb dN_size_2 (by decide) (fun c_1 => ?_) (fun c_1 => ?_)
  · exact absurd ((nI_ltI (by omega) (by omega)).mp c_1) (by omega)
  · refine lv_iload_n hx hb dN_size_5 rfl (lv_at hl 1 rfl) ?_
    refine lv_bipush (v := (nI 12)) hx hb dN_size_6 (by decide) ?_
    refine lv_icmp_le (tgt := 21) hx hb dN_size_8 (by decide) (fun c_2 => ?_) (fun c_2 => ?_)
    · refine lv_iload_n hx hb dN_size_21 rfl (lv_at hl 2 rfl) ?_
      refine lv_if_lt (tgt := 32) hx hb dN_size_22 (by decide) (fun c_3 => ?_) (fun c_3 => ?_)
      · exact absurd hok (by simp [sn_lok, *])
      · refine lv_iload_n hx hb dN_size_25 rfl (lv_at hl 2 rfl) ?_
        refine lv_sipush (v := 1000) hx hb dN_size_26 (by decide) ?_
        refine lv_icmp_le (tgt := 42) hx hb dN_size_29 (by decide) (fun c_4 => ?_) (fun c_4 => ?_)
        · refine lv_aload_n hx hb dN_size_42 rfl (lv_at hl 0 rfl) ?_
          refine va_get (D := (dC, dI)) (ci := 0) (v := .ref a_lossOf) (C := R_N) (T := T_N) (N := 18) hx hb hts in_N hown hK hP 0 rfl rfl 9 (by decide) (hts _ flN49) (fun _ h9 => h9) rfl dN_size_43 ?_
          refine lv_iload_n hx hb dN_size_46 rfl (lv_at hl 1 rfl) ?_
          refine xa_iald hx hb hK hP 5 1 rfl rfl (i := h) (by omega) (by first | decide | omega) dN_size_47 ?_
          refine lv_iconst (v := (-1)) hx hb dN_size_48 (by decide) ?_
          refine lv_icmp_ne (tgt := 62) hx hb dN_size_49 (by decide) (fun c_5 => ?_) (fun c_5 => ?_)
          · refine lv_aload_n hx hb dN_size_62 rfl (lv_at hl 0 rfl) ?_
            refine va_get (D := (dC, dI)) (ci := 0) (v := .ref a_lossOf) (C := R_N) (T := T_N) (N := 18) hx hb hts in_N hown hK hP 0 rfl rfl 9 (by decide) (hts _ flN49) (fun _ h9 => h9) rfl dN_size_63 ?_
            refine lv_iload_n hx hb dN_size_66 rfl (lv_at hl 1 rfl) ?_
            refine lv_iload_n hx hb dN_size_67 rfl (lv_at hl 2 rfl) ?_
            refine xa_iast hx hb hK hP hD hS 5 1 rfl rfl (i := h) (x := lo) (by omega) (by first | decide | omega) dN_size_68 (fun H locs hP hD hS => ?_)
            have hP : va_P (dC, dI) snC [(h0, .inr (0, [.int (nI Wd), .int (nI Ht), .ref a_walls, .int rs, .ref a_placeX, .ref a_placeY, .int (nI Pn), .ref a_reachers, .int old, .ref a_lossOf, .int sc, .ref a_upper, .ref a_length, .ref a_headsOn, .ref a_turn, .ref a_lack, .ref a_joined, .int jc])), (a_walls, .inl (cZ, 256, .inl f_walls)), (a_placeX, .inl (cI, 12, .inl f_placeX)), (a_placeY, .inl (cI, 12, .inl f_placeY)), (a_reachers, .inl (cI, 256, .inl f_reachers)), (a_lossOf, .inl (cI, 13, .inl (upd f_lossOf h lo))), (a_upper, .inl (cI, 12, .inl f_upper)), (a_length, .inl (cI, 12, .inl f_length)), (a_headsOn, .inl (cI, 12, .inl f_headsOn)), (a_turn, .inl (cI, 12, .inl f_turn)), (a_lack, .inl (cI, 12, .inl f_lack)), (a_joined, .inl (cI, 12, .inl f_joined))] H := hP
            have hD : va_D A [(h0, .inr (0, [.int (nI Wd), .int (nI Ht), .ref a_walls, .int rs, .ref a_placeX, .ref a_placeY, .int (nI Pn), .ref a_reachers, .int old, .ref a_lossOf, .int sc, .ref a_upper, .ref a_length, .ref a_headsOn, .ref a_turn, .ref a_lack, .ref a_joined, .int jc])), (a_walls, .inl (cZ, 256, .inl f_walls)), (a_placeX, .inl (cI, 12, .inl f_placeX)), (a_placeY, .inl (cI, 12, .inl f_placeY)), (a_reachers, .inl (cI, 256, .inl f_reachers)), (a_lossOf, .inl (cI, 13, .inl (upd f_lossOf h lo))), (a_upper, .inl (cI, 12, .inl f_upper)), (a_length, .inl (cI, 12, .inl f_length)), (a_headsOn, .inl (cI, 12, .inl f_headsOn)), (a_turn, .inl (cI, 12, .inl f_turn)), (a_lack, .inl (cI, 12, .inl f_lack)), (a_joined, .inl (cI, 12, .inl f_joined))] := hD
            refine lv_aload_n hx hb dN_size_69 rfl (lv_at hl 0 rfl) ?_
            refine va_get (D := (dC, dI)) (ci := 0) (v := .int sc) (C := R_N) (T := T_N) (N := 18) hx hb hts in_N hown hK hP 0 rfl rfl 10 (by decide) (hts _ flN58) (fun _ h9 => h9) rfl dN_size_70 ?_
            rw [show sn_sz f_lossOf h sc = sc from by simp [sn_sz, c_1, c_2, c_3, c_4, c_5]]
            exact W.iret (v := sc) hx hb hr (fun t ht hW => ⟨⟨sc, (), rfl, rfl, by rw [ht]; exact hP, va_K.moved hW.alike hK, hD⟩, hS.F ht⟩) hS.2.2 dN_size_73
          · refine lv_aload_n hx hb dN_size_52 rfl (lv_at hl 0 rfl) ?_
            refine lv_dup hx hb dN_size_53 rfl ?_
            refine va_get (D := (dC, dI)) (ci := 0) (v := .int sc) (C := R_N) (T := T_N) (N := 18) hx hb hts in_N hown hK hP 0 rfl rfl 10 (by decide) (hts _ flN58) (fun _ h9 => h9) rfl dN_size_54 ?_
            refine lv_iconst (v := 1) hx hb dN_size_57 (by decide) ?_
            refine lv_iadd hx hb dN_size_58 ?_
            refine va_put (D := (dC, dI)) (ci := 0) (v := .int (sc + 1)) (ty := .int) (C := R_N) (T := T_N) (N := 18) hx hb hts in_N t_N tok_N n_N hown hK hP hD hS 0 rfl rfl 10 (by decide) (hts _ flN58) (fun _ h9 => h9) rfl (by decide +kernel) rfl rfl (Nat.le_of_ble_eq_true rfl) dN_size_59 (fun H locs hP hD hS => ?_)
            have hP : va_P (dC, dI) snC [(h0, .inr (0, [.int (nI Wd), .int (nI Ht), .ref a_walls, .int rs, .ref a_placeX, .ref a_placeY, .int (nI Pn), .ref a_reachers, .int old, .ref a_lossOf, .int (sc + 1), .ref a_upper, .ref a_length, .ref a_headsOn, .ref a_turn, .ref a_lack, .ref a_joined, .int jc])), (a_walls, .inl (cZ, 256, .inl f_walls)), (a_placeX, .inl (cI, 12, .inl f_placeX)), (a_placeY, .inl (cI, 12, .inl f_placeY)), (a_reachers, .inl (cI, 256, .inl f_reachers)), (a_lossOf, .inl (cI, 13, .inl f_lossOf)), (a_upper, .inl (cI, 12, .inl f_upper)), (a_length, .inl (cI, 12, .inl f_length)), (a_headsOn, .inl (cI, 12, .inl f_headsOn)), (a_turn, .inl (cI, 12, .inl f_turn)), (a_lack, .inl (cI, 12, .inl f_lack)), (a_joined, .inl (cI, 12, .inl f_joined))] H := hP
            have hD : va_D A [(h0, .inr (0, [.int (nI Wd), .int (nI Ht), .ref a_walls, .int rs, .ref a_placeX, .ref a_placeY, .int (nI Pn), .ref a_reachers, .int old, .ref a_lossOf, .int (sc + 1), .ref a_upper, .ref a_length, .ref a_headsOn, .ref a_turn, .ref a_lack, .ref a_joined, .int jc])), (a_walls, .inl (cZ, 256, .inl f_walls)), (a_placeX, .inl (cI, 12, .inl f_placeX)), (a_placeY, .inl (cI, 12, .inl f_placeY)), (a_reachers, .inl (cI, 256, .inl f_reachers)), (a_lossOf, .inl (cI, 13, .inl f_lossOf)), (a_upper, .inl (cI, 12, .inl f_upper)), (a_length, .inl (cI, 12, .inl f_length)), (a_headsOn, .inl (cI, 12, .inl f_headsOn)), (a_turn, .inl (cI, 12, .inl f_turn)), (a_lack, .inl (cI, 12, .inl f_lack)), (a_joined, .inl (cI, 12, .inl f_joined))] := hD
            refine lv_aload_n hx hb dN_size_62 rfl (lv_at hl 0 rfl) ?_
            refine va_get (D := (dC, dI)) (ci := 0) (v := .ref a_lossOf) (C := R_N) (T := T_N) (N := 18) hx hb hts in_N hown hK hP 0 rfl rfl 9 (by decide) (hts _ flN49) (fun _ h9 => h9) rfl dN_size_63 ?_
            refine lv_iload_n hx hb dN_size_66 rfl (lv_at hl 1 rfl) ?_
            refine lv_iload_n hx hb dN_size_67 rfl (lv_at hl 2 rfl) ?_
            refine xa_iast hx hb hK hP hD hS 5 1 rfl rfl (i := h) (x := lo) (by omega) (by first | decide | omega) dN_size_68 (fun H locs hP hD hS => ?_)
            have hP : va_P (dC, dI) snC [(h0, .inr (0, [.int (nI Wd), .int (nI Ht), .ref a_walls, .int rs, .ref a_placeX, .ref a_placeY, .int (nI Pn), .ref a_reachers, .int old, .ref a_lossOf, .int (sc + 1), .ref a_upper, .ref a_length, .ref a_headsOn, .ref a_turn, .ref a_lack, .ref a_joined, .int jc])), (a_walls, .inl (cZ, 256, .inl f_walls)), (a_placeX, .inl (cI, 12, .inl f_placeX)), (a_placeY, .inl (cI, 12, .inl f_placeY)), (a_reachers, .inl (cI, 256, .inl f_reachers)), (a_lossOf, .inl (cI, 13, .inl (upd f_lossOf h lo))), (a_upper, .inl (cI, 12, .inl f_upper)), (a_length, .inl (cI, 12, .inl f_length)), (a_headsOn, .inl (cI, 12, .inl f_headsOn)), (a_turn, .inl (cI, 12, .inl f_turn)), (a_lack, .inl (cI, 12, .inl f_lack)), (a_joined, .inl (cI, 12, .inl f_joined))] H := hP
            have hD : va_D A [(h0, .inr (0, [.int (nI Wd), .int (nI Ht), .ref a_walls, .int rs, .ref a_placeX, .ref a_placeY, .int (nI Pn), .ref a_reachers, .int old, .ref a_lossOf, .int (sc + 1), .ref a_upper, .ref a_length, .ref a_headsOn, .ref a_turn, .ref a_lack, .ref a_joined, .int jc])), (a_walls, .inl (cZ, 256, .inl f_walls)), (a_placeX, .inl (cI, 12, .inl f_placeX)), (a_placeY, .inl (cI, 12, .inl f_placeY)), (a_reachers, .inl (cI, 256, .inl f_reachers)), (a_lossOf, .inl (cI, 13, .inl (upd f_lossOf h lo))), (a_upper, .inl (cI, 12, .inl f_upper)), (a_length, .inl (cI, 12, .inl f_length)), (a_headsOn, .inl (cI, 12, .inl f_headsOn)), (a_turn, .inl (cI, 12, .inl f_turn)), (a_lack, .inl (cI, 12, .inl f_lack)), (a_joined, .inl (cI, 12, .inl f_joined))] := hD
            refine lv_aload_n hx hb dN_size_69 rfl (lv_at hl 0 rfl) ?_
            refine va_get (D := (dC, dI)) (ci := 0) (v := .int (sc + 1)) (C := R_N) (T := T_N) (N := 18) hx hb hts in_N hown hK hP 0 rfl rfl 10 (by decide) (hts _ flN58) (fun _ h9 => h9) rfl dN_size_70 ?_
            rw [show sn_sz f_lossOf h sc = sc + 1 from by simp [sn_sz, c_1, c_2, c_3, c_4, c_5]]
            exact W.iret (v := sc + 1) hx hb hr (fun t ht hW => ⟨⟨sc + 1, (), rfl, rfl, by rw [ht]; exact hP, va_K.moved hW.alike hK, hD⟩, hS.F ht⟩) hS.2.2 dN_size_73
        · exact absurd hok (by simp [sn_lok, *])
    · exact absurd ((nI_leI (by omega) (by omega)).mpr hh2) c_2
set_option maxHeartbeats 4000000 in
set_option maxRecDepth 100000 in
theorem cN_size_T (l : Launch) (hlt : l.stackTraces = false) (dC : Nat → ClassId) (dI : Nat → Nat → Nat) (h0 a_walls a_placeX a_placeY a_reachers a_lossOf a_upper a_length a_headsOn a_turn a_lack a_joined : Nat) (Wd Ht Pn : Nat) (rs old sc jc : Int32) (x lo : Int32) (hno : (sn_hok x && sn_lok lo) = false) : MetT l yN_size (kN_size :: WD) { frames := 6, cells := 1, slots := 6, locals := 82 } (va_Pc [.ref h0, .int x, .int lo] (xt_B (dC, dI) snC [(h0, .inr (0, [.int (nI Wd), .int (nI Ht), .ref a_walls, .int rs, .ref a_placeX, .ref a_placeY, .int (nI Pn), .ref a_reachers, .int old, .ref a_lossOf, .int sc, .ref a_upper, .ref a_length, .ref a_headsOn, .ref a_turn, .ref a_lack, .ref a_joined, .int jc]))] [])) xt_IAE := by
  refine vx_ofW (cc := bN_size) (maxL := 3) (ret := (some .int)) (by decide) rfl ?_
  intro p e s m args below meth c s₁ B hml hout hv
  obtain ⟨rfl, ⟨hP, hK⟩, hSt⟩ := hv
  have hx := B.exec
  have hb := B.bytes
  have hr := B.returns
  have hts : ∀ w ∈ WD, w.before _ s = true := fun w h => atoms_spec (ws := kN_size :: WD) B.pre w (List.mem_cons_of_mem _ h)
  have hown : s.vm.findClass R_N = some m.cls := findClass_of_methodNamed B.named
  have hlocks := B.notSynchronized
  have hl := lv_entry ([.ref h0, .int x, .int lo]) (n := 3) (Nat.le_of_ble_eq_true rfl)
  rw [lg_entry_eq]
  generalize (lg_sl ([.ref h0, .int x, .int lo]) ++ List.replicate (3 - (lg_sl ([.ref h0, .int x, .int lo])).length) Slot.unset).toArray = ls at hl ⊢
  have hl : lv_has ls 3 [(0, .ref h0), (1, .int x), (2, .int lo)] := hl
  refine lv_iload_n hx hb dN_size_0 rfl (lv_at hl 1 rfl) ?_
  refine lv_iconst (v := 1) hx hb dN_size_1 (by decide) ?_
  refine lv_icmp_lt (tgt := 11) hx hb dN_size_2 (by decide) (fun c_1 => ?_) (fun c_1 => ?_)
  · exact xt_I (text := "heads are out of their bounds") hx hb hlt hown hts hSt (by decide) (hl.1.trans hml.symm) dN_size_11 dN_size_14 dN_size_15 dN_size_17 dN_size_20 hout (Nat.le_of_ble_eq_true rfl) (Nat.le_of_ble_eq_true rfl) (Nat.le_of_ble_eq_true rfl) (Nat.le_of_ble_eq_true rfl) hlocks
  · refine lv_iload_n hx hb dN_size_5 rfl (lv_at hl 1 rfl) ?_
    refine lv_bipush (v := 12) hx hb dN_size_6 (by decide) ?_
    refine lv_icmp_le (tgt := 21) hx hb dN_size_8 (by decide) (fun c_2 => ?_) (fun c_2 => ?_)
    · refine lv_iload_n hx hb dN_size_21 rfl (lv_at hl 2 rfl) ?_
      refine lv_if_lt (tgt := 32) hx hb dN_size_22 (by decide) (fun c_3 => ?_) (fun c_3 => ?_)
      · exact xt_I (text := "loss is out of its bounds") hx hb hlt hown hts hSt (by decide) (hl.1.trans hml.symm) dN_size_32 dN_size_35 dN_size_36 dN_size_38 dN_size_41 hout (Nat.le_of_ble_eq_true rfl) (Nat.le_of_ble_eq_true rfl) (Nat.le_of_ble_eq_true rfl) (Nat.le_of_ble_eq_true rfl) hlocks
      · refine lv_iload_n hx hb dN_size_25 rfl (lv_at hl 2 rfl) ?_
        refine lv_sipush (v := 1000) hx hb dN_size_26 (by decide) ?_
        refine lv_icmp_le (tgt := 42) hx hb dN_size_29 (by decide) (fun c_4 => ?_) (fun c_4 => ?_)
        · exact absurd hno (by simp [sn_hok, sn_lok, *])
        · exact xt_I (text := "loss is out of its bounds") hx hb hlt hown hts hSt (by decide) (hl.1.trans hml.symm) dN_size_32 dN_size_35 dN_size_36 dN_size_38 dN_size_41 hout (Nat.le_of_ble_eq_true rfl) (Nat.le_of_ble_eq_true rfl) (Nat.le_of_ble_eq_true rfl) (Nat.le_of_ble_eq_true rfl) hlocks
    · exact xt_I (text := "heads are out of their bounds") hx hb hlt hown hts hSt (by decide) (hl.1.trans hml.symm) dN_size_11 dN_size_14 dN_size_15 dN_size_17 dN_size_20 hout (Nat.le_of_ble_eq_true rfl) (Nat.le_of_ble_eq_true rfl) (Nat.le_of_ble_eq_true rfl) (Nat.le_of_ble_eq_true rfl) hlocks
set_option maxHeartbeats 4000000 in
set_option maxRecDepth 100000 in
theorem cN_reached_T (l : Launch) (hlt : l.stackTraces = false) (dC : Nat → ClassId) (dI : Nat → Nat → Nat) (h0 a_walls a_placeX a_placeY a_reachers a_lossOf a_upper a_length a_headsOn a_turn a_lack a_joined : Nat) (Wd Ht Pn : Nat) (rs old sc jc : Int32) (x : Int32) (hno : sn_pl Pn x = false) : MetT l yN_reached (kN_reached :: WD) { frames := 7, cells := 1, slots := 6, locals := 122 } (va_Pc [.ref h0, .int x] (xt_B (dC, dI) snC [(h0, .inr (0, [.int (nI Wd), .int (nI Ht), .ref a_walls, .int rs, .ref a_placeX, .ref a_placeY, .int (nI Pn), .ref a_reachers, .int old, .ref a_lossOf, .int sc, .ref a_upper, .ref a_length, .ref a_headsOn, .ref a_turn, .ref a_lack, .ref a_joined, .int jc]))] [])) xt_IAE := by
  refine vx_ofW (cc := bN_reached) (maxL := 4) (ret := (some .int)) (by decide) rfl ?_
  intro p e s m args below meth c s₁ B hml hout hv
  obtain ⟨rfl, ⟨hP, hK⟩, hSt⟩ := hv
  have hx := B.exec
  have hb := B.bytes
  have hr := B.returns
  have hts : ∀ w ∈ WD, w.before _ s = true := fun w h => atoms_spec (ws := kN_reached :: WD) B.pre w (List.mem_cons_of_mem _ h)
  have hown : s.vm.findClass R_N = some m.cls := findClass_of_methodNamed B.named
  have hlocks := B.notSynchronized
  have hl := lv_entry ([.ref h0, .int x]) (n := 4) (Nat.le_of_ble_eq_true rfl)
  rw [lg_entry_eq]
  generalize (lg_sl ([.ref h0, .int x]) ++ List.replicate (4 - (lg_sl ([.ref h0, .int x])).length) Slot.unset).toArray = ls at hl ⊢
  have hl : lv_has ls 4 [(0, .ref h0), (1, .int x)] := hl
  refine lv_aload_n hx hb dN_reached_0 rfl (lv_at hl 0 rfl) ?_
  refine lv_iload_n hx hb dN_reached_1 rfl (lv_at hl 1 rfl) ?_
  exact xt_V (As := [.int x]) ⟨hx, hb, hml, hown, hts⟩ (cN_needPlace_T l hlt dC dI h0 a_walls a_placeX a_placeY a_reachers a_lossOf a_upper a_length a_headsOn a_turn a_lack a_joined Wd Ht Pn rs old sc jc x hno) (cwV 1 hts gN116 rfl rfl rfl (by decide +kernel) ⟨Nat.le_of_ble_eq_true rfl, Nat.le_of_ble_eq_true rfl⟩) hSt hK hP [0] [] rfl rfl 0 0 rfl rfl rfl rfl hl.1 rfl (Nat.le_of_ble_eq_true rfl) dN_reached_2 ⟨Nat.le_of_ble_eq_true rfl, Nat.le_of_ble_eq_true rfl⟩ hout hlocks
set_option maxHeartbeats 4000000 in
set_option maxRecDepth 100000 in
theorem cN_left_T (l : Launch) (hlt : l.stackTraces = false) (dC : Nat → ClassId) (dI : Nat → Nat → Nat) (h0 a_walls a_placeX a_placeY a_reachers a_lossOf a_upper a_length a_headsOn a_turn a_lack a_joined : Nat) (Wd Ht Pn : Nat) (rs old sc jc : Int32) (x : Int32) (hno : sn_set Pn x = false) : MetT l yN_left (kN_left :: WD) { frames := 7, cells := 1, slots := 6, locals := 122 } (va_Pc [.ref h0, .int x] (xt_B (dC, dI) snC [(h0, .inr (0, [.int (nI Wd), .int (nI Ht), .ref a_walls, .int rs, .ref a_placeX, .ref a_placeY, .int (nI Pn), .ref a_reachers, .int old, .ref a_lossOf, .int sc, .ref a_upper, .ref a_length, .ref a_headsOn, .ref a_turn, .ref a_lack, .ref a_joined, .int jc]))] [])) xt_IAE := by
  refine vx_ofW (cc := bN_left) (maxL := 4) (ret := (some .int)) (by decide) rfl ?_
  intro p e s m args below meth c s₁ B hml hout hv
  obtain ⟨rfl, ⟨hP, hK⟩, hSt⟩ := hv
  have hx := B.exec
  have hb := B.bytes
  have hr := B.returns
  have hts : ∀ w ∈ WD, w.before _ s = true := fun w h => atoms_spec (ws := kN_left :: WD) B.pre w (List.mem_cons_of_mem _ h)
  have hown : s.vm.findClass R_N = some m.cls := findClass_of_methodNamed B.named
  have hlocks := B.notSynchronized
  have hl := lv_entry ([.ref h0, .int x]) (n := 4) (Nat.le_of_ble_eq_true rfl)
  rw [lg_entry_eq]
  generalize (lg_sl ([.ref h0, .int x]) ++ List.replicate (4 - (lg_sl ([.ref h0, .int x])).length) Slot.unset).toArray = ls at hl ⊢
  have hl : lv_has ls 4 [(0, .ref h0), (1, .int x)] := hl
  refine lv_aload_n hx hb dN_left_0 rfl (lv_at hl 0 rfl) ?_
  refine lv_iload_n hx hb dN_left_1 rfl (lv_at hl 1 rfl) ?_
  exact xt_V (As := [.int x]) ⟨hx, hb, hml, hown, hts⟩ (cN_needSet_T l hlt dC dI h0 a_walls a_placeX a_placeY a_reachers a_lossOf a_upper a_length a_headsOn a_turn a_lack a_joined Wd Ht Pn rs old sc jc x hno) (cwV 1 hts gN126 rfl rfl rfl (by decide +kernel) ⟨Nat.le_of_ble_eq_true rfl, Nat.le_of_ble_eq_true rfl⟩) hSt hK hP [0] [] rfl rfl 0 0 rfl rfl rfl rfl hl.1 rfl (Nat.le_of_ble_eq_true rfl) dN_left_2 ⟨Nat.le_of_ble_eq_true rfl, Nat.le_of_ble_eq_true rfl⟩ hout hlocks
set_option maxHeartbeats 4000000 in
set_option maxRecDepth 100000 in
theorem cN_pipes_T (l : Launch) (hlt : l.stackTraces = false) (dC : Nat → ClassId) (dI : Nat → Nat → Nat) (h0 a_walls a_placeX a_placeY a_reachers a_lossOf a_upper a_length a_headsOn a_turn a_lack a_joined : Nat) (Wd Ht Pn : Nat) (rs old sc jc : Int32) (x : Int32) (hno : sn_set Pn x = false) : MetT l yN_pipes (kN_pipes :: WD) { frames := 7, cells := 1, slots := 6, locals := 103 } (va_Pc [.ref h0, .int x] (xt_B (dC, dI) snC [(h0, .inr (0, [.int (nI Wd), .int (nI Ht), .ref a_walls, .int rs, .ref a_placeX, .ref a_placeY, .int (nI Pn), .ref a_reachers, .int old, .ref a_lossOf, .int sc, .ref a_upper, .ref a_length, .ref a_headsOn, .ref a_turn, .ref a_lack, .ref a_joined, .int jc]))] [])) xt_IAE := by
  refine vx_ofW (cc := bN_pipes) (maxL := 4) (ret := (some .int)) (by decide) rfl ?_
  intro p e s m args below meth c s₁ B hml hout hv
  obtain ⟨rfl, ⟨hP, hK⟩, hSt⟩ := hv
  have hx := B.exec
  have hb := B.bytes
  have hr := B.returns
  have hts : ∀ w ∈ WD, w.before _ s = true := fun w h => atoms_spec (ws := kN_pipes :: WD) B.pre w (List.mem_cons_of_mem _ h)
  have hown : s.vm.findClass R_N = some m.cls := findClass_of_methodNamed B.named
  have hlocks := B.notSynchronized
  have hl := lv_entry ([.ref h0, .int x]) (n := 4) (Nat.le_of_ble_eq_true rfl)
  rw [lg_entry_eq]
  generalize (lg_sl ([.ref h0, .int x]) ++ List.replicate (4 - (lg_sl ([.ref h0, .int x])).length) Slot.unset).toArray = ls at hl ⊢
  have hl : lv_has ls 4 [(0, .ref h0), (1, .int x)] := hl
  refine lv_aload_n hx hb dN_pipes_0 rfl (lv_at hl 0 rfl) ?_
  refine lv_iload_n hx hb dN_pipes_1 rfl (lv_at hl 1 rfl) ?_
  exact xt_V (As := [.int x]) ⟨hx, hb, hml, hown, hts⟩ (cN_needSet_T l hlt dC dI h0 a_walls a_placeX a_placeY a_reachers a_lossOf a_upper a_length a_headsOn a_turn a_lack a_joined Wd Ht Pn rs old sc jc x hno) (cwV 1 hts gN126 rfl rfl rfl (by decide +kernel) ⟨Nat.le_of_ble_eq_true rfl, Nat.le_of_ble_eq_true rfl⟩) hSt hK hP [0] [] rfl rfl 0 0 rfl rfl rfl rfl hl.1 rfl (Nat.le_of_ble_eq_true rfl) dN_pipes_2 ⟨Nat.le_of_ble_eq_true rfl, Nat.le_of_ble_eq_true rfl⟩ hout hlocks
set_option maxHeartbeats 4000000 in
set_option maxRecDepth 100000 in
theorem cN_worst_T (l : Launch) (hlt : l.stackTraces = false) (dC : Nat → ClassId) (dI : Nat → Nat → Nat) (h0 a_walls a_placeX a_placeY a_reachers a_lossOf a_upper a_length a_headsOn a_turn a_lack a_joined : Nat) (Wd Ht Pn : Nat) (rs old sc jc : Int32) (x : Int32) (hno : sn_set Pn x = false) : MetT l yN_worst (kN_worst :: WD) { frames := 7, cells := 1, slots := 6, locals := 103 } (va_Pc [.ref h0, .int x] (xt_B (dC, dI) snC [(h0, .inr (0, [.int (nI Wd), .int (nI Ht), .ref a_walls, .int rs, .ref a_placeX, .ref a_placeY, .int (nI Pn), .ref a_reachers, .int old, .ref a_lossOf, .int sc, .ref a_upper, .ref a_length, .ref a_headsOn, .ref a_turn, .ref a_lack, .ref a_joined, .int jc]))] [])) xt_IAE := by
  refine vx_ofW (cc := bN_worst) (maxL := 5) (ret := (some .int)) (by decide) rfl ?_
  intro p e s m args below meth c s₁ B hml hout hv
  obtain ⟨rfl, ⟨hP, hK⟩, hSt⟩ := hv
  have hx := B.exec
  have hb := B.bytes
  have hr := B.returns
  have hts : ∀ w ∈ WD, w.before _ s = true := fun w h => atoms_spec (ws := kN_worst :: WD) B.pre w (List.mem_cons_of_mem _ h)
  have hown : s.vm.findClass R_N = some m.cls := findClass_of_methodNamed B.named
  have hlocks := B.notSynchronized
  have hl := lv_entry ([.ref h0, .int x]) (n := 5) (Nat.le_of_ble_eq_true rfl)
  rw [lg_entry_eq]
  generalize (lg_sl ([.ref h0, .int x]) ++ List.replicate (5 - (lg_sl ([.ref h0, .int x])).length) Slot.unset).toArray = ls at hl ⊢
  have hl : lv_has ls 5 [(0, .ref h0), (1, .int x)] := hl
  refine lv_aload_n hx hb dN_worst_0 rfl (lv_at hl 0 rfl) ?_
  refine lv_iload_n hx hb dN_worst_1 rfl (lv_at hl 1 rfl) ?_
  exact xt_V (As := [.int x]) ⟨hx, hb, hml, hown, hts⟩ (cN_needSet_T l hlt dC dI h0 a_walls a_placeX a_placeY a_reachers a_lossOf a_upper a_length a_headsOn a_turn a_lack a_joined Wd Ht Pn rs old sc jc x hno) (cwV 1 hts gN126 rfl rfl rfl (by decide +kernel) ⟨Nat.le_of_ble_eq_true rfl, Nat.le_of_ble_eq_true rfl⟩) hSt hK hP [0] [] rfl rfl 0 0 rfl rfl rfl rfl hl.1 rfl (Nat.le_of_ble_eq_true rfl) dN_worst_2 ⟨Nat.le_of_ble_eq_true rfl, Nat.le_of_ble_eq_true rfl⟩ hout hlocks
set_option maxHeartbeats 4000000 in
set_option maxRecDepth 100000 in
theorem cN_dry_T (l : Launch) (hlt : l.stackTraces = false) (dC : Nat → ClassId) (dI : Nat → Nat → Nat) (h0 a_walls a_placeX a_placeY a_reachers a_lossOf a_upper a_length a_headsOn a_turn a_lack a_joined : Nat) (Wd Ht Pn : Nat) (rs old sc jc : Int32) (x y : Int32) (hno : (sn_set Pn x && !decide (y < 0)) = false) : MetT l yN_dry (kN_dry :: WD) { frames := 7, cells := 1, slots := 6, locals := 122 } (va_Pc [.ref h0, .int x, .int y] (xt_B (dC, dI) snC [(h0, .inr (0, [.int (nI Wd), .int (nI Ht), .ref a_walls, .int rs, .ref a_placeX, .ref a_placeY, .int (nI Pn), .ref a_reachers, .int old, .ref a_lossOf, .int sc, .ref a_upper, .ref a_length, .ref a_headsOn, .ref a_turn, .ref a_lack, .ref a_joined, .int jc]))] [])) xt_IAE := by
  refine vx_ofW (cc := bN_dry) (maxL := 4) (ret := (some .int)) (by decide) rfl ?_
  intro p e s m args below meth c s₁ B hml hout hv
  obtain ⟨rfl, ⟨hP, hK⟩, hSt⟩ := hv
  have hx := B.exec
  have hb := B.bytes
  have hr := B.returns
  have hts : ∀ w ∈ WD, w.before _ s = true := fun w h => atoms_spec (ws := kN_dry :: WD) B.pre w (List.mem_cons_of_mem _ h)
  have hown : s.vm.findClass R_N = some m.cls := findClass_of_methodNamed B.named
  have hlocks := B.notSynchronized
  have hl := lv_entry ([.ref h0, .int x, .int y]) (n := 4) (Nat.le_of_ble_eq_true rfl)
  rw [lg_entry_eq]
  generalize (lg_sl ([.ref h0, .int x, .int y]) ++ List.replicate (4 - (lg_sl ([.ref h0, .int x, .int y])).length) Slot.unset).toArray = ls at hl ⊢
  have hl : lv_has ls 4 [(0, .ref h0), (1, .int x), (2, .int y)] := hl
  refine lv_aload_n hx hb dN_dry_0 rfl (lv_at hl 0 rfl) ?_
  refine lv_iload_n hx hb dN_dry_1 rfl (lv_at hl 1 rfl) ?_
  rcases Bool.eq_false_or_eq_true (sn_set Pn x) with q_1 | q_1
  · refine xr_Vv (As := [.int x]) ⟨hx, hb, hml, hown, hts⟩ (cN_needSet l dC dI h0 a_walls a_placeX a_placeY a_reachers a_lossOf a_upper a_length a_headsOn a_turn a_lack a_joined Wd Ht Pn rs old sc jc x q_1) (cwV 1 hts gN126 rfl rfl rfl (by decide +kernel) ⟨Nat.le_of_ble_eq_true rfl, Nat.le_of_ble_eq_true rfl⟩) hK hP [0] [] rfl rfl 0 0 rfl rfl rfl rfl hl.1 rfl (Nat.le_of_ble_eq_true rfl) dN_dry_2 ⟨Nat.zero_le _, Nat.zero_le _⟩ ?_
    refine lv_iload_n hx hb dN_dry_5 rfl (lv_at hl 2 rfl) ?_
    refine lv_if_ge (tgt := 19) hx hb dN_dry_6 (by decide) (fun c_3 => ?_) (fun c_3 => ?_)
    · exact absurd hno (by simp [*])
    · exact xt_I (text := "k is below 0") hx hb hlt hown hts hSt (by decide) (hl.1.trans hml.symm) dN_dry_9 dN_dry_12 dN_dry_13 dN_dry_15 dN_dry_18 hout (Nat.le_of_ble_eq_true rfl) (Nat.le_of_ble_eq_true rfl) (Nat.le_of_ble_eq_true rfl) (Nat.le_of_ble_eq_true rfl) hlocks
  · exact xt_V (As := [.int x]) ⟨hx, hb, hml, hown, hts⟩ (cN_needSet_T l hlt dC dI h0 a_walls a_placeX a_placeY a_reachers a_lossOf a_upper a_length a_headsOn a_turn a_lack a_joined Wd Ht Pn rs old sc jc x q_1) (cwV 1 hts gN126 rfl rfl rfl (by decide +kernel) ⟨Nat.le_of_ble_eq_true rfl, Nat.le_of_ble_eq_true rfl⟩) hSt hK hP [0] [] rfl rfl 0 0 rfl rfl rfl rfl hl.1 rfl (Nat.le_of_ble_eq_true rfl) dN_dry_2 ⟨Nat.le_of_ble_eq_true rfl, Nat.le_of_ble_eq_true rfl⟩ hout hlocks
set_option maxHeartbeats 4000000 in
set_option maxRecDepth 100000 in
theorem cN_lacks_T (l : Launch) (hlt : l.stackTraces = false) (dC : Nat → ClassId) (dI : Nat → Nat → Nat) (h0 a_walls a_placeX a_placeY a_reachers a_lossOf a_upper a_length a_headsOn a_turn a_lack a_joined : Nat) (Wd Ht Pn : Nat) (rs old sc jc : Int32) (x y : Int32) (hno : (sn_set Pn x && sn_pl Pn y) = false) : MetT l yN_lacks (kN_lacks :: WD) { frames := 7, cells := 1, slots := 6, locals := 103 } (va_Pc [.ref h0, .int x, .int y] (xt_B (dC, dI) snC [(h0, .inr (0, [.int (nI Wd), .int (nI Ht), .ref a_walls, .int rs, .ref a_placeX, .ref a_placeY, .int (nI Pn), .ref a_reachers, .int old, .ref a_lossOf, .int sc, .ref a_upper, .ref a_length, .ref a_headsOn, .ref a_turn, .ref a_lack, .ref a_joined, .int jc]))] [])) xt_IAE := by
  refine vx_ofW (cc := bN_lacks) (maxL := 3) (ret := (some .int)) (by decide) rfl ?_
  intro p e s m args below meth c s₁ B hml hout hv
  obtain ⟨rfl, ⟨hP, hK⟩, hSt⟩ := hv
  have hx := B.exec
  have hb := B.bytes
  have hr := B.returns
  have hts : ∀ w ∈ WD, w.before _ s = true := fun w h => atoms_spec (ws := kN_lacks :: WD) B.pre w (List.mem_cons_of_mem _ h)
  have hown : s.vm.findClass R_N = some m.cls := findClass_of_methodNamed B.named
  have hlocks := B.notSynchronized
  have hl := lv_entry ([.ref h0, .int x, .int y]) (n := 3) (Nat.le_of_ble_eq_true rfl)
  rw [lg_entry_eq]
  generalize (lg_sl ([.ref h0, .int x, .int y]) ++ List.replicate (3 - (lg_sl ([.ref h0, .int x, .int y])).length) Slot.unset).toArray = ls at hl ⊢
  have hl : lv_has ls 3 [(0, .ref h0), (1, .int x), (2, .int y)] := hl
  refine lv_aload_n hx hb dN_lacks_0 rfl (lv_at hl 0 rfl) ?_
  refine lv_iload_n hx hb dN_lacks_1 rfl (lv_at hl 1 rfl) ?_
  rcases Bool.eq_false_or_eq_true (sn_set Pn x) with q_1 | q_1
  · refine xr_Vv (As := [.int x]) ⟨hx, hb, hml, hown, hts⟩ (cN_needSet l dC dI h0 a_walls a_placeX a_placeY a_reachers a_lossOf a_upper a_length a_headsOn a_turn a_lack a_joined Wd Ht Pn rs old sc jc x q_1) (cwV 1 hts gN126 rfl rfl rfl (by decide +kernel) ⟨Nat.le_of_ble_eq_true rfl, Nat.le_of_ble_eq_true rfl⟩) hK hP [0] [] rfl rfl 0 0 rfl rfl rfl rfl hl.1 rfl (Nat.le_of_ble_eq_true rfl) dN_lacks_2 ⟨Nat.zero_le _, Nat.zero_le _⟩ ?_
    refine lv_aload_n hx hb dN_lacks_5 rfl (lv_at hl 0 rfl) ?_
    refine lv_iload_n hx hb dN_lacks_6 rfl (lv_at hl 2 rfl) ?_
    exact xt_V (As := [.int y]) ⟨hx, hb, hml, hown, hts⟩ (cN_needPlace_T l hlt dC dI h0 a_walls a_placeX a_placeY a_reachers a_lossOf a_upper a_length a_headsOn a_turn a_lack a_joined Wd Ht Pn rs old sc jc y (by simpa [*] using hno)) (cwV 1 hts gN116 rfl rfl rfl (by decide +kernel) ⟨Nat.le_of_ble_eq_true rfl, Nat.le_of_ble_eq_true rfl⟩) hSt hK hP [0] [] rfl rfl 0 0 rfl rfl rfl rfl hl.1 rfl (Nat.le_of_ble_eq_true rfl) dN_lacks_7 ⟨Nat.le_of_ble_eq_true rfl, Nat.le_of_ble_eq_true rfl⟩ hout hlocks
  · exact xt_V (As := [.int x]) ⟨hx, hb, hml, hown, hts⟩ (cN_needSet_T l hlt dC dI h0 a_walls a_placeX a_placeY a_reachers a_lossOf a_upper a_length a_headsOn a_turn a_lack a_joined Wd Ht Pn rs old sc jc x q_1) (cwV 1 hts gN126 rfl rfl rfl (by decide +kernel) ⟨Nat.le_of_ble_eq_true rfl, Nat.le_of_ble_eq_true rfl⟩) hSt hK hP [0] [] rfl rfl 0 0 rfl rfl rfl rfl hl.1 rfl (Nat.le_of_ble_eq_true rfl) dN_lacks_2 ⟨Nat.le_of_ble_eq_true rfl, Nat.le_of_ble_eq_true rfl⟩ hout hlocks
set_option maxHeartbeats 4000000 in
set_option maxRecDepth 100000 in
theorem cN_pipe_T (l : Launch) (hlt : l.stackTraces = false) (dC : Nat → ClassId) (dI : Nat → Nat → Nat) (h0 a_walls a_placeX a_placeY a_reachers a_lossOf a_upper a_length a_headsOn a_turn a_lack a_joined : Nat) (Wd Ht Pn : Nat) (rs old sc jc : Int32) (x y z : Int32) (hno : (sn_set Pn x && (sn_pl Pn y && sn_wok z)) = false) : MetT l yN_pipe (kN_pipe :: WD) { frames := 7, cells := 1, slots := 6, locals := 103 } (va_Pc [.ref h0, .int x, .int y, .int z] (xt_B (dC, dI) snC [(h0, .inr (0, [.int (nI Wd), .int (nI Ht), .ref a_walls, .int rs, .ref a_placeX, .ref a_placeY, .int (nI Pn), .ref a_reachers, .int old, .ref a_lossOf, .int sc, .ref a_upper, .ref a_length, .ref a_headsOn, .ref a_turn, .ref a_lack, .ref a_joined, .int jc]))] [])) xt_IAE := by
  refine vx_ofW (cc := bN_pipe) (maxL := 4) (ret := (some .int)) (by decide) rfl ?_
  intro p e s m args below meth c s₁ B hml hout hv
  obtain ⟨rfl, ⟨hP, hK⟩, hSt⟩ := hv
  have hx := B.exec
  have hb := B.bytes
  have hr := B.returns
  have hts : ∀ w ∈ WD, w.before _ s = true := fun w h => atoms_spec (ws := kN_pipe :: WD) B.pre w (List.mem_cons_of_mem _ h)
  have hown : s.vm.findClass R_N = some m.cls := findClass_of_methodNamed B.named
  have hlocks := B.notSynchronized
  have hl := lv_entry ([.ref h0, .int x, .int y, .int z]) (n := 4) (Nat.le_of_ble_eq_true rfl)
  rw [lg_entry_eq]
  generalize (lg_sl ([.ref h0, .int x, .int y, .int z]) ++ List.replicate (4 - (lg_sl ([.ref h0, .int x, .int y, .int z])).length) Slot.unset).toArray = ls at hl ⊢
  have hl : lv_has ls 4 [(0, .ref h0), (1, .int x), (2, .int y), (3, .int z)] := hl
  refine lv_aload_n hx hb dN_pipe_0 rfl (lv_at hl 0 rfl) ?_
  refine lv_iload_n hx hb dN_pipe_1 rfl (lv_at hl 1 rfl) ?_
  rcases Bool.eq_false_or_eq_true (sn_set Pn x) with q_1 | q_1
  · refine xr_Vv (As := [.int x]) ⟨hx, hb, hml, hown, hts⟩ (cN_needSet l dC dI h0 a_walls a_placeX a_placeY a_reachers a_lossOf a_upper a_length a_headsOn a_turn a_lack a_joined Wd Ht Pn rs old sc jc x q_1) (cwV 1 hts gN126 rfl rfl rfl (by decide +kernel) ⟨Nat.le_of_ble_eq_true rfl, Nat.le_of_ble_eq_true rfl⟩) hK hP [0] [] rfl rfl 0 0 rfl rfl rfl rfl hl.1 rfl (Nat.le_of_ble_eq_true rfl) dN_pipe_2 ⟨Nat.zero_le _, Nat.zero_le _⟩ ?_
    refine lv_aload_n hx hb dN_pipe_5 rfl (lv_at hl 0 rfl) ?_
    refine lv_iload_n hx hb dN_pipe_6 rfl (lv_at hl 2 rfl) ?_
    rcases Bool.eq_false_or_eq_true (sn_pl Pn y) with q_3 | q_3
    · refine xr_Vv (As := [.int y]) ⟨hx, hb, hml, hown, hts⟩ (cN_needPlace l dC dI h0 a_walls a_placeX a_placeY a_reachers a_lossOf a_upper a_length a_headsOn a_turn a_lack a_joined Wd Ht Pn rs old sc jc y q_3) (cwV 1 hts gN116 rfl rfl rfl (by decide +kernel) ⟨Nat.le_of_ble_eq_true rfl, Nat.le_of_ble_eq_true rfl⟩) hK hP [0] [] rfl rfl 0 0 rfl rfl rfl rfl hl.1 rfl (Nat.le_of_ble_eq_true rfl) dN_pipe_7 ⟨Nat.zero_le _, Nat.zero_le _⟩ ?_
      refine lv_iload_n hx hb dN_pipe_10 rfl (lv_at hl 3 rfl) ?_
      refine lv_if_lt (tgt := 19) hx hb dN_pipe_11 (by decide) (fun c_5 => ?_) (fun c_5 => ?_)
      · exact xt_I (text := "there is no such thing of a pipe") hx hb hlt hown hts hSt (by decide) (hl.1.trans hml.symm) dN_pipe_19 dN_pipe_22 dN_pipe_23 dN_pipe_25 dN_pipe_28 hout (Nat.le_of_ble_eq_true rfl) (Nat.le_of_ble_eq_true rfl) (Nat.le_of_ble_eq_true rfl) (Nat.le_of_ble_eq_true rfl) hlocks
      · refine lv_iload_n hx hb dN_pipe_14 rfl (lv_at hl 3 rfl) ?_
        refine lv_iconst (v := 4) hx hb dN_pipe_15 (by decide) ?_
        refine lv_icmp_le (tgt := 29) hx hb dN_pipe_16 (by decide) (fun c_6 => ?_) (fun c_6 => ?_)
        · exact absurd hno (by simp [sn_wok, *])
        · exact xt_I (text := "there is no such thing of a pipe") hx hb hlt hown hts hSt (by decide) (hl.1.trans hml.symm) dN_pipe_19 dN_pipe_22 dN_pipe_23 dN_pipe_25 dN_pipe_28 hout (Nat.le_of_ble_eq_true rfl) (Nat.le_of_ble_eq_true rfl) (Nat.le_of_ble_eq_true rfl) (Nat.le_of_ble_eq_true rfl) hlocks
    · exact xt_V (As := [.int y]) ⟨hx, hb, hml, hown, hts⟩ (cN_needPlace_T l hlt dC dI h0 a_walls a_placeX a_placeY a_reachers a_lossOf a_upper a_length a_headsOn a_turn a_lack a_joined Wd Ht Pn rs old sc jc y q_3) (cwV 1 hts gN116 rfl rfl rfl (by decide +kernel) ⟨Nat.le_of_ble_eq_true rfl, Nat.le_of_ble_eq_true rfl⟩) hSt hK hP [0] [] rfl rfl 0 0 rfl rfl rfl rfl hl.1 rfl (Nat.le_of_ble_eq_true rfl) dN_pipe_7 ⟨Nat.le_of_ble_eq_true rfl, Nat.le_of_ble_eq_true rfl⟩ hout hlocks
  · exact xt_V (As := [.int x]) ⟨hx, hb, hml, hown, hts⟩ (cN_needSet_T l hlt dC dI h0 a_walls a_placeX a_placeY a_reachers a_lossOf a_upper a_length a_headsOn a_turn a_lack a_joined Wd Ht Pn rs old sc jc x q_1) (cwV 1 hts gN126 rfl rfl rfl (by decide +kernel) ⟨Nat.le_of_ble_eq_true rfl, Nat.le_of_ble_eq_true rfl⟩) hSt hK hP [0] [] rfl rfl 0 0 rfl rfl rfl rfl hl.1 rfl (Nat.le_of_ble_eq_true rfl) dN_pipe_2 ⟨Nat.le_of_ble_eq_true rfl, Nat.le_of_ble_eq_true rfl⟩ hout hlocks
