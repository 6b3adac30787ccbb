theorem md_nar {x : Int32} (h : x = 0 ∨ x = 1) : narrow .boolean (.int x) = .int x := by rcases h with rfl | rfl <;> rfl
def md_th (px py : Nat → Int32) (x y : Int32) : Nat → Nat → Bool → Bool
  | 0, _, s => s
  | n + 1, i, s => md_th px py x y n (i + 1) (s || (decide (px i = x) && decide (py i = y)))
def md_cx (g : Nat → Int32) (rs : Int32) (X Y : Nat → Nat) (q y : Nat) : Nat → Nat → Int32 → Int32
  | 0, _, c => c
  | n + 1, x, c => md_cx g rs X Y q y n (x + 1) (if md_rch g rs X Y q x y = true then c + 1 else c + 0)
def md_cy (g : Nat → Int32) (rs : Int32) (X Y : Nat → Nat) (q Wd : Nat) : Nat → Nat → Int32 → Int32
  | 0, _, c => c
  | n + 1, y, c => md_cy g rs X Y q Wd n (y + 1) (md_cx g rs X Y q y Wd 0 c)
def md_ddx (g r : Nat → Int32) (st : Int32) (y : Nat) : Nat → Nat → Int32 → Bool × Int32
  | 0, _, k => (false, k)
  | n + 1, x, k => if md_dry g r st x y = true then (if k = 0 then (true, 100 * nI y + nI x) else md_ddx g r st y n (x + 1) (k - 1)) else md_ddx g r st y n (x + 1) k
def md_ddy (g r : Nat → Int32) (st : Int32) (Wd : Nat) : Nat → Nat → Int32 → Int32
  | 0, _, _ => -1
  | n + 1, y, k => if (md_ddx g r st y Wd 0 k).1 = true then (md_ddx g r st y Wd 0 k).2 else md_ddy g r st Wd n (y + 1) (md_ddx g r st y Wd 0 k).2
theorem md_and (a b : Nat) : nI a &&& nI b = nI (a &&& b) := by
  apply Int32.toBitVec_inj.1
  show BitVec.ofNat 32 a &&& BitVec.ofNat 32 b = BitVec.ofNat 32 (a &&& b)
  apply BitVec.eq_of_getLsbD_eq
  intro i hi
  simp [hi]
theorem md_clr {z : Nat} (h : 1 ≤ z) : nI z &&& (nI z - 1) = nI (z &&& (z - 1)) := by
  rw [show (1 : Int32) = nI 1 from rfl, pk_sub h, md_and]
def md_on : Nat → Nat → Int32 → Int32
  | 0, _, c => c
  | n + 1, z, c => if z = 0 then c else md_on n (z &&& (z - 1)) (c + 1)
theorem md_bit13 : ∀ P, P < 13 → (1 : Int32) <<< (nI P &&& 31) = nI (2 ^ P) := by decide +kernel
theorem md_bit {P : Nat} (h : P ≤ 12) : (1 : Int32) <<< (nI P &&& 31) = nI (2 ^ P) := md_bit13 P (by omega)
def md_pcn (x : Int32) : Int32 := md_on x.toNatClampNeg x.toNatClampNeg 0
def md_few (bs x : Int32) : Prop := bs = -1 ∨ ¬ md_pcn bs ≤ md_pcn x
def md_be (g r : Nat → Int32) (Wd Ht : Nat) : Nat → Nat → Int32 → Int32
  | 0, _, bs => bs
  | n + 1, i, bs => md_be g r Wd Ht n (i + 1) (if (bs = -1 ∨ ¬ md_pcn bs ≤ md_pcn (nI i)) ∧ md_dy g r (nI i) Wd Ht 0 0 = 0 then nI i else bs)
def md_sz (f : Nat → Int32) : Nat → Nat → Int32 → Int32
  | 0, _, c => c
  | n + 1, i, c => md_sz f n (i + 1) (if f i < 0 then c + 0 else c + 1)
def md_l1 (f : Nat → Int32) (hc : Int32) : Nat → Int32 → Int32
  | 0, l => l
  | n + 1, l => md_l1 f hc n (if ¬ f (n + 1) < 0 ∧ ¬ nI (n + 1) < hc then f (n + 1) else l)
def md_l2 (f : Nat → Int32) (hc : Int32) : Nat → Nat → Bool → Int32 → Bool × Int32
  | 0, _, s, g => (s, g)
  | n + 1, i, s, g => md_l2 f hc n (i + 1) (s || (!decide (f i < 0) && !decide (nI i < hc))) (if f i < 0 then g else f i)
def md_loss (f : Nat → Int32) (hc : Int32) : Int32 := if (md_l2 f hc 12 1 false 0).1 = true then md_l1 f hc 12 0 else (md_l2 f hc 12 1 false 0).2
set_option maxHeartbeats 4000000 in
set_option maxRecDepth 100000 in
theorem cM_wall (l : Launch) (dC : Nat → ClassId) (dI : Nat → Nat → Nat) (h1 b_wall b_px b_py b_loss b_reached b_order b_upper b_length b_heads b_turn : Nat) (cd : Int32) (Wd Ht Pn : Nat) (rs jc : Int32) (cZ cI : ClassId) (g_wall g_px g_py g_loss g_reached g_order g_upper g_length g_heads g_turn : Nat → Int32) (a b : Nat) (on : Int32) (sz : Nat) (hW : Wd ≤ 16) (hH : Ht ≤ 16) (ha : a < Wd) (hb0 : b < Ht) (hon : on = 0 ∨ on = 1) (h01 : ∀ i, g_wall i = 0 ∨ g_wall i = 1) : Met l yM_wall (kM_wall :: WD) { frames := 1, cells := 0, slots := 0, locals := 22 } (va_Pc [.ref h1, .int (nI a), .int (nI b), .int on] (xm (dC, dI) snC [(h1, .inr (1, [.int cd, .int (nI Wd), .int (nI Ht), .ref b_wall, .int rs, .int (nI Pn), .ref b_px, .ref b_py, .ref b_loss, .ref b_reached, .int jc, .ref b_order, .ref b_upper, .ref b_length, .ref b_heads, .ref b_turn])), (b_wall, .inl (cZ, 256, .inl g_wall)), (b_px, .inl (cI, 12, .inl g_px)), (b_py, .inl (cI, 12, .inl g_py)), (b_loss, .inl (cI, 13, .inl g_loss)), (b_reached, .inl (cI, 256, .inl g_reached)), (b_order, .inl (cI, 12, .inl g_order)), (b_upper, .inl (cI, 12, .inl g_upper)), (b_length, .inl (cI, 12, .inl g_length)), (b_heads, .inl (cI, 12, .inl g_heads)), (b_turn, .inl (cI, 12, .inl g_turn))] [(cZ, .boolean), (cI, .int)] sz)) (va_Qi (fun (r : Int32) (_ : Unit) => r = g_wall (b * 16 + a)) (fun _ => xo (dC, dI) snC [(h1, .inr (1, [.int 0, .int (nI Wd), .int (nI Ht), .ref b_wall, .int rs, .int (nI Pn), .ref b_px, .ref b_py, .ref b_loss, .ref b_reached, .int jc, .ref b_order, .ref b_upper, .ref b_length, .ref b_heads, .ref b_turn])), (b_wall, .inl (cZ, 256, .inl (upd g_wall (b * 16 + a) on))), (b_px, .inl (cI, 12, .inl g_px)), (b_py, .inl (cI, 12, .inl g_py)), (b_loss, .inl (cI, 13, .inl g_loss)), (b_reached, .inl (cI, 256, .inl g_reached)), (b_order, .inl (cI, 12, .inl g_order)), (b_upper, .inl (cI, 12, .inl g_upper)), (b_length, .inl (cI, 12, .inl g_length)), (b_heads, .inl (cI, 12, .inl g_heads)), (b_turn, .inl (cI, 12, .inl g_turn))] [(cZ, .boolean), (cI, .int)] (va_A [(h1, .inr (1, [.int cd, .int (nI Wd), .int (nI Ht), .ref b_wall, .int rs, .int (nI Pn), .ref b_px, .ref b_py, .ref b_loss, .ref b_reached, .int jc, .ref b_order, .ref b_upper, .ref b_length, .ref b_heads, .ref b_turn])), (b_wall, .inl (cZ, 256, .inl g_wall)), (b_px, .inl (cI, 12, .inl g_px)), (b_py, .inl (cI, 12, .inl g_py)), (b_loss, .inl (cI, 13, .inl g_loss)), (b_reached, .inl (cI, 256, .inl g_reached)), (b_order, .inl (cI, 12, .inl g_order)), (b_upper, .inl (cI, 12, .inl g_upper)), (b_length, .inl (cI, 12, .inl g_length)), (b_heads, .inl (cI, 12, .inl g_heads)), (b_turn, .inl (cI, 12, .inl g_turn))] sz)) (va_A [(h1, .inr (1, [.int cd, .int (nI Wd), .int (nI Ht), .ref b_wall, .int rs, .int (nI Pn), .ref b_px, .ref b_py, .ref b_loss, .ref b_reached, .int jc, .ref b_order, .ref b_upper, .ref b_length, .ref b_heads, .ref b_turn])), (b_wall, .inl (cZ, 256, .inl g_wall)), (b_px, .inl (cI, 12, .inl g_px)), (b_py, .inl (cI, 12, .inl g_py)), (b_loss, .inl (cI, 13, .inl g_loss)), (b_reached, .inl (cI, 256, .inl g_reached)), (b_order, .inl (cI, 12, .inl g_order)), (b_upper, .inl (cI, 12, .inl g_upper)), (b_length, .inl (cI, 12, .inl g_length)), (b_heads, .inl (cI, 12, .inl g_heads)), (b_turn, .inl (cI, 12, .inl g_turn))] sz)) 0 0 (va_A [(h1, .inr (1, [.int cd, .int (nI Wd), .int (nI Ht), .ref b_wall, .int rs, .int (nI Pn), .ref b_px, .ref b_py, .ref b_loss, .ref b_reached, .int jc, .ref b_order, .ref b_upper, .ref b_length, .ref b_heads, .ref b_turn])), (b_wall, .inl (cZ, 256, .inl g_wall)), (b_px, .inl (cI, 12, .inl g_px)), (b_py, .inl (cI, 12, .inl g_py)), (b_loss, .inl (cI, 13, .inl g_loss)), (b_reached, .inl (cI, 256, .inl g_reached)), (b_order, .inl (cI, 12, .inl g_order)), (b_upper, .inl (cI, 12, .inl g_upper)), (b_length, .inl (cI, 12, .inl g_length)), (b_heads, .inl (cI, 12, .inl g_heads)), (b_turn, .inl (cI, 12, .inl g_turn))] sz) := by
  refine Met.ofW (cc := bM_wall) (maxL := 5) (ret := (some .boolean)) (by decide) rfl ?_
  intro p e s m args below meth c s₁ B hml hv
  obtain ⟨rfl, hsz, hP, hK, hD0⟩ := hv
  have hx := B.exec
  have hb := B.bytes
  have hr := B.returns
  have hts : ∀ w ∈ WD, w.before _ s = true := fun w h => atoms_spec (ws := kM_wall :: WD) B.pre w (List.mem_cons_of_mem _ h)
  have hown : s.vm.findClass R_M = some m.cls := findClass_of_methodNamed B.named
  have hlocks := B.notSynchronized
  subst hsz
  have hD := hD0.self (sz := s.heap.size)
  generalize hAe : va_A [(h1, .inr (1, [.int cd, .int (nI Wd), .int (nI Ht), .ref b_wall, .int rs, .int (nI Pn), .ref b_px, .ref b_py, .ref b_loss, .ref b_reached, .int jc, .ref b_order, .ref b_upper, .ref b_length, .ref b_heads, .ref b_turn])), (b_wall, .inl (cZ, 256, .inl g_wall)), (b_px, .inl (cI, 12, .inl g_px)), (b_py, .inl (cI, 12, .inl g_py)), (b_loss, .inl (cI, 13, .inl g_loss)), (b_reached, .inl (cI, 256, .inl g_reached)), (b_order, .inl (cI, 12, .inl g_order)), (b_upper, .inl (cI, 12, .inl g_upper)), (b_length, .inl (cI, 12, .inl g_length)), (b_heads, .inl (cI, 12, .inl g_heads)), (b_turn, .inl (cI, 12, .inl g_turn))] s.heap.size = A at hD ⊢
  have hA : ∀ q : Nat, s.heap.size ≤ q → A q := fun q h => by rw [← hAe]; exact Or.inr h
  have hS : va_S A s.heap s.heap [] := va_S.rf
  have hl := lv_entry ([.ref h1, .int (nI a), .int (nI b), .int on]) (n := 5) (Nat.le_of_ble_eq_true rfl)
  rw [lg_entry_eq]
  generalize (lg_sl ([.ref h1, .int (nI a), .int (nI b), .int on]) ++ List.replicate (5 - (lg_sl ([.ref h1, .int (nI a), .int (nI b), .int on])).length) Slot.unset).toArray = ls at hl ⊢
  have hl : lv_has ls 5 [(0, .ref h1), (1, .int (nI a)), (2, .int (nI b)), (3, .int on)] := hl
  have hok := sn_in_nI hW hH ha hb0
  refine lv_aload_n hx hb dM_wall_0 rfl (lv_at hl 0 rfl) ?_
  refine lv_aload_n hx hb dM_wall_1 rfl (lv_at hl 0 rfl) ?_
  refine lv_iload_n hx hb dM_wall_2 rfl (lv_at hl 1 rfl) ?_
  refine lv_iload_n hx hb dM_wall_3 rfl (lv_at hl 2 rfl) ?_
  refine xr_V (As := [.int (nI a), .int (nI b)]) ⟨hx, hb, hml, hown, hts⟩ (cM_isCell l dC dI h1 b_wall b_px b_py b_loss b_reached b_order b_upper b_length b_heads b_turn cd Wd Ht Pn rs jc (nI a) (nI b)) (cwV 2 hts gM57 rfl rfl rfl (by decide +kernel) ⟨Nat.le_of_ble_eq_true rfl, Nat.le_of_ble_eq_true rfl⟩) hK hP [0] [] rfl rfl 1 0 rfl rfl rfl rfl hl.1 rfl (Nat.le_of_ble_eq_true rfl) dM_wall_4 ⟨Nat.le_of_ble_eq_true rfl, Nat.le_of_ble_eq_true rfl⟩ (fun r_1 hr_1 => ?_)
  subst hr_1
  refine lv_if_eq (tgt := 14) hx hb dM_wall_7 (by decide) (fun c_2 => ?_) (fun c_2 => ?_)
  · exact absurd hok (by rw [bz_0 c_2]; decide)
  · replace c_2 := bz_1 c_2
    refine lv_iconst (v := 0) hx hb dM_wall_10 (by decide) ?_
    refine lv_goto (tgt := 15) hx hb dM_wall_11 (by decide) ?_
    refine va_put (D := (dC, dI)) (ci := 1) (v := .int 0) (ty := .int) (C := R_M) (T := T_M) (N := 16) hx hb hts in_M t_M tok_M n_M hown hK hP hD hS 0 rfl rfl 0 (by decide) (hts _ flM51) (fun _ h9 => h9) rfl (by decide +kernel) rfl rfl (Nat.le_of_ble_eq_true rfl) dM_wall_15 (fun H locs hP hD hS => ?_)
    have hP : va_P (dC, dI) snC [(h1, .inr (1, [.int 0, .int (nI Wd), .int (nI Ht), .ref b_wall, .int rs, .int (nI Pn), .ref b_px, .ref b_py, .ref b_loss, .ref b_reached, .int jc, .ref b_order, .ref b_upper, .ref b_length, .ref b_heads, .ref b_turn])), (b_wall, .inl (cZ, 256, .inl g_wall)), (b_px, .inl (cI, 12, .inl g_px)), (b_py, .inl (cI, 12, .inl g_py)), (b_loss, .inl (cI, 13, .inl g_loss)), (b_reached, .inl (cI, 256, .inl g_reached)), (b_order, .inl (cI, 12, .inl g_order)), (b_upper, .inl (cI, 12, .inl g_upper)), (b_length, .inl (cI, 12, .inl g_length)), (b_heads, .inl (cI, 12, .inl g_heads)), (b_turn, .inl (cI, 12, .inl g_turn))] H := hP
    have hD : va_D A [(h1, .inr (1, [.int 0, .int (nI Wd), .int (nI Ht), .ref b_wall, .int rs, .int (nI Pn), .ref b_px, .ref b_py, .ref b_loss, .ref b_reached, .int jc, .ref b_order, .ref b_upper, .ref b_length, .ref b_heads, .ref b_turn])), (b_wall, .inl (cZ, 256, .inl g_wall)), (b_px, .inl (cI, 12, .inl g_px)), (b_py, .inl (cI, 12, .inl g_py)), (b_loss, .inl (cI, 13, .inl g_loss)), (b_reached, .inl (cI, 256, .inl g_reached)), (b_order, .inl (cI, 12, .inl g_order)), (b_upper, .inl (cI, 12, .inl g_upper)), (b_length, .inl (cI, 12, .inl g_length)), (b_heads, .inl (cI, 12, .inl g_heads)), (b_turn, .inl (cI, 12, .inl g_turn))] := hD
    refine lv_aload_n hx hb dM_wall_18 rfl (lv_at hl 0 rfl) ?_
    refine va_get (D := (dC, dI)) (ci := 1) (v := .int 0) (C := R_M) (T := T_M) (N := 16) hx hb hts in_M hown hK hP 0 rfl rfl 0 (by decide) (hts _ flM51) (fun _ h9 => h9) rfl dM_wall_19 ?_
    refine lv_if_le (tgt := 27) hx hb dM_wall_22 (by decide) (fun c_3 => ?_) (fun c_3 => ?_)
    · refine lv_aload_n hx hb dM_wall_27 rfl (lv_at hl 0 rfl) ?_
      refine va_get (D := (dC, dI)) (ci := 1) (v := .ref b_wall) (C := R_M) (T := T_M) (N := 16) hx hb hts in_M hown hK hP 0 rfl rfl 3 (by decide) (hts _ flM7) (fun _ h9 => h9) rfl dM_wall_28 ?_
      refine lv_bipush (v := 16) hx hb dM_wall_31 (by decide) ?_
      refine lv_iload_n hx hb dM_wall_33 rfl (lv_at hl 2 rfl) ?_
      refine lv_imul hx hb dM_wall_34 ?_
      refine lv_iload_n hx hb dM_wall_35 rfl (lv_at hl 1 rfl) ?_
      refine lv_iadd hx hb dM_wall_36 ?_
      rw [show ((16 * (nI b)) + (nI a) : Int32) = nI (b * 16 + a) from md_cell a b]
      refine xa_zald hx hb hK hP 1 0 rfl rfl (i := (b * 16 + a)) (by omega) (by first | decide | omega) dM_wall_37 ?_
      refine lv_istore (lv' := [(4, .int (g_wall (b * 16 + a))), (0, .ref h1), (1, .int (nI a)), (2, .int (nI b)), (3, .int on)]) hx hb dM_wall_38 hl (by decide) rfl (fun ls hl => ?_)
      refine lv_aload_n hx hb dM_wall_40 rfl (lv_at hl 1 rfl) ?_
      refine va_get (D := (dC, dI)) (ci := 1) (v := .ref b_wall) (C := R_M) (T := T_M) (N := 16) hx hb hts in_M hown hK hP 0 rfl rfl 3 (by decide) (hts _ flM7) (fun _ h9 => h9) rfl dM_wall_41 ?_
      refine lv_bipush (v := 16) hx hb dM_wall_44 (by decide) ?_
      refine lv_iload_n hx hb dM_wall_46 rfl (lv_at hl 3 rfl) ?_
      refine lv_imul hx hb dM_wall_47 ?_
      refine lv_iload_n hx hb dM_wall_48 rfl (lv_at hl 2 rfl) ?_
      refine lv_iadd hx hb dM_wall_49 ?_
      rw [show ((16 * (nI b)) + (nI a) : Int32) = nI (b * 16 + a) from md_cell a b]
      refine lv_iload_n hx hb dM_wall_50 rfl (lv_at hl 4 rfl) ?_
      refine xa_zast hx hb hK hP hD hS 1 0 rfl rfl (i := (b * 16 + a)) (x := on) hon (by omega) (by first | decide | omega) dM_wall_51 (fun H locs hP hD hS => ?_)
      have hP : va_P (dC, dI) snC [(h1, .inr (1, [.int 0, .int (nI Wd), .int (nI Ht), .ref b_wall, .int rs, .int (nI Pn), .ref b_px, .ref b_py, .ref b_loss, .ref b_reached, .int jc, .ref b_order, .ref b_upper, .ref b_length, .ref b_heads, .ref b_turn])), (b_wall, .inl (cZ, 256, .inl (upd g_wall (b * 16 + a) on))), (b_px, .inl (cI, 12, .inl g_px)), (b_py, .inl (cI, 12, .inl g_py)), (b_loss, .inl (cI, 13, .inl g_loss)), (b_reached, .inl (cI, 256, .inl g_reached)), (b_order, .inl (cI, 12, .inl g_order)), (b_upper, .inl (cI, 12, .inl g_upper)), (b_length, .inl (cI, 12, .inl g_length)), (b_heads, .inl (cI, 12, .inl g_heads)), (b_turn, .inl (cI, 12, .inl g_turn))] H := hP
      have hD : va_D A [(h1, .inr (1, [.int 0, .int (nI Wd), .int (nI Ht), .ref b_wall, .int rs, .int (nI Pn), .ref b_px, .ref b_py, .ref b_loss, .ref b_reached, .int jc, .ref b_order, .ref b_upper, .ref b_length, .ref b_heads, .ref b_turn])), (b_wall, .inl (cZ, 256, .inl (upd g_wall (b * 16 + a) on))), (b_px, .inl (cI, 12, .inl g_px)), (b_py, .inl (cI, 12, .inl g_py)), (b_loss, .inl (cI, 13, .inl g_loss)), (b_reached, .inl (cI, 256, .inl g_reached)), (b_order, .inl (cI, 12, .inl g_order)), (b_upper, .inl (cI, 12, .inl g_upper)), (b_length, .inl (cI, 12, .inl g_length)), (b_heads, .inl (cI, 12, .inl g_heads)), (b_turn, .inl (cI, 12, .inl g_turn))] := hD
      refine lv_iload hx hb dM_wall_52 (lv_at hl 0 rfl) ?_
      exact W.zret (v := g_wall (b * 16 + a)) hx hb hr (md_nar (h01 _)) (fun t ht hW => ⟨⟨g_wall (b * 16 + a), (), rfl, rfl, by rw [ht]; exact hP, va_K.moved hW.alike hK, hD⟩, hS.F ht⟩) hS.2.2 dM_wall_54
    · exact absurd c_3 (by decide)
set_option maxHeartbeats 4000000 in
set_option maxRecDepth 100000 in
theorem cM_wall_x (l : Launch) (dC : Nat → ClassId) (dI : Nat → Nat → Nat) (h1 b_wall b_px b_py b_loss b_reached b_order b_upper b_length b_heads b_turn : Nat) (cd : Int32) (Wd Ht Pn : Nat) (rs jc : Int32) (cZ cI : ClassId) (g_wall g_px g_py g_loss g_reached g_order g_upper g_length g_heads g_turn : Nat → Int32) (x y on : Int32) (sz : Nat) (hno : sn_in Wd Ht x y = false) : Met l yM_wall (kM_wall :: WD) { frames := 1, cells := 0, slots := 0, locals := 22 } (va_Pc [.ref h1, .int x, .int y, .int on] (xm (dC, dI) snC [(h1, .inr (1, [.int cd, .int (nI Wd), .int (nI Ht), .ref b_wall, .int rs, .int (nI Pn), .ref b_px, .ref b_py, .ref b_loss, .ref b_reached, .int jc, .ref b_order, .ref b_upper, .ref b_length, .ref b_heads, .ref b_turn])), (b_wall, .inl (cZ, 256, .inl g_wall)), (b_px, .inl (cI, 12, .inl g_px)), (b_py, .inl (cI, 12, .inl g_py)), (b_loss, .inl (cI, 13, .inl g_loss)), (b_reached, .inl (cI, 256, .inl g_reached)), (b_order, .inl (cI, 12, .inl g_order)), (b_upper, .inl (cI, 12, .inl g_upper)), (b_length, .inl (cI, 12, .inl g_length)), (b_heads, .inl (cI, 12, .inl g_heads)), (b_turn, .inl (cI, 12, .inl g_turn))] [(cZ, .boolean), (cI, .int)] sz)) (va_Qi (fun (r : Int32) (_ : Unit) => True) (fun _ => xo (dC, dI) snC [(h1, .inr (1, [.int 1, .int (nI Wd), .int (nI Ht), .ref b_wall, .int rs, .int (nI Pn), .ref b_px, .ref b_py, .ref b_loss, .ref b_reached, .int jc, .ref b_order, .ref b_upper, .ref b_length, .ref b_heads, .ref b_turn])), (b_wall, .inl (cZ, 256, .inl g_wall)), (b_px, .inl (cI, 12, .inl g_px)), (b_py, .inl (cI, 12, .inl g_py)), (b_loss, .inl (cI, 13, .inl g_loss)), (b_reached, .inl (cI, 256, .inl g_reached)), (b_order, .inl (cI, 12, .inl g_order)), (b_upper, .inl (cI, 12, .inl g_upper)), (b_length, .inl (cI, 12, .inl g_length)), (b_heads, .inl (cI, 12, .inl g_heads)), (b_turn, .inl (cI, 12, .inl g_turn))] [(cZ, .boolean), (cI, .int)] (va_A [(h1, .inr (1, [.int cd, .int (nI Wd), .int (nI Ht), .ref b_wall, .int rs, .int (nI Pn), .ref b_px, .ref b_py, .ref b_loss, .ref b_reached, .int jc, .ref b_order, .ref b_upper, .ref b_length, .ref b_heads, .ref b_turn])), (b_wall, .inl (cZ, 256, .inl g_wall)), (b_px, .inl (cI, 12, .inl g_px)), (b_py, .inl (cI, 12, .inl g_py)), (b_loss, .inl (cI, 13, .inl g_loss)), (b_reached, .inl (cI, 256, .inl g_reached)), (b_order, .inl (cI, 12, .inl g_order)), (b_upper, .inl (cI, 12, .inl g_upper)), (b_length, .inl (cI, 12, .inl g_length)), (b_heads, .inl (cI, 12, .inl g_heads)), (b_turn, .inl (cI, 12, .inl g_turn))] sz)) (va_A [(h1, .inr (1, [.int cd, .int (nI Wd), .int (nI Ht), .ref b_wall, .int rs, .int (nI Pn), .ref b_px, .ref b_py, .ref b_loss, .ref b_reached, .int jc, .ref b_order, .ref b_upper, .ref b_length, .ref b_heads, .ref b_turn])), (b_wall, .inl (cZ, 256, .inl g_wall)), (b_px, .inl (cI, 12, .inl g_px)), (b_py, .inl (cI, 12, .inl g_py)), (b_loss, .inl (cI, 13, .inl g_loss)), (b_reached, .inl (cI, 256, .inl g_reached)), (b_order, .inl (cI, 12, .inl g_order)), (b_upper, .inl (cI, 12, .inl g_upper)), (b_length, .inl (cI, 12, .inl g_length)), (b_heads, .inl (cI, 12, .inl g_heads)), (b_turn, .inl (cI, 12, .inl g_turn))] sz)) 0 0 (va_A [(h1, .inr (1, [.int cd, .int (nI Wd), .int (nI Ht), .ref b_wall, .int rs, .int (nI Pn), .ref b_px, .ref b_py, .ref b_loss, .ref b_reached, .int jc, .ref b_order, .ref b_upper, .ref b_length, .ref b_heads, .ref b_turn])), (b_wall, .inl (cZ, 256, .inl g_wall)), (b_px, .inl (cI, 12, .inl g_px)), (b_py, .inl (cI, 12, .inl g_py)), (b_loss, .inl (cI, 13, .inl g_loss)), (b_reached, .inl (cI, 256, .inl g_reached)), (b_order, .inl (cI, 12, .inl g_order)), (b_upper, .inl (cI, 12, .inl g_upper)), (b_length, .inl (cI, 12, .inl g_length)), (b_heads, .inl (cI, 12, .inl g_heads)), (b_turn, .inl (cI, 12, .inl g_turn))] sz) := by
  refine Met.ofW (cc := bM_wall) (maxL := 5) (ret := (some .boolean)) (by decide) rfl ?_
  intro p e s m args below meth c s₁ B hml hv
  obtain ⟨rfl, hsz, hP, hK, hD0⟩ := hv
  have hx := B.exec
  have hb := B.bytes
  have hr := B.returns
  have hts : ∀ w ∈ WD, w.before _ s = true := fun w h => atoms_spec (ws := kM_wall :: WD) B.pre w (List.mem_cons_of_mem _ h)
  have hown : s.vm.findClass R_M = some m.cls := findClass_of_methodNamed B.named
  have hlocks := B.notSynchronized
  subst hsz
  have hD := hD0.self (sz := s.heap.size)
  generalize hAe : va_A [(h1, .inr (1, [.int cd, .int (nI Wd), .int (nI Ht), .ref b_wall, .int rs, .int (nI Pn), .ref b_px, .ref b_py, .ref b_loss, .ref b_reached, .int jc, .ref b_order, .ref b_upper, .ref b_length, .ref b_heads, .ref b_turn])), (b_wall, .inl (cZ, 256, .inl g_wall)), (b_px, .inl (cI, 12, .inl g_px)), (b_py, .inl (cI, 12, .inl g_py)), (b_loss, .inl (cI, 13, .inl g_loss)), (b_reached, .inl (cI, 256, .inl g_reached)), (b_order, .inl (cI, 12, .inl g_order)), (b_upper, .inl (cI, 12, .inl g_upper)), (b_length, .inl (cI, 12, .inl g_length)), (b_heads, .inl (cI, 12, .inl g_heads)), (b_turn, .inl (cI, 12, .inl g_turn))] s.heap.size = A at hD ⊢
  have hA : ∀ q : Nat, s.heap.size ≤ q → A q := fun q h => by rw [← hAe]; exact Or.inr h
  have hS : va_S A s.heap s.heap [] := va_S.rf
  have hl := lv_entry ([.ref h1, .int x, .int y, .int on]) (n := 5) (Nat.le_of_ble_eq_true rfl)
  rw [lg_entry_eq]
  generalize (lg_sl ([.ref h1, .int x, .int y, .int on]) ++ List.replicate (5 - (lg_sl ([.ref h1, .int x, .int y, .int on])).length) Slot.unset).toArray = ls at hl ⊢
  have hl : lv_has ls 5 [(0, .ref h1), (1, .int x), (2, .int y), (3, .int on)] := hl
  refine lv_aload_n hx hb dM_wall_0 rfl (lv_at hl 0 rfl) ?_
  refine lv_aload_n hx hb dM_wall_1 rfl (lv_at hl 0 rfl) ?_
  refine lv_iload_n hx hb dM_wall_2 rfl (lv_at hl 1 rfl) ?_
  refine lv_iload_n hx hb dM_wall_3 rfl (lv_at hl 2 rfl) ?_
  refine xr_V (As := [.int x, .int y]) ⟨hx, hb, hml, hown, hts⟩ (cM_isCell l dC dI h1 b_wall b_px b_py b_loss b_reached b_order b_upper b_length b_heads b_turn cd Wd Ht Pn rs jc x y) (cwV 2 hts gM57 rfl rfl rfl (by decide +kernel) ⟨Nat.le_of_ble_eq_true rfl, Nat.le_of_ble_eq_true rfl⟩) hK hP [0] [] rfl rfl 1 0 rfl rfl rfl rfl hl.1 rfl (Nat.le_of_ble_eq_true rfl) dM_wall_4 ⟨Nat.le_of_ble_eq_true rfl, Nat.le_of_ble_eq_true rfl⟩ (fun r_1 hr_1 => ?_)
  subst hr_1
  refine lv_if_eq (tgt := 14) hx hb dM_wall_7 (by decide) (fun c_2 => ?_) (fun c_2 => ?_)
  · replace c_2 := bz_0 c_2
    refine lv_iconst (v := 1) hx hb dM_wall_14 (by decide) ?_
    refine va_put (D := (dC, dI)) (ci := 1) (v := .int 1) (ty := .int) (C := R_M) (T := T_M) (N := 16) hx hb hts in_M t_M tok_M n_M hown hK hP hD hS 0 rfl rfl 0 (by decide) (hts _ flM51) (fun _ h9 => h9) rfl (by decide +kernel) rfl rfl (Nat.le_of_ble_eq_true rfl) dM_wall_15 (fun H locs hP hD hS => ?_)
    have hP : va_P (dC, dI) snC [(h1, .inr (1, [.int 1, .int (nI Wd), .int (nI Ht), .ref b_wall, .int rs, .int (nI Pn), .ref b_px, .ref b_py, .ref b_loss, .ref b_reached, .int jc, .ref b_order, .ref b_upper, .ref b_length, .ref b_heads, .ref b_turn])), (b_wall, .inl (cZ, 256, .inl g_wall)), (b_px, .inl (cI, 12, .inl g_px)), (b_py, .inl (cI, 12, .inl g_py)), (b_loss, .inl (cI, 13, .inl g_loss)), (b_reached, .inl (cI, 256, .inl g_reached)), (b_order, .inl (cI, 12, .inl g_order)), (b_upper, .inl (cI, 12, .inl g_upper)), (b_length, .inl (cI, 12, .inl g_length)), (b_heads, .inl (cI, 12, .inl g_heads)), (b_turn, .inl (cI, 12, .inl g_turn))] H := hP
    have hD : va_D A [(h1, .inr (1, [.int 1, .int (nI Wd), .int (nI Ht), .ref b_wall, .int rs, .int (nI Pn), .ref b_px, .ref b_py, .ref b_loss, .ref b_reached, .int jc, .ref b_order, .ref b_upper, .ref b_length, .ref b_heads, .ref b_turn])), (b_wall, .inl (cZ, 256, .inl g_wall)), (b_px, .inl (cI, 12, .inl g_px)), (b_py, .inl (cI, 12, .inl g_py)), (b_loss, .inl (cI, 13, .inl g_loss)), (b_reached, .inl (cI, 256, .inl g_reached)), (b_order, .inl (cI, 12, .inl g_order)), (b_upper, .inl (cI, 12, .inl g_upper)), (b_length, .inl (cI, 12, .inl g_length)), (b_heads, .inl (cI, 12, .inl g_heads)), (b_turn, .inl (cI, 12, .inl g_turn))] := hD
    refine lv_aload_n hx hb dM_wall_18 rfl (lv_at hl 0 rfl) ?_
    refine va_get (D := (dC, dI)) (ci := 1) (v := .int 1) (C := R_M) (T := T_M) (N := 16) hx hb hts in_M hown hK hP 0 rfl rfl 0 (by decide) (hts _ flM51) (fun _ h9 => h9) rfl dM_wall_19 ?_
    refine lv_if_le (tgt := 27) hx hb dM_wall_22 (by decide) (fun c_3 => ?_) (fun c_3 => ?_)
    · exact absurd c_3 (by decide)
    · refine lv_iconst (v := 0) hx hb dM_wall_25 (by decide) ?_
      exact W.zret (v := 0) hx hb hr (by decide) (fun t ht hW => ⟨⟨0, (), rfl, trivial, by rw [ht]; exact hP, va_K.moved hW.alike hK, hD⟩, hS.F ht⟩) hS.2.2 dM_wall_26
  · exact absurd hno (by rw [bz_1 c_2]; decide)
set_option maxHeartbeats 4000000 in
set_option maxRecDepth 100000 in
theorem cM_reach (l : Launch) (dC : Nat → ClassId) (dI : Nat → Nat → Nat) (h1 b_wall b_px b_py b_loss b_reached b_order b_upper b_length b_heads b_turn : Nat) (cd : Int32) (Wd Ht Pn : Nat) (rs jc : Int32) (cZ cI : ClassId) (g_wall g_px g_py g_loss g_reached g_order g_upper g_length g_heads g_turn : Nat → Int32) (x : Int32) (sz : Nat) (hok : sn_rok x = true) : Met l yM_reach (kM_reach :: WD) { frames := 0, cells := 0, slots := 0, locals := 0 } (va_Pc [.ref h1, .int x] (xm (dC, dI) snC [(h1, .inr (1, [.int cd, .int (nI Wd), .int (nI Ht), .ref b_wall, .int rs, .int (nI Pn), .ref b_px, .ref b_py, .ref b_loss, .ref b_reached, .int jc, .ref b_order, .ref b_upper, .ref b_length, .ref b_heads, .ref b_turn])), (b_wall, .inl (cZ, 256, .inl g_wall)), (b_px, .inl (cI, 12, .inl g_px)), (b_py, .inl (cI, 12, .inl g_py)), (b_loss, .inl (cI, 13, .inl g_loss)), (b_reached, .inl (cI, 256, .inl g_reached)), (b_order, .inl (cI, 12, .inl g_order)), (b_upper, .inl (cI, 12, .inl g_upper)), (b_length, .inl (cI, 12, .inl g_length)), (b_heads, .inl (cI, 12, .inl g_heads)), (b_turn, .inl (cI, 12, .inl g_turn))] [(cZ, .boolean), (cI, .int)] sz)) (va_Qi (fun (r : Int32) (_ : Unit) => r = rs) (fun _ => xo (dC, dI) snC [(h1, .inr (1, [.int 0, .int (nI Wd), .int (nI Ht), .ref b_wall, .int x, .int (nI Pn), .ref b_px, .ref b_py, .ref b_loss, .ref b_reached, .int jc, .ref b_order, .ref b_upper, .ref b_length, .ref b_heads, .ref b_turn])), (b_wall, .inl (cZ, 256, .inl g_wall)), (b_px, .inl (cI, 12, .inl g_px)), (b_py, .inl (cI, 12, .inl g_py)), (b_loss, .inl (cI, 13, .inl g_loss)), (b_reached, .inl (cI, 256, .inl g_reached)), (b_order, .inl (cI, 12, .inl g_order)), (b_upper, .inl (cI, 12, .inl g_upper)), (b_length, .inl (cI, 12, .inl g_length)), (b_heads, .inl (cI, 12, .inl g_heads)), (b_turn, .inl (cI, 12, .inl g_turn))] [(cZ, .boolean), (cI, .int)] (va_A [(h1, .inr (1, [.int cd, .int (nI Wd), .int (nI Ht), .ref b_wall, .int rs, .int (nI Pn), .ref b_px, .ref b_py, .ref b_loss, .ref b_reached, .int jc, .ref b_order, .ref b_upper, .ref b_length, .ref b_heads, .ref b_turn])), (b_wall, .inl (cZ, 256, .inl g_wall)), (b_px, .inl (cI, 12, .inl g_px)), (b_py, .inl (cI, 12, .inl g_py)), (b_loss, .inl (cI, 13, .inl g_loss)), (b_reached, .inl (cI, 256, .inl g_reached)), (b_order, .inl (cI, 12, .inl g_order)), (b_upper, .inl (cI, 12, .inl g_upper)), (b_length, .inl (cI, 12, .inl g_length)), (b_heads, .inl (cI, 12, .inl g_heads)), (b_turn, .inl (cI, 12, .inl g_turn))] sz)) (va_A [(h1, .inr (1, [.int cd, .int (nI Wd), .int (nI Ht), .ref b_wall, .int rs, .int (nI Pn), .ref b_px, .ref b_py, .ref b_loss, .ref b_reached, .int jc, .ref b_order, .ref b_upper, .ref b_length, .ref b_heads, .ref b_turn])), (b_wall, .inl (cZ, 256, .inl g_wall)), (b_px, .inl (cI, 12, .inl g_px)), (b_py, .inl (cI, 12, .inl g_py)), (b_loss, .inl (cI, 13, .inl g_loss)), (b_reached, .inl (cI, 256, .inl g_reached)), (b_order, .inl (cI, 12, .inl g_order)), (b_upper, .inl (cI, 12, .inl g_upper)), (b_length, .inl (cI, 12, .inl g_length)), (b_heads, .inl (cI, 12, .inl g_heads)), (b_turn, .inl (cI, 12, .inl g_turn))] sz)) 0 0 (va_A [(h1, .inr (1, [.int cd, .int (nI Wd), .int (nI Ht), .ref b_wall, .int rs, .int (nI Pn), .ref b_px, .ref b_py, .ref b_loss, .ref b_reached, .int jc, .ref b_order, .ref b_upper, .ref b_length, .ref b_heads, .ref b_turn])), (b_wall, .inl (cZ, 256, .inl g_wall)), (b_px, .inl (cI, 12, .inl g_px)), (b_py, .inl (cI, 12, .inl g_py)), (b_loss, .inl (cI, 13, .inl g_loss)), (b_reached, .inl (cI, 256, .inl g_reached)), (b_order, .inl (cI, 12, .inl g_order)), (b_upper, .inl (cI, 12, .inl g_upper)), (b_length, .inl (cI, 12, .inl g_length)), (b_heads, .inl (cI, 12, .inl g_heads)), (b_turn, .inl (cI, 12, .inl g_turn))] sz) := by
  refine Met.ofW (cc := bM_reach) (maxL := 3) (ret := (some .int)) (by decide) rfl ?_
  intro p e s m args below meth c s₁ B hml hv
  obtain ⟨rfl, hsz, hP, hK, hD0⟩ := hv
  have hx := B.exec
  have hb := B.bytes
  have hr := B.returns
  have hts : ∀ w ∈ WD, w.before _ s = true := fun w h => atoms_spec (ws := kM_reach :: WD) B.pre w (List.mem_cons_of_mem _ h)
  have hown : s.vm.findClass R_M = some m.cls := findClass_of_methodNamed B.named
  have hlocks := B.notSynchronized
  subst hsz
  have hD := hD0.self (sz := s.heap.size)
  generalize hAe : va_A [(h1, .inr (1, [.int cd, .int (nI Wd), .int (nI Ht), .ref b_wall, .int rs, .int (nI Pn), .ref b_px, .ref b_py, .ref b_loss, .ref b_reached, .int jc, .ref b_order, .ref b_upper, .ref b_length, .ref b_heads, .ref b_turn])), (b_wall, .inl (cZ, 256, .inl g_wall)), (b_px, .inl (cI, 12, .inl g_px)), (b_py, .inl (cI, 12, .inl g_py)), (b_loss, .inl (cI, 13, .inl g_loss)), (b_reached, .inl (cI, 256, .inl g_reached)), (b_order, .inl (cI, 12, .inl g_order)), (b_upper, .inl (cI, 12, .inl g_upper)), (b_length, .inl (cI, 12, .inl g_length)), (b_heads, .inl (cI, 12, .inl g_heads)), (b_turn, .inl (cI, 12, .inl g_turn))] s.heap.size = A at hD ⊢
  have hA : ∀ q : Nat, s.heap.size ≤ q → A q := fun q h => by rw [← hAe]; exact Or.inr h
  have hS : va_S A s.heap s.heap [] := va_S.rf
  have hl := lv_entry ([.ref h1, .int x]) (n := 3) (Nat.le_of_ble_eq_true rfl)
  rw [lg_entry_eq]
  generalize (lg_sl ([.ref h1, .int x]) ++ List.replicate (3 - (lg_sl ([.ref h1, .int x])).length) Slot.unset).toArray = ls at hl ⊢
  have hl : lv_has ls 3 [(0, .ref h1), (1, .int x)] := hl
  refine lv_aload_n hx hb dM_reach_0 rfl (lv_at hl 0 rfl) ?_
  refine lv_iload_n hx hb dM_reach_1 rfl (lv_at hl 1 rfl) ?_
  refine lv_iconst (v := 1) hx hb dM_reach_2 (by decide) ?_
  refine lv_icmp_lt (tgt := 17) hx hb dM_reach_3 (by decide) (fun c_1 => ?_) (fun c_1 => ?_)
  · exact absurd hok (by simp [sn_rok, *])
  · refine lv_iload_n hx hb dM_reach_6 rfl (lv_at hl 1 rfl) ?_
    refine lv_sipush (v := 400) hx hb dM_reach_7 (by decide) ?_
    refine lv_icmp_gt (tgt := 17) hx hb dM_reach_10 (by decide) (fun c_2 => ?_) (fun c_2 => ?_)
    · exact absurd hok (by simp [sn_rok, Int32.not_le.mpr c_2, *])
    · refine lv_iconst (v := 0) hx hb dM_reach_13 (by decide) ?_
      refine lv_goto (tgt := 18) hx hb dM_reach_14 (by decide) ?_
      refine va_put (D := (dC, dI)) (ci := 1) (v := .int 0) (ty := .int) (C := R_M) (T := T_M) (N := 16) hx hb hts in_M t_M tok_M n_M hown hK hP hD hS 0 rfl rfl 0 (by decide) (hts _ flM51) (fun _ h9 => h9) rfl (by decide +kernel) rfl rfl (Nat.le_of_ble_eq_true rfl) dM_reach_18 (fun H locs hP hD hS => ?_)
      have hP : va_P (dC, dI) snC [(h1, .inr (1, [.int 0, .int (nI Wd), .int (nI Ht), .ref b_wall, .int rs, .int (nI Pn), .ref b_px, .ref b_py, .ref b_loss, .ref b_reached, .int jc, .ref b_order, .ref b_upper, .ref b_length, .ref b_heads, .ref b_turn])), (b_wall, .inl (cZ, 256, .inl g_wall)), (b_px, .inl (cI, 12, .inl g_px)), (b_py, .inl (cI, 12, .inl g_py)), (b_loss, .inl (cI, 13, .inl g_loss)), (b_reached, .inl (cI, 256, .inl g_reached)), (b_order, .inl (cI, 12, .inl g_order)), (b_upper, .inl (cI, 12, .inl g_upper)), (b_length, .inl (cI, 12, .inl g_length)), (b_heads, .inl (cI, 12, .inl g_heads)), (b_turn, .inl (cI, 12, .inl g_turn))] H := hP
      have hD : va_D A [(h1, .inr (1, [.int 0, .int (nI Wd), .int (nI Ht), .ref b_wall, .int rs, .int (nI Pn), .ref b_px, .ref b_py, .ref b_loss, .ref b_reached, .int jc, .ref b_order, .ref b_upper, .ref b_length, .ref b_heads, .ref b_turn])), (b_wall, .inl (cZ, 256, .inl g_wall)), (b_px, .inl (cI, 12, .inl g_px)), (b_py, .inl (cI, 12, .inl g_py)), (b_loss, .inl (cI, 13, .inl g_loss)), (b_reached, .inl (cI, 256, .inl g_reached)), (b_order, .inl (cI, 12, .inl g_order)), (b_upper, .inl (cI, 12, .inl g_upper)), (b_length, .inl (cI, 12, .inl g_length)), (b_heads, .inl (cI, 12, .inl g_heads)), (b_turn, .inl (cI, 12, .inl g_turn))] := hD
      refine lv_aload_n hx hb dM_reach_21 rfl (lv_at hl 0 rfl) ?_
      refine va_get (D := (dC, dI)) (ci := 1) (v := .int 0) (C := R_M) (T := T_M) (N := 16) hx hb hts in_M hown hK hP 0 rfl rfl 0 (by decide) (hts _ flM51) (fun _ h9 => h9) rfl dM_reach_22 ?_
      refine lv_if_le (tgt := 30) hx hb dM_reach_25 (by decide) (fun c_3 => ?_) (fun c_3 => ?_)
      · refine lv_aload_n hx hb dM_reach_30 rfl (lv_at hl 0 rfl) ?_
        refine va_get (D := (dC, dI)) (ci := 1) (v := .int rs) (C := R_M) (T := T_M) (N := 16) hx hb hts in_M hown hK hP 0 rfl rfl 4 (by decide) (hts _ flM13) (fun _ h9 => h9) rfl dM_reach_31 ?_
        refine lv_istore_n (lv' := [(2, .int rs), (0, .ref h1), (1, .int x)]) hx hb dM_reach_34 rfl hl (by decide) rfl (fun ls hl => ?_)
        refine lv_aload_n hx hb dM_reach_35 rfl (lv_at hl 1 rfl) ?_
        refine lv_iload_n hx hb dM_reach_36 rfl (lv_at hl 2 rfl) ?_
        refine va_put (D := (dC, dI)) (ci := 1) (v := .int x) (ty := .int) (C := R_M) (T := T_M) (N := 16) hx hb hts in_M t_M tok_M n_M hown hK hP hD hS 0 rfl rfl 4 (by decide) (hts _ flM13) (fun _ h9 => h9) rfl (by decide +kernel) rfl rfl (Nat.le_of_ble_eq_true rfl) dM_reach_37 (fun H locs hP hD hS => ?_)
        have hP : va_P (dC, dI) snC [(h1, .inr (1, [.int 0, .int (nI Wd), .int (nI Ht), .ref b_wall, .int x, .int (nI Pn), .ref b_px, .ref b_py, .ref b_loss, .ref b_reached, .int jc, .ref b_order, .ref b_upper, .ref b_length, .ref b_heads, .ref b_turn])), (b_wall, .inl (cZ, 256, .inl g_wall)), (b_px, .inl (cI, 12, .inl g_px)), (b_py, .inl (cI, 12, .inl g_py)), (b_loss, .inl (cI, 13, .inl g_loss)), (b_reached, .inl (cI, 256, .inl g_reached)), (b_order, .inl (cI, 12, .inl g_order)), (b_upper, .inl (cI, 12, .inl g_upper)), (b_length, .inl (cI, 12, .inl g_length)), (b_heads, .inl (cI, 12, .inl g_heads)), (b_turn, .inl (cI, 12, .inl g_turn))] H := hP
        have hD : va_D A [(h1, .inr (1, [.int 0, .int (nI Wd), .int (nI Ht), .ref b_wall, .int x, .int (nI Pn), .ref b_px, .ref b_py, .ref b_loss, .ref b_reached, .int jc, .ref b_order, .ref b_upper, .ref b_length, .ref b_heads, .ref b_turn])), (b_wall, .inl (cZ, 256, .inl g_wall)), (b_px, .inl (cI, 12, .inl g_px)), (b_py, .inl (cI, 12, .inl g_py)), (b_loss, .inl (cI, 13, .inl g_loss)), (b_reached, .inl (cI, 256, .inl g_reached)), (b_order, .inl (cI, 12, .inl g_order)), (b_upper, .inl (cI, 12, .inl g_upper)), (b_length, .inl (cI, 12, .inl g_length)), (b_heads, .inl (cI, 12, .inl g_heads)), (b_turn, .inl (cI, 12, .inl g_turn))] := hD
        refine lv_iload_n hx hb dM_reach_40 rfl (lv_at hl 0 rfl) ?_
        exact W.iret (v := rs) hx hb hr (fun t ht hW => ⟨⟨rs, (), rfl, rfl, by rw [ht]; exact hP, va_K.moved hW.alike hK, hD⟩, hS.F ht⟩) hS.2.2 dM_reach_41
      · exact absurd c_3 (by decide)
set_option maxHeartbeats 4000000 in
set_option maxRecDepth 100000 in
theorem cM_reach_x (l : Launch) (dC : Nat → ClassId) (dI : Nat → Nat → Nat) (h1 b_wall b_px b_py b_loss b_reached b_order b_upper b_length b_heads b_turn : Nat) (cd : Int32) (Wd Ht Pn : Nat) (rs jc : Int32) (cZ cI : ClassId) (g_wall g_px g_py g_loss g_reached g_order g_upper g_length g_heads g_turn : Nat → Int32) (x : Int32) (sz : Nat) (hno : sn_rok x = false) : Met l yM_reach (kM_reach :: WD) { frames := 0, cells := 0, slots := 0, locals := 0 } (va_Pc [.ref h1, .int x] (xm (dC, dI) snC [(h1, .inr (1, [.int cd, .int (nI Wd), .int (nI Ht), .ref b_wall, .int rs, .int (nI Pn), .ref b_px, .ref b_py, .ref b_loss, .ref b_reached, .int jc, .ref b_order, .ref b_upper, .ref b_length, .ref b_heads, .ref b_turn])), (b_wall, .inl (cZ, 256, .inl g_wall)), (b_px, .inl (cI, 12, .inl g_px)), (b_py, .inl (cI, 12, .inl g_py)), (b_loss, .inl (cI, 13, .inl g_loss)), (b_reached, .inl (cI, 256, .inl g_reached)), (b_order, .inl (cI, 12, .inl g_order)), (b_upper, .inl (cI, 12, .inl g_upper)), (b_length, .inl (cI, 12, .inl g_length)), (b_heads, .inl (cI, 12, .inl g_heads)), (b_turn, .inl (cI, 12, .inl g_turn))] [(cZ, .boolean), (cI, .int)] sz)) (va_Qi (fun (r : Int32) (_ : Unit) => True) (fun _ => xo (dC, dI) snC [(h1, .inr (1, [.int 1, .int (nI Wd), .int (nI Ht), .ref b_wall, .int rs, .int (nI Pn), .ref b_px, .ref b_py, .ref b_loss, .ref b_reached, .int jc, .ref b_order, .ref b_upper, .ref b_length, .ref b_heads, .ref b_turn])), (b_wall, .inl (cZ, 256, .inl g_wall)), (b_px, .inl (cI, 12, .inl g_px)), (b_py, .inl (cI, 12, .inl g_py)), (b_loss, .inl (cI, 13, .inl g_loss)), (b_reached, .inl (cI, 256, .inl g_reached)), (b_order, .inl (cI, 12, .inl g_order)), (b_upper, .inl (cI, 12, .inl g_upper)), (b_length, .inl (cI, 12, .inl g_length)), (b_heads, .inl (cI, 12, .inl g_heads)), (b_turn, .inl (cI, 12, .inl g_turn))] [(cZ, .boolean), (cI, .int)] (va_A [(h1, .inr (1, [.int cd, .int (nI Wd), .int (nI Ht), .ref b_wall, .int rs, .int (nI Pn), .ref b_px, .ref b_py, .ref b_loss, .ref b_reached, .int jc, .ref b_order, .ref b_upper, .ref b_length, .ref b_heads, .ref b_turn])), (b_wall, .inl (cZ, 256, .inl g_wall)), (b_px, .inl (cI, 12, .inl g_px)), (b_py, .inl (cI, 12, .inl g_py)), (b_loss, .inl (cI, 13, .inl g_loss)), (b_reached, .inl (cI, 256, .inl g_reached)), (b_order, .inl (cI, 12, .inl g_order)), (b_upper, .inl (cI, 12, .inl g_upper)), (b_length, .inl (cI, 12, .inl g_length)), (b_heads, .inl (cI, 12, .inl g_heads)), (b_turn, .inl (cI, 12, .inl g_turn))] sz)) (va_A [(h1, .inr (1, [.int cd, .int (nI Wd), .int (nI Ht), .ref b_wall, .int rs, .int (nI Pn), .ref b_px, .ref b_py, .ref b_loss, .ref b_reached, .int jc, .ref b_order, .ref b_upper, .ref b_length, .ref b_heads, .ref b_turn])), (b_wall, .inl (cZ, 256, .inl g_wall)), (b_px, .inl (cI, 12, .inl g_px)), (b_py, .inl (cI, 12, .inl g_py)), (b_loss, .inl (cI, 13, .inl g_loss)), (b_reached, .inl (cI, 256, .inl g_reached)), (b_order, .inl (cI, 12, .inl g_order)), (b_upper, .inl (cI, 12, .inl g_upper)), (b_length, .inl (cI, 12, .inl g_length)), (b_heads, .inl (cI, 12, .inl g_heads)), (b_turn, .inl (cI, 12, .inl g_turn))] sz)) 0 0 (va_A [(h1, .inr (1, [.int cd, .int (nI Wd), .int (nI Ht), .ref b_wall, .int rs, .int (nI Pn), .ref b_px, .ref b_py, .ref b_loss, .ref b_reached, .int jc, .ref b_order, .ref b_upper, .ref b_length, .ref b_heads, .ref b_turn])), (b_wall, .inl (cZ, 256, .inl g_wall)), (b_px, .inl (cI, 12, .inl g_px)), (b_py, .inl (cI, 12, .inl g_py)), (b_loss, .inl (cI, 13, .inl g_loss)), (b_reached, .inl (cI, 256, .inl g_reached)), (b_order, .inl (cI, 12, .inl g_order)), (b_upper, .inl (cI, 12, .inl g_upper)), (b_length, .inl (cI, 12, .inl g_length)), (b_heads, .inl (cI, 12, .inl g_heads)), (b_turn, .inl (cI, 12, .inl g_turn))] sz) := by
  refine Met.ofW (cc := bM_reach) (maxL := 3) (ret := (some .int)) (by decide) rfl ?_
  intro p e s m args below meth c s₁ B hml hv
  obtain ⟨rfl, hsz, hP, hK, hD0⟩ := hv
  have hx := B.exec
  have hb := B.bytes
  have hr := B.returns
  have hts : ∀ w ∈ WD, w.before _ s = true := fun w h => atoms_spec (ws := kM_reach :: WD) B.pre w (List.mem_cons_of_mem _ h)
  have hown : s.vm.findClass R_M = some m.cls := findClass_of_methodNamed B.named
  have hlocks := B.notSynchronized
  subst hsz
  have hD := hD0.self (sz := s.heap.size)
  generalize hAe : va_A [(h1, .inr (1, [.int cd, .int (nI Wd), .int (nI Ht), .ref b_wall, .int rs, .int (nI Pn), .ref b_px, .ref b_py, .ref b_loss, .ref b_reached, .int jc, .ref b_order, .ref b_upper, .ref b_length, .ref b_heads, .ref b_turn])), (b_wall, .inl (cZ, 256, .inl g_wall)), (b_px, .inl (cI, 12, .inl g_px)), (b_py, .inl (cI, 12, .inl g_py)), (b_loss, .inl (cI, 13, .inl g_loss)), (b_reached, .inl (cI, 256, .inl g_reached)), (b_order, .inl (cI, 12, .inl g_order)), (b_upper, .inl (cI, 12, .inl g_upper)), (b_length, .inl (cI, 12, .inl g_length)), (b_heads, .inl (cI, 12, .inl g_heads)), (b_turn, .inl (cI, 12, .inl g_turn))] s.heap.size = A at hD ⊢
  have hA : ∀ q : Nat, s.heap.size ≤ q → A q := fun q h => by rw [← hAe]; exact Or.inr h
  have hS : va_S A s.heap s.heap [] := va_S.rf
  have hl := lv_entry ([.ref h1, .int x]) (n := 3) (Nat.le_of_ble_eq_true rfl)
  rw [lg_entry_eq]
  generalize (lg_sl ([.ref h1, .int x]) ++ List.replicate (3 - (lg_sl ([.ref h1, .int x])).length) Slot.unset).toArray = ls at hl ⊢
  have hl : lv_has ls 3 [(0, .ref h1), (1, .int x)] := hl
  refine lv_aload_n hx hb dM_reach_0 rfl (lv_at hl 0 rfl) ?_
  refine lv_iload_n hx hb dM_reach_1 rfl (lv_at hl 1 rfl) ?_
  refine lv_iconst (v := 1) hx hb dM_reach_2 (by decide) ?_
  refine lv_icmp_lt (tgt := 17) hx hb dM_reach_3 (by decide) (fun c_1 => ?_) (fun c_1 => ?_)
  · refine lv_iconst (v := 1) hx hb dM_reach_17 (by decide) ?_
    refine va_put (D := (dC, dI)) (ci := 1) (v := .int 1) (ty := .int) (C := R_M) (T := T_M) (N := 16) hx hb hts in_M t_M tok_M n_M hown hK hP hD hS 0 rfl rfl 0 (by decide) (hts _ flM51) (fun _ h9 => h9) rfl (by decide +kernel) rfl rfl (Nat.le_of_ble_eq_true rfl) dM_reach_18 (fun H locs hP hD hS => ?_)
    have hP : va_P (dC, dI) snC [(h1, .inr (1, [.int 1, .int (nI Wd), .int (nI Ht), .ref b_wall, .int rs, .int (nI Pn), .ref b_px, .ref b_py, .ref b_loss, .ref b_reached, .int jc, .ref b_order, .ref b_upper, .ref b_length, .ref b_heads, .ref b_turn])), (b_wall, .inl (cZ, 256, .inl g_wall)), (b_px, .inl (cI, 12, .inl g_px)), (b_py, .inl (cI, 12, .inl g_py)), (b_loss, .inl (cI, 13, .inl g_loss)), (b_reached, .inl (cI, 256, .inl g_reached)), (b_order, .inl (cI, 12, .inl g_order)), (b_upper, .inl (cI, 12, .inl g_upper)), (b_length, .inl (cI, 12, .inl g_length)), (b_heads, .inl (cI, 12, .inl g_heads)), (b_turn, .inl (cI, 12, .inl g_turn))] H := hP
    have hD : va_D A [(h1, .inr (1, [.int 1, .int (nI Wd), .int (nI Ht), .ref b_wall, .int rs, .int (nI Pn), .ref b_px, .ref b_py, .ref b_loss, .ref b_reached, .int jc, .ref b_order, .ref b_upper, .ref b_length, .ref b_heads, .ref b_turn])), (b_wall, .inl (cZ, 256, .inl g_wall)), (b_px, .inl (cI, 12, .inl g_px)), (b_py, .inl (cI, 12, .inl g_py)), (b_loss, .inl (cI, 13, .inl g_loss)), (b_reached, .inl (cI, 256, .inl g_reached)), (b_order, .inl (cI, 12, .inl g_order)), (b_upper, .inl (cI, 12, .inl g_upper)), (b_length, .inl (cI, 12, .inl g_length)), (b_heads, .inl (cI, 12, .inl g_heads)), (b_turn, .inl (cI, 12, .inl g_turn))] := hD
    refine lv_aload_n hx hb dM_reach_21 rfl (lv_at hl 0 rfl) ?_
    refine va_get (D := (dC, dI)) (ci := 1) (v := .int 1) (C := R_M) (T := T_M) (N := 16) hx hb hts in_M hown hK hP 0 rfl rfl 0 (by decide) (hts _ flM51) (fun _ h9 => h9) rfl dM_reach_22 ?_
    refine lv_if_le (tgt := 30) hx hb dM_reach_25 (by decide) (fun c_2 => ?_) (fun c_2 => ?_)
    · exact absurd c_2 (by decide)
    · refine lv_iconst (v := 0) hx hb dM_reach_28 (by decide) ?_
      exact W.iret (v := 0) hx hb hr (fun t ht hW => ⟨⟨0, (), rfl, trivial, by rw [ht]; exact hP, va_K.moved hW.alike hK, hD⟩, hS.F ht⟩) hS.2.2 dM_reach_29
  · refine lv_iload_n hx hb dM_reach_6 rfl (lv_at hl 1 rfl) ?_
    refine lv_sipush (v := 400) hx hb dM_reach_7 (by decide) ?_
    refine lv_icmp_gt (tgt := 17) hx hb dM_reach_10 (by decide) (fun c_3 => ?_) (fun c_3 => ?_)
    · refine lv_iconst (v := 1) hx hb dM_reach_17 (by decide) ?_
      refine va_put (D := (dC, dI)) (ci := 1) (v := .int 1) (ty := .int) (C := R_M) (T := T_M) (N := 16) hx hb hts in_M t_M tok_M n_M hown hK hP hD hS 0 rfl rfl 0 (by decide) (hts _ flM51) (fun _ h9 => h9) rfl (by decide +kernel) rfl rfl (Nat.le_of_ble_eq_true rfl) dM_reach_18 (fun H locs hP hD hS => ?_)
      have hP : va_P (dC, dI) snC [(h1, .inr (1, [.int 1, .int (nI Wd), .int (nI Ht), .ref b_wall, .int rs, .int (nI Pn), .ref b_px, .ref b_py, .ref b_loss, .ref b_reached, .int jc, .ref b_order, .ref b_upper, .ref b_length, .ref b_heads, .ref b_turn])), (b_wall, .inl (cZ, 256, .inl g_wall)), (b_px, .inl (cI, 12, .inl g_px)), (b_py, .inl (cI, 12, .inl g_py)), (b_loss, .inl (cI, 13, .inl g_loss)), (b_reached, .inl (cI, 256, .inl g_reached)), (b_order, .inl (cI, 12, .inl g_order)), (b_upper, .inl (cI, 12, .inl g_upper)), (b_length, .inl (cI, 12, .inl g_length)), (b_heads, .inl (cI, 12, .inl g_heads)), (b_turn, .inl (cI, 12, .inl g_turn))] H := hP
      have hD : va_D A [(h1, .inr (1, [.int 1, .int (nI Wd), .int (nI Ht), .ref b_wall, .int rs, .int (nI Pn), .ref b_px, .ref b_py, .ref b_loss, .ref b_reached, .int jc, .ref b_order, .ref b_upper, .ref b_length, .ref b_heads, .ref b_turn])), (b_wall, .inl (cZ, 256, .inl g_wall)), (b_px, .inl (cI, 12, .inl g_px)), (b_py, .inl (cI, 12, .inl g_py)), (b_loss, .inl (cI, 13, .inl g_loss)), (b_reached, .inl (cI, 256, .inl g_reached)), (b_order, .inl (cI, 12, .inl g_order)), (b_upper, .inl (cI, 12, .inl g_upper)), (b_length, .inl (cI, 12, .inl g_length)), (b_heads, .inl (cI, 12, .inl g_heads)), (b_turn, .inl (cI, 12, .inl g_turn))] := hD
      refine lv_aload_n hx hb dM_reach_21 rfl (lv_at hl 0 rfl) ?_
      refine va_get (D := (dC, dI)) (ci := 1) (v := .int 1) (C := R_M) (T := T_M) (N := 16) hx hb hts in_M hown hK hP 0 rfl rfl 0 (by decide) (hts _ flM51) (fun _ h9 => h9) rfl dM_reach_22 ?_
      refine lv_if_le (tgt := 30) hx hb dM_reach_25 (by decide) (fun c_4 => ?_) (fun c_4 => ?_)
      · exact absurd c_4 (by decide)
      · refine lv_iconst (v := 0) hx hb dM_reach_28 (by decide) ?_
        exact W.iret (v := 0) hx hb hr (fun t ht hW => ⟨⟨0, (), rfl, trivial, by rw [ht]; exact hP, va_K.moved hW.alike hK, hD⟩, hS.F ht⟩) hS.2.2 dM_reach_29
    · exact absurd hno (by simp [sn_rok, Int32.not_lt.mp c_3, *])
set_option maxHeartbeats 4000000 in
set_option maxRecDepth 100000 in
theorem cM_place (l : Launch) (dC : Nat → ClassId) (dI : Nat → Nat → Nat) (h1 b_wall b_px b_py b_loss b_reached b_order b_upper b_length b_heads b_turn : Nat) (cd : Int32) (Wd Ht Pn : Nat) (rs jc : Int32) (cZ cI : ClassId) (g_wall g_px g_py g_loss g_reached g_order g_upper g_length g_heads g_turn : Nat → Int32) (a b : Nat) (sz : Nat) (hW : Wd ≤ 16) (hH : Ht ≤ 16) (ha : a < Wd) (hb0 : b < Ht) (hPn : Pn ≤ 12) (hPl : Pn < 12) (hth : md_th g_px g_py (nI a) (nI b) Pn 0 false = false) (hfr : md_free g_wall a b = true) : Met l yM_place (kM_place :: WD) { frames := 1, cells := 0, slots := 0, locals := 22 } (va_Pc [.ref h1, .int (nI a), .int (nI b)] (xm (dC, dI) snC [(h1, .inr (1, [.int cd, .int (nI Wd), .int (nI Ht), .ref b_wall, .int rs, .int (nI Pn), .ref b_px, .ref b_py, .ref b_loss, .ref b_reached, .int jc, .ref b_order, .ref b_upper, .ref b_length, .ref b_heads, .ref b_turn])), (b_wall, .inl (cZ, 256, .inl g_wall)), (b_px, .inl (cI, 12, .inl g_px)), (b_py, .inl (cI, 12, .inl g_py)), (b_loss, .inl (cI, 13, .inl g_loss)), (b_reached, .inl (cI, 256, .inl g_reached)), (b_order, .inl (cI, 12, .inl g_order)), (b_upper, .inl (cI, 12, .inl g_upper)), (b_length, .inl (cI, 12, .inl g_length)), (b_heads, .inl (cI, 12, .inl g_heads)), (b_turn, .inl (cI, 12, .inl g_turn))] [(cZ, .boolean), (cI, .int)] sz)) (va_Qi (fun (r : Int32) (_ : Unit) => r = nI Pn) (fun _ => xo (dC, dI) snC [(h1, .inr (1, [.int 0, .int (nI Wd), .int (nI Ht), .ref b_wall, .int rs, .int (nI (Pn + 1)), .ref b_px, .ref b_py, .ref b_loss, .ref b_reached, .int jc, .ref b_order, .ref b_upper, .ref b_length, .ref b_heads, .ref b_turn])), (b_wall, .inl (cZ, 256, .inl g_wall)), (b_px, .inl (cI, 12, .inl (upd g_px Pn (nI a)))), (b_py, .inl (cI, 12, .inl (upd g_py Pn (nI b)))), (b_loss, .inl (cI, 13, .inl g_loss)), (b_reached, .inl (cI, 256, .inl g_reached)), (b_order, .inl (cI, 12, .inl g_order)), (b_upper, .inl (cI, 12, .inl g_upper)), (b_length, .inl (cI, 12, .inl g_length)), (b_heads, .inl (cI, 12, .inl g_heads)), (b_turn, .inl (cI, 12, .inl g_turn))] [(cZ, .boolean), (cI, .int)] (va_A [(h1, .inr (1, [.int cd, .int (nI Wd), .int (nI Ht), .ref b_wall, .int rs, .int (nI Pn), .ref b_px, .ref b_py, .ref b_loss, .ref b_reached, .int jc, .ref b_order, .ref b_upper, .ref b_length, .ref b_heads, .ref b_turn])), (b_wall, .inl (cZ, 256, .inl g_wall)), (b_px, .inl (cI, 12, .inl g_px)), (b_py, .inl (cI, 12, .inl g_py)), (b_loss, .inl (cI, 13, .inl g_loss)), (b_reached, .inl (cI, 256, .inl g_reached)), (b_order, .inl (cI, 12, .inl g_order)), (b_upper, .inl (cI, 12, .inl g_upper)), (b_length, .inl (cI, 12, .inl g_length)), (b_heads, .inl (cI, 12, .inl g_heads)), (b_turn, .inl (cI, 12, .inl g_turn))] sz)) (va_A [(h1, .inr (1, [.int cd, .int (nI Wd), .int (nI Ht), .ref b_wall, .int rs, .int (nI Pn), .ref b_px, .ref b_py, .ref b_loss, .ref b_reached, .int jc, .ref b_order, .ref b_upper, .ref b_length, .ref b_heads, .ref b_turn])), (b_wall, .inl (cZ, 256, .inl g_wall)), (b_px, .inl (cI, 12, .inl g_px)), (b_py, .inl (cI, 12, .inl g_py)), (b_loss, .inl (cI, 13, .inl g_loss)), (b_reached, .inl (cI, 256, .inl g_reached)), (b_order, .inl (cI, 12, .inl g_order)), (b_upper, .inl (cI, 12, .inl g_upper)), (b_length, .inl (cI, 12, .inl g_length)), (b_heads, .inl (cI, 12, .inl g_heads)), (b_turn, .inl (cI, 12, .inl g_turn))] sz)) 0 0 (va_A [(h1, .inr (1, [.int cd, .int (nI Wd), .int (nI Ht), .ref b_wall, .int rs, .int (nI Pn), .ref b_px, .ref b_py, .ref b_loss, .ref b_reached, .int jc, .ref b_order, .ref b_upper, .ref b_length, .ref b_heads, .ref b_turn])), (b_wall, .inl (cZ, 256, .inl g_wall)), (b_px, .inl (cI, 12, .inl g_px)), (b_py, .inl (cI, 12, .inl g_py)), (b_loss, .inl (cI, 13, .inl g_loss)), (b_reached, .inl (cI, 256, .inl g_reached)), (b_order, .inl (cI, 12, .inl g_order)), (b_upper, .inl (cI, 12, .inl g_upper)), (b_length, .inl (cI, 12, .inl g_length)), (b_heads, .inl (cI, 12, .inl g_heads)), (b_turn, .inl (cI, 12, .inl g_turn))] sz) := by
  refine Met.ofW (cc := bM_place) (maxL := 5) (ret := (some .int)) (by decide) rfl ?_
  intro p e s m args below meth c s₁ B hml hv
  obtain ⟨rfl, hsz, hP, hK, hD0⟩ := hv
  have hx := B.exec
  have hb := B.bytes
  have hr := B.returns
  have hts : ∀ w ∈ WD, w.before _ s = true := fun w h => atoms_spec (ws := kM_place :: WD) B.pre w (List.mem_cons_of_mem _ h)
  have hown : s.vm.findClass R_M = some m.cls := findClass_of_methodNamed B.named
  have hlocks := B.notSynchronized
  subst hsz
  have hD := hD0.self (sz := s.heap.size)
  generalize hAe : va_A [(h1, .inr (1, [.int cd, .int (nI Wd), .int (nI Ht), .ref b_wall, .int rs, .int (nI Pn), .ref b_px, .ref b_py, .ref b_loss, .ref b_reached, .int jc, .ref b_order, .ref b_upper, .ref b_length, .ref b_heads, .ref b_turn])), (b_wall, .inl (cZ, 256, .inl g_wall)), (b_px, .inl (cI, 12, .inl g_px)), (b_py, .inl (cI, 12, .inl g_py)), (b_loss, .inl (cI, 13, .inl g_loss)), (b_reached, .inl (cI, 256, .inl g_reached)), (b_order, .inl (cI, 12, .inl g_order)), (b_upper, .inl (cI, 12, .inl g_upper)), (b_length, .inl (cI, 12, .inl g_length)), (b_heads, .inl (cI, 12, .inl g_heads)), (b_turn, .inl (cI, 12, .inl g_turn))] s.heap.size = A at hD ⊢
  have hA : ∀ q : Nat, s.heap.size ≤ q → A q := fun q h => by rw [← hAe]; exact Or.inr h
  have hS : va_S A s.heap s.heap [] := va_S.rf
  have hl := lv_entry ([.ref h1, .int (nI a), .int (nI b)]) (n := 5) (Nat.le_of_ble_eq_true rfl)
  rw [lg_entry_eq]
  generalize (lg_sl ([.ref h1, .int (nI a), .int (nI b)]) ++ List.replicate (5 - (lg_sl ([.ref h1, .int (nI a), .int (nI b)])).length) Slot.unset).toArray = ls at hl ⊢
  have hl : lv_has ls 5 [(0, .ref h1), (1, .int (nI a)), (2, .int (nI b))] := hl
  have hok := sn_in_nI hW hH ha hb0
  have lp32 : ∀ (k n : Nat) (i : Nat) (s1 : Bool), n < k → i + n = Pn → md_th g_px g_py (nI a) (nI b) n i s1 = md_th g_px g_py (nI a) (nI b) Pn 0 false → ∀ (H : Heap) (locs : List Loc), va_P (dC, dI) snC [(h1, .inr (1, [.int 0, .int (nI Wd), .int (nI Ht), .ref b_wall, .int rs, .int (nI Pn), .ref b_px, .ref b_py, .ref b_loss, .ref b_reached, .int jc, .ref b_order, .ref b_upper, .ref b_length, .ref b_heads, .ref b_turn])), (b_wall, .inl (cZ, 256, .inl g_wall)), (b_px, .inl (cI, 12, .inl g_px)), (b_py, .inl (cI, 12, .inl g_py)), (b_loss, .inl (cI, 13, .inl g_loss)), (b_reached, .inl (cI, 256, .inl g_reached)), (b_order, .inl (cI, 12, .inl g_order)), (b_upper, .inl (cI, 12, .inl g_upper)), (b_length, .inl (cI, 12, .inl g_length)), (b_heads, .inl (cI, 12, .inl g_heads)), (b_turn, .inl (cI, 12, .inl g_turn))] H → va_D A [(h1, .inr (1, [.int 0, .int (nI Wd), .int (nI Ht), .ref b_wall, .int rs, .int (nI Pn), .ref b_px, .ref b_py, .ref b_loss, .ref b_reached, .int jc, .ref b_order, .ref b_upper, .ref b_length, .ref b_heads, .ref b_turn])), (b_wall, .inl (cZ, 256, .inl g_wall)), (b_px, .inl (cI, 12, .inl g_px)), (b_py, .inl (cI, 12, .inl g_py)), (b_loss, .inl (cI, 13, .inl g_loss)), (b_reached, .inl (cI, 256, .inl g_reached)), (b_order, .inl (cI, 12, .inl g_order)), (b_upper, .inl (cI, 12, .inl g_upper)), (b_length, .inl (cI, 12, .inl g_length)), (b_heads, .inl (cI, 12, .inl g_heads)), (b_turn, .inl (cI, 12, .inl g_turn))] → va_S A s.heap H locs → ∀ ls : Array Slot, lv_has ls 5 [(4, .int (nI i)), (3, .int (bz s1)), (0, .ref h1), (1, .int (nI a)), (2, .int (nI b))] → W p l e (headSpec (kM_place :: WD) { frames := 1, cells := 0, slots := 0, locals := 22 }).room s m ([.ref h1, .int (nI a), .int (nI b)]).toArray below meth c H locs 0 0 (MQ below (va_Qi (fun (r : Int32) (_ : Unit) => r = nI Pn) (fun _ => xo (dC, dI) snC [(h1, .inr (1, [.int 0, .int (nI Wd), .int (nI Ht), .ref b_wall, .int rs, .int (nI (Pn + 1)), .ref b_px, .ref b_py, .ref b_loss, .ref b_reached, .int jc, .ref b_order, .ref b_upper, .ref b_length, .ref b_heads, .ref b_turn])), (b_wall, .inl (cZ, 256, .inl g_wall)), (b_px, .inl (cI, 12, .inl (upd g_px Pn (nI a)))), (b_py, .inl (cI, 12, .inl (upd g_py Pn (nI b)))), (b_loss, .inl (cI, 13, .inl g_loss)), (b_reached, .inl (cI, 256, .inl g_reached)), (b_order, .inl (cI, 12, .inl g_order)), (b_upper, .inl (cI, 12, .inl g_upper)), (b_length, .inl (cI, 12, .inl g_length)), (b_heads, .inl (cI, 12, .inl g_heads)), (b_turn, .inl (cI, 12, .inl g_turn))] [(cZ, .boolean), (cI, .int)] A) A) ([.ref h1, .int (nI a), .int (nI b)]).toArray s 0 0 (A)) (F0 m 32 ls []) := by
    intro k
    induction k with
    | zero => exact fun n _ _ h => absurd h (Nat.not_lt_zero n)
    | succ k ih =>
      intro n i s1 hk hin hT H locs hP hD hS ls hl
      refine lv_iload hx hb dM_place_32 (lv_at hl 0 rfl) ?_
      refine lv_aload_n hx hb dM_place_34 rfl (lv_at hl 2 rfl) ?_
      refine va_get (D := (dC, dI)) (ci := 1) (v := .int (nI Pn)) (C := R_M) (T := T_M) (N := 16) hx hb hts in_M hown hK hP 0 rfl rfl 5 (by decide) (hts _ flM54) (fun _ h9 => h9) rfl dM_place_35 ?_
      refine lv_icmp_ge (tgt := 79) hx hb dM_place_38 (by decide) (fun c_1 => ?_) (fun c_1 => ?_)
      · have hz := (nI_leI (by omega) (by omega)).mp c_1
        obtain rfl : n = 0 := by omega
        have hts1 : s1 = md_th g_px g_py (nI a) (nI b) Pn 0 false := by rw [← hT]; simp [md_th]
        refine lv_aload_n hx hb dM_place_79 rfl (lv_at hl 2 rfl) ?_
        refine lv_iload_n hx hb dM_place_80 rfl (lv_at hl 1 rfl) ?_
        refine lv_if_ne (tgt := 102) hx hb dM_place_81 (by decide) (fun c_2 => ?_) (fun c_2 => ?_)
        · exact absurd (hts1.trans hth) (by rw [bz_1 c_2]; decide)
        · replace c_2 := bz_0 c_2
          refine lv_aload_n hx hb dM_place_84 rfl (lv_at hl 2 rfl) ?_
          refine lv_iload_n hx hb dM_place_85 rfl (lv_at hl 3 rfl) ?_
          refine lv_iload_n hx hb dM_place_86 rfl (lv_at hl 4 rfl) ?_
          refine xr_V (As := [.int (nI a), .int (nI b)]) ⟨hx, hb, hml, hown, hts⟩ (cM_isFree l dC dI h1 b_wall b_px b_py b_loss b_reached b_order b_upper b_length b_heads b_turn 0 Wd Ht Pn rs jc cZ g_wall a b (by omega) (by omega)) (cwV 2 hts gM61 rfl rfl rfl (by decide +kernel) ⟨Nat.le_of_ble_eq_true rfl, Nat.le_of_ble_eq_true rfl⟩) hK hP [0, 1] [0] rfl rfl 1 0 rfl rfl rfl rfl hl.1 rfl (Nat.le_of_ble_eq_true rfl) dM_place_87 ⟨Nat.le_of_ble_eq_true rfl, Nat.le_of_ble_eq_true rfl⟩ (fun r_3 hr_3 => ?_)
          subst hr_3
          refine lv_if_eq (tgt := 102) hx hb dM_place_90 (by decide) (fun c_4 => ?_) (fun c_4 => ?_)
          · exact absurd hfr (by rw [bz_0 c_4]; decide)
          · replace c_4 := bz_1 c_4
            refine lv_aload_n hx hb dM_place_93 rfl (lv_at hl 2 rfl) ?_
            refine va_get (D := (dC, dI)) (ci := 1) (v := .int (nI Pn)) (C := R_M) (T := T_M) (N := 16) hx hb hts in_M hown hK hP 0 rfl rfl 5 (by decide) (hts _ flM54) (fun _ h9 => h9) rfl dM_place_94 ?_
            refine lv_bipush (v := (nI 12)) hx hb dM_place_97 (by decide) ?_
            refine lv_icmp_ne (tgt := 106) hx hb dM_place_99 (by decide) (fun c_5 => ?_) (fun c_5 => ?_)
            · rw [nI_eq (by omega) (by omega)] at c_5
              refine lv_iconst (v := 0) hx hb dM_place_106 (by decide) ?_
              refine va_put (D := (dC, dI)) (ci := 1) (v := .int 0) (ty := .int) (C := R_M) (T := T_M) (N := 16) hx hb hts in_M t_M tok_M n_M hown hK hP hD hS 0 rfl rfl 0 (by decide) (hts _ flM51) (fun _ h9 => h9) rfl (by decide +kernel) rfl rfl (Nat.le_of_ble_eq_true rfl) dM_place_107 (fun H locs hP hD hS => ?_)
              have hP : va_P (dC, dI) snC [(h1, .inr (1, [.int 0, .int (nI Wd), .int (nI Ht), .ref b_wall, .int rs, .int (nI Pn), .ref b_px, .ref b_py, .ref b_loss, .ref b_reached, .int jc, .ref b_order, .ref b_upper, .ref b_length, .ref b_heads, .ref b_turn])), (b_wall, .inl (cZ, 256, .inl g_wall)), (b_px, .inl (cI, 12, .inl g_px)), (b_py, .inl (cI, 12, .inl g_py)), (b_loss, .inl (cI, 13, .inl g_loss)), (b_reached, .inl (cI, 256, .inl g_reached)), (b_order, .inl (cI, 12, .inl g_order)), (b_upper, .inl (cI, 12, .inl g_upper)), (b_length, .inl (cI, 12, .inl g_length)), (b_heads, .inl (cI, 12, .inl g_heads)), (b_turn, .inl (cI, 12, .inl g_turn))] H := hP
              have hD : va_D A [(h1, .inr (1, [.int 0, .int (nI Wd), .int (nI Ht), .ref b_wall, .int rs, .int (nI Pn), .ref b_px, .ref b_py, .ref b_loss, .ref b_reached, .int jc, .ref b_order, .ref b_upper, .ref b_length, .ref b_heads, .ref b_turn])), (b_wall, .inl (cZ, 256, .inl g_wall)), (b_px, .inl (cI, 12, .inl g_px)), (b_py, .inl (cI, 12, .inl g_py)), (b_loss, .inl (cI, 13, .inl g_loss)), (b_reached, .inl (cI, 256, .inl g_reached)), (b_order, .inl (cI, 12, .inl g_order)), (b_upper, .inl (cI, 12, .inl g_upper)), (b_length, .inl (cI, 12, .inl g_length)), (b_heads, .inl (cI, 12, .inl g_heads)), (b_turn, .inl (cI, 12, .inl g_turn))] := hD
              refine lv_aload_n hx hb dM_place_110 rfl (lv_at hl 2 rfl) ?_
              refine va_get (D := (dC, dI)) (ci := 1) (v := .int 0) (C := R_M) (T := T_M) (N := 16) hx hb hts in_M hown hK hP 0 rfl rfl 0 (by decide) (hts _ flM51) (fun _ h9 => h9) rfl dM_place_111 ?_
              refine lv_if_le (tgt := 119) hx hb dM_place_114 (by decide) (fun c_6 => ?_) (fun c_6 => ?_)
              · refine lv_aload_n hx hb dM_place_119 rfl (lv_at hl 2 rfl) ?_
                refine va_get (D := (dC, dI)) (ci := 1) (v := .ref b_px) (C := R_M) (T := T_M) (N := 16) hx hb hts in_M hown hK hP 0 rfl rfl 6 (by decide) (hts _ flM17) (fun _ h9 => h9) rfl dM_place_120 ?_
                refine lv_aload_n hx hb dM_place_123 rfl (lv_at hl 2 rfl) ?_
                refine va_get (D := (dC, dI)) (ci := 1) (v := .int (nI Pn)) (C := R_M) (T := T_M) (N := 16) hx hb hts in_M hown hK hP 0 rfl rfl 5 (by decide) (hts _ flM54) (fun _ h9 => h9) rfl dM_place_124 ?_
                refine lv_iload_n hx hb dM_place_127 rfl (lv_at hl 3 rfl) ?_
                refine xa_iast hx hb hK hP hD hS 2 1 rfl rfl (i := Pn) (x := nI a) (by omega) (by first | decide | omega) dM_place_128 (fun H locs hP hD hS => ?_)
                have hP : va_P (dC, dI) snC [(h1, .inr (1, [.int 0, .int (nI Wd), .int (nI Ht), .ref b_wall, .int rs, .int (nI Pn), .ref b_px, .ref b_py, .ref b_loss, .ref b_reached, .int jc, .ref b_order, .ref b_upper, .ref b_length, .ref b_heads, .ref b_turn])), (b_wall, .inl (cZ, 256, .inl g_wall)), (b_px, .inl (cI, 12, .inl (upd g_px Pn (nI a)))), (b_py, .inl (cI, 12, .inl g_py)), (b_loss, .inl (cI, 13, .inl g_loss)), (b_reached, .inl (cI, 256, .inl g_reached)), (b_order, .inl (cI, 12, .inl g_order)), (b_upper, .inl (cI, 12, .inl g_upper)), (b_length, .inl (cI, 12, .inl g_length)), (b_heads, .inl (cI, 12, .inl g_heads)), (b_turn, .inl (cI, 12, .inl g_turn))] H := hP
                have hD : va_D A [(h1, .inr (1, [.int 0, .int (nI Wd), .int (nI Ht), .ref b_wall, .int rs, .int (nI Pn), .ref b_px, .ref b_py, .ref b_loss, .ref b_reached, .int jc, .ref b_order, .ref b_upper, .ref b_length, .ref b_heads, .ref b_turn])), (b_wall, .inl (cZ, 256, .inl g_wall)), (b_px, .inl (cI, 12, .inl (upd g_px Pn (nI a)))), (b_py, .inl (cI, 12, .inl g_py)), (b_loss, .inl (cI, 13, .inl g_loss)), (b_reached, .inl (cI, 256, .inl g_reached)), (b_order, .inl (cI, 12, .inl g_order)), (b_upper, .inl (cI, 12, .inl g_upper)), (b_length, .inl (cI, 12, .inl g_length)), (b_heads, .inl (cI, 12, .inl g_heads)), (b_turn, .inl (cI, 12, .inl g_turn))] := hD
                refine lv_aload_n hx hb dM_place_129 rfl (lv_at hl 2 rfl) ?_
                refine va_get (D := (dC, dI)) (ci := 1) (v := .ref b_py) (C := R_M) (T := T_M) (N := 16) hx hb hts in_M hown hK hP 0 rfl rfl 7 (by decide) (hts _ flM21) (fun _ h9 => h9) rfl dM_place_130 ?_
                refine lv_aload_n hx hb dM_place_133 rfl (lv_at hl 2 rfl) ?_
                refine va_get (D := (dC, dI)) (ci := 1) (v := .int (nI Pn)) (C := R_M) (T := T_M) (N := 16) hx hb hts in_M hown hK hP 0 rfl rfl 5 (by decide) (hts _ flM54) (fun _ h9 => h9) rfl dM_place_134 ?_
                refine lv_iload_n hx hb dM_place_137 rfl (lv_at hl 4 rfl) ?_
                refine xa_iast hx hb hK hP hD hS 3 1 rfl rfl (i := Pn) (x := nI b) (by omega) (by first | decide | omega) dM_place_138 (fun H locs hP hD hS => ?_)
                have hP : va_P (dC, dI) snC [(h1, .inr (1, [.int 0, .int (nI Wd), .int (nI Ht), .ref b_wall, .int rs, .int (nI Pn), .ref b_px, .ref b_py, .ref b_loss, .ref b_reached, .int jc, .ref b_order, .ref b_upper, .ref b_length, .ref b_heads, .ref b_turn])), (b_wall, .inl (cZ, 256, .inl g_wall)), (b_px, .inl (cI, 12, .inl (upd g_px Pn (nI a)))), (b_py, .inl (cI, 12, .inl (upd g_py Pn (nI b)))), (b_loss, .inl (cI, 13, .inl g_loss)), (b_reached, .inl (cI, 256, .inl g_reached)), (b_order, .inl (cI, 12, .inl g_order)), (b_upper, .inl (cI, 12, .inl g_upper)), (b_length, .inl (cI, 12, .inl g_length)), (b_heads, .inl (cI, 12, .inl g_heads)), (b_turn, .inl (cI, 12, .inl g_turn))] H := hP
                have hD : va_D A [(h1, .inr (1, [.int 0, .int (nI Wd), .int (nI Ht), .ref b_wall, .int rs, .int (nI Pn), .ref b_px, .ref b_py, .ref b_loss, .ref b_reached, .int jc, .ref b_order, .ref b_upper, .ref b_length, .ref b_heads, .ref b_turn])), (b_wall, .inl (cZ, 256, .inl g_wall)), (b_px, .inl (cI, 12, .inl (upd g_px Pn (nI a)))), (b_py, .inl (cI, 12, .inl (upd g_py Pn (nI b)))), (b_loss, .inl (cI, 13, .inl g_loss)), (b_reached, .inl (cI, 256, .inl g_reached)), (b_order, .inl (cI, 12, .inl g_order)), (b_upper, .inl (cI, 12, .inl g_upper)), (b_length, .inl (cI, 12, .inl g_length)), (b_heads, .inl (cI, 12, .inl g_heads)), (b_turn, .inl (cI, 12, .inl g_turn))] := hD
                refine lv_aload_n hx hb dM_place_139 rfl (lv_at hl 2 rfl) ?_
                refine lv_dup hx hb dM_place_140 rfl ?_
                refine va_get (D := (dC, dI)) (ci := 1) (v := .int (nI Pn)) (C := R_M) (T := T_M) (N := 16) hx hb hts in_M hown hK hP 0 rfl rfl 5 (by decide) (hts _ flM54) (fun _ h9 => h9) rfl dM_place_141 ?_
                refine lv_iconst (v := 1) hx hb dM_place_144 (by decide) ?_
                refine lv_iadd hx hb dM_place_145 ?_
                rw [show ((nI Pn) + 1 : Int32) = nI (Pn + 1) from (nI_1 Pn)]
                refine va_put (D := (dC, dI)) (ci := 1) (v := .int (nI (Pn + 1))) (ty := .int) (C := R_M) (T := T_M) (N := 16) hx hb hts in_M t_M tok_M n_M hown hK hP hD hS 0 rfl rfl 5 (by decide) (hts _ flM54) (fun _ h9 => h9) rfl (by decide +kernel) rfl rfl (Nat.le_of_ble_eq_true rfl) dM_place_146 (fun H locs hP hD hS => ?_)
                have hP : va_P (dC, dI) snC [(h1, .inr (1, [.int 0, .int (nI Wd), .int (nI Ht), .ref b_wall, .int rs, .int (nI (Pn + 1)), .ref b_px, .ref b_py, .ref b_loss, .ref b_reached, .int jc, .ref b_order, .ref b_upper, .ref b_length, .ref b_heads, .ref b_turn])), (b_wall, .inl (cZ, 256, .inl g_wall)), (b_px, .inl (cI, 12, .inl (upd g_px Pn (nI a)))), (b_py, .inl (cI, 12, .inl (upd g_py Pn (nI b)))), (b_loss, .inl (cI, 13, .inl g_loss)), (b_reached, .inl (cI, 256, .inl g_reached)), (b_order, .inl (cI, 12, .inl g_order)), (b_upper, .inl (cI, 12, .inl g_upper)), (b_length, .inl (cI, 12, .inl g_length)), (b_heads, .inl (cI, 12, .inl g_heads)), (b_turn, .inl (cI, 12, .inl g_turn))] H := hP
                have hD : va_D A [(h1, .inr (1, [.int 0, .int (nI Wd), .int (nI Ht), .ref b_wall, .int rs, .int (nI (Pn + 1)), .ref b_px, .ref b_py, .ref b_loss, .ref b_reached, .int jc, .ref b_order, .ref b_upper, .ref b_length, .ref b_heads, .ref b_turn])), (b_wall, .inl (cZ, 256, .inl g_wall)), (b_px, .inl (cI, 12, .inl (upd g_px Pn (nI a)))), (b_py, .inl (cI, 12, .inl (upd g_py Pn (nI b)))), (b_loss, .inl (cI, 13, .inl g_loss)), (b_reached, .inl (cI, 256, .inl g_reached)), (b_order, .inl (cI, 12, .inl g_order)), (b_upper, .inl (cI, 12, .inl g_upper)), (b_length, .inl (cI, 12, .inl g_length)), (b_heads, .inl (cI, 12, .inl g_heads)), (b_turn, .inl (cI, 12, .inl g_turn))] := hD
                refine lv_aload_n hx hb dM_place_149 rfl (lv_at hl 2 rfl) ?_
                refine va_get (D := (dC, dI)) (ci := 1) (v := .int (nI (Pn + 1))) (C := R_M) (T := T_M) (N := 16) hx hb hts in_M hown hK hP 0 rfl rfl 5 (by decide) (hts _ flM54) (fun _ h9 => h9) rfl dM_place_150 ?_
                refine lv_iconst (v := 1) hx hb dM_place_153 (by decide) ?_
                refine lv_isub hx hb dM_place_154 ?_
                rw [show ((nI (Pn + 1)) - 1 : Int32) = nI Pn from (nI_pred Pn)]
                exact W.iret (v := nI Pn) hx hb hr (fun t ht hW => ⟨⟨nI Pn, (), rfl, rfl, by rw [ht]; exact hP, va_K.moved hW.alike hK, hD⟩, hS.F ht⟩) hS.2.2 dM_place_155
              · exact absurd c_6 (by decide)
            · exact absurd ((nI_eq (by omega) (by omega)).mp c_5) (by omega)
      · have hz : i < Pn := by have h9 := mt (nI_leI (by omega) (by omega)).mpr c_1; omega
        obtain ⟨n, rfl⟩ : ∃ n', n = n' + 1 := ⟨n - 1, by omega⟩
        refine lv_iload_n hx hb dM_place_41 rfl (lv_at hl 1 rfl) ?_
        refine lv_if_ne (tgt := 67) hx hb dM_place_42 (by decide) (fun c_7 => ?_) (fun c_7 => ?_)
        · replace c_7 := bz_1 c_7
          refine lv_iconst (v := 1) hx hb dM_place_67 (by decide) ?_
          refine lv_goto (tgt := 72) hx hb dM_place_68 (by decide) ?_
          refine lv_topi (fun y_8 ey_8 => ?_)
          obtain rfl : y_8 = bz true := ey_8.trans rfl
          refine lv_istore_n (lv' := [(3, .int (bz true)), (4, .int (nI i)), (0, .ref h1), (1, .int (nI a)), (2, .int (nI b))]) hx hb dM_place_72 rfl hl (by decide) rfl (fun ls hl => ?_)
          refine lv_iinc (v := (nI (i + 1))) (lv' := [(4, .int (nI (i + 1))), (3, .int (bz true)), (0, .ref h1), (1, .int (nI a)), (2, .int (nI b))]) hx hb dM_place_73 hl (k := 1) rfl (nI_1 i) (by decide) rfl (fun ls hl => ?_)
          refine lv_goto (tgt := 32) hx hb dM_place_76 (by decide) ?_
          exact ih n (i + 1) true (by omega) (by omega) (by rw [← hT]; simp [md_th, c_1, c_7]) _ _ hP hD hS ls (lv_sub hl [0, 1, 2, 3, 4] rfl)
        · replace c_7 := bz_0 c_7
          refine lv_aload_n hx hb dM_place_45 rfl (lv_at hl 2 rfl) ?_
          refine va_get (D := (dC, dI)) (ci := 1) (v := .ref b_px) (C := R_M) (T := T_M) (N := 16) hx hb hts in_M hown hK hP 0 rfl rfl 6 (by decide) (hts _ flM17) (fun _ h9 => h9) rfl dM_place_46 ?_
          refine lv_iload hx hb dM_place_49 (lv_at hl 0 rfl) ?_
          refine xa_iald hx hb hK hP 2 1 rfl rfl (i := i) (by omega) (by first | decide | omega) dM_place_51 ?_
          refine lv_iload_n hx hb dM_place_52 rfl (lv_at hl 3 rfl) ?_
          refine lv_icmp_ne (tgt := 71) hx hb dM_place_53 (by decide) (fun c_9 => ?_) (fun c_9 => ?_)
          · refine lv_iconst (v := 0) hx hb dM_place_71 (by decide) ?_
            refine lv_topi (fun y_10 ey_10 => ?_)
            obtain rfl : y_10 = bz false := ey_10.trans rfl
            refine lv_istore_n (lv' := [(3, .int (bz false)), (4, .int (nI i)), (0, .ref h1), (1, .int (nI a)), (2, .int (nI b))]) hx hb dM_place_72 rfl hl (by decide) rfl (fun ls hl => ?_)
            refine lv_iinc (v := (nI (i + 1))) (lv' := [(4, .int (nI (i + 1))), (3, .int (bz false)), (0, .ref h1), (1, .int (nI a)), (2, .int (nI b))]) hx hb dM_place_73 hl (k := 1) rfl (nI_1 i) (by decide) rfl (fun ls hl => ?_)
            refine lv_goto (tgt := 32) hx hb dM_place_76 (by decide) ?_
            exact ih n (i + 1) false (by omega) (by omega) (by rw [← hT]; simp [md_th, c_1, c_7, c_9]) _ _ hP hD hS ls (lv_sub hl [0, 1, 2, 3, 4] rfl)
          · refine lv_aload_n hx hb dM_place_56 rfl (lv_at hl 2 rfl) ?_
            refine va_get (D := (dC, dI)) (ci := 1) (v := .ref b_py) (C := R_M) (T := T_M) (N := 16) hx hb hts in_M hown hK hP 0 rfl rfl 7 (by decide) (hts _ flM21) (fun _ h9 => h9) rfl dM_place_57 ?_
            refine lv_iload hx hb dM_place_60 (lv_at hl 0 rfl) ?_
            refine xa_iald hx hb hK hP 3 1 rfl rfl (i := i) (by omega) (by first | decide | omega) dM_place_62 ?_
            refine lv_iload_n hx hb dM_place_63 rfl (lv_at hl 4 rfl) ?_
            refine lv_icmp_ne (tgt := 71) hx hb dM_place_64 (by decide) (fun c_11 => ?_) (fun c_11 => ?_)
            · refine lv_iconst (v := 0) hx hb dM_place_71 (by decide) ?_
              refine lv_topi (fun y_12 ey_12 => ?_)
              obtain rfl : y_12 = bz false := ey_12.trans rfl
              refine lv_istore_n (lv' := [(3, .int (bz false)), (4, .int (nI i)), (0, .ref h1), (1, .int (nI a)), (2, .int (nI b))]) hx hb dM_place_72 rfl hl (by decide) rfl (fun ls hl => ?_)
              refine lv_iinc (v := (nI (i + 1))) (lv' := [(4, .int (nI (i + 1))), (3, .int (bz false)), (0, .ref h1), (1, .int (nI a)), (2, .int (nI b))]) hx hb dM_place_73 hl (k := 1) rfl (nI_1 i) (by decide) rfl (fun ls hl => ?_)
              refine lv_goto (tgt := 32) hx hb dM_place_76 (by decide) ?_
              exact ih n (i + 1) false (by omega) (by omega) (by rw [← hT]; simp [md_th, c_1, c_7, c_9, c_11]) _ _ hP hD hS ls (lv_sub hl [0, 1, 2, 3, 4] rfl)
            · refine lv_iconst (v := 1) hx hb dM_place_67 (by decide) ?_
              refine lv_goto (tgt := 72) hx hb dM_place_68 (by decide) ?_
              refine lv_topi (fun y_13 ey_13 => ?_)
              obtain rfl : y_13 = bz true := ey_13.trans rfl
              refine lv_istore_n (lv' := [(3, .int (bz true)), (4, .int (nI i)), (0, .ref h1), (1, .int (nI a)), (2, .int (nI b))]) hx hb dM_place_72 rfl hl (by decide) rfl (fun ls hl => ?_)
              refine lv_iinc (v := (nI (i + 1))) (lv' := [(4, .int (nI (i + 1))), (3, .int (bz true)), (0, .ref h1), (1, .int (nI a)), (2, .int (nI b))]) hx hb dM_place_73 hl (k := 1) rfl (nI_1 i) (by decide) rfl (fun ls hl => ?_)
              refine lv_goto (tgt := 32) hx hb dM_place_76 (by decide) ?_
              exact ih n (i + 1) true (by omega) (by omega) (by rw [← hT]; simp [md_th, c_1, c_7, c_9, c_11]) _ _ hP hD hS ls (lv_sub hl [0, 1, 2, 3, 4] rfl)
  refine lv_aload_n hx hb dM_place_0 rfl (lv_at hl 0 rfl) ?_
  refine lv_aload_n hx hb dM_place_1 rfl (lv_at hl 0 rfl) ?_
  refine lv_iload_n hx hb dM_place_2 rfl (lv_at hl 1 rfl) ?_
  refine lv_iload_n hx hb dM_place_3 rfl (lv_at hl 2 rfl) ?_
  refine xr_V (As := [.int (nI a), .int (nI b)]) ⟨hx, hb, hml, hown, hts⟩ (cM_isCell l dC dI h1 b_wall b_px b_py b_loss b_reached b_order b_upper b_length b_heads b_turn cd Wd Ht Pn rs jc (nI a) (nI b)) (cwV 2 hts gM57 rfl rfl rfl (by decide +kernel) ⟨Nat.le_of_ble_eq_true rfl, Nat.le_of_ble_eq_true rfl⟩) hK hP [0] [] rfl rfl 1 0 rfl rfl rfl rfl hl.1 rfl (Nat.le_of_ble_eq_true rfl) dM_place_4 ⟨Nat.le_of_ble_eq_true rfl, Nat.le_of_ble_eq_true rfl⟩ (fun r_1 hr_1 => ?_)
  subst hr_1
  refine lv_if_eq (tgt := 14) hx hb dM_place_7 (by decide) (fun c_2 => ?_) (fun c_2 => ?_)
  · exact absurd hok (by rw [bz_0 c_2]; decide)
  · replace c_2 := bz_1 c_2
    refine lv_iconst (v := 0) hx hb dM_place_10 (by decide) ?_
    refine lv_goto (tgt := 15) hx hb dM_place_11 (by decide) ?_
    refine va_put (D := (dC, dI)) (ci := 1) (v := .int 0) (ty := .int) (C := R_M) (T := T_M) (N := 16) hx hb hts in_M t_M tok_M n_M hown hK hP hD hS 0 rfl rfl 0 (by decide) (hts _ flM51) (fun _ h9 => h9) rfl (by decide +kernel) rfl rfl (Nat.le_of_ble_eq_true rfl) dM_place_15 (fun H locs hP hD hS => ?_)
    have hP : va_P (dC, dI) snC [(h1, .inr (1, [.int 0, .int (nI Wd), .int (nI Ht), .ref b_wall, .int rs, .int (nI Pn), .ref b_px, .ref b_py, .ref b_loss, .ref b_reached, .int jc, .ref b_order, .ref b_upper, .ref b_length, .ref b_heads, .ref b_turn])), (b_wall, .inl (cZ, 256, .inl g_wall)), (b_px, .inl (cI, 12, .inl g_px)), (b_py, .inl (cI, 12, .inl g_py)), (b_loss, .inl (cI, 13, .inl g_loss)), (b_reached, .inl (cI, 256, .inl g_reached)), (b_order, .inl (cI, 12, .inl g_order)), (b_upper, .inl (cI, 12, .inl g_upper)), (b_length, .inl (cI, 12, .inl g_length)), (b_heads, .inl (cI, 12, .inl g_heads)), (b_turn, .inl (cI, 12, .inl g_turn))] H := hP
    have hD : va_D A [(h1, .inr (1, [.int 0, .int (nI Wd), .int (nI Ht), .ref b_wall, .int rs, .int (nI Pn), .ref b_px, .ref b_py, .ref b_loss, .ref b_reached, .int jc, .ref b_order, .ref b_upper, .ref b_length, .ref b_heads, .ref b_turn])), (b_wall, .inl (cZ, 256, .inl g_wall)), (b_px, .inl (cI, 12, .inl g_px)), (b_py, .inl (cI, 12, .inl g_py)), (b_loss, .inl (cI, 13, .inl g_loss)), (b_reached, .inl (cI, 256, .inl g_reached)), (b_order, .inl (cI, 12, .inl g_order)), (b_upper, .inl (cI, 12, .inl g_upper)), (b_length, .inl (cI, 12, .inl g_length)), (b_heads, .inl (cI, 12, .inl g_heads)), (b_turn, .inl (cI, 12, .inl g_turn))] := hD
    refine lv_aload_n hx hb dM_place_18 rfl (lv_at hl 0 rfl) ?_
    refine va_get (D := (dC, dI)) (ci := 1) (v := .int 0) (C := R_M) (T := T_M) (N := 16) hx hb hts in_M hown hK hP 0 rfl rfl 0 (by decide) (hts _ flM51) (fun _ h9 => h9) rfl dM_place_19 ?_
    refine lv_if_le (tgt := 27) hx hb dM_place_22 (by decide) (fun c_3 => ?_) (fun c_3 => ?_)
    · refine lv_iconst (v := 0) hx hb dM_place_27 (by decide) ?_
      refine lv_istore_n (lv' := [(3, .int 0), (0, .ref h1), (1, .int (nI a)), (2, .int (nI b))]) hx hb dM_place_28 rfl hl (by decide) rfl (fun ls hl => ?_)
      refine lv_iconst (v := 0) hx hb dM_place_29 (by decide) ?_
      refine lv_istore (lv' := [(4, .int 0), (3, .int 0), (0, .ref h1), (1, .int (nI a)), (2, .int (nI b))]) hx hb dM_place_30 hl (by decide) rfl (fun ls hl => ?_)
      exact lp32 (Pn + 1) Pn 0 false (by omega) (by omega) rfl _ _ hP hD hS ls (lv_sub hl [0, 1, 2, 3, 4] rfl)
    · exact absurd c_3 (by decide)
set_option maxHeartbeats 4000000 in
set_option maxRecDepth 100000 in
theorem cM_place_y (l : Launch) (dC : Nat → ClassId) (dI : Nat → Nat → Nat) (h1 b_wall b_px b_py b_loss b_reached b_order b_upper b_length b_heads b_turn : Nat) (cd : Int32) (Wd Ht Pn : Nat) (rs jc : Int32) (cZ cI : ClassId) (g_wall g_px g_py g_loss g_reached g_order g_upper g_length g_heads g_turn : Nat → Int32) (a b : Nat) (sz : Nat) (hW : Wd ≤ 16) (hH : Ht ≤ 16) (ha : a < Wd) (hb0 : b < Ht) (hPn : Pn ≤ 12) (hno : md_th g_px g_py (nI a) (nI b) Pn 0 false = true ∨ md_free g_wall a b = false ∨ Pn = 12) : Met l yM_place (kM_place :: WD) { frames := 1, cells := 0, slots := 0, locals := 22 } (va_Pc [.ref h1, .int (nI a), .int (nI b)] (xm (dC, dI) snC [(h1, .inr (1, [.int cd, .int (nI Wd), .int (nI Ht), .ref b_wall, .int rs, .int (nI Pn), .ref b_px, .ref b_py, .ref b_loss, .ref b_reached, .int jc, .ref b_order, .ref b_upper, .ref b_length, .ref b_heads, .ref b_turn])), (b_wall, .inl (cZ, 256, .inl g_wall)), (b_px, .inl (cI, 12, .inl g_px)), (b_py, .inl (cI, 12, .inl g_py)), (b_loss, .inl (cI, 13, .inl g_loss)), (b_reached, .inl (cI, 256, .inl g_reached)), (b_order, .inl (cI, 12, .inl g_order)), (b_upper, .inl (cI, 12, .inl g_upper)), (b_length, .inl (cI, 12, .inl g_length)), (b_heads, .inl (cI, 12, .inl g_heads)), (b_turn, .inl (cI, 12, .inl g_turn))] [(cZ, .boolean), (cI, .int)] sz)) (va_Qi (fun (r : Int32) (_ : Unit) => True) (fun _ => xo (dC, dI) snC [(h1, .inr (1, [.int 2, .int (nI Wd), .int (nI Ht), .ref b_wall, .int rs, .int (nI Pn), .ref b_px, .ref b_py, .ref b_loss, .ref b_reached, .int jc, .ref b_order, .ref b_upper, .ref b_length, .ref b_heads, .ref b_turn])), (b_wall, .inl (cZ, 256, .inl g_wall)), (b_px, .inl (cI, 12, .inl g_px)), (b_py, .inl (cI, 12, .inl g_py)), (b_loss, .inl (cI, 13, .inl g_loss)), (b_reached, .inl (cI, 256, .inl g_reached)), (b_order, .inl (cI, 12, .inl g_order)), (b_upper, .inl (cI, 12, .inl g_upper)), (b_length, .inl (cI, 12, .inl g_length)), (b_heads, .inl (cI, 12, .inl g_heads)), (b_turn, .inl (cI, 12, .inl g_turn))] [(cZ, .boolean), (cI, .int)] (va_A [(h1, .inr (1, [.int cd, .int (nI Wd), .int (nI Ht), .ref b_wall, .int rs, .int (nI Pn), .ref b_px, .ref b_py, .ref b_loss, .ref b_reached, .int jc, .ref b_order, .ref b_upper, .ref b_length, .ref b_heads, .ref b_turn])), (b_wall, .inl (cZ, 256, .inl g_wall)), (b_px, .inl (cI, 12, .inl g_px)), (b_py, .inl (cI, 12, .inl g_py)), (b_loss, .inl (cI, 13, .inl g_loss)), (b_reached, .inl (cI, 256, .inl g_reached)), (b_order, .inl (cI, 12, .inl g_order)), (b_upper, .inl (cI, 12, .inl g_upper)), (b_length, .inl (cI, 12, .inl g_length)), (b_heads, .inl (cI, 12, .inl g_heads)), (b_turn, .inl (cI, 12, .inl g_turn))] sz)) (va_A [(h1, .inr (1, [.int cd, .int (nI Wd), .int (nI Ht), .ref b_wall, .int rs, .int (nI Pn), .ref b_px, .ref b_py, .ref b_loss, .ref b_reached, .int jc, .ref b_order, .ref b_upper, .ref b_length, .ref b_heads, .ref b_turn])), (b_wall, .inl (cZ, 256, .inl g_wall)), (b_px, .inl (cI, 12, .inl g_px)), (b_py, .inl (cI, 12, .inl g_py)), (b_loss, .inl (cI, 13, .inl g_loss)), (b_reached, .inl (cI, 256, .inl g_reached)), (b_order, .inl (cI, 12, .inl g_order)), (b_upper, .inl (cI, 12, .inl g_upper)), (b_length, .inl (cI, 12, .inl g_length)), (b_heads, .inl (cI, 12, .inl g_heads)), (b_turn, .inl (cI, 12, .inl g_turn))] sz)) 0 0 (va_A [(h1, .inr (1, [.int cd, .int (nI Wd), .int (nI Ht), .ref b_wall, .int rs, .int (nI Pn), .ref b_px, .ref b_py, .ref b_loss, .ref b_reached, .int jc, .ref b_order, .ref b_upper, .ref b_length, .ref b_heads, .ref b_turn])), (b_wall, .inl (cZ, 256, .inl g_wall)), (b_px, .inl (cI, 12, .inl g_px)), (b_py, .inl (cI, 12, .inl g_py)), (b_loss, .inl (cI, 13, .inl g_loss)), (b_reached, .inl (cI, 256, .inl g_reached)), (b_order, .inl (cI, 12, .inl g_order)), (b_upper, .inl (cI, 12, .inl g_upper)), (b_length, .inl (cI, 12, .inl g_length)), (b_heads, .inl (cI, 12, .inl g_heads)), (b_turn, .inl (cI, 12, .inl g_turn))] sz) := by
  refine Met.ofW (cc := bM_place) (maxL := 5) (ret := (some .int)) (by decide) rfl ?_
  intro p e s m args below meth c s₁ B hml hv
  obtain ⟨rfl, hsz, hP, hK, hD0⟩ := hv
  have hx := B.exec
  have hb := B.bytes
  have hr := B.returns
  have hts : ∀ w ∈ WD, w.before _ s = true := fun w h => atoms_spec (ws := kM_place :: WD) B.pre w (List.mem_cons_of_mem _ h)
  have hown : s.vm.findClass R_M = some m.cls := findClass_of_methodNamed B.named
  have hlocks := B.notSynchronized
  subst hsz
  have hD := hD0.self (sz := s.heap.size)
  generalize hAe : va_A [(h1, .inr (1, [.int cd, .int (nI Wd), .int (nI Ht), .ref b_wall, .int rs, .int (nI Pn), .ref b_px, .ref b_py, .ref b_loss, .ref b_reached, .int jc, .ref b_order, .ref b_upper, .ref b_length, .ref b_heads, .ref b_turn])), (b_wall, .inl (cZ, 256, .inl g_wall)), (b_px, .inl (cI, 12, .inl g_px)), (b_py, .inl (cI, 12, .inl g_py)), (b_loss, .inl (cI, 13, .inl g_loss)), (b_reached, .inl (cI, 256, .inl g_reached)), (b_order, .inl (cI, 12, .inl g_order)), (b_upper, .inl (cI, 12, .inl g_upper)), (b_length, .inl (cI, 12, .inl g_length)), (b_heads, .inl (cI, 12, .inl g_heads)), (b_turn, .inl (cI, 12, .inl g_turn))] s.heap.size = A at hD ⊢
  have hA : ∀ q : Nat, s.heap.size ≤ q → A q := fun q h => by rw [← hAe]; exact Or.inr h
  have hS : va_S A s.heap s.heap [] := va_S.rf
  have hl := lv_entry ([.ref h1, .int (nI a), .int (nI b)]) (n := 5) (Nat.le_of_ble_eq_true rfl)
  rw [lg_entry_eq]
  generalize (lg_sl ([.ref h1, .int (nI a), .int (nI b)]) ++ List.replicate (5 - (lg_sl ([.ref h1, .int (nI a), .int (nI b)])).length) Slot.unset).toArray = ls at hl ⊢
  have hl : lv_has ls 5 [(0, .ref h1), (1, .int (nI a)), (2, .int (nI b))] := hl
  have hok := sn_in_nI hW hH ha hb0
  have lp32 : ∀ (k n : Nat) (i : Nat) (s1 : Bool), n < k → i + n = Pn → md_th g_px g_py (nI a) (nI b) n i s1 = md_th g_px g_py (nI a) (nI b) Pn 0 false → ∀ (H : Heap) (locs : List Loc), va_P (dC, dI) snC [(h1, .inr (1, [.int 0, .int (nI Wd), .int (nI Ht), .ref b_wall, .int rs, .int (nI Pn), .ref b_px, .ref b_py, .ref b_loss, .ref b_reached, .int jc, .ref b_order, .ref b_upper, .ref b_length, .ref b_heads, .ref b_turn])), (b_wall, .inl (cZ, 256, .inl g_wall)), (b_px, .inl (cI, 12, .inl g_px)), (b_py, .inl (cI, 12, .inl g_py)), (b_loss, .inl (cI, 13, .inl g_loss)), (b_reached, .inl (cI, 256, .inl g_reached)), (b_order, .inl (cI, 12, .inl g_order)), (b_upper, .inl (cI, 12, .inl g_upper)), (b_length, .inl (cI, 12, .inl g_length)), (b_heads, .inl (cI, 12, .inl g_heads)), (b_turn, .inl (cI, 12, .inl g_turn))] H → va_D A [(h1, .inr (1, [.int 0, .int (nI Wd), .int (nI Ht), .ref b_wall, .int rs, .int (nI Pn), .ref b_px, .ref b_py, .ref b_loss, .ref b_reached, .int jc, .ref b_order, .ref b_upper, .ref b_length, .ref b_heads, .ref b_turn])), (b_wall, .inl (cZ, 256, .inl g_wall)), (b_px, .inl (cI, 12, .inl g_px)), (b_py, .inl (cI, 12, .inl g_py)), (b_loss, .inl (cI, 13, .inl g_loss)), (b_reached, .inl (cI, 256, .inl g_reached)), (b_order, .inl (cI, 12, .inl g_order)), (b_upper, .inl (cI, 12, .inl g_upper)), (b_length, .inl (cI, 12, .inl g_length)), (b_heads, .inl (cI, 12, .inl g_heads)), (b_turn, .inl (cI, 12, .inl g_turn))] → va_S A s.heap H locs → ∀ ls : Array Slot, lv_has ls 5 [(4, .int (nI i)), (3, .int (bz s1)), (0, .ref h1), (1, .int (nI a)), (2, .int (nI b))] → W p l e (headSpec (kM_place :: WD) { frames := 1, cells := 0, slots := 0, locals := 22 }).room s m ([.ref h1, .int (nI a), .int (nI b)]).toArray below meth c H locs 0 0 (MQ below (va_Qi (fun (r : Int32) (_ : Unit) => True) (fun _ => xo (dC, dI) snC [(h1, .inr (1, [.int 2, .int (nI Wd), .int (nI Ht), .ref b_wall, .int rs, .int (nI Pn), .ref b_px, .ref b_py, .ref b_loss, .ref b_reached, .int jc, .ref b_order, .ref b_upper, .ref b_length, .ref b_heads, .ref b_turn])), (b_wall, .inl (cZ, 256, .inl g_wall)), (b_px, .inl (cI, 12, .inl g_px)), (b_py, .inl (cI, 12, .inl g_py)), (b_loss, .inl (cI, 13, .inl g_loss)), (b_reached, .inl (cI, 256, .inl g_reached)), (b_order, .inl (cI, 12, .inl g_order)), (b_upper, .inl (cI, 12, .inl g_upper)), (b_length, .inl (cI, 12, .inl g_length)), (b_heads, .inl (cI, 12, .inl g_heads)), (b_turn, .inl (cI, 12, .inl g_turn))] [(cZ, .boolean), (cI, .int)] A) A) ([.ref h1, .int (nI a), .int (nI b)]).toArray s 0 0 (A)) (F0 m 32 ls []) := by
    intro k
    induction k with
    | zero => exact fun n _ _ h => absurd h (Nat.not_lt_zero n)
    | succ k ih =>
      intro n i s1 hk hin hT H locs hP hD hS ls hl
      refine lv_iload hx hb dM_place_32 (lv_at hl 0 rfl) ?_
      refine lv_aload_n hx hb dM_place_34 rfl (lv_at hl 2 rfl) ?_
      refine va_get (D := (dC, dI)) (ci := 1) (v := .int (nI Pn)) (C := R_M) (T := T_M) (N := 16) hx hb hts in_M hown hK hP 0 rfl rfl 5 (by decide) (hts _ flM54) (fun _ h9 => h9) rfl dM_place_35 ?_
      refine lv_icmp_ge (tgt := 79) hx hb dM_place_38 (by decide) (fun c_1 => ?_) (fun c_1 => ?_)
      · have hz := (nI_leI (by omega) (by omega)).mp c_1
        obtain rfl : n = 0 := by omega
        have hts1 : s1 = md_th g_px g_py (nI a) (nI b) Pn 0 false := by rw [← hT]; simp [md_th]
        refine lv_aload_n hx hb dM_place_79 rfl (lv_at hl 2 rfl) ?_
        refine lv_iload_n hx hb dM_place_80 rfl (lv_at hl 1 rfl) ?_
        refine lv_if_ne (tgt := 102) hx hb dM_place_81 (by decide) (fun c_2 => ?_) (fun c_2 => ?_)
        · replace c_2 := bz_1 c_2
          refine lv_iconst (v := 2) hx hb dM_place_102 (by decide) ?_
          refine lv_goto (tgt := 107) hx hb dM_place_103 (by decide) ?_
          refine va_put (D := (dC, dI)) (ci := 1) (v := .int 2) (ty := .int) (C := R_M) (T := T_M) (N := 16) hx hb hts in_M t_M tok_M n_M hown hK hP hD hS 0 rfl rfl 0 (by decide) (hts _ flM51) (fun _ h9 => h9) rfl (by decide +kernel) rfl rfl (Nat.le_of_ble_eq_true rfl) dM_place_107 (fun H locs hP hD hS => ?_)
          have hP : va_P (dC, dI) snC [(h1, .inr (1, [.int 2, .int (nI Wd), .int (nI Ht), .ref b_wall, .int rs, .int (nI Pn), .ref b_px, .ref b_py, .ref b_loss, .ref b_reached, .int jc, .ref b_order, .ref b_upper, .ref b_length, .ref b_heads, .ref b_turn])), (b_wall, .inl (cZ, 256, .inl g_wall)), (b_px, .inl (cI, 12, .inl g_px)), (b_py, .inl (cI, 12, .inl g_py)), (b_loss, .inl (cI, 13, .inl g_loss)), (b_reached, .inl (cI, 256, .inl g_reached)), (b_order, .inl (cI, 12, .inl g_order)), (b_upper, .inl (cI, 12, .inl g_upper)), (b_length, .inl (cI, 12, .inl g_length)), (b_heads, .inl (cI, 12, .inl g_heads)), (b_turn, .inl (cI, 12, .inl g_turn))] H := hP
          have hD : va_D A [(h1, .inr (1, [.int 2, .int (nI Wd), .int (nI Ht), .ref b_wall, .int rs, .int (nI Pn), .ref b_px, .ref b_py, .ref b_loss, .ref b_reached, .int jc, .ref b_order, .ref b_upper, .ref b_length, .ref b_heads, .ref b_turn])), (b_wall, .inl (cZ, 256, .inl g_wall)), (b_px, .inl (cI, 12, .inl g_px)), (b_py, .inl (cI, 12, .inl g_py)), (b_loss, .inl (cI, 13, .inl g_loss)), (b_reached, .inl (cI, 256, .inl g_reached)), (b_order, .inl (cI, 12, .inl g_order)), (b_upper, .inl (cI, 12, .inl g_upper)), (b_length, .inl (cI, 12, .inl g_length)), (b_heads, .inl (cI, 12, .inl g_heads)), (b_turn, .inl (cI, 12, .inl g_turn))] := hD
          refine lv_aload_n hx hb dM_place_110 rfl (lv_at hl 2 rfl) ?_
          refine va_get (D := (dC, dI)) (ci := 1) (v := .int 2) (C := R_M) (T := T_M) (N := 16) hx hb hts in_M hown hK hP 0 rfl rfl 0 (by decide) (hts _ flM51) (fun _ h9 => h9) rfl dM_place_111 ?_
          refine lv_if_le (tgt := 119) hx hb dM_place_114 (by decide) (fun c_3 => ?_) (fun c_3 => ?_)
          · exact absurd c_3 (by decide)
          · refine lv_iconst (v := 0) hx hb dM_place_117 (by decide) ?_
            exact W.iret (v := 0) hx hb hr (fun t ht hW => ⟨⟨0, (), rfl, trivial, by rw [ht]; exact hP, va_K.moved hW.alike hK, hD⟩, hS.F ht⟩) hS.2.2 dM_place_118
        · replace c_2 := bz_0 c_2
          refine lv_aload_n hx hb dM_place_84 rfl (lv_at hl 2 rfl) ?_
          refine lv_iload_n hx hb dM_place_85 rfl (lv_at hl 3 rfl) ?_
          refine lv_iload_n hx hb dM_place_86 rfl (lv_at hl 4 rfl) ?_
          refine xr_V (As := [.int (nI a), .int (nI b)]) ⟨hx, hb, hml, hown, hts⟩ (cM_isFree l dC dI h1 b_wall b_px b_py b_loss b_reached b_order b_upper b_length b_heads b_turn 0 Wd Ht Pn rs jc cZ g_wall a b (by omega) (by omega)) (cwV 2 hts gM61 rfl rfl rfl (by decide +kernel) ⟨Nat.le_of_ble_eq_true rfl, Nat.le_of_ble_eq_true rfl⟩) hK hP [0, 1] [0] rfl rfl 1 0 rfl rfl rfl rfl hl.1 rfl (Nat.le_of_ble_eq_true rfl) dM_place_87 ⟨Nat.le_of_ble_eq_true rfl, Nat.le_of_ble_eq_true rfl⟩ (fun r_4 hr_4 => ?_)
          subst hr_4
          refine lv_if_eq (tgt := 102) hx hb dM_place_90 (by decide) (fun c_5 => ?_) (fun c_5 => ?_)
          · replace c_5 := bz_0 c_5
            refine lv_iconst (v := 2) hx hb dM_place_102 (by decide) ?_
            refine lv_goto (tgt := 107) hx hb dM_place_103 (by decide) ?_
            refine va_put (D := (dC, dI)) (ci := 1) (v := .int 2) (ty := .int) (C := R_M) (T := T_M) (N := 16) hx hb hts in_M t_M tok_M n_M hown hK hP hD hS 0 rfl rfl 0 (by decide) (hts _ flM51) (fun _ h9 => h9) rfl (by decide +kernel) rfl rfl (Nat.le_of_ble_eq_true rfl) dM_place_107 (fun H locs hP hD hS => ?_)
            have hP : va_P (dC, dI) snC [(h1, .inr (1, [.int 2, .int (nI Wd), .int (nI Ht), .ref b_wall, .int rs, .int (nI Pn), .ref b_px, .ref b_py, .ref b_loss, .ref b_reached, .int jc, .ref b_order, .ref b_upper, .ref b_length, .ref b_heads, .ref b_turn])), (b_wall, .inl (cZ, 256, .inl g_wall)), (b_px, .inl (cI, 12, .inl g_px)), (b_py, .inl (cI, 12, .inl g_py)), (b_loss, .inl (cI, 13, .inl g_loss)), (b_reached, .inl (cI, 256, .inl g_reached)), (b_order, .inl (cI, 12, .inl g_order)), (b_upper, .inl (cI, 12, .inl g_upper)), (b_length, .inl (cI, 12, .inl g_length)), (b_heads, .inl (cI, 12, .inl g_heads)), (b_turn, .inl (cI, 12, .inl g_turn))] H := hP
            have hD : va_D A [(h1, .inr (1, [.int 2, .int (nI Wd), .int (nI Ht), .ref b_wall, .int rs, .int (nI Pn), .ref b_px, .ref b_py, .ref b_loss, .ref b_reached, .int jc, .ref b_order, .ref b_upper, .ref b_length, .ref b_heads, .ref b_turn])), (b_wall, .inl (cZ, 256, .inl g_wall)), (b_px, .inl (cI, 12, .inl g_px)), (b_py, .inl (cI, 12, .inl g_py)), (b_loss, .inl (cI, 13, .inl g_loss)), (b_reached, .inl (cI, 256, .inl g_reached)), (b_order, .inl (cI, 12, .inl g_order)), (b_upper, .inl (cI, 12, .inl g_upper)), (b_length, .inl (cI, 12, .inl g_length)), (b_heads, .inl (cI, 12, .inl g_heads)), (b_turn, .inl (cI, 12, .inl g_turn))] := hD
            refine lv_aload_n hx hb dM_place_110 rfl (lv_at hl 2 rfl) ?_
            refine va_get (D := (dC, dI)) (ci := 1) (v := .int 2) (C := R_M) (T := T_M) (N := 16) hx hb hts in_M hown hK hP 0 rfl rfl 0 (by decide) (hts _ flM51) (fun _ h9 => h9) rfl dM_place_111 ?_
            refine lv_if_le (tgt := 119) hx hb dM_place_114 (by decide) (fun c_6 => ?_) (fun c_6 => ?_)
            · exact absurd c_6 (by decide)
            · refine lv_iconst (v := 0) hx hb dM_place_117 (by decide) ?_
              exact W.iret (v := 0) hx hb hr (fun t ht hW => ⟨⟨0, (), rfl, trivial, by rw [ht]; exact hP, va_K.moved hW.alike hK, hD⟩, hS.F ht⟩) hS.2.2 dM_place_118
          · replace c_5 := bz_1 c_5
            refine lv_aload_n hx hb dM_place_93 rfl (lv_at hl 2 rfl) ?_
            refine va_get (D := (dC, dI)) (ci := 1) (v := .int (nI Pn)) (C := R_M) (T := T_M) (N := 16) hx hb hts in_M hown hK hP 0 rfl rfl 5 (by decide) (hts _ flM54) (fun _ h9 => h9) rfl dM_place_94 ?_
            refine lv_bipush (v := (nI 12)) hx hb dM_place_97 (by decide) ?_
            refine lv_icmp_ne (tgt := 106) hx hb dM_place_99 (by decide) (fun c_7 => ?_) (fun c_7 => ?_)
            · exact hno.elim (fun h9 => absurd ((hts1.trans h9).symm.trans c_2) (by decide)) (fun h => h.elim (fun h9 => absurd (h9.symm.trans c_5) (by decide)) (fun h9 => absurd (by rw [h9]) c_7))
            · rw [nI_eq (by omega) (by omega)] at c_7
              refine lv_iconst (v := 2) hx hb dM_place_102 (by decide) ?_
              refine lv_goto (tgt := 107) hx hb dM_place_103 (by decide) ?_
              refine va_put (D := (dC, dI)) (ci := 1) (v := .int 2) (ty := .int) (C := R_M) (T := T_M) (N := 16) hx hb hts in_M t_M tok_M n_M hown hK hP hD hS 0 rfl rfl 0 (by decide) (hts _ flM51) (fun _ h9 => h9) rfl (by decide +kernel) rfl rfl (Nat.le_of_ble_eq_true rfl) dM_place_107 (fun H locs hP hD hS => ?_)
              have hP : va_P (dC, dI) snC [(h1, .inr (1, [.int 2, .int (nI Wd), .int (nI Ht), .ref b_wall, .int rs, .int (nI Pn), .ref b_px, .ref b_py, .ref b_loss, .ref b_reached, .int jc, .ref b_order, .ref b_upper, .ref b_length, .ref b_heads, .ref b_turn])), (b_wall, .inl (cZ, 256, .inl g_wall)), (b_px, .inl (cI, 12, .inl g_px)), (b_py, .inl (cI, 12, .inl g_py)), (b_loss, .inl (cI, 13, .inl g_loss)), (b_reached, .inl (cI, 256, .inl g_reached)), (b_order, .inl (cI, 12, .inl g_order)), (b_upper, .inl (cI, 12, .inl g_upper)), (b_length, .inl (cI, 12, .inl g_length)), (b_heads, .inl (cI, 12, .inl g_heads)), (b_turn, .inl (cI, 12, .inl g_turn))] H := hP
              have hD : va_D A [(h1, .inr (1, [.int 2, .int (nI Wd), .int (nI Ht), .ref b_wall, .int rs, .int (nI Pn), .ref b_px, .ref b_py, .ref b_loss, .ref b_reached, .int jc, .ref b_order, .ref b_upper, .ref b_length, .ref b_heads, .ref b_turn])), (b_wall, .inl (cZ, 256, .inl g_wall)), (b_px, .inl (cI, 12, .inl g_px)), (b_py, .inl (cI, 12, .inl g_py)), (b_loss, .inl (cI, 13, .inl g_loss)), (b_reached, .inl (cI, 256, .inl g_reached)), (b_order, .inl (cI, 12, .inl g_order)), (b_upper, .inl (cI, 12, .inl g_upper)), (b_length, .inl (cI, 12, .inl g_length)), (b_heads, .inl (cI, 12, .inl g_heads)), (b_turn, .inl (cI, 12, .inl g_turn))] := hD
              refine lv_aload_n hx hb dM_place_110 rfl (lv_at hl 2 rfl) ?_
              refine va_get (D := (dC, dI)) (ci := 1) (v := .int 2) (C := R_M) (T := T_M) (N := 16) hx hb hts in_M hown hK hP 0 rfl rfl 0 (by decide) (hts _ flM51) (fun _ h9 => h9) rfl dM_place_111 ?_
              refine lv_if_le (tgt := 119) hx hb dM_place_114 (by decide) (fun c_8 => ?_) (fun c_8 => ?_)
              · exact absurd c_8 (by decide)
              · refine lv_iconst (v := 0) hx hb dM_place_117 (by decide) ?_
                exact W.iret (v := 0) hx hb hr (fun t ht hW => ⟨⟨0, (), rfl, trivial, by rw [ht]; exact hP, va_K.moved hW.alike hK, hD⟩, hS.F ht⟩) hS.2.2 dM_place_118
      · have hz : i < Pn := by have h9 := mt (nI_leI (by omega) (by omega)).mpr c_1; omega
        obtain ⟨n, rfl⟩ : ∃ n', n = n' + 1 := ⟨n - 1, by omega⟩
        refine lv_iload_n hx hb dM_place_41 rfl (lv_at hl 1 rfl) ?_
        refine lv_if_ne (tgt := 67) hx hb dM_place_42 (by decide) (fun c_9 => ?_) (fun c_9 => ?_)
        · replace c_9 := bz_1 c_9
          refine lv_iconst (v := 1) hx hb dM_place_67 (by decide) ?_
          refine lv_goto (tgt := 72) hx hb dM_place_68 (by decide) ?_
          refine lv_topi (fun y_10 ey_10 => ?_)
          obtain rfl : y_10 = bz true := ey_10.trans rfl
          refine lv_istore_n (lv' := [(3, .int (bz true)), (4, .int (nI i)), (0, .ref h1), (1, .int (nI a)), (2, .int (nI b))]) hx hb dM_place_72 rfl hl (by decide) rfl (fun ls hl => ?_)
          refine lv_iinc (v := (nI (i + 1))) (lv' := [(4, .int (nI (i + 1))), (3, .int (bz true)), (0, .ref h1), (1, .int (nI a)), (2, .int (nI b))]) hx hb dM_place_73 hl (k := 1) rfl (nI_1 i) (by decide) rfl (fun ls hl => ?_)
          refine lv_goto (tgt := 32) hx hb dM_place_76 (by decide) ?_
          exact ih n (i + 1) true (by omega) (by omega) (by rw [← hT]; simp [md_th, c_1, c_9]) _ _ hP hD hS ls (lv_sub hl [0, 1, 2, 3, 4] rfl)
        · replace c_9 := bz_0 c_9
          refine lv_aload_n hx hb dM_place_45 rfl (lv_at hl 2 rfl) ?_
          refine va_get (D := (dC, dI)) (ci := 1) (v := .ref b_px) (C := R_M) (T := T_M) (N := 16) hx hb hts in_M hown hK hP 0 rfl rfl 6 (by decide) (hts _ flM17) (fun _ h9 => h9) rfl dM_place_46 ?_
          refine lv_iload hx hb dM_place_49 (lv_at hl 0 rfl) ?_
          refine xa_iald hx hb hK hP 2 1 rfl rfl (i := i) (by omega) (by first | decide | omega) dM_place_51 ?_
          refine lv_iload_n hx hb dM_place_52 rfl (lv_at hl 3 rfl) ?_
          refine lv_icmp_ne (tgt := 71) hx hb dM_place_53 (by decide) (fun c_11 => ?_) (fun c_11 => ?_)
          · refine lv_iconst (v := 0) hx hb dM_place_71 (by decide) ?_
            refine lv_topi (fun y_12 ey_12 => ?_)
            obtain rfl : y_12 = bz false := ey_12.trans rfl
            refine lv_istore_n (lv' := [(3, .int (bz false)), (4, .int (nI i)), (0, .ref h1), (1, .int (nI a)), (2, .int (nI b))]) hx hb dM_place_72 rfl hl (by decide) rfl (fun ls hl => ?_)
            refine lv_iinc (v := (nI (i + 1))) (lv' := [(4, .int (nI (i + 1))), (3, .int (bz false)), (0, .ref h1), (1, .int (nI a)), (2, .int (nI b))]) hx hb dM_place_73 hl (k := 1) rfl (nI_1 i) (by decide) rfl (fun ls hl => ?_)
            refine lv_goto (tgt := 32) hx hb dM_place_76 (by decide) ?_
            exact ih n (i + 1) false (by omega) (by omega) (by rw [← hT]; simp [md_th, c_1, c_9, c_11]) _ _ hP hD hS ls (lv_sub hl [0, 1, 2, 3, 4] rfl)
          · refine lv_aload_n hx hb dM_place_56 rfl (lv_at hl 2 rfl) ?_
            refine va_get (D := (dC, dI)) (ci := 1) (v := .ref b_py) (C := R_M) (T := T_M) (N := 16) hx hb hts in_M hown hK hP 0 rfl rfl 7 (by decide) (hts _ flM21) (fun _ h9 => h9) rfl dM_place_57 ?_
            refine lv_iload hx hb dM_place_60 (lv_at hl 0 rfl) ?_
            refine xa_iald hx hb hK hP 3 1 rfl rfl (i := i) (by omega) (by first | decide | omega) dM_place_62 ?_
            refine lv_iload_n hx hb dM_place_63 rfl (lv_at hl 4 rfl) ?_
            refine lv_icmp_ne (tgt := 71) hx hb dM_place_64 (by decide) (fun c_13 => ?_) (fun c_13 => ?_)
            · refine lv_iconst (v := 0) hx hb dM_place_71 (by decide) ?_
              refine lv_topi (fun y_14 ey_14 => ?_)
              obtain rfl : y_14 = bz false := ey_14.trans rfl
              refine lv_istore_n (lv' := [(3, .int (bz false)), (4, .int (nI i)), (0, .ref h1), (1, .int (nI a)), (2, .int (nI b))]) hx hb dM_place_72 rfl hl (by decide) rfl (fun ls hl => ?_)
              refine lv_iinc (v := (nI (i + 1))) (lv' := [(4, .int (nI (i + 1))), (3, .int (bz false)), (0, .ref h1), (1, .int (nI a)), (2, .int (nI b))]) hx hb dM_place_73 hl (k := 1) rfl (nI_1 i) (by decide) rfl (fun ls hl => ?_)
              refine lv_goto (tgt := 32) hx hb dM_place_76 (by decide) ?_
              exact ih n (i + 1) false (by omega) (by omega) (by rw [← hT]; simp [md_th, c_1, c_9, c_11, c_13]) _ _ hP hD hS ls (lv_sub hl [0, 1, 2, 3, 4] rfl)
            · refine lv_iconst (v := 1) hx hb dM_place_67 (by decide) ?_
              refine lv_goto (tgt := 72) hx hb dM_place_68 (by decide) ?_
              refine lv_topi (fun y_15 ey_15 => ?_)
              obtain rfl : y_15 = bz true := ey_15.trans rfl
              refine lv_istore_n (lv' := [(3, .int (bz true)), (4, .int (nI i)), (0, .ref h1), (1, .int (nI a)), (2, .int (nI b))]) hx hb dM_place_72 rfl hl (by decide) rfl (fun ls hl => ?_)
              refine lv_iinc (v := (nI (i + 1))) (lv' := [(4, .int (nI (i + 1))), (3, .int (bz true)), (0, .ref h1), (1, .int (nI a)), (2, .int (nI b))]) hx hb dM_place_73 hl (k := 1) rfl (nI_1 i) (by decide) rfl (fun ls hl => ?_)
              refine lv_goto (tgt := 32) hx hb dM_place_76 (by decide) ?_
              exact ih n (i + 1) true (by omega) (by omega) (by rw [← hT]; simp [md_th, c_1, c_9, c_11, c_13]) _ _ hP hD hS ls (lv_sub hl [0, 1, 2, 3, 4] rfl)
  refine lv_aload_n hx hb dM_place_0 rfl (lv_at hl 0 rfl) ?_
  refine lv_aload_n hx hb dM_place_1 rfl (lv_at hl 0 rfl) ?_
  refine lv_iload_n hx hb dM_place_2 rfl (lv_at hl 1 rfl) ?_
  refine lv_iload_n hx hb dM_place_3 rfl (lv_at hl 2 rfl) ?_
  refine xr_V (As := [.int (nI a), .int (nI b)]) ⟨hx, hb, hml, hown, hts⟩ (cM_isCell l dC dI h1 b_wall b_px b_py b_loss b_reached b_order b_upper b_length b_heads b_turn cd Wd Ht Pn rs jc (nI a) (nI b)) (cwV 2 hts gM57 rfl rfl rfl (by decide +kernel) ⟨Nat.le_of_ble_eq_true rfl, Nat.le_of_ble_eq_true rfl⟩) hK hP [0] [] rfl rfl 1 0 rfl rfl rfl rfl hl.1 rfl (Nat.le_of_ble_eq_true rfl) dM_place_4 ⟨Nat.le_of_ble_eq_true rfl, Nat.le_of_ble_eq_true rfl⟩ (fun r_1 hr_1 => ?_)
  subst hr_1
  refine lv_if_eq (tgt := 14) hx hb dM_place_7 (by decide) (fun c_2 => ?_) (fun c_2 => ?_)
  · exact absurd hok (by rw [bz_0 c_2]; decide)
  · replace c_2 := bz_1 c_2
    refine lv_iconst (v := 0) hx hb dM_place_10 (by decide) ?_
    refine lv_goto (tgt := 15) hx hb dM_place_11 (by decide) ?_
    refine va_put (D := (dC, dI)) (ci := 1) (v := .int 0) (ty := .int) (C := R_M) (T := T_M) (N := 16) hx hb hts in_M t_M tok_M n_M hown hK hP hD hS 0 rfl rfl 0 (by decide) (hts _ flM51) (fun _ h9 => h9) rfl (by decide +kernel) rfl rfl (Nat.le_of_ble_eq_true rfl) dM_place_15 (fun H locs hP hD hS => ?_)
    have hP : va_P (dC, dI) snC [(h1, .inr (1, [.int 0, .int (nI Wd), .int (nI Ht), .ref b_wall, .int rs, .int (nI Pn), .ref b_px, .ref b_py, .ref b_loss, .ref b_reached, .int jc, .ref b_order, .ref b_upper, .ref b_length, .ref b_heads, .ref b_turn])), (b_wall, .inl (cZ, 256, .inl g_wall)), (b_px, .inl (cI, 12, .inl g_px)), (b_py, .inl (cI, 12, .inl g_py)), (b_loss, .inl (cI, 13, .inl g_loss)), (b_reached, .inl (cI, 256, .inl g_reached)), (b_order, .inl (cI, 12, .inl g_order)), (b_upper, .inl (cI, 12, .inl g_upper)), (b_length, .inl (cI, 12, .inl g_length)), (b_heads, .inl (cI, 12, .inl g_heads)), (b_turn, .inl (cI, 12, .inl g_turn))] H := hP
    have hD : va_D A [(h1, .inr (1, [.int 0, .int (nI Wd), .int (nI Ht), .ref b_wall, .int rs, .int (nI Pn), .ref b_px, .ref b_py, .ref b_loss, .ref b_reached, .int jc, .ref b_order, .ref b_upper, .ref b_length, .ref b_heads, .ref b_turn])), (b_wall, .inl (cZ, 256, .inl g_wall)), (b_px, .inl (cI, 12, .inl g_px)), (b_py, .inl (cI, 12, .inl g_py)), (b_loss, .inl (cI, 13, .inl g_loss)), (b_reached, .inl (cI, 256, .inl g_reached)), (b_order, .inl (cI, 12, .inl g_order)), (b_upper, .inl (cI, 12, .inl g_upper)), (b_length, .inl (cI, 12, .inl g_length)), (b_heads, .inl (cI, 12, .inl g_heads)), (b_turn, .inl (cI, 12, .inl g_turn))] := hD
    refine lv_aload_n hx hb dM_place_18 rfl (lv_at hl 0 rfl) ?_
    refine va_get (D := (dC, dI)) (ci := 1) (v := .int 0) (C := R_M) (T := T_M) (N := 16) hx hb hts in_M hown hK hP 0 rfl rfl 0 (by decide) (hts _ flM51) (fun _ h9 => h9) rfl dM_place_19 ?_
    refine lv_if_le (tgt := 27) hx hb dM_place_22 (by decide) (fun c_3 => ?_) (fun c_3 => ?_)
    · refine lv_iconst (v := 0) hx hb dM_place_27 (by decide) ?_
      refine lv_istore_n (lv' := [(3, .int 0), (0, .ref h1), (1, .int (nI a)), (2, .int (nI b))]) hx hb dM_place_28 rfl hl (by decide) rfl (fun ls hl => ?_)
      refine lv_iconst (v := 0) hx hb dM_place_29 (by decide) ?_
      refine lv_istore (lv' := [(4, .int 0), (3, .int 0), (0, .ref h1), (1, .int (nI a)), (2, .int (nI b))]) hx hb dM_place_30 hl (by decide) rfl (fun ls hl => ?_)
      exact lp32 (Pn + 1) Pn 0 false (by omega) (by omega) rfl _ _ hP hD hS ls (lv_sub hl [0, 1, 2, 3, 4] rfl)
    · exact absurd c_3 (by decide)
set_option maxHeartbeats 4000000 in
set_option maxRecDepth 100000 in
theorem cM_place_x (l : Launch) (dC : Nat → ClassId) (dI : Nat → Nat → Nat) (h1 b_wall b_px b_py b_loss b_reached b_order b_upper b_length b_heads b_turn : Nat) (cd : Int32) (Wd Ht Pn : Nat) (rs jc : Int32) (cZ cI : ClassId) (g_wall g_px g_py g_loss g_reached g_order g_upper g_length g_heads g_turn : Nat → Int32) (x y : Int32) (sz : Nat) (hno : sn_in Wd Ht x y = false) : Met l yM_place (kM_place :: WD) { frames := 1, cells := 0, slots := 0, locals := 22 } (va_Pc [.ref h1, .int x, .int y] (xm (dC, dI) snC [(h1, .inr (1, [.int cd, .int (nI Wd), .int (nI Ht), .ref b_wall, .int rs, .int (nI Pn), .ref b_px, .ref b_py, .ref b_loss, .ref b_reached, .int jc, .ref b_order, .ref b_upper, .ref b_length, .ref b_heads, .ref b_turn])), (b_wall, .inl (cZ, 256, .inl g_wall)), (b_px, .inl (cI, 12, .inl g_px)), (b_py, .inl (cI, 12, .inl g_py)), (b_loss, .inl (cI, 13, .inl g_loss)), (b_reached, .inl (cI, 256, .inl g_reached)), (b_order, .inl (cI, 12, .inl g_order)), (b_upper, .inl (cI, 12, .inl g_upper)), (b_length, .inl (cI, 12, .inl g_length)), (b_heads, .inl (cI, 12, .inl g_heads)), (b_turn, .inl (cI, 12, .inl g_turn))] [(cZ, .boolean), (cI, .int)] sz)) (va_Qi (fun (r : Int32) (_ : Unit) => True) (fun _ => xo (dC, dI) snC [(h1, .inr (1, [.int 1, .int (nI Wd), .int (nI Ht), .ref b_wall, .int rs, .int (nI Pn), .ref b_px, .ref b_py, .ref b_loss, .ref b_reached, .int jc, .ref b_order, .ref b_upper, .ref b_length, .ref b_heads, .ref b_turn])), (b_wall, .inl (cZ, 256, .inl g_wall)), (b_px, .inl (cI, 12, .inl g_px)), (b_py, .inl (cI, 12, .inl g_py)), (b_loss, .inl (cI, 13, .inl g_loss)), (b_reached, .inl (cI, 256, .inl g_reached)), (b_order, .inl (cI, 12, .inl g_order)), (b_upper, .inl (cI, 12, .inl g_upper)), (b_length, .inl (cI, 12, .inl g_length)), (b_heads, .inl (cI, 12, .inl g_heads)), (b_turn, .inl (cI, 12, .inl g_turn))] [(cZ, .boolean), (cI, .int)] (va_A [(h1, .inr (1, [.int cd, .int (nI Wd), .int (nI Ht), .ref b_wall, .int rs, .int (nI Pn), .ref b_px, .ref b_py, .ref b_loss, .ref b_reached, .int jc, .ref b_order, .ref b_upper, .ref b_length, .ref b_heads, .ref b_turn])), (b_wall, .inl (cZ, 256, .inl g_wall)), (b_px, .inl (cI, 12, .inl g_px)), (b_py, .inl (cI, 12, .inl g_py)), (b_loss, .inl (cI, 13, .inl g_loss)), (b_reached, .inl (cI, 256, .inl g_reached)), (b_order, .inl (cI, 12, .inl g_order)), (b_upper, .inl (cI, 12, .inl g_upper)), (b_length, .inl (cI, 12, .inl g_length)), (b_heads, .inl (cI, 12, .inl g_heads)), (b_turn, .inl (cI, 12, .inl g_turn))] sz)) (va_A [(h1, .inr (1, [.int cd, .int (nI Wd), .int (nI Ht), .ref b_wall, .int rs, .int (nI Pn), .ref b_px, .ref b_py, .ref b_loss, .ref b_reached, .int jc, .ref b_order, .ref b_upper, .ref b_length, .ref b_heads, .ref b_turn])), (b_wall, .inl (cZ, 256, .inl g_wall)), (b_px, .inl (cI, 12, .inl g_px)), (b_py, .inl (cI, 12, .inl g_py)), (b_loss, .inl (cI, 13, .inl g_loss)), (b_reached, .inl (cI, 256, .inl g_reached)), (b_order, .inl (cI, 12, .inl g_order)), (b_upper, .inl (cI, 12, .inl g_upper)), (b_length, .inl (cI, 12, .inl g_length)), (b_heads, .inl (cI, 12, .inl g_heads)), (b_turn, .inl (cI, 12, .inl g_turn))] sz)) 0 0 (va_A [(h1, .inr (1, [.int cd, .int (nI Wd), .int (nI Ht), .ref b_wall, .int rs, .int (nI Pn), .ref b_px, .ref b_py, .ref b_loss, .ref b_reached, .int jc, .ref b_order, .ref b_upper, .ref b_length, .ref b_heads, .ref b_turn])), (b_wall, .inl (cZ, 256, .inl g_wall)), (b_px, .inl (cI, 12, .inl g_px)), (b_py, .inl (cI, 12, .inl g_py)), (b_loss, .inl (cI, 13, .inl g_loss)), (b_reached, .inl (cI, 256, .inl g_reached)), (b_order, .inl (cI, 12, .inl g_order)), (b_upper, .inl (cI, 12, .inl g_upper)), (b_length, .inl (cI, 12, .inl g_length)), (b_heads, .inl (cI, 12, .inl g_heads)), (b_turn, .inl (cI, 12, .inl g_turn))] sz) := by
  refine Met.ofW (cc := bM_place) (maxL := 5) (ret := (some .int)) (by decide) rfl ?_
  intro p e s m args below meth c s₁ B hml hv
  obtain ⟨rfl, hsz, hP, hK, hD0⟩ := hv
  have hx := B.exec
  have hb := B.bytes
  have hr := B.returns
  have hts : ∀ w ∈ WD, w.before _ s = true := fun w h => atoms_spec (ws := kM_place :: WD) B.pre w (List.mem_cons_of_mem _ h)
  have hown : s.vm.findClass R_M = some m.cls := findClass_of_methodNamed B.named
  have hlocks := B.notSynchronized
  subst hsz
  have hD := hD0.self (sz := s.heap.size)
  generalize hAe : va_A [(h1, .inr (1, [.int cd, .int (nI Wd), .int (nI Ht), .ref b_wall, .int rs, .int (nI Pn), .ref b_px, .ref b_py, .ref b_loss, .ref b_reached, .int jc, .ref b_order, .ref b_upper, .ref b_length, .ref b_heads, .ref b_turn])), (b_wall, .inl (cZ, 256, .inl g_wall)), (b_px, .inl (cI, 12, .inl g_px)), (b_py, .inl (cI, 12, .inl g_py)), (b_loss, .inl (cI, 13, .inl g_loss)), (b_reached, .inl (cI, 256, .inl g_reached)), (b_order, .inl (cI, 12, .inl g_order)), (b_upper, .inl (cI, 12, .inl g_upper)), (b_length, .inl (cI, 12, .inl g_length)), (b_heads, .inl (cI, 12, .inl g_heads)), (b_turn, .inl (cI, 12, .inl g_turn))] s.heap.size = A at hD ⊢
  have hA : ∀ q : Nat, s.heap.size ≤ q → A q := fun q h => by rw [← hAe]; exact Or.inr h
  have hS : va_S A s.heap s.heap [] := va_S.rf
  have hl := lv_entry ([.ref h1, .int x, .int y]) (n := 5) (Nat.le_of_ble_eq_true rfl)
  rw [lg_entry_eq]
  generalize (lg_sl ([.ref h1, .int x, .int y]) ++ List.replicate (5 - (lg_sl ([.ref h1, .int x, .int y])).length) Slot.unset).toArray = ls at hl ⊢
  have hl : lv_has ls 5 [(0, .ref h1), (1, .int x), (2, .int y)] := hl
  refine lv_aload_n hx hb dM_place_0 rfl (lv_at hl 0 rfl) ?_
  refine lv_aload_n hx hb dM_place_1 rfl (lv_at hl 0 rfl) ?_
  refine lv_iload_n hx hb dM_place_2 rfl (lv_at hl 1 rfl) ?_
  refine lv_iload_n hx hb dM_place_3 rfl (lv_at hl 2 rfl) ?_
  refine xr_V (As := [.int x, .int y]) ⟨hx, hb, hml, hown, hts⟩ (cM_isCell l dC dI h1 b_wall b_px b_py b_loss b_reached b_order b_upper b_length b_heads b_turn cd Wd Ht Pn rs jc x y) (cwV 2 hts gM57 rfl rfl rfl (by decide +kernel) ⟨Nat.le_of_ble_eq_true rfl, Nat.le_of_ble_eq_true rfl⟩) hK hP [0] [] rfl rfl 1 0 rfl rfl rfl rfl hl.1 rfl (Nat.le_of_ble_eq_true rfl) dM_place_4 ⟨Nat.le_of_ble_eq_true rfl, Nat.le_of_ble_eq_true rfl⟩ (fun r_1 hr_1 => ?_)
  subst hr_1
  refine lv_if_eq (tgt := 14) hx hb dM_place_7 (by decide) (fun c_2 => ?_) (fun c_2 => ?_)
  · replace c_2 := bz_0 c_2
    refine lv_iconst (v := 1) hx hb dM_place_14 (by decide) ?_
    refine va_put (D := (dC, dI)) (ci := 1) (v := .int 1) (ty := .int) (C := R_M) (T := T_M) (N := 16) hx hb hts in_M t_M tok_M n_M hown hK hP hD hS 0 rfl rfl 0 (by decide) (hts _ flM51) (fun _ h9 => h9) rfl (by decide +kernel) rfl rfl (Nat.le_of_ble_eq_true rfl) dM_place_15 (fun H locs hP hD hS => ?_)
    have hP : va_P (dC, dI) snC [(h1, .inr (1, [.int 1, .int (nI Wd), .int (nI Ht), .ref b_wall, .int rs, .int (nI Pn), .ref b_px, .ref b_py, .ref b_loss, .ref b_reached, .int jc, .ref b_order, .ref b_upper, .ref b_length, .ref b_heads, .ref b_turn])), (b_wall, .inl (cZ, 256, .inl g_wall)), (b_px, .inl (cI, 12, .inl g_px)), (b_py, .inl (cI, 12, .inl g_py)), (b_loss, .inl (cI, 13, .inl g_loss)), (b_reached, .inl (cI, 256, .inl g_reached)), (b_order, .inl (cI, 12, .inl g_order)), (b_upper, .inl (cI, 12, .inl g_upper)), (b_length, .inl (cI, 12, .inl g_length)), (b_heads, .inl (cI, 12, .inl g_heads)), (b_turn, .inl (cI, 12, .inl g_turn))] H := hP
    have hD : va_D A [(h1, .inr (1, [.int 1, .int (nI Wd), .int (nI Ht), .ref b_wall, .int rs, .int (nI Pn), .ref b_px, .ref b_py, .ref b_loss, .ref b_reached, .int jc, .ref b_order, .ref b_upper, .ref b_length, .ref b_heads, .ref b_turn])), (b_wall, .inl (cZ, 256, .inl g_wall)), (b_px, .inl (cI, 12, .inl g_px)), (b_py, .inl (cI, 12, .inl g_py)), (b_loss, .inl (cI, 13, .inl g_loss)), (b_reached, .inl (cI, 256, .inl g_reached)), (b_order, .inl (cI, 12, .inl g_order)), (b_upper, .inl (cI, 12, .inl g_upper)), (b_length, .inl (cI, 12, .inl g_length)), (b_heads, .inl (cI, 12, .inl g_heads)), (b_turn, .inl (cI, 12, .inl g_turn))] := hD
    refine lv_aload_n hx hb dM_place_18 rfl (lv_at hl 0 rfl) ?_
    refine va_get (D := (dC, dI)) (ci := 1) (v := .int 1) (C := R_M) (T := T_M) (N := 16) hx hb hts in_M hown hK hP 0 rfl rfl 0 (by decide) (hts _ flM51) (fun _ h9 => h9) rfl dM_place_19 ?_
    refine lv_if_le (tgt := 27) hx hb dM_place_22 (by decide) (fun c_3 => ?_) (fun c_3 => ?_)
    · exact absurd c_3 (by decide)
    · refine lv_iconst (v := 0) hx hb dM_place_25 (by decide) ?_
      exact W.iret (v := 0) hx hb hr (fun t ht hW => ⟨⟨0, (), rfl, trivial, by rw [ht]; exact hP, va_K.moved hW.alike hK, hD⟩, hS.F ht⟩) hS.2.2 dM_place_26
  · exact absurd hno (by rw [bz_1 c_2]; decide)
set_option maxHeartbeats 4000000 in
set_option maxRecDepth 100000 in
theorem cM_seen (l : Launch) (dC : Nat → ClassId) (dI : Nat → Nat → Nat) (h1 b_wall b_px b_py b_loss b_reached b_order b_upper b_length b_heads b_turn : Nat) (cd : Int32) (Wd Ht Pn : Nat) (rs jc : Int32) (cZ cI : ClassId) (g_wall g_px g_py g_loss g_reached g_order g_upper g_length g_heads g_turn : Nat → Int32) (a b u v : Nat) (sz : Nat) (hW : Wd ≤ 16) (hH : Ht ≤ 16) (ha : a < Wd) (hb0 : b < Ht) (hu : u < Wd) (hv0 : v < Ht) : Met l yM_seen (kM_seen :: WD) { frames := 3, cells := 0, slots := 0, locals := 89 } (va_Pc [.ref h1, .int (nI a), .int (nI b), .int (nI u), .int (nI v)] (xm (dC, dI) snC [(h1, .inr (1, [.int cd, .int (nI Wd), .int (nI Ht), .ref b_wall, .int rs, .int (nI Pn), .ref b_px, .ref b_py, .ref b_loss, .ref b_reached, .int jc, .ref b_order, .ref b_upper, .ref b_length, .ref b_heads, .ref b_turn])), (b_wall, .inl (cZ, 256, .inl g_wall)), (b_px, .inl (cI, 12, .inl g_px)), (b_py, .inl (cI, 12, .inl g_py)), (b_loss, .inl (cI, 13, .inl g_loss)), (b_reached, .inl (cI, 256, .inl g_reached)), (b_order, .inl (cI, 12, .inl g_order)), (b_upper, .inl (cI, 12, .inl g_upper)), (b_length, .inl (cI, 12, .inl g_length)), (b_heads, .inl (cI, 12, .inl g_heads)), (b_turn, .inl (cI, 12, .inl g_turn))] [(cZ, .boolean), (cI, .int)] sz)) (va_Qi (fun (r : Int32) (_ : Unit) => r = bz (md_sees g_wall a b u v)) (fun _ => xo (dC, dI) snC [(h1, .inr (1, [.int 0, .int (nI Wd), .int (nI Ht), .ref b_wall, .int rs, .int (nI Pn), .ref b_px, .ref b_py, .ref b_loss, .ref b_reached, .int jc, .ref b_order, .ref b_upper, .ref b_length, .ref b_heads, .ref b_turn])), (b_wall, .inl (cZ, 256, .inl g_wall)), (b_px, .inl (cI, 12, .inl g_px)), (b_py, .inl (cI, 12, .inl g_py)), (b_loss, .inl (cI, 13, .inl g_loss)), (b_reached, .inl (cI, 256, .inl g_reached)), (b_order, .inl (cI, 12, .inl g_order)), (b_upper, .inl (cI, 12, .inl g_upper)), (b_length, .inl (cI, 12, .inl g_length)), (b_heads, .inl (cI, 12, .inl g_heads)), (b_turn, .inl (cI, 12, .inl g_turn))] [(cZ, .boolean), (cI, .int)] (va_A [(h1, .inr (1, [.int cd, .int (nI Wd), .int (nI Ht), .ref b_wall, .int rs, .int (nI Pn), .ref b_px, .ref b_py, .ref b_loss, .ref b_reached, .int jc, .ref b_order, .ref b_upper, .ref b_length, .ref b_heads, .ref b_turn])), (b_wall, .inl (cZ, 256, .inl g_wall)), (b_px, .inl (cI, 12, .inl g_px)), (b_py, .inl (cI, 12, .inl g_py)), (b_loss, .inl (cI, 13, .inl g_loss)), (b_reached, .inl (cI, 256, .inl g_reached)), (b_order, .inl (cI, 12, .inl g_order)), (b_upper, .inl (cI, 12, .inl g_upper)), (b_length, .inl (cI, 12, .inl g_length)), (b_heads, .inl (cI, 12, .inl g_heads)), (b_turn, .inl (cI, 12, .inl g_turn))] sz)) (va_A [(h1, .inr (1, [.int cd, .int (nI Wd), .int (nI Ht), .ref b_wall, .int rs, .int (nI Pn), .ref b_px, .ref b_py, .ref b_loss, .ref b_reached, .int jc, .ref b_order, .ref b_upper, .ref b_length, .ref b_heads, .ref b_turn])), (b_wall, .inl (cZ, 256, .inl g_wall)), (b_px, .inl (cI, 12, .inl g_px)), (b_py, .inl (cI, 12, .inl g_py)), (b_loss, .inl (cI, 13, .inl g_loss)), (b_reached, .inl (cI, 256, .inl g_reached)), (b_order, .inl (cI, 12, .inl g_order)), (b_upper, .inl (cI, 12, .inl g_upper)), (b_length, .inl (cI, 12, .inl g_length)), (b_heads, .inl (cI, 12, .inl g_heads)), (b_turn, .inl (cI, 12, .inl g_turn))] sz)) 0 0 (va_A [(h1, .inr (1, [.int cd, .int (nI Wd), .int (nI Ht), .ref b_wall, .int rs, .int (nI Pn), .ref b_px, .ref b_py, .ref b_loss, .ref b_reached, .int jc, .ref b_order, .ref b_upper, .ref b_length, .ref b_heads, .ref b_turn])), (b_wall, .inl (cZ, 256, .inl g_wall)), (b_px, .inl (cI, 12, .inl g_px)), (b_py, .inl (cI, 12, .inl g_py)), (b_loss, .inl (cI, 13, .inl g_loss)), (b_reached, .inl (cI, 256, .inl g_reached)), (b_order, .inl (cI, 12, .inl g_order)), (b_upper, .inl (cI, 12, .inl g_upper)), (b_length, .inl (cI, 12, .inl g_length)), (b_heads, .inl (cI, 12, .inl g_heads)), (b_turn, .inl (cI, 12, .inl g_turn))] sz) := by
  refine Met.ofW (cc := bM_seen) (maxL := 5) (ret := (some .boolean)) (by decide) rfl ?_
  intro p e s m args below meth c s₁ B hml hv
  obtain ⟨rfl, hsz, hP, hK, hD0⟩ := hv
  have hx := B.exec
  have hb := B.bytes
  have hr := B.returns
  have hts : ∀ w ∈ WD, w.before _ s = true := fun w h => atoms_spec (ws := kM_seen :: WD) B.pre w (List.mem_cons_of_mem _ h)
  have hown : s.vm.findClass R_M = some m.cls := findClass_of_methodNamed B.named
  have hlocks := B.notSynchronized
  subst hsz
  have hD := hD0.self (sz := s.heap.size)
  generalize hAe : va_A [(h1, .inr (1, [.int cd, .int (nI Wd), .int (nI Ht), .ref b_wall, .int rs, .int (nI Pn), .ref b_px, .ref b_py, .ref b_loss, .ref b_reached, .int jc, .ref b_order, .ref b_upper, .ref b_length, .ref b_heads, .ref b_turn])), (b_wall, .inl (cZ, 256, .inl g_wall)), (b_px, .inl (cI, 12, .inl g_px)), (b_py, .inl (cI, 12, .inl g_py)), (b_loss, .inl (cI, 13, .inl g_loss)), (b_reached, .inl (cI, 256, .inl g_reached)), (b_order, .inl (cI, 12, .inl g_order)), (b_upper, .inl (cI, 12, .inl g_upper)), (b_length, .inl (cI, 12, .inl g_length)), (b_heads, .inl (cI, 12, .inl g_heads)), (b_turn, .inl (cI, 12, .inl g_turn))] s.heap.size = A at hD ⊢
  have hA : ∀ q : Nat, s.heap.size ≤ q → A q := fun q h => by rw [← hAe]; exact Or.inr h
  have hS : va_S A s.heap s.heap [] := va_S.rf
  have hl := lv_entry ([.ref h1, .int (nI a), .int (nI b), .int (nI u), .int (nI v)]) (n := 5) (Nat.le_of_ble_eq_true rfl)
  rw [lg_entry_eq]
  generalize (lg_sl ([.ref h1, .int (nI a), .int (nI b), .int (nI u), .int (nI v)]) ++ List.replicate (5 - (lg_sl ([.ref h1, .int (nI a), .int (nI b), .int (nI u), .int (nI v)])).length) Slot.unset).toArray = ls at hl ⊢
  have hl : lv_has ls 5 [(0, .ref h1), (1, .int (nI a)), (2, .int (nI b)), (3, .int (nI u)), (4, .int (nI v))] := hl
  have hok := sn_in_nI hW hH ha hb0
  have hok2 := sn_in_nI hW hH hu hv0
  refine lv_aload_n hx hb dM_seen_0 rfl (lv_at hl 0 rfl) ?_
  refine lv_aload_n hx hb dM_seen_1 rfl (lv_at hl 0 rfl) ?_
  refine lv_iload_n hx hb dM_seen_2 rfl (lv_at hl 1 rfl) ?_
  refine lv_iload_n hx hb dM_seen_3 rfl (lv_at hl 2 rfl) ?_
  refine xr_V (As := [.int (nI a), .int (nI b)]) ⟨hx, hb, hml, hown, hts⟩ (cM_isCell l dC dI h1 b_wall b_px b_py b_loss b_reached b_order b_upper b_length b_heads b_turn cd Wd Ht Pn rs jc (nI a) (nI b)) (cwV 2 hts gM57 rfl rfl rfl (by decide +kernel) ⟨Nat.le_of_ble_eq_true rfl, Nat.le_of_ble_eq_true rfl⟩) hK hP [0] [] rfl rfl 1 0 rfl rfl rfl rfl hl.1 rfl (Nat.le_of_ble_eq_true rfl) dM_seen_4 ⟨Nat.le_of_ble_eq_true rfl, Nat.le_of_ble_eq_true rfl⟩ (fun r_1 hr_1 => ?_)
  subst hr_1
  refine lv_if_eq (tgt := 24) hx hb dM_seen_7 (by decide) (fun c_2 => ?_) (fun c_2 => ?_)
  · exact absurd hok (by rw [bz_0 c_2]; decide)
  · replace c_2 := bz_1 c_2
    refine lv_aload_n hx hb dM_seen_10 rfl (lv_at hl 0 rfl) ?_
    refine lv_iload_n hx hb dM_seen_11 rfl (lv_at hl 3 rfl) ?_
    refine lv_iload hx hb dM_seen_12 (lv_at hl 4 rfl) ?_
    refine xr_V (As := [.int (nI u), .int (nI v)]) ⟨hx, hb, hml, hown, hts⟩ (cM_isCell l dC dI h1 b_wall b_px b_py b_loss b_reached b_order b_upper b_length b_heads b_turn cd Wd Ht Pn rs jc (nI u) (nI v)) (cwV 2 hts gM57 rfl rfl rfl (by decide +kernel) ⟨Nat.le_of_ble_eq_true rfl, Nat.le_of_ble_eq_true rfl⟩) hK hP [0] [] rfl rfl 1 0 rfl rfl rfl rfl hl.1 rfl (Nat.le_of_ble_eq_true rfl) dM_seen_14 ⟨Nat.le_of_ble_eq_true rfl, Nat.le_of_ble_eq_true rfl⟩ (fun r_3 hr_3 => ?_)
    subst hr_3
    refine lv_if_eq (tgt := 24) hx hb dM_seen_17 (by decide) (fun c_4 => ?_) (fun c_4 => ?_)
    · exact absurd hok2 (by rw [bz_0 c_4]; decide)
    · replace c_4 := bz_1 c_4
      refine lv_iconst (v := 0) hx hb dM_seen_20 (by decide) ?_
      refine lv_goto (tgt := 25) hx hb dM_seen_21 (by decide) ?_
      refine va_put (D := (dC, dI)) (ci := 1) (v := .int 0) (ty := .int) (C := R_M) (T := T_M) (N := 16) hx hb hts in_M t_M tok_M n_M hown hK hP hD hS 0 rfl rfl 0 (by decide) (hts _ flM51) (fun _ h9 => h9) rfl (by decide +kernel) rfl rfl (Nat.le_of_ble_eq_true rfl) dM_seen_25 (fun H locs hP hD hS => ?_)
      have hP : va_P (dC, dI) snC [(h1, .inr (1, [.int 0, .int (nI Wd), .int (nI Ht), .ref b_wall, .int rs, .int (nI Pn), .ref b_px, .ref b_py, .ref b_loss, .ref b_reached, .int jc, .ref b_order, .ref b_upper, .ref b_length, .ref b_heads, .ref b_turn])), (b_wall, .inl (cZ, 256, .inl g_wall)), (b_px, .inl (cI, 12, .inl g_px)), (b_py, .inl (cI, 12, .inl g_py)), (b_loss, .inl (cI, 13, .inl g_loss)), (b_reached, .inl (cI, 256, .inl g_reached)), (b_order, .inl (cI, 12, .inl g_order)), (b_upper, .inl (cI, 12, .inl g_upper)), (b_length, .inl (cI, 12, .inl g_length)), (b_heads, .inl (cI, 12, .inl g_heads)), (b_turn, .inl (cI, 12, .inl g_turn))] H := hP
      have hD : va_D A [(h1, .inr (1, [.int 0, .int (nI Wd), .int (nI Ht), .ref b_wall, .int rs, .int (nI Pn), .ref b_px, .ref b_py, .ref b_loss, .ref b_reached, .int jc, .ref b_order, .ref b_upper, .ref b_length, .ref b_heads, .ref b_turn])), (b_wall, .inl (cZ, 256, .inl g_wall)), (b_px, .inl (cI, 12, .inl g_px)), (b_py, .inl (cI, 12, .inl g_py)), (b_loss, .inl (cI, 13, .inl g_loss)), (b_reached, .inl (cI, 256, .inl g_reached)), (b_order, .inl (cI, 12, .inl g_order)), (b_upper, .inl (cI, 12, .inl g_upper)), (b_length, .inl (cI, 12, .inl g_length)), (b_heads, .inl (cI, 12, .inl g_heads)), (b_turn, .inl (cI, 12, .inl g_turn))] := hD
      refine lv_aload_n hx hb dM_seen_28 rfl (lv_at hl 0 rfl) ?_
      refine va_get (D := (dC, dI)) (ci := 1) (v := .int 0) (C := R_M) (T := T_M) (N := 16) hx hb hts in_M hown hK hP 0 rfl rfl 0 (by decide) (hts _ flM51) (fun _ h9 => h9) rfl dM_seen_29 ?_
      refine lv_if_ne (tgt := 51) hx hb dM_seen_32 (by decide) (fun c_5 => ?_) (fun c_5 => ?_)
      · exact absurd c_5 (by decide)
      · refine lv_aload_n hx hb dM_seen_35 rfl (lv_at hl 0 rfl) ?_
        refine lv_iload_n hx hb dM_seen_36 rfl (lv_at hl 1 rfl) ?_
        refine lv_iload_n hx hb dM_seen_37 rfl (lv_at hl 2 rfl) ?_
        refine lv_iload_n hx hb dM_seen_38 rfl (lv_at hl 3 rfl) ?_
        refine lv_iload hx hb dM_seen_39 (lv_at hl 4 rfl) ?_
        refine xr_V (As := [.int (nI a), .int (nI b), .int (nI u), .int (nI v)]) ⟨hx, hb, hml, hown, hts⟩ (cM_sees l dC dI h1 b_wall b_px b_py b_loss b_reached b_order b_upper b_length b_heads b_turn 0 Wd Ht Pn rs jc cZ g_wall a b u v (by omega) (by omega) (by omega) (by omega)) (cwV 4 hts gM79 rfl rfl rfl (by decide +kernel) ⟨Nat.le_of_ble_eq_true rfl, Nat.le_of_ble_eq_true rfl⟩) hK hP [0, 1] [0] rfl rfl 1 0 rfl rfl rfl rfl hl.1 rfl (Nat.le_of_ble_eq_true rfl) dM_seen_41 ⟨Nat.le_of_ble_eq_true rfl, Nat.le_of_ble_eq_true rfl⟩ (fun r_6 hr_6 => ?_)
        subst hr_6
        refine lv_if_eq (tgt := 51) hx hb dM_seen_44 (by decide) (fun c_7 => ?_) (fun c_7 => ?_)
        · replace c_7 := bz_0 c_7
          refine lv_iconst (v := 0) hx hb dM_seen_51 (by decide) ?_
          exact W.zret (v := 0) hx hb hr (by decide) (fun t ht hW => ⟨⟨0, (), rfl, (by simp [bz, c_2, c_4, c_5, c_7]), by rw [ht]; exact hP, va_K.moved hW.alike hK, hD⟩, hS.F ht⟩) hS.2.2 dM_seen_52
        · replace c_7 := bz_1 c_7
          refine lv_iconst (v := 1) hx hb dM_seen_47 (by decide) ?_
          refine lv_goto (tgt := 52) hx hb dM_seen_48 (by decide) ?_
          exact W.zret (v := 1) hx hb hr (by decide) (fun t ht hW => ⟨⟨1, (), rfl, (by simp [bz, c_2, c_4, c_5, c_7]), by rw [ht]; exact hP, va_K.moved hW.alike hK, hD⟩, hS.F ht⟩) hS.2.2 dM_seen_52
set_option maxHeartbeats 4000000 in
set_option maxRecDepth 100000 in
theorem cM_seen_x (l : Launch) (dC : Nat → ClassId) (dI : Nat → Nat → Nat) (h1 b_wall b_px b_py b_loss b_reached b_order b_upper b_length b_heads b_turn : Nat) (cd : Int32) (Wd Ht Pn : Nat) (rs jc : Int32) (cZ cI : ClassId) (g_wall g_px g_py g_loss g_reached g_order g_upper g_length g_heads g_turn : Nat → Int32) (x y u v : Int32) (sz : Nat) (hno : (sn_in Wd Ht x y && sn_in Wd Ht u v) = false) : Met l yM_seen (kM_seen :: WD) { frames := 3, cells := 0, slots := 0, locals := 89 } (va_Pc [.ref h1, .int x, .int y, .int u, .int v] (xm (dC, dI) snC [(h1, .inr (1, [.int cd, .int (nI Wd), .int (nI Ht), .ref b_wall, .int rs, .int (nI Pn), .ref b_px, .ref b_py, .ref b_loss, .ref b_reached, .int jc, .ref b_order, .ref b_upper, .ref b_length, .ref b_heads, .ref b_turn])), (b_wall, .inl (cZ, 256, .inl g_wall)), (b_px, .inl (cI, 12, .inl g_px)), (b_py, .inl (cI, 12, .inl g_py)), (b_loss, .inl (cI, 13, .inl g_loss)), (b_reached, .inl (cI, 256, .inl g_reached)), (b_order, .inl (cI, 12, .inl g_order)), (b_upper, .inl (cI, 12, .inl g_upper)), (b_length, .inl (cI, 12, .inl g_length)), (b_heads, .inl (cI, 12, .inl g_heads)), (b_turn, .inl (cI, 12, .inl g_turn))] [(cZ, .boolean), (cI, .int)] sz)) (va_Qi (fun (r : Int32) (_ : Unit) => True) (fun _ => xo (dC, dI) snC [(h1, .inr (1, [.int 1, .int (nI Wd), .int (nI Ht), .ref b_wall, .int rs, .int (nI Pn), .ref b_px, .ref b_py, .ref b_loss, .ref b_reached, .int jc, .ref b_order, .ref b_upper, .ref b_length, .ref b_heads, .ref b_turn])), (b_wall, .inl (cZ, 256, .inl g_wall)), (b_px, .inl (cI, 12, .inl g_px)), (b_py, .inl (cI, 12, .inl g_py)), (b_loss, .inl (cI, 13, .inl g_loss)), (b_reached, .inl (cI, 256, .inl g_reached)), (b_order, .inl (cI, 12, .inl g_order)), (b_upper, .inl (cI, 12, .inl g_upper)), (b_length, .inl (cI, 12, .inl g_length)), (b_heads, .inl (cI, 12, .inl g_heads)), (b_turn, .inl (cI, 12, .inl g_turn))] [(cZ, .boolean), (cI, .int)] (va_A [(h1, .inr (1, [.int cd, .int (nI Wd), .int (nI Ht), .ref b_wall, .int rs, .int (nI Pn), .ref b_px, .ref b_py, .ref b_loss, .ref b_reached, .int jc, .ref b_order, .ref b_upper, .ref b_length, .ref b_heads, .ref b_turn])), (b_wall, .inl (cZ, 256, .inl g_wall)), (b_px, .inl (cI, 12, .inl g_px)), (b_py, .inl (cI, 12, .inl g_py)), (b_loss, .inl (cI, 13, .inl g_loss)), (b_reached, .inl (cI, 256, .inl g_reached)), (b_order, .inl (cI, 12, .inl g_order)), (b_upper, .inl (cI, 12, .inl g_upper)), (b_length, .inl (cI, 12, .inl g_length)), (b_heads, .inl (cI, 12, .inl g_heads)), (b_turn, .inl (cI, 12, .inl g_turn))] sz)) (va_A [(h1, .inr (1, [.int cd, .int (nI Wd), .int (nI Ht), .ref b_wall, .int rs, .int (nI Pn), .ref b_px, .ref b_py, .ref b_loss, .ref b_reached, .int jc, .ref b_order, .ref b_upper, .ref b_length, .ref b_heads, .ref b_turn])), (b_wall, .inl (cZ, 256, .inl g_wall)), (b_px, .inl (cI, 12, .inl g_px)), (b_py, .inl (cI, 12, .inl g_py)), (b_loss, .inl (cI, 13, .inl g_loss)), (b_reached, .inl (cI, 256, .inl g_reached)), (b_order, .inl (cI, 12, .inl g_order)), (b_upper, .inl (cI, 12, .inl g_upper)), (b_length, .inl (cI, 12, .inl g_length)), (b_heads, .inl (cI, 12, .inl g_heads)), (b_turn, .inl (cI, 12, .inl g_turn))] sz)) 0 0 (va_A [(h1, .inr (1, [.int cd, .int (nI Wd), .int (nI Ht), .ref b_wall, .int rs, .int (nI Pn), .ref b_px, .ref b_py, .ref b_loss, .ref b_reached, .int jc, .ref b_order, .ref b_upper, .ref b_length, .ref b_heads, .ref b_turn])), (b_wall, .inl (cZ, 256, .inl g_wall)), (b_px, .inl (cI, 12, .inl g_px)), (b_py, .inl (cI, 12, .inl g_py)), (b_loss, .inl (cI, 13, .inl g_loss)), (b_reached, .inl (cI, 256, .inl g_reached)), (b_order, .inl (cI, 12, .inl g_order)), (b_upper, .inl (cI, 12, .inl g_upper)), (b_length, .inl (cI, 12, .inl g_length)), (b_heads, .inl (cI, 12, .inl g_heads)), (b_turn, .inl (cI, 12, .inl g_turn))] sz) := by
  refine Met.ofW (cc := bM_seen) (maxL := 5) (ret := (some .boolean)) (by decide) rfl ?_
  intro p e s m args below meth c s₁ B hml hv
  obtain ⟨rfl, hsz, hP, hK, hD0⟩ := hv
  have hx := B.exec
  have hb := B.bytes
  have hr := B.returns
  have hts : ∀ w ∈ WD, w.before _ s = true := fun w h => atoms_spec (ws := kM_seen :: WD) B.pre w (List.mem_cons_of_mem _ h)
  have hown : s.vm.findClass R_M = some m.cls := findClass_of_methodNamed B.named
  have hlocks := B.notSynchronized
  subst hsz
  have hD := hD0.self (sz := s.heap.size)
  generalize hAe : va_A [(h1, .inr (1, [.int cd, .int (nI Wd), .int (nI Ht), .ref b_wall, .int rs, .int (nI Pn), .ref b_px, .ref b_py, .ref b_loss, .ref b_reached, .int jc, .ref b_order, .ref b_upper, .ref b_length, .ref b_heads, .ref b_turn])), (b_wall, .inl (cZ, 256, .inl g_wall)), (b_px, .inl (cI, 12, .inl g_px)), (b_py, .inl (cI, 12, .inl g_py)), (b_loss, .inl (cI, 13, .inl g_loss)), (b_reached, .inl (cI, 256, .inl g_reached)), (b_order, .inl (cI, 12, .inl g_order)), (b_upper, .inl (cI, 12, .inl g_upper)), (b_length, .inl (cI, 12, .inl g_length)), (b_heads, .inl (cI, 12, .inl g_heads)), (b_turn, .inl (cI, 12, .inl g_turn))] s.heap.size = A at hD ⊢
  have hA : ∀ q : Nat, s.heap.size ≤ q → A q := fun q h => by rw [← hAe]; exact Or.inr h
  have hS : va_S A s.heap s.heap [] := va_S.rf
  have hl := lv_entry ([.ref h1, .int x, .int y, .int u, .int v]) (n := 5) (Nat.le_of_ble_eq_true rfl)
  rw [lg_entry_eq]
  generalize (lg_sl ([.ref h1, .int x, .int y, .int u, .int v]) ++ List.replicate (5 - (lg_sl ([.ref h1, .int x, .int y, .int u, .int v])).length) Slot.unset).toArray = ls at hl ⊢
  have hl : lv_has ls 5 [(0, .ref h1), (1, .int x), (2, .int y), (3, .int u), (4, .int v)] := hl
  refine lv_aload_n hx hb dM_seen_0 rfl (lv_at hl 0 rfl) ?_
  refine lv_aload_n hx hb dM_seen_1 rfl (lv_at hl 0 rfl) ?_
  refine lv_iload_n hx hb dM_seen_2 rfl (lv_at hl 1 rfl) ?_
  refine lv_iload_n hx hb dM_seen_3 rfl (lv_at hl 2 rfl) ?_
  refine xr_V (As := [.int x, .int y]) ⟨hx, hb, hml, hown, hts⟩ (cM_isCell l dC dI h1 b_wall b_px b_py b_loss b_reached b_order b_upper b_length b_heads b_turn cd Wd Ht Pn rs jc x y) (cwV 2 hts gM57 rfl rfl rfl (by decide +kernel) ⟨Nat.le_of_ble_eq_true rfl, Nat.le_of_ble_eq_true rfl⟩) hK hP [0] [] rfl rfl 1 0 rfl rfl rfl rfl hl.1 rfl (Nat.le_of_ble_eq_true rfl) dM_seen_4 ⟨Nat.le_of_ble_eq_true rfl, Nat.le_of_ble_eq_true rfl⟩ (fun r_1 hr_1 => ?_)
  subst hr_1
  refine lv_if_eq (tgt := 24) hx hb dM_seen_7 (by decide) (fun c_2 => ?_) (fun c_2 => ?_)
  · replace c_2 := bz_0 c_2
    refine lv_iconst (v := 1) hx hb dM_seen_24 (by decide) ?_
    refine va_put (D := (dC, dI)) (ci := 1) (v := .int 1) (ty := .int) (C := R_M) (T := T_M) (N := 16) hx hb hts in_M t_M tok_M n_M hown hK hP hD hS 0 rfl rfl 0 (by decide) (hts _ flM51) (fun _ h9 => h9) rfl (by decide +kernel) rfl rfl (Nat.le_of_ble_eq_true rfl) dM_seen_25 (fun H locs hP hD hS => ?_)
    have hP : va_P (dC, dI) snC [(h1, .inr (1, [.int 1, .int (nI Wd), .int (nI Ht), .ref b_wall, .int rs, .int (nI Pn), .ref b_px, .ref b_py, .ref b_loss, .ref b_reached, .int jc, .ref b_order, .ref b_upper, .ref b_length, .ref b_heads, .ref b_turn])), (b_wall, .inl (cZ, 256, .inl g_wall)), (b_px, .inl (cI, 12, .inl g_px)), (b_py, .inl (cI, 12, .inl g_py)), (b_loss, .inl (cI, 13, .inl g_loss)), (b_reached, .inl (cI, 256, .inl g_reached)), (b_order, .inl (cI, 12, .inl g_order)), (b_upper, .inl (cI, 12, .inl g_upper)), (b_length, .inl (cI, 12, .inl g_length)), (b_heads, .inl (cI, 12, .inl g_heads)), (b_turn, .inl (cI, 12, .inl g_turn))] H := hP
    have hD : va_D A [(h1, .inr (1, [.int 1, .int (nI Wd), .int (nI Ht), .ref b_wall, .int rs, .int (nI Pn), .ref b_px, .ref b_py, .ref b_loss, .ref b_reached, .int jc, .ref b_order, .ref b_upper, .ref b_length, .ref b_heads, .ref b_turn])), (b_wall, .inl (cZ, 256, .inl g_wall)), (b_px, .inl (cI, 12, .inl g_px)), (b_py, .inl (cI, 12, .inl g_py)), (b_loss, .inl (cI, 13, .inl g_loss)), (b_reached, .inl (cI, 256, .inl g_reached)), (b_order, .inl (cI, 12, .inl g_order)), (b_upper, .inl (cI, 12, .inl g_upper)), (b_length, .inl (cI, 12, .inl g_length)), (b_heads, .inl (cI, 12, .inl g_heads)), (b_turn, .inl (cI, 12, .inl g_turn))] := hD
    refine lv_aload_n hx hb dM_seen_28 rfl (lv_at hl 0 rfl) ?_
    refine va_get (D := (dC, dI)) (ci := 1) (v := .int 1) (C := R_M) (T := T_M) (N := 16) hx hb hts in_M hown hK hP 0 rfl rfl 0 (by decide) (hts _ flM51) (fun _ h9 => h9) rfl dM_seen_29 ?_
    refine lv_if_ne (tgt := 51) hx hb dM_seen_32 (by decide) (fun c_3 => ?_) (fun c_3 => ?_)
    · refine lv_iconst (v := 0) hx hb dM_seen_51 (by decide) ?_
      exact W.zret (v := 0) hx hb hr (by decide) (fun t ht hW => ⟨⟨0, (), rfl, trivial, by rw [ht]; exact hP, va_K.moved hW.alike hK, hD⟩, hS.F ht⟩) hS.2.2 dM_seen_52
    · exact absurd c_3 (by decide)
  · replace c_2 := bz_1 c_2
    refine lv_aload_n hx hb dM_seen_10 rfl (lv_at hl 0 rfl) ?_
    refine lv_iload_n hx hb dM_seen_11 rfl (lv_at hl 3 rfl) ?_
    refine lv_iload hx hb dM_seen_12 (lv_at hl 4 rfl) ?_
    refine xr_V (As := [.int u, .int v]) ⟨hx, hb, hml, hown, hts⟩ (cM_isCell l dC dI h1 b_wall b_px b_py b_loss b_reached b_order b_upper b_length b_heads b_turn cd Wd Ht Pn rs jc u v) (cwV 2 hts gM57 rfl rfl rfl (by decide +kernel) ⟨Nat.le_of_ble_eq_true rfl, Nat.le_of_ble_eq_true rfl⟩) hK hP [0] [] rfl rfl 1 0 rfl rfl rfl rfl hl.1 rfl (Nat.le_of_ble_eq_true rfl) dM_seen_14 ⟨Nat.le_of_ble_eq_true rfl, Nat.le_of_ble_eq_true rfl⟩ (fun r_4 hr_4 => ?_)
    subst hr_4
    refine lv_if_eq (tgt := 24) hx hb dM_seen_17 (by decide) (fun c_5 => ?_) (fun c_5 => ?_)
    · replace c_5 := bz_0 c_5
      refine lv_iconst (v := 1) hx hb dM_seen_24 (by decide) ?_
      refine va_put (D := (dC, dI)) (ci := 1) (v := .int 1) (ty := .int) (C := R_M) (T := T_M) (N := 16) hx hb hts in_M t_M tok_M n_M hown hK hP hD hS 0 rfl rfl 0 (by decide) (hts _ flM51) (fun _ h9 => h9) rfl (by decide +kernel) rfl rfl (Nat.le_of_ble_eq_true rfl) dM_seen_25 (fun H locs hP hD hS => ?_)
      have hP : va_P (dC, dI) snC [(h1, .inr (1, [.int 1, .int (nI Wd), .int (nI Ht), .ref b_wall, .int rs, .int (nI Pn), .ref b_px, .ref b_py, .ref b_loss, .ref b_reached, .int jc, .ref b_order, .ref b_upper, .ref b_length, .ref b_heads, .ref b_turn])), (b_wall, .inl (cZ, 256, .inl g_wall)), (b_px, .inl (cI, 12, .inl g_px)), (b_py, .inl (cI, 12, .inl g_py)), (b_loss, .inl (cI, 13, .inl g_loss)), (b_reached, .inl (cI, 256, .inl g_reached)), (b_order, .inl (cI, 12, .inl g_order)), (b_upper, .inl (cI, 12, .inl g_upper)), (b_length, .inl (cI, 12, .inl g_length)), (b_heads, .inl (cI, 12, .inl g_heads)), (b_turn, .inl (cI, 12, .inl g_turn))] H := hP
      have hD : va_D A [(h1, .inr (1, [.int 1, .int (nI Wd), .int (nI Ht), .ref b_wall, .int rs, .int (nI Pn), .ref b_px, .ref b_py, .ref b_loss, .ref b_reached, .int jc, .ref b_order, .ref b_upper, .ref b_length, .ref b_heads, .ref b_turn])), (b_wall, .inl (cZ, 256, .inl g_wall)), (b_px, .inl (cI, 12, .inl g_px)), (b_py, .inl (cI, 12, .inl g_py)), (b_loss, .inl (cI, 13, .inl g_loss)), (b_reached, .inl (cI, 256, .inl g_reached)), (b_order, .inl (cI, 12, .inl g_order)), (b_upper, .inl (cI, 12, .inl g_upper)), (b_length, .inl (cI, 12, .inl g_length)), (b_heads, .inl (cI, 12, .inl g_heads)), (b_turn, .inl (cI, 12, .inl g_turn))] := hD
      refine lv_aload_n hx hb dM_seen_28 rfl (lv_at hl 0 rfl) ?_
      refine va_get (D := (dC, dI)) (ci := 1) (v := .int 1) (C := R_M) (T := T_M) (N := 16) hx hb hts in_M hown hK hP 0 rfl rfl 0 (by decide) (hts _ flM51) (fun _ h9 => h9) rfl dM_seen_29 ?_
      refine lv_if_ne (tgt := 51) hx hb dM_seen_32 (by decide) (fun c_6 => ?_) (fun c_6 => ?_)
      · refine lv_iconst (v := 0) hx hb dM_seen_51 (by decide) ?_
        exact W.zret (v := 0) hx hb hr (by decide) (fun t ht hW => ⟨⟨0, (), rfl, trivial, by rw [ht]; exact hP, va_K.moved hW.alike hK, hD⟩, hS.F ht⟩) hS.2.2 dM_seen_52
      · exact absurd c_6 (by decide)
    · exact absurd hno (by rw [bz_1 c_5]; simp [*])
set_option maxHeartbeats 4000000 in
set_option maxRecDepth 100000 in
theorem cM_reached (l : Launch) (dC : Nat → ClassId) (dI : Nat → Nat → Nat) (h1 b_wall b_px b_py b_loss b_reached b_order b_upper b_length b_heads b_turn : Nat) (cd : Int32) (Wd Ht Pn : Nat) (rs jc : Int32) (cZ cI : ClassId) (g_wall g_px g_py g_loss g_reached g_order g_upper g_length g_heads g_turn : Nat → Int32) (X Y : Nat → Nat) (q : Nat) (sz : Nat) (hW : Wd ≤ 16) (hH : Ht ≤ 16) (hPn : Pn ≤ 12) (hXY : ∀ i, i < Pn → g_px i = nI (X i) ∧ g_py i = nI (Y i) ∧ X i < 16 ∧ Y i < 16) (hq : q < Pn) : Met l yM_reached (kM_reached :: WD) { frames := 4, cells := 0, slots := 0, locals := 114 } (va_Pc [.ref h1, .int (nI q)] (xm (dC, dI) snC [(h1, .inr (1, [.int cd, .int (nI Wd), .int (nI Ht), .ref b_wall, .int rs, .int (nI Pn), .ref b_px, .ref b_py, .ref b_loss, .ref b_reached, .int jc, .ref b_order, .ref b_upper, .ref b_length, .ref b_heads, .ref b_turn])), (b_wall, .inl (cZ, 256, .inl g_wall)), (b_px, .inl (cI, 12, .inl g_px)), (b_py, .inl (cI, 12, .inl g_py)), (b_loss, .inl (cI, 13, .inl g_loss)), (b_reached, .inl (cI, 256, .inl g_reached)), (b_order, .inl (cI, 12, .inl g_order)), (b_upper, .inl (cI, 12, .inl g_upper)), (b_length, .inl (cI, 12, .inl g_length)), (b_heads, .inl (cI, 12, .inl g_heads)), (b_turn, .inl (cI, 12, .inl g_turn))] [(cZ, .boolean), (cI, .int)] sz)) (va_Qi (fun (r : Int32) (_ : Unit) => r = md_cy g_wall rs X Y q Wd Ht 0 0) (fun _ => xo (dC, dI) snC [(h1, .inr (1, [.int 0, .int (nI Wd), .int (nI Ht), .ref b_wall, .int rs, .int (nI Pn), .ref b_px, .ref b_py, .ref b_loss, .ref b_reached, .int jc, .ref b_order, .ref b_upper, .ref b_length, .ref b_heads, .ref b_turn])), (b_wall, .inl (cZ, 256, .inl g_wall)), (b_px, .inl (cI, 12, .inl g_px)), (b_py, .inl (cI, 12, .inl g_py)), (b_loss, .inl (cI, 13, .inl g_loss)), (b_reached, .inl (cI, 256, .inl g_reached)), (b_order, .inl (cI, 12, .inl g_order)), (b_upper, .inl (cI, 12, .inl g_upper)), (b_length, .inl (cI, 12, .inl g_length)), (b_heads, .inl (cI, 12, .inl g_heads)), (b_turn, .inl (cI, 12, .inl g_turn))] [(cZ, .boolean), (cI, .int)] (va_A [(h1, .inr (1, [.int cd, .int (nI Wd), .int (nI Ht), .ref b_wall, .int rs, .int (nI Pn), .ref b_px, .ref b_py, .ref b_loss, .ref b_reached, .int jc, .ref b_order, .ref b_upper, .ref b_length, .ref b_heads, .ref b_turn])), (b_wall, .inl (cZ, 256, .inl g_wall)), (b_px, .inl (cI, 12, .inl g_px)), (b_py, .inl (cI, 12, .inl g_py)), (b_loss, .inl (cI, 13, .inl g_loss)), (b_reached, .inl (cI, 256, .inl g_reached)), (b_order, .inl (cI, 12, .inl g_order)), (b_upper, .inl (cI, 12, .inl g_upper)), (b_length, .inl (cI, 12, .inl g_length)), (b_heads, .inl (cI, 12, .inl g_heads)), (b_turn, .inl (cI, 12, .inl g_turn))] sz)) (va_A [(h1, .inr (1, [.int cd, .int (nI Wd), .int (nI Ht), .ref b_wall, .int rs, .int (nI Pn), .ref b_px, .ref b_py, .ref b_loss, .ref b_reached, .int jc, .ref b_order, .ref b_upper, .ref b_length, .ref b_heads, .ref b_turn])), (b_wall, .inl (cZ, 256, .inl g_wall)), (b_px, .inl (cI, 12, .inl g_px)), (b_py, .inl (cI, 12, .inl g_py)), (b_loss, .inl (cI, 13, .inl g_loss)), (b_reached, .inl (cI, 256, .inl g_reached)), (b_order, .inl (cI, 12, .inl g_order)), (b_upper, .inl (cI, 12, .inl g_upper)), (b_length, .inl (cI, 12, .inl g_length)), (b_heads, .inl (cI, 12, .inl g_heads)), (b_turn, .inl (cI, 12, .inl g_turn))] sz)) 0 0 (va_A [(h1, .inr (1, [.int cd, .int (nI Wd), .int (nI Ht), .ref b_wall, .int rs, .int (nI Pn), .ref b_px, .ref b_py, .ref b_loss, .ref b_reached, .int jc, .ref b_order, .ref b_upper, .ref b_length, .ref b_heads, .ref b_turn])), (b_wall, .inl (cZ, 256, .inl g_wall)), (b_px, .inl (cI, 12, .inl g_px)), (b_py, .inl (cI, 12, .inl g_py)), (b_loss, .inl (cI, 13, .inl g_loss)), (b_reached, .inl (cI, 256, .inl g_reached)), (b_order, .inl (cI, 12, .inl g_order)), (b_upper, .inl (cI, 12, .inl g_upper)), (b_length, .inl (cI, 12, .inl g_length)), (b_heads, .inl (cI, 12, .inl g_heads)), (b_turn, .inl (cI, 12, .inl g_turn))] sz) := by
  refine Met.ofW (cc := bM_reached) (maxL := 5) (ret := (some .int)) (by decide) rfl ?_
  intro p e s m args below meth c s₁ B hml hv
  obtain ⟨rfl, hsz, hP, hK, hD0⟩ := hv
  have hx := B.exec
  have hb := B.bytes
  have hr := B.returns
  have hts : ∀ w ∈ WD, w.before _ s = true := fun w h => atoms_spec (ws := kM_reached :: WD) B.pre w (List.mem_cons_of_mem _ h)
  have hown : s.vm.findClass R_M = some m.cls := findClass_of_methodNamed B.named
  have hlocks := B.notSynchronized
  subst hsz
  have hD := hD0.self (sz := s.heap.size)
  generalize hAe : va_A [(h1, .inr (1, [.int cd, .int (nI Wd), .int (nI Ht), .ref b_wall, .int rs, .int (nI Pn), .ref b_px, .ref b_py, .ref b_loss, .ref b_reached, .int jc, .ref b_order, .ref b_upper, .ref b_length, .ref b_heads, .ref b_turn])), (b_wall, .inl (cZ, 256, .inl g_wall)), (b_px, .inl (cI, 12, .inl g_px)), (b_py, .inl (cI, 12, .inl g_py)), (b_loss, .inl (cI, 13, .inl g_loss)), (b_reached, .inl (cI, 256, .inl g_reached)), (b_order, .inl (cI, 12, .inl g_order)), (b_upper, .inl (cI, 12, .inl g_upper)), (b_length, .inl (cI, 12, .inl g_length)), (b_heads, .inl (cI, 12, .inl g_heads)), (b_turn, .inl (cI, 12, .inl g_turn))] s.heap.size = A at hD ⊢
  have hA : ∀ q : Nat, s.heap.size ≤ q → A q := fun q h => by rw [← hAe]; exact Or.inr h
  have hS : va_S A s.heap s.heap [] := va_S.rf
  have hl := lv_entry ([.ref h1, .int (nI q)]) (n := 5) (Nat.le_of_ble_eq_true rfl)
  rw [lg_entry_eq]
  generalize (lg_sl ([.ref h1, .int (nI q)]) ++ List.replicate (5 - (lg_sl ([.ref h1, .int (nI q)])).length) Slot.unset).toArray = ls at hl ⊢
  have hl : lv_has ls 5 [(0, .ref h1), (1, .int (nI q))] := hl
  have hok := sn_pl_nI hq (by omega)
  have lp39 : ∀ (k n : Nat) (y x : Nat) (c9 z9 : Int32), n < k → y < Ht → x + n = Wd → md_cx g_wall rs X Y q y n x c9 = z9 → (∀ (H : Heap) (locs : List Loc), va_P (dC, dI) snC [(h1, .inr (1, [.int 0, .int (nI Wd), .int (nI Ht), .ref b_wall, .int rs, .int (nI Pn), .ref b_px, .ref b_py, .ref b_loss, .ref b_reached, .int jc, .ref b_order, .ref b_upper, .ref b_length, .ref b_heads, .ref b_turn])), (b_wall, .inl (cZ, 256, .inl g_wall)), (b_px, .inl (cI, 12, .inl g_px)), (b_py, .inl (cI, 12, .inl g_py)), (b_loss, .inl (cI, 13, .inl g_loss)), (b_reached, .inl (cI, 256, .inl g_reached)), (b_order, .inl (cI, 12, .inl g_order)), (b_upper, .inl (cI, 12, .inl g_upper)), (b_length, .inl (cI, 12, .inl g_length)), (b_heads, .inl (cI, 12, .inl g_heads)), (b_turn, .inl (cI, 12, .inl g_turn))] H → va_D A [(h1, .inr (1, [.int 0, .int (nI Wd), .int (nI Ht), .ref b_wall, .int rs, .int (nI Pn), .ref b_px, .ref b_py, .ref b_loss, .ref b_reached, .int jc, .ref b_order, .ref b_upper, .ref b_length, .ref b_heads, .ref b_turn])), (b_wall, .inl (cZ, 256, .inl g_wall)), (b_px, .inl (cI, 12, .inl g_px)), (b_py, .inl (cI, 12, .inl g_py)), (b_loss, .inl (cI, 13, .inl g_loss)), (b_reached, .inl (cI, 256, .inl g_reached)), (b_order, .inl (cI, 12, .inl g_order)), (b_upper, .inl (cI, 12, .inl g_upper)), (b_length, .inl (cI, 12, .inl g_length)), (b_heads, .inl (cI, 12, .inl g_heads)), (b_turn, .inl (cI, 12, .inl g_turn))] → va_S A s.heap H locs → ∀ ls : Array Slot, lv_has ls 5 [(3, .int (nI y)), (2, .int z9), (0, .ref h1), (1, .int (nI q))] → W p l e (headSpec (kM_reached :: WD) { frames := 4, cells := 0, slots := 0, locals := 114 }).room s m ([.ref h1, .int (nI q)]).toArray below meth c H locs 0 0 (MQ below (va_Qi (fun (r : Int32) (_ : Unit) => r = md_cy g_wall rs X Y q Wd Ht 0 0) (fun _ => xo (dC, dI) snC [(h1, .inr (1, [.int 0, .int (nI Wd), .int (nI Ht), .ref b_wall, .int rs, .int (nI Pn), .ref b_px, .ref b_py, .ref b_loss, .ref b_reached, .int jc, .ref b_order, .ref b_upper, .ref b_length, .ref b_heads, .ref b_turn])), (b_wall, .inl (cZ, 256, .inl g_wall)), (b_px, .inl (cI, 12, .inl g_px)), (b_py, .inl (cI, 12, .inl g_py)), (b_loss, .inl (cI, 13, .inl g_loss)), (b_reached, .inl (cI, 256, .inl g_reached)), (b_order, .inl (cI, 12, .inl g_order)), (b_upper, .inl (cI, 12, .inl g_upper)), (b_length, .inl (cI, 12, .inl g_length)), (b_heads, .inl (cI, 12, .inl g_heads)), (b_turn, .inl (cI, 12, .inl g_turn))] [(cZ, .boolean), (cI, .int)] A) A) ([.ref h1, .int (nI q)]).toArray s 0 0 (A)) (F0 m 73 ls [])) → ∀ (H : Heap) (locs : List Loc), va_P (dC, dI) snC [(h1, .inr (1, [.int 0, .int (nI Wd), .int (nI Ht), .ref b_wall, .int rs, .int (nI Pn), .ref b_px, .ref b_py, .ref b_loss, .ref b_reached, .int jc, .ref b_order, .ref b_upper, .ref b_length, .ref b_heads, .ref b_turn])), (b_wall, .inl (cZ, 256, .inl g_wall)), (b_px, .inl (cI, 12, .inl g_px)), (b_py, .inl (cI, 12, .inl g_py)), (b_loss, .inl (cI, 13, .inl g_loss)), (b_reached, .inl (cI, 256, .inl g_reached)), (b_order, .inl (cI, 12, .inl g_order)), (b_upper, .inl (cI, 12, .inl g_upper)), (b_length, .inl (cI, 12, .inl g_length)), (b_heads, .inl (cI, 12, .inl g_heads)), (b_turn, .inl (cI, 12, .inl g_turn))] H → va_D A [(h1, .inr (1, [.int 0, .int (nI Wd), .int (nI Ht), .ref b_wall, .int rs, .int (nI Pn), .ref b_px, .ref b_py, .ref b_loss, .ref b_reached, .int jc, .ref b_order, .ref b_upper, .ref b_length, .ref b_heads, .ref b_turn])), (b_wall, .inl (cZ, 256, .inl g_wall)), (b_px, .inl (cI, 12, .inl g_px)), (b_py, .inl (cI, 12, .inl g_py)), (b_loss, .inl (cI, 13, .inl g_loss)), (b_reached, .inl (cI, 256, .inl g_reached)), (b_order, .inl (cI, 12, .inl g_order)), (b_upper, .inl (cI, 12, .inl g_upper)), (b_length, .inl (cI, 12, .inl g_length)), (b_heads, .inl (cI, 12, .inl g_heads)), (b_turn, .inl (cI, 12, .inl g_turn))] → va_S A s.heap H locs → ∀ ls : Array Slot, lv_has ls 5 [(4, .int (nI x)), (3, .int (nI y)), (2, .int c9), (0, .ref h1), (1, .int (nI q))] → W p l e (headSpec (kM_reached :: WD) { frames := 4, cells := 0, slots := 0, locals := 114 }).room s m ([.ref h1, .int (nI q)]).toArray below meth c H locs 0 0 (MQ below (va_Qi (fun (r : Int32) (_ : Unit) => r = md_cy g_wall rs X Y q Wd Ht 0 0) (fun _ => xo (dC, dI) snC [(h1, .inr (1, [.int 0, .int (nI Wd), .int (nI Ht), .ref b_wall, .int rs, .int (nI Pn), .ref b_px, .ref b_py, .ref b_loss, .ref b_reached, .int jc, .ref b_order, .ref b_upper, .ref b_length, .ref b_heads, .ref b_turn])), (b_wall, .inl (cZ, 256, .inl g_wall)), (b_px, .inl (cI, 12, .inl g_px)), (b_py, .inl (cI, 12, .inl g_py)), (b_loss, .inl (cI, 13, .inl g_loss)), (b_reached, .inl (cI, 256, .inl g_reached)), (b_order, .inl (cI, 12, .inl g_order)), (b_upper, .inl (cI, 12, .inl g_upper)), (b_length, .inl (cI, 12, .inl g_length)), (b_heads, .inl (cI, 12, .inl g_heads)), (b_turn, .inl (cI, 12, .inl g_turn))] [(cZ, .boolean), (cI, .int)] A) A) ([.ref h1, .int (nI q)]).toArray s 0 0 (A)) (F0 m 39 ls []) := by
    intro k
    induction k with
    | zero => exact fun n _ _ _ _ h => absurd h (Nat.not_lt_zero n)
    | succ k ih =>
      intro n y x c9 z9 hk hy hin hT hend H locs hP hD hS ls hl
      refine lv_iload hx hb dM_reached_39 (lv_at hl 0 rfl) ?_
      refine lv_aload_n hx hb dM_reached_41 rfl (lv_at hl 3 rfl) ?_
      refine va_get (D := (dC, dI)) (ci := 1) (v := .int (nI Wd)) (C := R_M) (T := T_M) (N := 16) hx hb hts in_M hown hK hP 0 rfl rfl 1 (by decide) (hts _ flM45) (fun _ h9 => h9) rfl dM_reached_42 ?_
      refine lv_icmp_ge (tgt := 73) hx hb dM_reached_45 (by decide) (fun c_1 => ?_) (fun c_1 => ?_)
      · have hz := (nI_leI (by omega) (by omega)).mp c_1
        obtain rfl : n = 0 := by omega
        obtain rfl : c9 = z9 := by rw [← hT]; simp [md_cx]
        exact hend  _ _ hP hD hS ls (lv_sub hl [1, 2, 3, 4] rfl)
      · have hz : x < Wd := by have h9 := mt (nI_leI (by omega) (by omega)).mpr c_1; omega
        obtain ⟨n, rfl⟩ : ∃ n', n = n' + 1 := ⟨n - 1, by omega⟩
        refine lv_iload_n hx hb dM_reached_48 rfl (lv_at hl 2 rfl) ?_
        refine lv_aload_n hx hb dM_reached_49 rfl (lv_at hl 3 rfl) ?_
        refine lv_iload_n hx hb dM_reached_50 rfl (lv_at hl 4 rfl) ?_
        refine lv_iload hx hb dM_reached_51 (lv_at hl 0 rfl) ?_
        refine lv_iload_n hx hb dM_reached_53 rfl (lv_at hl 1 rfl) ?_
        refine xr_V (As := [.int (nI q), .int (nI x), .int (nI y)]) ⟨hx, hb, hml, hown, hts⟩ (cM_isReached l dC dI h1 b_wall b_px b_py b_loss b_reached b_order b_upper b_length b_heads b_turn 0 Wd Ht Pn rs jc cZ cI g_wall g_px g_py X Y q x y hPn hXY (by omega) (by omega) (by omega)) (cwV 3 hts gM83 rfl rfl rfl (by decide +kernel) ⟨Nat.le_of_ble_eq_true rfl, Nat.le_of_ble_eq_true rfl⟩) hK hP [0, 1, 2, 3] [0, 1] rfl rfl 1 0 rfl rfl rfl rfl hl.1 rfl (Nat.le_of_ble_eq_true rfl) dM_reached_54 ⟨Nat.le_of_ble_eq_true rfl, Nat.le_of_ble_eq_true rfl⟩ (fun r_2 hr_2 => ?_)
        subst hr_2
        refine lv_if_eq (tgt := 64) hx hb dM_reached_57 (by decide) (fun c_3 => ?_) (fun c_3 => ?_)
        · replace c_3 := bz_0 c_3
          refine lv_iconst (v := 0) hx hb dM_reached_64 (by decide) ?_
          refine lv_iadd hx hb dM_reached_65 ?_
          refine lv_istore_n (lv' := [(2, .int (c9 + 0)), (4, .int (nI x)), (3, .int (nI y)), (0, .ref h1), (1, .int (nI q))]) hx hb dM_reached_66 rfl hl (by decide) rfl (fun ls hl => ?_)
          refine lv_iinc (v := (nI (x + 1))) (lv' := [(4, .int (nI (x + 1))), (2, .int (c9 + 0)), (3, .int (nI y)), (0, .ref h1), (1, .int (nI q))]) hx hb dM_reached_67 hl (k := 1) rfl (nI_1 x) (by decide) rfl (fun ls hl => ?_)
          refine lv_goto (tgt := 39) hx hb dM_reached_70 (by decide) ?_
          exact ih n y (x + 1) (c9 + 0) z9 (by omega) hy (by omega) (by rw [← hT]; simp [md_cx, c_1, c_3]) hend _ _ hP hD hS ls (lv_sub hl [0, 2, 1, 3, 4] rfl)
        · replace c_3 := bz_1 c_3
          refine lv_iconst (v := 1) hx hb dM_reached_60 (by decide) ?_
          refine lv_goto (tgt := 65) hx hb dM_reached_61 (by decide) ?_
          refine lv_iadd hx hb dM_reached_65 ?_
          refine lv_istore_n (lv' := [(2, .int (c9 + 1)), (4, .int (nI x)), (3, .int (nI y)), (0, .ref h1), (1, .int (nI q))]) hx hb dM_reached_66 rfl hl (by decide) rfl (fun ls hl => ?_)
          refine lv_iinc (v := (nI (x + 1))) (lv' := [(4, .int (nI (x + 1))), (2, .int (c9 + 1)), (3, .int (nI y)), (0, .ref h1), (1, .int (nI q))]) hx hb dM_reached_67 hl (k := 1) rfl (nI_1 x) (by decide) rfl (fun ls hl => ?_)
          refine lv_goto (tgt := 39) hx hb dM_reached_70 (by decide) ?_
          exact ih n y (x + 1) (c9 + 1) z9 (by omega) hy (by omega) (by rw [← hT]; simp [md_cx, c_1, c_3]) hend _ _ hP hD hS ls (lv_sub hl [0, 2, 1, 3, 4] rfl)
  have lp21 : ∀ (k n : Nat) (y : Nat) (c9 : Int32), n < k → y + n = Ht → md_cy g_wall rs X Y q Wd n y c9 = md_cy g_wall rs X Y q Wd Ht 0 0 → ∀ (H : Heap) (locs : List Loc), va_P (dC, dI) snC [(h1, .inr (1, [.int 0, .int (nI Wd), .int (nI Ht), .ref b_wall, .int rs, .int (nI Pn), .ref b_px, .ref b_py, .ref b_loss, .ref b_reached, .int jc, .ref b_order, .ref b_upper, .ref b_length, .ref b_heads, .ref b_turn])), (b_wall, .inl (cZ, 256, .inl g_wall)), (b_px, .inl (cI, 12, .inl g_px)), (b_py, .inl (cI, 12, .inl g_py)), (b_loss, .inl (cI, 13, .inl g_loss)), (b_reached, .inl (cI, 256, .inl g_reached)), (b_order, .inl (cI, 12, .inl g_order)), (b_upper, .inl (cI, 12, .inl g_upper)), (b_length, .inl (cI, 12, .inl g_length)), (b_heads, .inl (cI, 12, .inl g_heads)), (b_turn, .inl (cI, 12, .inl g_turn))] H → va_D A [(h1, .inr (1, [.int 0, .int (nI Wd), .int (nI Ht), .ref b_wall, .int rs, .int (nI Pn), .ref b_px, .ref b_py, .ref b_loss, .ref b_reached, .int jc, .ref b_order, .ref b_upper, .ref b_length, .ref b_heads, .ref b_turn])), (b_wall, .inl (cZ, 256, .inl g_wall)), (b_px, .inl (cI, 12, .inl g_px)), (b_py, .inl (cI, 12, .inl g_py)), (b_loss, .inl (cI, 13, .inl g_loss)), (b_reached, .inl (cI, 256, .inl g_reached)), (b_order, .inl (cI, 12, .inl g_order)), (b_upper, .inl (cI, 12, .inl g_upper)), (b_length, .inl (cI, 12, .inl g_length)), (b_heads, .inl (cI, 12, .inl g_heads)), (b_turn, .inl (cI, 12, .inl g_turn))] → va_S A s.heap H locs → ∀ ls : Array Slot, lv_has ls 5 [(3, .int (nI y)), (2, .int c9), (0, .ref h1), (1, .int (nI q))] → W p l e (headSpec (kM_reached :: WD) { frames := 4, cells := 0, slots := 0, locals := 114 }).room s m ([.ref h1, .int (nI q)]).toArray below meth c H locs 0 0 (MQ below (va_Qi (fun (r : Int32) (_ : Unit) => r = md_cy g_wall rs X Y q Wd Ht 0 0) (fun _ => xo (dC, dI) snC [(h1, .inr (1, [.int 0, .int (nI Wd), .int (nI Ht), .ref b_wall, .int rs, .int (nI Pn), .ref b_px, .ref b_py, .ref b_loss, .ref b_reached, .int jc, .ref b_order, .ref b_upper, .ref b_length, .ref b_heads, .ref b_turn])), (b_wall, .inl (cZ, 256, .inl g_wall)), (b_px, .inl (cI, 12, .inl g_px)), (b_py, .inl (cI, 12, .inl g_py)), (b_loss, .inl (cI, 13, .inl g_loss)), (b_reached, .inl (cI, 256, .inl g_reached)), (b_order, .inl (cI, 12, .inl g_order)), (b_upper, .inl (cI, 12, .inl g_upper)), (b_length, .inl (cI, 12, .inl g_length)), (b_heads, .inl (cI, 12, .inl g_heads)), (b_turn, .inl (cI, 12, .inl g_turn))] [(cZ, .boolean), (cI, .int)] A) A) ([.ref h1, .int (nI q)]).toArray s 0 0 (A)) (F0 m 21 ls []) := by
    intro k
    induction k with
    | zero => exact fun n _ _ h => absurd h (Nat.not_lt_zero n)
    | succ k ih =>
      intro n y c9 hk hin hT H locs hP hD hS ls hl
      refine lv_iload_n hx hb dM_reached_21 rfl (lv_at hl 0 rfl) ?_
      refine lv_aload_n hx hb dM_reached_22 rfl (lv_at hl 2 rfl) ?_
      refine va_get (D := (dC, dI)) (ci := 1) (v := .int (nI Ht)) (C := R_M) (T := T_M) (N := 16) hx hb hts in_M hown hK hP 0 rfl rfl 2 (by decide) (hts _ flM48) (fun _ h9 => h9) rfl dM_reached_23 ?_
      refine lv_icmp_ge (tgt := 79) hx hb dM_reached_26 (by decide) (fun c_1 => ?_) (fun c_1 => ?_)
      · have hz := (nI_leI (by omega) (by omega)).mp c_1
        obtain rfl : n = 0 := by omega
        refine lv_iload_n hx hb dM_reached_79 rfl (lv_at hl 1 rfl) ?_
        exact W.iret (v := c9) hx hb hr (fun t ht hW => ⟨⟨c9, (), rfl, (by rw [← hT]; simp [md_cy]), by rw [ht]; exact hP, va_K.moved hW.alike hK, hD⟩, hS.F ht⟩) hS.2.2 dM_reached_80
      · have hz : y < Ht := by have h9 := mt (nI_leI (by omega) (by omega)).mpr c_1; omega
        obtain ⟨n, rfl⟩ : ∃ n', n = n' + 1 := ⟨n - 1, by omega⟩
        refine lv_aload_n hx hb dM_reached_29 rfl (lv_at hl 2 rfl) ?_
        refine va_get (D := (dC, dI)) (ci := 1) (v := .int 0) (C := R_M) (T := T_M) (N := 16) hx hb hts in_M hown hK hP 0 rfl rfl 0 (by decide) (hts _ flM51) (fun _ h9 => h9) rfl dM_reached_30 ?_
        refine lv_if_ne (tgt := 79) hx hb dM_reached_33 (by decide) (fun c_2 => ?_) (fun c_2 => ?_)
        · exact absurd c_2 (by decide)
        · refine lv_iconst (v := 0) hx hb dM_reached_36 (by decide) ?_
          refine lv_istore (lv' := [(4, .int 0), (3, .int (nI y)), (2, .int c9), (0, .ref h1), (1, .int (nI q))]) hx hb dM_reached_37 hl (by decide) rfl (fun ls hl => ?_)
          refine lp39 (Wd + 1) Wd y 0 c9 _ (by omega) (by omega) (by omega) rfl ?_ _ _ hP hD hS ls (lv_sub hl [0, 1, 2, 3, 4] rfl)
          intro H locs hP hD hS ls hl
          refine lv_iinc (v := (nI (y + 1))) (lv' := [(3, .int (nI (y + 1))), (2, .int (md_cx g_wall rs X Y q y Wd 0 c9)), (0, .ref h1), (1, .int (nI q))]) hx hb dM_reached_73 hl (k := 0) rfl (nI_1 y) (by decide) rfl (fun ls hl => ?_)
          refine lv_goto (tgt := 21) hx hb dM_reached_76 (by decide) ?_
          exact ih n (y + 1) (md_cx g_wall rs X Y q y Wd 0 c9) (by omega) (by omega) (by rw [← hT]; simp [md_cy]) _ _ hP hD hS ls (lv_sub hl [0, 1, 2, 3] rfl)
  refine lv_aload_n hx hb dM_reached_0 rfl (lv_at hl 0 rfl) ?_
  refine lv_aload_n hx hb dM_reached_1 rfl (lv_at hl 0 rfl) ?_
  refine lv_iload_n hx hb dM_reached_2 rfl (lv_at hl 1 rfl) ?_
  refine xr_V (As := [.int (nI q)]) ⟨hx, hb, hml, hown, hts⟩ (cM_isPlace l dC dI h1 b_wall b_px b_py b_loss b_reached b_order b_upper b_length b_heads b_turn cd Wd Ht Pn rs jc (nI q)) (cwV 1 hts gM87 rfl rfl rfl (by decide +kernel) ⟨Nat.le_of_ble_eq_true rfl, Nat.le_of_ble_eq_true rfl⟩) hK hP [0] [] rfl rfl 1 0 rfl rfl rfl rfl hl.1 rfl (Nat.le_of_ble_eq_true rfl) dM_reached_3 ⟨Nat.le_of_ble_eq_true rfl, Nat.le_of_ble_eq_true rfl⟩ (fun r_1 hr_1 => ?_)
  subst hr_1
  refine lv_if_eq (tgt := 13) hx hb dM_reached_6 (by decide) (fun c_2 => ?_) (fun c_2 => ?_)
  · exact absurd hok (by rw [bz_0 c_2]; decide)
  · replace c_2 := bz_1 c_2
    refine lv_iconst (v := 0) hx hb dM_reached_9 (by decide) ?_
    refine lv_goto (tgt := 14) hx hb dM_reached_10 (by decide) ?_
    refine va_put (D := (dC, dI)) (ci := 1) (v := .int 0) (ty := .int) (C := R_M) (T := T_M) (N := 16) hx hb hts in_M t_M tok_M n_M hown hK hP hD hS 0 rfl rfl 0 (by decide) (hts _ flM51) (fun _ h9 => h9) rfl (by decide +kernel) rfl rfl (Nat.le_of_ble_eq_true rfl) dM_reached_14 (fun H locs hP hD hS => ?_)
    have hP : va_P (dC, dI) snC [(h1, .inr (1, [.int 0, .int (nI Wd), .int (nI Ht), .ref b_wall, .int rs, .int (nI Pn), .ref b_px, .ref b_py, .ref b_loss, .ref b_reached, .int jc, .ref b_order, .ref b_upper, .ref b_length, .ref b_heads, .ref b_turn])), (b_wall, .inl (cZ, 256, .inl g_wall)), (b_px, .inl (cI, 12, .inl g_px)), (b_py, .inl (cI, 12, .inl g_py)), (b_loss, .inl (cI, 13, .inl g_loss)), (b_reached, .inl (cI, 256, .inl g_reached)), (b_order, .inl (cI, 12, .inl g_order)), (b_upper, .inl (cI, 12, .inl g_upper)), (b_length, .inl (cI, 12, .inl g_length)), (b_heads, .inl (cI, 12, .inl g_heads)), (b_turn, .inl (cI, 12, .inl g_turn))] H := hP
    have hD : va_D A [(h1, .inr (1, [.int 0, .int (nI Wd), .int (nI Ht), .ref b_wall, .int rs, .int (nI Pn), .ref b_px, .ref b_py, .ref b_loss, .ref b_reached, .int jc, .ref b_order, .ref b_upper, .ref b_length, .ref b_heads, .ref b_turn])), (b_wall, .inl (cZ, 256, .inl g_wall)), (b_px, .inl (cI, 12, .inl g_px)), (b_py, .inl (cI, 12, .inl g_py)), (b_loss, .inl (cI, 13, .inl g_loss)), (b_reached, .inl (cI, 256, .inl g_reached)), (b_order, .inl (cI, 12, .inl g_order)), (b_upper, .inl (cI, 12, .inl g_upper)), (b_length, .inl (cI, 12, .inl g_length)), (b_heads, .inl (cI, 12, .inl g_heads)), (b_turn, .inl (cI, 12, .inl g_turn))] := hD
    refine lv_iconst (v := 0) hx hb dM_reached_17 (by decide) ?_
    refine lv_istore_n (lv' := [(2, .int 0), (0, .ref h1), (1, .int (nI q))]) hx hb dM_reached_18 rfl hl (by decide) rfl (fun ls hl => ?_)
    refine lv_iconst (v := 0) hx hb dM_reached_19 (by decide) ?_
    refine lv_istore_n (lv' := [(3, .int 0), (2, .int 0), (0, .ref h1), (1, .int (nI q))]) hx hb dM_reached_20 rfl hl (by decide) rfl (fun ls hl => ?_)
    exact lp21 (Ht + 1) Ht 0 0 (by omega) (by omega) rfl _ _ hP hD hS ls (lv_sub hl [0, 1, 2, 3] rfl)
set_option maxHeartbeats 4000000 in
set_option maxRecDepth 100000 in
theorem cM_reached_x (l : Launch) (dC : Nat → ClassId) (dI : Nat → Nat → Nat) (h1 b_wall b_px b_py b_loss b_reached b_order b_upper b_length b_heads b_turn : Nat) (cd : Int32) (Wd Ht Pn : Nat) (rs jc : Int32) (cZ cI : ClassId) (g_wall g_px g_py g_loss g_reached g_order g_upper g_length g_heads g_turn : Nat → Int32) (x : Int32) (sz : Nat) (hno : sn_pl Pn x = false) : Met l yM_reached (kM_reached :: WD) { frames := 4, cells := 0, slots := 0, locals := 114 } (va_Pc [.ref h1, .int x] (xm (dC, dI) snC [(h1, .inr (1, [.int cd, .int (nI Wd), .int (nI Ht), .ref b_wall, .int rs, .int (nI Pn), .ref b_px, .ref b_py, .ref b_loss, .ref b_reached, .int jc, .ref b_order, .ref b_upper, .ref b_length, .ref b_heads, .ref b_turn])), (b_wall, .inl (cZ, 256, .inl g_wall)), (b_px, .inl (cI, 12, .inl g_px)), (b_py, .inl (cI, 12, .inl g_py)), (b_loss, .inl (cI, 13, .inl g_loss)), (b_reached, .inl (cI, 256, .inl g_reached)), (b_order, .inl (cI, 12, .inl g_order)), (b_upper, .inl (cI, 12, .inl g_upper)), (b_length, .inl (cI, 12, .inl g_length)), (b_heads, .inl (cI, 12, .inl g_heads)), (b_turn, .inl (cI, 12, .inl g_turn))] [(cZ, .boolean), (cI, .int)] sz)) (va_Qi (fun (r : Int32) (_ : Unit) => True) (fun _ => xo (dC, dI) snC [(h1, .inr (1, [.int 1, .int (nI Wd), .int (nI Ht), .ref b_wall, .int rs, .int (nI Pn), .ref b_px, .ref b_py, .ref b_loss, .ref b_reached, .int jc, .ref b_order, .ref b_upper, .ref b_length, .ref b_heads, .ref b_turn])), (b_wall, .inl (cZ, 256, .inl g_wall)), (b_px, .inl (cI, 12, .inl g_px)), (b_py, .inl (cI, 12, .inl g_py)), (b_loss, .inl (cI, 13, .inl g_loss)), (b_reached, .inl (cI, 256, .inl g_reached)), (b_order, .inl (cI, 12, .inl g_order)), (b_upper, .inl (cI, 12, .inl g_upper)), (b_length, .inl (cI, 12, .inl g_length)), (b_heads, .inl (cI, 12, .inl g_heads)), (b_turn, .inl (cI, 12, .inl g_turn))] [(cZ, .boolean), (cI, .int)] (va_A [(h1, .inr (1, [.int cd, .int (nI Wd), .int (nI Ht), .ref b_wall, .int rs, .int (nI Pn), .ref b_px, .ref b_py, .ref b_loss, .ref b_reached, .int jc, .ref b_order, .ref b_upper, .ref b_length, .ref b_heads, .ref b_turn])), (b_wall, .inl (cZ, 256, .inl g_wall)), (b_px, .inl (cI, 12, .inl g_px)), (b_py, .inl (cI, 12, .inl g_py)), (b_loss, .inl (cI, 13, .inl g_loss)), (b_reached, .inl (cI, 256, .inl g_reached)), (b_order, .inl (cI, 12, .inl g_order)), (b_upper, .inl (cI, 12, .inl g_upper)), (b_length, .inl (cI, 12, .inl g_length)), (b_heads, .inl (cI, 12, .inl g_heads)), (b_turn, .inl (cI, 12, .inl g_turn))] sz)) (va_A [(h1, .inr (1, [.int cd, .int (nI Wd), .int (nI Ht), .ref b_wall, .int rs, .int (nI Pn), .ref b_px, .ref b_py, .ref b_loss, .ref b_reached, .int jc, .ref b_order, .ref b_upper, .ref b_length, .ref b_heads, .ref b_turn])), (b_wall, .inl (cZ, 256, .inl g_wall)), (b_px, .inl (cI, 12, .inl g_px)), (b_py, .inl (cI, 12, .inl g_py)), (b_loss, .inl (cI, 13, .inl g_loss)), (b_reached, .inl (cI, 256, .inl g_reached)), (b_order, .inl (cI, 12, .inl g_order)), (b_upper, .inl (cI, 12, .inl g_upper)), (b_length, .inl (cI, 12, .inl g_length)), (b_heads, .inl (cI, 12, .inl g_heads)), (b_turn, .inl (cI, 12, .inl g_turn))] sz)) 0 0 (va_A [(h1, .inr (1, [.int cd, .int (nI Wd), .int (nI Ht), .ref b_wall, .int rs, .int (nI Pn), .ref b_px, .ref b_py, .ref b_loss, .ref b_reached, .int jc, .ref b_order, .ref b_upper, .ref b_length, .ref b_heads, .ref b_turn])), (b_wall, .inl (cZ, 256, .inl g_wall)), (b_px, .inl (cI, 12, .inl g_px)), (b_py, .inl (cI, 12, .inl g_py)), (b_loss, .inl (cI, 13, .inl g_loss)), (b_reached, .inl (cI, 256, .inl g_reached)), (b_order, .inl (cI, 12, .inl g_order)), (b_upper, .inl (cI, 12, .inl g_upper)), (b_length, .inl (cI, 12, .inl g_length)), (b_heads, .inl (cI, 12, .inl g_heads)), (b_turn, .inl (cI, 12, .inl g_turn))] sz) := by
  refine Met.ofW (cc := bM_reached) (maxL := 5) (ret := (some .int)) (by decide) rfl ?_
  intro p e s m args below meth c s₁ B hml hv
  obtain ⟨rfl, hsz, hP, hK, hD0⟩ := hv
  have hx := B.exec
  have hb := B.bytes
  have hr := B.returns
  have hts : ∀ w ∈ WD, w.before _ s = true := fun w h => atoms_spec (ws := kM_reached :: WD) B.pre w (List.mem_cons_of_mem _ h)
  have hown : s.vm.findClass R_M = some m.cls := findClass_of_methodNamed B.named
  have hlocks := B.notSynchronized
  subst hsz
  have hD := hD0.self (sz := s.heap.size)
  generalize hAe : va_A [(h1, .inr (1, [.int cd, .int (nI Wd), .int (nI Ht), .ref b_wall, .int rs, .int (nI Pn), .ref b_px, .ref b_py, .ref b_loss, .ref b_reached, .int jc, .ref b_order, .ref b_upper, .ref b_length, .ref b_heads, .ref b_turn])), (b_wall, .inl (cZ, 256, .inl g_wall)), (b_px, .inl (cI, 12, .inl g_px)), (b_py, .inl (cI, 12, .inl g_py)), (b_loss, .inl (cI, 13, .inl g_loss)), (b_reached, .inl (cI, 256, .inl g_reached)), (b_order, .inl (cI, 12, .inl g_order)), (b_upper, .inl (cI, 12, .inl g_upper)), (b_length, .inl (cI, 12, .inl g_length)), (b_heads, .inl (cI, 12, .inl g_heads)), (b_turn, .inl (cI, 12, .inl g_turn))] s.heap.size = A at hD ⊢
  have hA : ∀ q : Nat, s.heap.size ≤ q → A q := fun q h => by rw [← hAe]; exact Or.inr h
  have hS : va_S A s.heap s.heap [] := va_S.rf
  have hl := lv_entry ([.ref h1, .int x]) (n := 5) (Nat.le_of_ble_eq_true rfl)
  rw [lg_entry_eq]
  generalize (lg_sl ([.ref h1, .int x]) ++ List.replicate (5 - (lg_sl ([.ref h1, .int x])).length) Slot.unset).toArray = ls at hl ⊢
  have hl : lv_has ls 5 [(0, .ref h1), (1, .int x)] := hl
  refine lv_aload_n hx hb dM_reached_0 rfl (lv_at hl 0 rfl) ?_
  refine lv_aload_n hx hb dM_reached_1 rfl (lv_at hl 0 rfl) ?_
  refine lv_iload_n hx hb dM_reached_2 rfl (lv_at hl 1 rfl) ?_
  refine xr_V (As := [.int x]) ⟨hx, hb, hml, hown, hts⟩ (cM_isPlace l dC dI h1 b_wall b_px b_py b_loss b_reached b_order b_upper b_length b_heads b_turn cd Wd Ht Pn rs jc x) (cwV 1 hts gM87 rfl rfl rfl (by decide +kernel) ⟨Nat.le_of_ble_eq_true rfl, Nat.le_of_ble_eq_true rfl⟩) hK hP [0] [] rfl rfl 1 0 rfl rfl rfl rfl hl.1 rfl (Nat.le_of_ble_eq_true rfl) dM_reached_3 ⟨Nat.le_of_ble_eq_true rfl, Nat.le_of_ble_eq_true rfl⟩ (fun r_1 hr_1 => ?_)
  subst hr_1
  refine lv_if_eq (tgt := 13) hx hb dM_reached_6 (by decide) (fun c_2 => ?_) (fun c_2 => ?_)
  · replace c_2 := bz_0 c_2
    refine lv_iconst (v := 1) hx hb dM_reached_13 (by decide) ?_
    refine va_put (D := (dC, dI)) (ci := 1) (v := .int 1) (ty := .int) (C := R_M) (T := T_M) (N := 16) hx hb hts in_M t_M tok_M n_M hown hK hP hD hS 0 rfl rfl 0 (by decide) (hts _ flM51) (fun _ h9 => h9) rfl (by decide +kernel) rfl rfl (Nat.le_of_ble_eq_true rfl) dM_reached_14 (fun H locs hP hD hS => ?_)
    have hP : va_P (dC, dI) snC [(h1, .inr (1, [.int 1, .int (nI Wd), .int (nI Ht), .ref b_wall, .int rs, .int (nI Pn), .ref b_px, .ref b_py, .ref b_loss, .ref b_reached, .int jc, .ref b_order, .ref b_upper, .ref b_length, .ref b_heads, .ref b_turn])), (b_wall, .inl (cZ, 256, .inl g_wall)), (b_px, .inl (cI, 12, .inl g_px)), (b_py, .inl (cI, 12, .inl g_py)), (b_loss, .inl (cI, 13, .inl g_loss)), (b_reached, .inl (cI, 256, .inl g_reached)), (b_order, .inl (cI, 12, .inl g_order)), (b_upper, .inl (cI, 12, .inl g_upper)), (b_length, .inl (cI, 12, .inl g_length)), (b_heads, .inl (cI, 12, .inl g_heads)), (b_turn, .inl (cI, 12, .inl g_turn))] H := hP
    have hD : va_D A [(h1, .inr (1, [.int 1, .int (nI Wd), .int (nI Ht), .ref b_wall, .int rs, .int (nI Pn), .ref b_px, .ref b_py, .ref b_loss, .ref b_reached, .int jc, .ref b_order, .ref b_upper, .ref b_length, .ref b_heads, .ref b_turn])), (b_wall, .inl (cZ, 256, .inl g_wall)), (b_px, .inl (cI, 12, .inl g_px)), (b_py, .inl (cI, 12, .inl g_py)), (b_loss, .inl (cI, 13, .inl g_loss)), (b_reached, .inl (cI, 256, .inl g_reached)), (b_order, .inl (cI, 12, .inl g_order)), (b_upper, .inl (cI, 12, .inl g_upper)), (b_length, .inl (cI, 12, .inl g_length)), (b_heads, .inl (cI, 12, .inl g_heads)), (b_turn, .inl (cI, 12, .inl g_turn))] := hD
    refine lv_iconst (v := 0) hx hb dM_reached_17 (by decide) ?_
    refine lv_istore_n (lv' := [(2, .int 0), (0, .ref h1), (1, .int x)]) hx hb dM_reached_18 rfl hl (by decide) rfl (fun ls hl => ?_)
    refine lv_iconst (v := 0) hx hb dM_reached_19 (by decide) ?_
    refine lv_istore_n (lv' := [(3, .int 0), (2, .int 0), (0, .ref h1), (1, .int x)]) hx hb dM_reached_20 rfl hl (by decide) rfl (fun ls hl => ?_)
    refine lv_iload_n hx hb dM_reached_21 rfl (lv_at hl 0 rfl) ?_
    refine lv_aload_n hx hb dM_reached_22 rfl (lv_at hl 2 rfl) ?_
    refine va_get (D := (dC, dI)) (ci := 1) (v := .int (nI Ht)) (C := R_M) (T := T_M) (N := 16) hx hb hts in_M hown hK hP 0 rfl rfl 2 (by decide) (hts _ flM48) (fun _ h9 => h9) rfl dM_reached_23 ?_
    refine lv_icmp_ge (tgt := 79) hx hb dM_reached_26 (by decide) (fun c_3 => ?_) (fun c_3 => ?_)
    · refine lv_iload_n hx hb dM_reached_79 rfl (lv_at hl 1 rfl) ?_
      exact W.iret (v := 0) hx hb hr (fun t ht hW => ⟨⟨0, (), rfl, trivial, by rw [ht]; exact hP, va_K.moved hW.alike hK, hD⟩, hS.F ht⟩) hS.2.2 dM_reached_80
    · refine lv_aload_n hx hb dM_reached_29 rfl (lv_at hl 2 rfl) ?_
      refine va_get (D := (dC, dI)) (ci := 1) (v := .int 1) (C := R_M) (T := T_M) (N := 16) hx hb hts in_M hown hK hP 0 rfl rfl 0 (by decide) (hts _ flM51) (fun _ h9 => h9) rfl dM_reached_30 ?_
      refine lv_if_ne (tgt := 79) hx hb dM_reached_33 (by decide) (fun c_4 => ?_) (fun c_4 => ?_)
      · refine lv_iload_n hx hb dM_reached_79 rfl (lv_at hl 1 rfl) ?_
        exact W.iret (v := 0) hx hb hr (fun t ht hW => ⟨⟨0, (), rfl, trivial, by rw [ht]; exact hP, va_K.moved hW.alike hK, hD⟩, hS.F ht⟩) hS.2.2 dM_reached_80
      · exact absurd c_4 (by decide)
  · exact absurd hno (by rw [bz_1 c_2]; decide)
set_option maxHeartbeats 4000000 in
set_option maxRecDepth 100000 in
theorem cM_left (l : Launch) (dC : Nat → ClassId) (dI : Nat → Nat → Nat) (h1 b_wall b_px b_py b_loss b_reached b_order b_upper b_length b_heads b_turn : Nat) (cd : Int32) (Wd Ht Pn : Nat) (rs jc : Int32) (cZ cI : ClassId) (g_wall g_px g_py g_loss g_reached g_order g_upper g_length g_heads g_turn : Nat → Int32) (X Y : Nat → Nat) (x : Int32) (sz : Nat) (hW : Wd ≤ 16) (hH : Ht ≤ 16) (hPn : Pn ≤ 12) (hXY : ∀ i, i < Pn → g_px i = nI (X i) ∧ g_py i = nI (Y i) ∧ X i < 16 ∧ Y i < 16) (hok : md_set Pn x = true) : Met l yM_left (kM_left :: WD) { frames := 5, cells := 0, slots := 0, locals := 138 } (va_Pc [.ref h1, .int x] (xm (dC, dI) snC [(h1, .inr (1, [.int cd, .int (nI Wd), .int (nI Ht), .ref b_wall, .int rs, .int (nI Pn), .ref b_px, .ref b_py, .ref b_loss, .ref b_reached, .int jc, .ref b_order, .ref b_upper, .ref b_length, .ref b_heads, .ref b_turn])), (b_wall, .inl (cZ, 256, .inl g_wall)), (b_px, .inl (cI, 12, .inl g_px)), (b_py, .inl (cI, 12, .inl g_py)), (b_loss, .inl (cI, 13, .inl g_loss)), (b_reached, .inl (cI, 256, .inl g_reached)), (b_order, .inl (cI, 12, .inl g_order)), (b_upper, .inl (cI, 12, .inl g_upper)), (b_length, .inl (cI, 12, .inl g_length)), (b_heads, .inl (cI, 12, .inl g_heads)), (b_turn, .inl (cI, 12, .inl g_turn))] [(cZ, .boolean), (cI, .int)] sz)) (va_Qi (fun (r : Int32) (_ : Unit) => r = md_dy g_wall (md_fy g_wall rs X Y Pn Wd Ht 0 g_reached) x Wd Ht 0 0) (fun _ => xo (dC, dI) snC [(h1, .inr (1, [.int 0, .int (nI Wd), .int (nI Ht), .ref b_wall, .int rs, .int (nI Pn), .ref b_px, .ref b_py, .ref b_loss, .ref b_reached, .int jc, .ref b_order, .ref b_upper, .ref b_length, .ref b_heads, .ref b_turn])), (b_wall, .inl (cZ, 256, .inl g_wall)), (b_px, .inl (cI, 12, .inl g_px)), (b_py, .inl (cI, 12, .inl g_py)), (b_loss, .inl (cI, 13, .inl g_loss)), (b_reached, .inl (cI, 256, .inl (md_fy g_wall rs X Y Pn Wd Ht 0 g_reached))), (b_order, .inl (cI, 12, .inl g_order)), (b_upper, .inl (cI, 12, .inl g_upper)), (b_length, .inl (cI, 12, .inl g_length)), (b_heads, .inl (cI, 12, .inl g_heads)), (b_turn, .inl (cI, 12, .inl g_turn))] [(cZ, .boolean), (cI, .int)] (va_A [(h1, .inr (1, [.int cd, .int (nI Wd), .int (nI Ht), .ref b_wall, .int rs, .int (nI Pn), .ref b_px, .ref b_py, .ref b_loss, .ref b_reached, .int jc, .ref b_order, .ref b_upper, .ref b_length, .ref b_heads, .ref b_turn])), (b_wall, .inl (cZ, 256, .inl g_wall)), (b_px, .inl (cI, 12, .inl g_px)), (b_py, .inl (cI, 12, .inl g_py)), (b_loss, .inl (cI, 13, .inl g_loss)), (b_reached, .inl (cI, 256, .inl g_reached)), (b_order, .inl (cI, 12, .inl g_order)), (b_upper, .inl (cI, 12, .inl g_upper)), (b_length, .inl (cI, 12, .inl g_length)), (b_heads, .inl (cI, 12, .inl g_heads)), (b_turn, .inl (cI, 12, .inl g_turn))] sz)) (va_A [(h1, .inr (1, [.int cd, .int (nI Wd), .int (nI Ht), .ref b_wall, .int rs, .int (nI Pn), .ref b_px, .ref b_py, .ref b_loss, .ref b_reached, .int jc, .ref b_order, .ref b_upper, .ref b_length, .ref b_heads, .ref b_turn])), (b_wall, .inl (cZ, 256, .inl g_wall)), (b_px, .inl (cI, 12, .inl g_px)), (b_py, .inl (cI, 12, .inl g_py)), (b_loss, .inl (cI, 13, .inl g_loss)), (b_reached, .inl (cI, 256, .inl g_reached)), (b_order, .inl (cI, 12, .inl g_order)), (b_upper, .inl (cI, 12, .inl g_upper)), (b_length, .inl (cI, 12, .inl g_length)), (b_heads, .inl (cI, 12, .inl g_heads)), (b_turn, .inl (cI, 12, .inl g_turn))] sz)) 0 0 (va_A [(h1, .inr (1, [.int cd, .int (nI Wd), .int (nI Ht), .ref b_wall, .int rs, .int (nI Pn), .ref b_px, .ref b_py, .ref b_loss, .ref b_reached, .int jc, .ref b_order, .ref b_upper, .ref b_length, .ref b_heads, .ref b_turn])), (b_wall, .inl (cZ, 256, .inl g_wall)), (b_px, .inl (cI, 12, .inl g_px)), (b_py, .inl (cI, 12, .inl g_py)), (b_loss, .inl (cI, 13, .inl g_loss)), (b_reached, .inl (cI, 256, .inl g_reached)), (b_order, .inl (cI, 12, .inl g_order)), (b_upper, .inl (cI, 12, .inl g_upper)), (b_length, .inl (cI, 12, .inl g_length)), (b_heads, .inl (cI, 12, .inl g_heads)), (b_turn, .inl (cI, 12, .inl g_turn))] sz) := by
  refine Met.ofW (cc := bM_left) (maxL := 2) (ret := (some .int)) (by decide) rfl ?_
  intro p e s m args below meth c s₁ B hml hv
  obtain ⟨rfl, hsz, hP, hK, hD0⟩ := hv
  have hx := B.exec
  have hb := B.bytes
  have hr := B.returns
  have hts : ∀ w ∈ WD, w.before _ s = true := fun w h => atoms_spec (ws := kM_left :: WD) B.pre w (List.mem_cons_of_mem _ h)
  have hown : s.vm.findClass R_M = some m.cls := findClass_of_methodNamed B.named
  have hlocks := B.notSynchronized
  subst hsz
  have hD := hD0.self (sz := s.heap.size)
  generalize hAe : va_A [(h1, .inr (1, [.int cd, .int (nI Wd), .int (nI Ht), .ref b_wall, .int rs, .int (nI Pn), .ref b_px, .ref b_py, .ref b_loss, .ref b_reached, .int jc, .ref b_order, .ref b_upper, .ref b_length, .ref b_heads, .ref b_turn])), (b_wall, .inl (cZ, 256, .inl g_wall)), (b_px, .inl (cI, 12, .inl g_px)), (b_py, .inl (cI, 12, .inl g_py)), (b_loss, .inl (cI, 13, .inl g_loss)), (b_reached, .inl (cI, 256, .inl g_reached)), (b_order, .inl (cI, 12, .inl g_order)), (b_upper, .inl (cI, 12, .inl g_upper)), (b_length, .inl (cI, 12, .inl g_length)), (b_heads, .inl (cI, 12, .inl g_heads)), (b_turn, .inl (cI, 12, .inl g_turn))] s.heap.size = A at hD ⊢
  have hA : ∀ q : Nat, s.heap.size ≤ q → A q := fun q h => by rw [← hAe]; exact Or.inr h
  have hS : va_S A s.heap s.heap [] := va_S.rf
  have hl := lv_entry ([.ref h1, .int x]) (n := 2) (Nat.le_of_ble_eq_true rfl)
  rw [lg_entry_eq]
  generalize (lg_sl ([.ref h1, .int x]) ++ List.replicate (2 - (lg_sl ([.ref h1, .int x])).length) Slot.unset).toArray = ls at hl ⊢
  have hl : lv_has ls 2 [(0, .ref h1), (1, .int x)] := hl
  refine lv_aload_n hx hb dM_left_0 rfl (lv_at hl 0 rfl) ?_
  refine lv_aload_n hx hb dM_left_1 rfl (lv_at hl 0 rfl) ?_
  refine lv_iload_n hx hb dM_left_2 rfl (lv_at hl 1 rfl) ?_
  refine xr_V (As := [.int x]) ⟨hx, hb, hml, hown, hts⟩ (cM_isSet l dC dI h1 b_wall b_px b_py b_loss b_reached b_order b_upper b_length b_heads b_turn cd Wd Ht Pn rs jc x) (cwV 1 hts gM91 rfl rfl rfl (by decide +kernel) ⟨Nat.le_of_ble_eq_true rfl, Nat.le_of_ble_eq_true rfl⟩) hK hP [0] [] rfl rfl 1 0 rfl rfl rfl rfl hl.1 rfl (Nat.le_of_ble_eq_true rfl) dM_left_3 ⟨Nat.le_of_ble_eq_true rfl, Nat.le_of_ble_eq_true rfl⟩ (fun r_1 hr_1 => ?_)
  subst hr_1
  refine lv_if_eq (tgt := 13) hx hb dM_left_6 (by decide) (fun c_2 => ?_) (fun c_2 => ?_)
  · exact absurd hok (by rw [bz_0 c_2]; decide)
  · replace c_2 := bz_1 c_2
    refine lv_iconst (v := 0) hx hb dM_left_9 (by decide) ?_
    refine lv_goto (tgt := 14) hx hb dM_left_10 (by decide) ?_
    refine va_put (D := (dC, dI)) (ci := 1) (v := .int 0) (ty := .int) (C := R_M) (T := T_M) (N := 16) hx hb hts in_M t_M tok_M n_M hown hK hP hD hS 0 rfl rfl 0 (by decide) (hts _ flM51) (fun _ h9 => h9) rfl (by decide +kernel) rfl rfl (Nat.le_of_ble_eq_true rfl) dM_left_14 (fun H locs hP hD hS => ?_)
    have hP : va_P (dC, dI) snC [(h1, .inr (1, [.int 0, .int (nI Wd), .int (nI Ht), .ref b_wall, .int rs, .int (nI Pn), .ref b_px, .ref b_py, .ref b_loss, .ref b_reached, .int jc, .ref b_order, .ref b_upper, .ref b_length, .ref b_heads, .ref b_turn])), (b_wall, .inl (cZ, 256, .inl g_wall)), (b_px, .inl (cI, 12, .inl g_px)), (b_py, .inl (cI, 12, .inl g_py)), (b_loss, .inl (cI, 13, .inl g_loss)), (b_reached, .inl (cI, 256, .inl g_reached)), (b_order, .inl (cI, 12, .inl g_order)), (b_upper, .inl (cI, 12, .inl g_upper)), (b_length, .inl (cI, 12, .inl g_length)), (b_heads, .inl (cI, 12, .inl g_heads)), (b_turn, .inl (cI, 12, .inl g_turn))] H := hP
    have hD : va_D A [(h1, .inr (1, [.int 0, .int (nI Wd), .int (nI Ht), .ref b_wall, .int rs, .int (nI Pn), .ref b_px, .ref b_py, .ref b_loss, .ref b_reached, .int jc, .ref b_order, .ref b_upper, .ref b_length, .ref b_heads, .ref b_turn])), (b_wall, .inl (cZ, 256, .inl g_wall)), (b_px, .inl (cI, 12, .inl g_px)), (b_py, .inl (cI, 12, .inl g_py)), (b_loss, .inl (cI, 13, .inl g_loss)), (b_reached, .inl (cI, 256, .inl g_reached)), (b_order, .inl (cI, 12, .inl g_order)), (b_upper, .inl (cI, 12, .inl g_upper)), (b_length, .inl (cI, 12, .inl g_length)), (b_heads, .inl (cI, 12, .inl g_heads)), (b_turn, .inl (cI, 12, .inl g_turn))] := hD
    refine lv_aload_n hx hb dM_left_17 rfl (lv_at hl 0 rfl) ?_
    refine va_get (D := (dC, dI)) (ci := 1) (v := .int 0) (C := R_M) (T := T_M) (N := 16) hx hb hts in_M hown hK hP 0 rfl rfl 0 (by decide) (hts _ flM51) (fun _ h9 => h9) rfl dM_left_18 ?_
    refine lv_if_le (tgt := 26) hx hb dM_left_21 (by decide) (fun c_3 => ?_) (fun c_3 => ?_)
    · refine lv_aload_n hx hb dM_left_26 rfl (lv_at hl 0 rfl) ?_
      refine xm_Vv (S := Unit) (As := []) (w1 := fun _ => [(h1, .inr (1, [.int 0, .int (nI Wd), .int (nI Ht), .ref b_wall, .int rs, .int (nI Pn), .ref b_px, .ref b_py, .ref b_loss, .ref b_reached, .int jc, .ref b_order, .ref b_upper, .ref b_length, .ref b_heads, .ref b_turn])), (b_wall, .inl (cZ, 256, .inl g_wall)), (b_px, .inl (cI, 12, .inl g_px)), (b_py, .inl (cI, 12, .inl g_py)), (b_reached, .inl (cI, 256, .inl (md_fy g_wall rs X Y Pn Wd Ht 0 g_reached)))]) (wz := fun _ => [(h1, .inr (1, [.int 0, .int (nI Wd), .int (nI Ht), .ref b_wall, .int rs, .int (nI Pn), .ref b_px, .ref b_py, .ref b_loss, .ref b_reached, .int jc, .ref b_order, .ref b_upper, .ref b_length, .ref b_heads, .ref b_turn])), (b_wall, .inl (cZ, 256, .inl g_wall)), (b_px, .inl (cI, 12, .inl g_px)), (b_py, .inl (cI, 12, .inl g_py)), (b_loss, .inl (cI, 13, .inl g_loss)), (b_reached, .inl (cI, 256, .inl (md_fy g_wall rs X Y Pn Wd Ht 0 g_reached))), (b_order, .inl (cI, 12, .inl g_order)), (b_upper, .inl (cI, 12, .inl g_upper)), (b_length, .inl (cI, 12, .inl g_length)), (b_heads, .inl (cI, 12, .inl g_heads)), (b_turn, .inl (cI, 12, .inl g_turn))]) (wr := [(b_loss, .inl (cI, 13, .inl g_loss)), (b_order, .inl (cI, 12, .inl g_order)), (b_upper, .inl (cI, 12, .inl g_upper)), (b_length, .inl (cI, 12, .inl g_length)), (b_heads, .inl (cI, 12, .inl g_heads)), (b_turn, .inl (cI, 12, .inl g_turn))]) ⟨hx, hb, hml, hown, hts⟩ (cM_findReached l dC dI h1 b_wall b_px b_py b_loss b_reached b_order b_upper b_length b_heads b_turn 0 Wd Ht Pn rs jc cZ cI g_wall g_px g_py g_reached X Y _ hW hH hPn hXY) (cwV 0 hts gM94 rfl rfl rfl (by decide +kernel) ⟨Nat.le_of_ble_eq_true rfl, Nat.le_of_ble_eq_true rfl⟩) hK hP hD hS hA [0, 1, 2, 3, 5] [4, 6, 7, 8, 9, 10] [6, 7, 8, 9, 0, 10, 1, 2, 3, 4, 5] [0, 1] rfl rfl (fun _ => rfl) (by decide) (by decide) (by decide) (by decide) rfl 1 0 rfl rfl rfl rfl hl.1 rfl (Nat.le_of_ble_eq_true rfl) dM_left_27 ⟨Nat.le_of_ble_eq_true rfl, Nat.le_of_ble_eq_true rfl⟩ (fun u H locs hr_4 hP hD hS => ?_)
      refine lv_aload_n hx hb dM_left_30 rfl (lv_at hl 0 rfl) ?_
      refine lv_iload_n hx hb dM_left_31 rfl (lv_at hl 1 rfl) ?_
      refine xr_V (As := [.int x]) ⟨hx, hb, hml, hown, hts⟩ (cM_dryCells l dC dI h1 b_wall b_px b_py b_loss b_reached b_order b_upper b_length b_heads b_turn 0 Wd Ht Pn rs jc cZ cI g_wall (md_fy g_wall rs X Y Pn Wd Ht 0 g_reached) x hW hH) (cwV 1 hts gM97 rfl rfl rfl (by decide +kernel) ⟨Nat.le_of_ble_eq_true rfl, Nat.le_of_ble_eq_true rfl⟩) hK hP [0, 1, 5] [0, 1] rfl rfl 1 0 rfl rfl rfl rfl hl.1 rfl (Nat.le_of_ble_eq_true rfl) dM_left_32 ⟨Nat.le_of_ble_eq_true rfl, Nat.le_of_ble_eq_true rfl⟩ (fun r_5 hr_5 => ?_)
      subst hr_5
      exact W.iret (v := md_dy g_wall (md_fy g_wall rs X Y Pn Wd Ht 0 g_reached) x Wd Ht 0 0) hx hb hr (fun t ht hW => ⟨⟨md_dy g_wall (md_fy g_wall rs X Y Pn Wd Ht 0 g_reached) x Wd Ht 0 0, (), rfl, rfl, by rw [ht]; exact hP, va_K.moved hW.alike hK, hD⟩, hS.F ht⟩) hS.2.2 dM_left_35
    · exact absurd c_3 (by decide)
set_option maxHeartbeats 4000000 in
set_option maxRecDepth 100000 in
theorem cM_left_x (l : Launch) (dC : Nat → ClassId) (dI : Nat → Nat → Nat) (h1 b_wall b_px b_py b_loss b_reached b_order b_upper b_length b_heads b_turn : Nat) (cd : Int32) (Wd Ht Pn : Nat) (rs jc : Int32) (cZ cI : ClassId) (g_wall g_px g_py g_loss g_reached g_order g_upper g_length g_heads g_turn : Nat → Int32) (x : Int32) (sz : Nat) (hno : md_set Pn x = false) : Met l yM_left (kM_left :: WD) { frames := 5, cells := 0, slots := 0, locals := 138 } (va_Pc [.ref h1, .int x] (xm (dC, dI) snC [(h1, .inr (1, [.int cd, .int (nI Wd), .int (nI Ht), .ref b_wall, .int rs, .int (nI Pn), .ref b_px, .ref b_py, .ref b_loss, .ref b_reached, .int jc, .ref b_order, .ref b_upper, .ref b_length, .ref b_heads, .ref b_turn])), (b_wall, .inl (cZ, 256, .inl g_wall)), (b_px, .inl (cI, 12, .inl g_px)), (b_py, .inl (cI, 12, .inl g_py)), (b_loss, .inl (cI, 13, .inl g_loss)), (b_reached, .inl (cI, 256, .inl g_reached)), (b_order, .inl (cI, 12, .inl g_order)), (b_upper, .inl (cI, 12, .inl g_upper)), (b_length, .inl (cI, 12, .inl g_length)), (b_heads, .inl (cI, 12, .inl g_heads)), (b_turn, .inl (cI, 12, .inl g_turn))] [(cZ, .boolean), (cI, .int)] sz)) (va_Qi (fun (r : Int32) (_ : Unit) => True) (fun _ => xo (dC, dI) snC [(h1, .inr (1, [.int 1, .int (nI Wd), .int (nI Ht), .ref b_wall, .int rs, .int (nI Pn), .ref b_px, .ref b_py, .ref b_loss, .ref b_reached, .int jc, .ref b_order, .ref b_upper, .ref b_length, .ref b_heads, .ref b_turn])), (b_wall, .inl (cZ, 256, .inl g_wall)), (b_px, .inl (cI, 12, .inl g_px)), (b_py, .inl (cI, 12, .inl g_py)), (b_loss, .inl (cI, 13, .inl g_loss)), (b_reached, .inl (cI, 256, .inl g_reached)), (b_order, .inl (cI, 12, .inl g_order)), (b_upper, .inl (cI, 12, .inl g_upper)), (b_length, .inl (cI, 12, .inl g_length)), (b_heads, .inl (cI, 12, .inl g_heads)), (b_turn, .inl (cI, 12, .inl g_turn))] [(cZ, .boolean), (cI, .int)] (va_A [(h1, .inr (1, [.int cd, .int (nI Wd), .int (nI Ht), .ref b_wall, .int rs, .int (nI Pn), .ref b_px, .ref b_py, .ref b_loss, .ref b_reached, .int jc, .ref b_order, .ref b_upper, .ref b_length, .ref b_heads, .ref b_turn])), (b_wall, .inl (cZ, 256, .inl g_wall)), (b_px, .inl (cI, 12, .inl g_px)), (b_py, .inl (cI, 12, .inl g_py)), (b_loss, .inl (cI, 13, .inl g_loss)), (b_reached, .inl (cI, 256, .inl g_reached)), (b_order, .inl (cI, 12, .inl g_order)), (b_upper, .inl (cI, 12, .inl g_upper)), (b_length, .inl (cI, 12, .inl g_length)), (b_heads, .inl (cI, 12, .inl g_heads)), (b_turn, .inl (cI, 12, .inl g_turn))] sz)) (va_A [(h1, .inr (1, [.int cd, .int (nI Wd), .int (nI Ht), .ref b_wall, .int rs, .int (nI Pn), .ref b_px, .ref b_py, .ref b_loss, .ref b_reached, .int jc, .ref b_order, .ref b_upper, .ref b_length, .ref b_heads, .ref b_turn])), (b_wall, .inl (cZ, 256, .inl g_wall)), (b_px, .inl (cI, 12, .inl g_px)), (b_py, .inl (cI, 12, .inl g_py)), (b_loss, .inl (cI, 13, .inl g_loss)), (b_reached, .inl (cI, 256, .inl g_reached)), (b_order, .inl (cI, 12, .inl g_order)), (b_upper, .inl (cI, 12, .inl g_upper)), (b_length, .inl (cI, 12, .inl g_length)), (b_heads, .inl (cI, 12, .inl g_heads)), (b_turn, .inl (cI, 12, .inl g_turn))] sz)) 0 0 (va_A [(h1, .inr (1, [.int cd, .int (nI Wd), .int (nI Ht), .ref b_wall, .int rs, .int (nI Pn), .ref b_px, .ref b_py, .ref b_loss, .ref b_reached, .int jc, .ref b_order, .ref b_upper, .ref b_length, .ref b_heads, .ref b_turn])), (b_wall, .inl (cZ, 256, .inl g_wall)), (b_px, .inl (cI, 12, .inl g_px)), (b_py, .inl (cI, 12, .inl g_py)), (b_loss, .inl (cI, 13, .inl g_loss)), (b_reached, .inl (cI, 256, .inl g_reached)), (b_order, .inl (cI, 12, .inl g_order)), (b_upper, .inl (cI, 12, .inl g_upper)), (b_length, .inl (cI, 12, .inl g_length)), (b_heads, .inl (cI, 12, .inl g_heads)), (b_turn, .inl (cI, 12, .inl g_turn))] sz) := by
  refine Met.ofW (cc := bM_left) (maxL := 2) (ret := (some .int)) (by decide) rfl ?_
  intro p e s m args below meth c s₁ B hml hv
  obtain ⟨rfl, hsz, hP, hK, hD0⟩ := hv
  have hx := B.exec
  have hb := B.bytes
  have hr := B.returns
  have hts : ∀ w ∈ WD, w.before _ s = true := fun w h => atoms_spec (ws := kM_left :: WD) B.pre w (List.mem_cons_of_mem _ h)
  have hown : s.vm.findClass R_M = some m.cls := findClass_of_methodNamed B.named
  have hlocks := B.notSynchronized
  subst hsz
  have hD := hD0.self (sz := s.heap.size)
  generalize hAe : va_A [(h1, .inr (1, [.int cd, .int (nI Wd), .int (nI Ht), .ref b_wall, .int rs, .int (nI Pn), .ref b_px, .ref b_py, .ref b_loss, .ref b_reached, .int jc, .ref b_order, .ref b_upper, .ref b_length, .ref b_heads, .ref b_turn])), (b_wall, .inl (cZ, 256, .inl g_wall)), (b_px, .inl (cI, 12, .inl g_px)), (b_py, .inl (cI, 12, .inl g_py)), (b_loss, .inl (cI, 13, .inl g_loss)), (b_reached, .inl (cI, 256, .inl g_reached)), (b_order, .inl (cI, 12, .inl g_order)), (b_upper, .inl (cI, 12, .inl g_upper)), (b_length, .inl (cI, 12, .inl g_length)), (b_heads, .inl (cI, 12, .inl g_heads)), (b_turn, .inl (cI, 12, .inl g_turn))] s.heap.size = A at hD ⊢
  have hA : ∀ q : Nat, s.heap.size ≤ q → A q := fun q h => by rw [← hAe]; exact Or.inr h
  have hS : va_S A s.heap s.heap [] := va_S.rf
  have hl := lv_entry ([.ref h1, .int x]) (n := 2) (Nat.le_of_ble_eq_true rfl)
  rw [lg_entry_eq]
  generalize (lg_sl ([.ref h1, .int x]) ++ List.replicate (2 - (lg_sl ([.ref h1, .int x])).length) Slot.unset).toArray = ls at hl ⊢
  have hl : lv_has ls 2 [(0, .ref h1), (1, .int x)] := hl
  refine lv_aload_n hx hb dM_left_0 rfl (lv_at hl 0 rfl) ?_
  refine lv_aload_n hx hb dM_left_1 rfl (lv_at hl 0 rfl) ?_
  refine lv_iload_n hx hb dM_left_2 rfl (lv_at hl 1 rfl) ?_
  refine xr_V (As := [.int x]) ⟨hx, hb, hml, hown, hts⟩ (cM_isSet l dC dI h1 b_wall b_px b_py b_loss b_reached b_order b_upper b_length b_heads b_turn cd Wd Ht Pn rs jc x) (cwV 1 hts gM91 rfl rfl rfl (by decide +kernel) ⟨Nat.le_of_ble_eq_true rfl, Nat.le_of_ble_eq_true rfl⟩) hK hP [0] [] rfl rfl 1 0 rfl rfl rfl rfl hl.1 rfl (Nat.le_of_ble_eq_true rfl) dM_left_3 ⟨Nat.le_of_ble_eq_true rfl, Nat.le_of_ble_eq_true rfl⟩ (fun r_1 hr_1 => ?_)
  subst hr_1
  refine lv_if_eq (tgt := 13) hx hb dM_left_6 (by decide) (fun c_2 => ?_) (fun c_2 => ?_)
  · replace c_2 := bz_0 c_2
    refine lv_iconst (v := 1) hx hb dM_left_13 (by decide) ?_
    refine va_put (D := (dC, dI)) (ci := 1) (v := .int 1) (ty := .int) (C := R_M) (T := T_M) (N := 16) hx hb hts in_M t_M tok_M n_M hown hK hP hD hS 0 rfl rfl 0 (by decide) (hts _ flM51) (fun _ h9 => h9) rfl (by decide +kernel) rfl rfl (Nat.le_of_ble_eq_true rfl) dM_left_14 (fun H locs hP hD hS => ?_)
    have hP : va_P (dC, dI) snC [(h1, .inr (1, [.int 1, .int (nI Wd), .int (nI Ht), .ref b_wall, .int rs, .int (nI Pn), .ref b_px, .ref b_py, .ref b_loss, .ref b_reached, .int jc, .ref b_order, .ref b_upper, .ref b_length, .ref b_heads, .ref b_turn])), (b_wall, .inl (cZ, 256, .inl g_wall)), (b_px, .inl (cI, 12, .inl g_px)), (b_py, .inl (cI, 12, .inl g_py)), (b_loss, .inl (cI, 13, .inl g_loss)), (b_reached, .inl (cI, 256, .inl g_reached)), (b_order, .inl (cI, 12, .inl g_order)), (b_upper, .inl (cI, 12, .inl g_upper)), (b_length, .inl (cI, 12, .inl g_length)), (b_heads, .inl (cI, 12, .inl g_heads)), (b_turn, .inl (cI, 12, .inl g_turn))] H := hP
    have hD : va_D A [(h1, .inr (1, [.int 1, .int (nI Wd), .int (nI Ht), .ref b_wall, .int rs, .int (nI Pn), .ref b_px, .ref b_py, .ref b_loss, .ref b_reached, .int jc, .ref b_order, .ref b_upper, .ref b_length, .ref b_heads, .ref b_turn])), (b_wall, .inl (cZ, 256, .inl g_wall)), (b_px, .inl (cI, 12, .inl g_px)), (b_py, .inl (cI, 12, .inl g_py)), (b_loss, .inl (cI, 13, .inl g_loss)), (b_reached, .inl (cI, 256, .inl g_reached)), (b_order, .inl (cI, 12, .inl g_order)), (b_upper, .inl (cI, 12, .inl g_upper)), (b_length, .inl (cI, 12, .inl g_length)), (b_heads, .inl (cI, 12, .inl g_heads)), (b_turn, .inl (cI, 12, .inl g_turn))] := hD
    refine lv_aload_n hx hb dM_left_17 rfl (lv_at hl 0 rfl) ?_
    refine va_get (D := (dC, dI)) (ci := 1) (v := .int 1) (C := R_M) (T := T_M) (N := 16) hx hb hts in_M hown hK hP 0 rfl rfl 0 (by decide) (hts _ flM51) (fun _ h9 => h9) rfl dM_left_18 ?_
    refine lv_if_le (tgt := 26) hx hb dM_left_21 (by decide) (fun c_3 => ?_) (fun c_3 => ?_)
    · exact absurd c_3 (by decide)
    · refine lv_iconst (v := 0) hx hb dM_left_24 (by decide) ?_
      exact W.iret (v := 0) hx hb hr (fun t ht hW => ⟨⟨0, (), rfl, trivial, by rw [ht]; exact hP, va_K.moved hW.alike hK, hD⟩, hS.F ht⟩) hS.2.2 dM_left_25
  · exact absurd hno (by rw [bz_1 c_2]; decide)
set_option maxHeartbeats 4000000 in
set_option maxRecDepth 100000 in
theorem cM_dry (l : Launch) (dC : Nat → ClassId) (dI : Nat → Nat → Nat) (h1 b_wall b_px b_py b_loss b_reached b_order b_upper b_length b_heads b_turn : Nat) (cd : Int32) (Wd Ht Pn : Nat) (rs jc : Int32) (cZ cI : ClassId) (g_wall g_px g_py g_loss g_reached g_order g_upper g_length g_heads g_turn : Nat → Int32) (X Y : Nat → Nat) (x kk : Int32) (sz : Nat) (hW : Wd ≤ 16) (hH : Ht ≤ 16) (hPn : Pn ≤ 12) (hXY : ∀ i, i < Pn → g_px i = nI (X i) ∧ g_py i = nI (Y i) ∧ X i < 16 ∧ Y i < 16) (hok : md_set Pn x = true) (hk0 : ¬ kk < 0) : Met l yM_dry (kM_dry :: WD) { frames := 5, cells := 0, slots := 0, locals := 138 } (va_Pc [.ref h1, .int x, .int kk] (xm (dC, dI) snC [(h1, .inr (1, [.int cd, .int (nI Wd), .int (nI Ht), .ref b_wall, .int rs, .int (nI Pn), .ref b_px, .ref b_py, .ref b_loss, .ref b_reached, .int jc, .ref b_order, .ref b_upper, .ref b_length, .ref b_heads, .ref b_turn])), (b_wall, .inl (cZ, 256, .inl g_wall)), (b_px, .inl (cI, 12, .inl g_px)), (b_py, .inl (cI, 12, .inl g_py)), (b_loss, .inl (cI, 13, .inl g_loss)), (b_reached, .inl (cI, 256, .inl g_reached)), (b_order, .inl (cI, 12, .inl g_order)), (b_upper, .inl (cI, 12, .inl g_upper)), (b_length, .inl (cI, 12, .inl g_length)), (b_heads, .inl (cI, 12, .inl g_heads)), (b_turn, .inl (cI, 12, .inl g_turn))] [(cZ, .boolean), (cI, .int)] sz)) (va_Qi (fun (r : Int32) (_ : Unit) => r = md_ddy g_wall (md_fy g_wall rs X Y Pn Wd Ht 0 g_reached) x Wd Ht 0 kk) (fun _ => xo (dC, dI) snC [(h1, .inr (1, [.int 0, .int (nI Wd), .int (nI Ht), .ref b_wall, .int rs, .int (nI Pn), .ref b_px, .ref b_py, .ref b_loss, .ref b_reached, .int jc, .ref b_order, .ref b_upper, .ref b_length, .ref b_heads, .ref b_turn])), (b_wall, .inl (cZ, 256, .inl g_wall)), (b_px, .inl (cI, 12, .inl g_px)), (b_py, .inl (cI, 12, .inl g_py)), (b_loss, .inl (cI, 13, .inl g_loss)), (b_reached, .inl (cI, 256, .inl (md_fy g_wall rs X Y Pn Wd Ht 0 g_reached))), (b_order, .inl (cI, 12, .inl g_order)), (b_upper, .inl (cI, 12, .inl g_upper)), (b_length, .inl (cI, 12, .inl g_length)), (b_heads, .inl (cI, 12, .inl g_heads)), (b_turn, .inl (cI, 12, .inl g_turn))] [(cZ, .boolean), (cI, .int)] (va_A [(h1, .inr (1, [.int cd, .int (nI Wd), .int (nI Ht), .ref b_wall, .int rs, .int (nI Pn), .ref b_px, .ref b_py, .ref b_loss, .ref b_reached, .int jc, .ref b_order, .ref b_upper, .ref b_length, .ref b_heads, .ref b_turn])), (b_wall, .inl (cZ, 256, .inl g_wall)), (b_px, .inl (cI, 12, .inl g_px)), (b_py, .inl (cI, 12, .inl g_py)), (b_loss, .inl (cI, 13, .inl g_loss)), (b_reached, .inl (cI, 256, .inl g_reached)), (b_order, .inl (cI, 12, .inl g_order)), (b_upper, .inl (cI, 12, .inl g_upper)), (b_length, .inl (cI, 12, .inl g_length)), (b_heads, .inl (cI, 12, .inl g_heads)), (b_turn, .inl (cI, 12, .inl g_turn))] sz)) (va_A [(h1, .inr (1, [.int cd, .int (nI Wd), .int (nI Ht), .ref b_wall, .int rs, .int (nI Pn), .ref b_px, .ref b_py, .ref b_loss, .ref b_reached, .int jc, .ref b_order, .ref b_upper, .ref b_length, .ref b_heads, .ref b_turn])), (b_wall, .inl (cZ, 256, .inl g_wall)), (b_px, .inl (cI, 12, .inl g_px)), (b_py, .inl (cI, 12, .inl g_py)), (b_loss, .inl (cI, 13, .inl g_loss)), (b_reached, .inl (cI, 256, .inl g_reached)), (b_order, .inl (cI, 12, .inl g_order)), (b_upper, .inl (cI, 12, .inl g_upper)), (b_length, .inl (cI, 12, .inl g_length)), (b_heads, .inl (cI, 12, .inl g_heads)), (b_turn, .inl (cI, 12, .inl g_turn))] sz)) 0 0 (va_A [(h1, .inr (1, [.int cd, .int (nI Wd), .int (nI Ht), .ref b_wall, .int rs, .int (nI Pn), .ref b_px, .ref b_py, .ref b_loss, .ref b_reached, .int jc, .ref b_order, .ref b_upper, .ref b_length, .ref b_heads, .ref b_turn])), (b_wall, .inl (cZ, 256, .inl g_wall)), (b_px, .inl (cI, 12, .inl g_px)), (b_py, .inl (cI, 12, .inl g_py)), (b_loss, .inl (cI, 13, .inl g_loss)), (b_reached, .inl (cI, 256, .inl g_reached)), (b_order, .inl (cI, 12, .inl g_order)), (b_upper, .inl (cI, 12, .inl g_upper)), (b_length, .inl (cI, 12, .inl g_length)), (b_heads, .inl (cI, 12, .inl g_heads)), (b_turn, .inl (cI, 12, .inl g_turn))] sz) := by
  refine Met.ofW (cc := bM_dry) (maxL := 6) (ret := (some .int)) (by decide) rfl ?_
  intro p e s m args below meth c s₁ B hml hv
  obtain ⟨rfl, hsz, hP, hK, hD0⟩ := hv
  have hx := B.exec
  have hb := B.bytes
  have hr := B.returns
  have hts : ∀ w ∈ WD, w.before _ s = true := fun w h => atoms_spec (ws := kM_dry :: WD) B.pre w (List.mem_cons_of_mem _ h)
  have hown : s.vm.findClass R_M = some m.cls := findClass_of_methodNamed B.named
  have hlocks := B.notSynchronized
  subst hsz
  have hD := hD0.self (sz := s.heap.size)
  generalize hAe : va_A [(h1, .inr (1, [.int cd, .int (nI Wd), .int (nI Ht), .ref b_wall, .int rs, .int (nI Pn), .ref b_px, .ref b_py, .ref b_loss, .ref b_reached, .int jc, .ref b_order, .ref b_upper, .ref b_length, .ref b_heads, .ref b_turn])), (b_wall, .inl (cZ, 256, .inl g_wall)), (b_px, .inl (cI, 12, .inl g_px)), (b_py, .inl (cI, 12, .inl g_py)), (b_loss, .inl (cI, 13, .inl g_loss)), (b_reached, .inl (cI, 256, .inl g_reached)), (b_order, .inl (cI, 12, .inl g_order)), (b_upper, .inl (cI, 12, .inl g_upper)), (b_length, .inl (cI, 12, .inl g_length)), (b_heads, .inl (cI, 12, .inl g_heads)), (b_turn, .inl (cI, 12, .inl g_turn))] s.heap.size = A at hD ⊢
  have hA : ∀ q : Nat, s.heap.size ≤ q → A q := fun q h => by rw [← hAe]; exact Or.inr h
  have hS : va_S A s.heap s.heap [] := va_S.rf
  have hl := lv_entry ([.ref h1, .int x, .int kk]) (n := 6) (Nat.le_of_ble_eq_true rfl)
  rw [lg_entry_eq]
  generalize (lg_sl ([.ref h1, .int x, .int kk]) ++ List.replicate (6 - (lg_sl ([.ref h1, .int x, .int kk])).length) Slot.unset).toArray = ls at hl ⊢
  have hl : lv_has ls 6 [(0, .ref h1), (1, .int x), (2, .int kk)] := hl
  have lp51 : ∀ (k n : Nat) (y xx : Nat) (r9 : Int32) (z9 : Bool × Int32), n < k → y < Ht → xx + n = Wd → md_ddx g_wall (md_fy g_wall rs X Y Pn Wd Ht 0 g_reached) x y n xx r9 = z9 → (z9.1 = true → z9.2 = md_ddy g_wall (md_fy g_wall rs X Y Pn Wd Ht 0 g_reached) x Wd Ht 0 kk) → (z9.1 = false → ∀ (H : Heap) (locs : List Loc), va_P (dC, dI) snC [(h1, .inr (1, [.int 0, .int (nI Wd), .int (nI Ht), .ref b_wall, .int rs, .int (nI Pn), .ref b_px, .ref b_py, .ref b_loss, .ref b_reached, .int jc, .ref b_order, .ref b_upper, .ref b_length, .ref b_heads, .ref b_turn])), (b_wall, .inl (cZ, 256, .inl g_wall)), (b_px, .inl (cI, 12, .inl g_px)), (b_py, .inl (cI, 12, .inl g_py)), (b_loss, .inl (cI, 13, .inl g_loss)), (b_reached, .inl (cI, 256, .inl (md_fy g_wall rs X Y Pn Wd Ht 0 g_reached))), (b_order, .inl (cI, 12, .inl g_order)), (b_upper, .inl (cI, 12, .inl g_upper)), (b_length, .inl (cI, 12, .inl g_length)), (b_heads, .inl (cI, 12, .inl g_heads)), (b_turn, .inl (cI, 12, .inl g_turn))] H → va_D A [(h1, .inr (1, [.int 0, .int (nI Wd), .int (nI Ht), .ref b_wall, .int rs, .int (nI Pn), .ref b_px, .ref b_py, .ref b_loss, .ref b_reached, .int jc, .ref b_order, .ref b_upper, .ref b_length, .ref b_heads, .ref b_turn])), (b_wall, .inl (cZ, 256, .inl g_wall)), (b_px, .inl (cI, 12, .inl g_px)), (b_py, .inl (cI, 12, .inl g_py)), (b_loss, .inl (cI, 13, .inl g_loss)), (b_reached, .inl (cI, 256, .inl (md_fy g_wall rs X Y Pn Wd Ht 0 g_reached))), (b_order, .inl (cI, 12, .inl g_order)), (b_upper, .inl (cI, 12, .inl g_upper)), (b_length, .inl (cI, 12, .inl g_length)), (b_heads, .inl (cI, 12, .inl g_heads)), (b_turn, .inl (cI, 12, .inl g_turn))] → va_S A s.heap H locs → ∀ ls : Array Slot, lv_has ls 6 [(4, .int (nI y)), (3, .int z9.2), (0, .ref h1), (1, .int x), (2, .int kk)] → W p l e (headSpec (kM_dry :: WD) { frames := 5, cells := 0, slots := 0, locals := 138 }).room s m ([.ref h1, .int x, .int kk]).toArray below meth c H locs 0 0 (MQ below (va_Qi (fun (r : Int32) (_ : Unit) => r = md_ddy g_wall (md_fy g_wall rs X Y Pn Wd Ht 0 g_reached) x Wd Ht 0 kk) (fun _ => xo (dC, dI) snC [(h1, .inr (1, [.int 0, .int (nI Wd), .int (nI Ht), .ref b_wall, .int rs, .int (nI Pn), .ref b_px, .ref b_py, .ref b_loss, .ref b_reached, .int jc, .ref b_order, .ref b_upper, .ref b_length, .ref b_heads, .ref b_turn])), (b_wall, .inl (cZ, 256, .inl g_wall)), (b_px, .inl (cI, 12, .inl g_px)), (b_py, .inl (cI, 12, .inl g_py)), (b_loss, .inl (cI, 13, .inl g_loss)), (b_reached, .inl (cI, 256, .inl (md_fy g_wall rs X Y Pn Wd Ht 0 g_reached))), (b_order, .inl (cI, 12, .inl g_order)), (b_upper, .inl (cI, 12, .inl g_upper)), (b_length, .inl (cI, 12, .inl g_length)), (b_heads, .inl (cI, 12, .inl g_heads)), (b_turn, .inl (cI, 12, .inl g_turn))] [(cZ, .boolean), (cI, .int)] A) A) ([.ref h1, .int x, .int kk]).toArray s 0 0 (A)) (F0 m 111 ls [])) → ∀ (H : Heap) (locs : List Loc), va_P (dC, dI) snC [(h1, .inr (1, [.int 0, .int (nI Wd), .int (nI Ht), .ref b_wall, .int rs, .int (nI Pn), .ref b_px, .ref b_py, .ref b_loss, .ref b_reached, .int jc, .ref b_order, .ref b_upper, .ref b_length, .ref b_heads, .ref b_turn])), (b_wall, .inl (cZ, 256, .inl g_wall)), (b_px, .inl (cI, 12, .inl g_px)), (b_py, .inl (cI, 12, .inl g_py)), (b_loss, .inl (cI, 13, .inl g_loss)), (b_reached, .inl (cI, 256, .inl (md_fy g_wall rs X Y Pn Wd Ht 0 g_reached))), (b_order, .inl (cI, 12, .inl g_order)), (b_upper, .inl (cI, 12, .inl g_upper)), (b_length, .inl (cI, 12, .inl g_length)), (b_heads, .inl (cI, 12, .inl g_heads)), (b_turn, .inl (cI, 12, .inl g_turn))] H → va_D A [(h1, .inr (1, [.int 0, .int (nI Wd), .int (nI Ht), .ref b_wall, .int rs, .int (nI Pn), .ref b_px, .ref b_py, .ref b_loss, .ref b_reached, .int jc, .ref b_order, .ref b_upper, .ref b_length, .ref b_heads, .ref b_turn])), (b_wall, .inl (cZ, 256, .inl g_wall)), (b_px, .inl (cI, 12, .inl g_px)), (b_py, .inl (cI, 12, .inl g_py)), (b_loss, .inl (cI, 13, .inl g_loss)), (b_reached, .inl (cI, 256, .inl (md_fy g_wall rs X Y Pn Wd Ht 0 g_reached))), (b_order, .inl (cI, 12, .inl g_order)), (b_upper, .inl (cI, 12, .inl g_upper)), (b_length, .inl (cI, 12, .inl g_length)), (b_heads, .inl (cI, 12, .inl g_heads)), (b_turn, .inl (cI, 12, .inl g_turn))] → va_S A s.heap H locs → ∀ ls : Array Slot, lv_has ls 6 [(5, .int (nI xx)), (4, .int (nI y)), (3, .int r9), (0, .ref h1), (1, .int x), (2, .int kk)] → W p l e (headSpec (kM_dry :: WD) { frames := 5, cells := 0, slots := 0, locals := 138 }).room s m ([.ref h1, .int x, .int kk]).toArray below meth c H locs 0 0 (MQ below (va_Qi (fun (r : Int32) (_ : Unit) => r = md_ddy g_wall (md_fy g_wall rs X Y Pn Wd Ht 0 g_reached) x Wd Ht 0 kk) (fun _ => xo (dC, dI) snC [(h1, .inr (1, [.int 0, .int (nI Wd), .int (nI Ht), .ref b_wall, .int rs, .int (nI Pn), .ref b_px, .ref b_py, .ref b_loss, .ref b_reached, .int jc, .ref b_order, .ref b_upper, .ref b_length, .ref b_heads, .ref b_turn])), (b_wall, .inl (cZ, 256, .inl g_wall)), (b_px, .inl (cI, 12, .inl g_px)), (b_py, .inl (cI, 12, .inl g_py)), (b_loss, .inl (cI, 13, .inl g_loss)), (b_reached, .inl (cI, 256, .inl (md_fy g_wall rs X Y Pn Wd Ht 0 g_reached))), (b_order, .inl (cI, 12, .inl g_order)), (b_upper, .inl (cI, 12, .inl g_upper)), (b_length, .inl (cI, 12, .inl g_length)), (b_heads, .inl (cI, 12, .inl g_heads)), (b_turn, .inl (cI, 12, .inl g_turn))] [(cZ, .boolean), (cI, .int)] A) A) ([.ref h1, .int x, .int kk]).toArray s 0 0 (A)) (F0 m 51 ls []) := by
    intro k
    induction k with
    | zero => exact fun n _ _ _ _ h => absurd h (Nat.not_lt_zero n)
    | succ k ih =>
      intro n y xx r9 z9 hk hy hin hT hfd hend H locs hP hD hS ls hl
      refine lv_iload hx hb dM_dry_51 (lv_at hl 0 rfl) ?_
      refine lv_aload_n hx hb dM_dry_53 rfl (lv_at hl 3 rfl) ?_
      refine va_get (D := (dC, dI)) (ci := 1) (v := .int (nI Wd)) (C := R_M) (T := T_M) (N := 16) hx hb hts in_M hown hK hP 0 rfl rfl 1 (by decide) (hts _ flM45) (fun _ h9 => h9) rfl dM_dry_54 ?_
      refine lv_icmp_ge (tgt := 111) hx hb dM_dry_57 (by decide) (fun c_1 => ?_) (fun c_1 => ?_)
      · have hz := (nI_leI (by omega) (by omega)).mp c_1
        obtain rfl : n = 0 := by omega
        obtain rfl : (false, r9) = z9 := by rw [← hT]; simp [md_ddx]
        exact hend rfl _ _ hP hD hS ls (lv_sub hl [1, 2, 3, 4, 5] rfl)
      · have hz : xx < Wd := by have h9 := mt (nI_leI (by omega) (by omega)).mpr c_1; omega
        obtain ⟨n, rfl⟩ : ∃ n', n = n' + 1 := ⟨n - 1, by omega⟩
        refine lv_aload_n hx hb dM_dry_60 rfl (lv_at hl 3 rfl) ?_
        refine lv_iload hx hb dM_dry_61 (lv_at hl 0 rfl) ?_
        refine lv_iload hx hb dM_dry_63 (lv_at hl 1 rfl) ?_
        refine xr_V (As := [.int (nI xx), .int (nI y)]) ⟨hx, hb, hml, hown, hts⟩ (cM_isFree l dC dI h1 b_wall b_px b_py b_loss b_reached b_order b_upper b_length b_heads b_turn 0 Wd Ht Pn rs jc cZ g_wall xx y (by omega) (by omega)) (cwV 2 hts gM61 rfl rfl rfl (by decide +kernel) ⟨Nat.le_of_ble_eq_true rfl, Nat.le_of_ble_eq_true rfl⟩) hK hP [0, 1] [0] rfl rfl 1 0 rfl rfl rfl rfl hl.1 rfl (Nat.le_of_ble_eq_true rfl) dM_dry_65 ⟨Nat.le_of_ble_eq_true rfl, Nat.le_of_ble_eq_true rfl⟩ (fun r_2 hr_2 => ?_)
        subst hr_2
        refine lv_if_eq (tgt := 105) hx hb dM_dry_68 (by decide) (fun c_3 => ?_) (fun c_3 => ?_)
        · replace c_3 := bz_0 c_3
          refine lv_iinc (v := (nI (xx + 1))) (lv' := [(5, .int (nI (xx + 1))), (4, .int (nI y)), (3, .int r9), (0, .ref h1), (1, .int x), (2, .int kk)]) hx hb dM_dry_105 hl (k := 0) rfl (nI_1 xx) (by decide) rfl (fun ls hl => ?_)
          refine lv_goto (tgt := 51) hx hb dM_dry_108 (by decide) ?_
          exact ih n y (xx + 1) r9 z9 (by omega) hy (by omega) (by rw [← hT]; simp [md_ddx, md_dry, c_1, c_3]) hfd hend _ _ hP hD hS ls (lv_sub hl [0, 1, 2, 3, 4, 5] rfl)
        · replace c_3 := bz_1 c_3
          refine lv_aload_n hx hb dM_dry_71 rfl (lv_at hl 3 rfl) ?_
          refine va_get (D := (dC, dI)) (ci := 1) (v := .ref b_reached) (C := R_M) (T := T_M) (N := 16) hx hb hts in_M hown hK hP 0 rfl rfl 9 (by decide) (hts _ flM27) (fun _ h9 => h9) rfl dM_dry_72 ?_
          refine lv_bipush (v := 16) hx hb dM_dry_75 (by decide) ?_
          refine lv_iload hx hb dM_dry_77 (lv_at hl 1 rfl) ?_
          refine lv_imul hx hb dM_dry_79 ?_
          refine lv_iload hx hb dM_dry_80 (lv_at hl 0 rfl) ?_
          refine lv_iadd hx hb dM_dry_82 ?_
          rw [show ((16 * (nI y)) + (nI xx) : Int32) = nI (y * 16 + xx) from md_cell xx y]
          refine xa_iald hx hb hK hP 5 1 rfl rfl (i := (y * 16 + xx)) (by omega) (by first | decide | omega) dM_dry_83 ?_
          refine lv_iload_n hx hb dM_dry_84 rfl (lv_at hl 4 rfl) ?_
          refine lv_iand hx hb dM_dry_85 ?_
          refine lv_if_ne (tgt := 105) hx hb dM_dry_86 (by decide) (fun c_4 => ?_) (fun c_4 => ?_)
          · refine lv_iinc (v := (nI (xx + 1))) (lv' := [(5, .int (nI (xx + 1))), (4, .int (nI y)), (3, .int r9), (0, .ref h1), (1, .int x), (2, .int kk)]) hx hb dM_dry_105 hl (k := 0) rfl (nI_1 xx) (by decide) rfl (fun ls hl => ?_)
            refine lv_goto (tgt := 51) hx hb dM_dry_108 (by decide) ?_
            exact ih n y (xx + 1) r9 z9 (by omega) hy (by omega) (by rw [← hT]; simp [md_ddx, md_dry, c_1, c_3, c_4]) hfd hend _ _ hP hD hS ls (lv_sub hl [0, 1, 2, 3, 4, 5] rfl)
          · refine lv_iload_n hx hb dM_dry_89 rfl (lv_at hl 2 rfl) ?_
            refine lv_if_ne (tgt := 102) hx hb dM_dry_90 (by decide) (fun c_5 => ?_) (fun c_5 => ?_)
            · refine lv_iinc (v := (r9 - 1)) (lv' := [(3, .int (r9 - 1)), (5, .int (nI xx)), (4, .int (nI y)), (0, .ref h1), (1, .int x), (2, .int kk)]) hx hb dM_dry_102 hl (k := 2) rfl (sn_dec _) (by decide) rfl (fun ls hl => ?_)
              refine lv_iinc (v := (nI (xx + 1))) (lv' := [(5, .int (nI (xx + 1))), (3, .int (r9 - 1)), (4, .int (nI y)), (0, .ref h1), (1, .int x), (2, .int kk)]) hx hb dM_dry_105 hl (k := 1) rfl (nI_1 xx) (by decide) rfl (fun ls hl => ?_)
              refine lv_goto (tgt := 51) hx hb dM_dry_108 (by decide) ?_
              exact ih n y (xx + 1) (r9 - 1) z9 (by omega) hy (by omega) (by rw [← hT]; simp [md_ddx, md_dry, c_1, c_3, c_4, c_5]) hfd hend _ _ hP hD hS ls (lv_sub hl [0, 2, 1, 3, 4, 5] rfl)
            · refine lv_bipush (v := 100) hx hb dM_dry_93 (by decide) ?_
              refine lv_iload hx hb dM_dry_95 (lv_at hl 1 rfl) ?_
              refine lv_imul hx hb dM_dry_97 ?_
              refine lv_iload hx hb dM_dry_98 (lv_at hl 0 rfl) ?_
              refine lv_iadd hx hb dM_dry_100 ?_
              exact W.iret (v := (100 * (nI y)) + (nI xx)) hx hb hr (fun t ht hW => ⟨⟨(100 * (nI y)) + (nI xx), (), rfl, (by rw [← hfd (by rw [← hT]; simp [md_ddx, md_dry, c_1, c_3, c_4, c_5]), ← hT]; simp [md_ddx, md_dry, c_1, c_3, c_4, c_5]), by rw [ht]; exact hP, va_K.moved hW.alike hK, hD⟩, hS.F ht⟩) hS.2.2 dM_dry_101
  have lp39 : ∀ (k n : Nat) (y : Nat) (r9 : Int32), n < k → y + n = Ht → md_ddy g_wall (md_fy g_wall rs X Y Pn Wd Ht 0 g_reached) x Wd n y r9 = md_ddy g_wall (md_fy g_wall rs X Y Pn Wd Ht 0 g_reached) x Wd Ht 0 kk → ∀ (H : Heap) (locs : List Loc), va_P (dC, dI) snC [(h1, .inr (1, [.int 0, .int (nI Wd), .int (nI Ht), .ref b_wall, .int rs, .int (nI Pn), .ref b_px, .ref b_py, .ref b_loss, .ref b_reached, .int jc, .ref b_order, .ref b_upper, .ref b_length, .ref b_heads, .ref b_turn])), (b_wall, .inl (cZ, 256, .inl g_wall)), (b_px, .inl (cI, 12, .inl g_px)), (b_py, .inl (cI, 12, .inl g_py)), (b_loss, .inl (cI, 13, .inl g_loss)), (b_reached, .inl (cI, 256, .inl (md_fy g_wall rs X Y Pn Wd Ht 0 g_reached))), (b_order, .inl (cI, 12, .inl g_order)), (b_upper, .inl (cI, 12, .inl g_upper)), (b_length, .inl (cI, 12, .inl g_length)), (b_heads, .inl (cI, 12, .inl g_heads)), (b_turn, .inl (cI, 12, .inl g_turn))] H → va_D A [(h1, .inr (1, [.int 0, .int (nI Wd), .int (nI Ht), .ref b_wall, .int rs, .int (nI Pn), .ref b_px, .ref b_py, .ref b_loss, .ref b_reached, .int jc, .ref b_order, .ref b_upper, .ref b_length, .ref b_heads, .ref b_turn])), (b_wall, .inl (cZ, 256, .inl g_wall)), (b_px, .inl (cI, 12, .inl g_px)), (b_py, .inl (cI, 12, .inl g_py)), (b_loss, .inl (cI, 13, .inl g_loss)), (b_reached, .inl (cI, 256, .inl (md_fy g_wall rs X Y Pn Wd Ht 0 g_reached))), (b_order, .inl (cI, 12, .inl g_order)), (b_upper, .inl (cI, 12, .inl g_upper)), (b_length, .inl (cI, 12, .inl g_length)), (b_heads, .inl (cI, 12, .inl g_heads)), (b_turn, .inl (cI, 12, .inl g_turn))] → va_S A s.heap H locs → ∀ ls : Array Slot, lv_has ls 6 [(4, .int (nI y)), (3, .int r9), (0, .ref h1), (1, .int x), (2, .int kk)] → W p l e (headSpec (kM_dry :: WD) { frames := 5, cells := 0, slots := 0, locals := 138 }).room s m ([.ref h1, .int x, .int kk]).toArray below meth c H locs 0 0 (MQ below (va_Qi (fun (r : Int32) (_ : Unit) => r = md_ddy g_wall (md_fy g_wall rs X Y Pn Wd Ht 0 g_reached) x Wd Ht 0 kk) (fun _ => xo (dC, dI) snC [(h1, .inr (1, [.int 0, .int (nI Wd), .int (nI Ht), .ref b_wall, .int rs, .int (nI Pn), .ref b_px, .ref b_py, .ref b_loss, .ref b_reached, .int jc, .ref b_order, .ref b_upper, .ref b_length, .ref b_heads, .ref b_turn])), (b_wall, .inl (cZ, 256, .inl g_wall)), (b_px, .inl (cI, 12, .inl g_px)), (b_py, .inl (cI, 12, .inl g_py)), (b_loss, .inl (cI, 13, .inl g_loss)), (b_reached, .inl (cI, 256, .inl (md_fy g_wall rs X Y Pn Wd Ht 0 g_reached))), (b_order, .inl (cI, 12, .inl g_order)), (b_upper, .inl (cI, 12, .inl g_upper)), (b_length, .inl (cI, 12, .inl g_length)), (b_heads, .inl (cI, 12, .inl g_heads)), (b_turn, .inl (cI, 12, .inl g_turn))] [(cZ, .boolean), (cI, .int)] A) A) ([.ref h1, .int x, .int kk]).toArray s 0 0 (A)) (F0 m 39 ls []) := by
    intro k
    induction k with
    | zero => exact fun n _ _ h => absurd h (Nat.not_lt_zero n)
    | succ k ih =>
      intro n y r9 hk hin hT H locs hP hD hS ls hl
      refine lv_iload hx hb dM_dry_39 (lv_at hl 0 rfl) ?_
      refine lv_aload_n hx hb dM_dry_41 rfl (lv_at hl 2 rfl) ?_
      refine va_get (D := (dC, dI)) (ci := 1) (v := .int (nI Ht)) (C := R_M) (T := T_M) (N := 16) hx hb hts in_M hown hK hP 0 rfl rfl 2 (by decide) (hts _ flM48) (fun _ h9 => h9) rfl dM_dry_42 ?_
      refine lv_icmp_ge (tgt := 117) hx hb dM_dry_45 (by decide) (fun c_1 => ?_) (fun c_1 => ?_)
      · have hz := (nI_leI (by omega) (by omega)).mp c_1
        obtain rfl : n = 0 := by omega
        refine lv_iconst (v := (-1)) hx hb dM_dry_117 (by decide) ?_
        exact W.iret (v := (-1)) hx hb hr (fun t ht hW => ⟨⟨(-1), (), rfl, (by rw [← hT]; simp [md_ddy]), by rw [ht]; exact hP, va_K.moved hW.alike hK, hD⟩, hS.F ht⟩) hS.2.2 dM_dry_118
      · have hz : y < Ht := by have h9 := mt (nI_leI (by omega) (by omega)).mpr c_1; omega
        obtain ⟨n, rfl⟩ : ∃ n', n = n' + 1 := ⟨n - 1, by omega⟩
        refine lv_iconst (v := 0) hx hb dM_dry_48 (by decide) ?_
        refine lv_istore (lv' := [(5, .int 0), (4, .int (nI y)), (3, .int r9), (0, .ref h1), (1, .int x), (2, .int kk)]) hx hb dM_dry_49 hl (by decide) rfl (fun ls hl => ?_)
        refine lp51 (Wd + 1) Wd y 0 r9 _ (by omega) (by omega) (by omega) rfl (fun h => by rw [← hT, md_ddy, if_pos h]) ?_ _ _ hP hD hS ls (lv_sub hl [0, 1, 2, 3, 4, 5] rfl)
        intro hzf H locs hP hD hS ls hl
        refine lv_iinc (v := (nI (y + 1))) (lv' := [(4, .int (nI (y + 1))), (3, .int ((md_ddx g_wall (md_fy g_wall rs X Y Pn Wd Ht 0 g_reached) x y Wd 0 r9).2)), (0, .ref h1), (1, .int x), (2, .int kk)]) hx hb dM_dry_111 hl (k := 0) rfl (nI_1 y) (by decide) rfl (fun ls hl => ?_)
        refine lv_goto (tgt := 39) hx hb dM_dry_114 (by decide) ?_
        exact ih n (y + 1) ((md_ddx g_wall (md_fy g_wall rs X Y Pn Wd Ht 0 g_reached) x y Wd 0 r9).2) (by omega) (by omega) (by rw [← hT, md_ddy, if_neg (by rw [hzf]; decide)]) _ _ hP hD hS ls (lv_sub hl [0, 1, 2, 3, 4] rfl)
  refine lv_aload_n hx hb dM_dry_0 rfl (lv_at hl 0 rfl) ?_
  refine lv_aload_n hx hb dM_dry_1 rfl (lv_at hl 0 rfl) ?_
  refine lv_iload_n hx hb dM_dry_2 rfl (lv_at hl 1 rfl) ?_
  refine xr_V (As := [.int x]) ⟨hx, hb, hml, hown, hts⟩ (cM_isSet l dC dI h1 b_wall b_px b_py b_loss b_reached b_order b_upper b_length b_heads b_turn cd Wd Ht Pn rs jc x) (cwV 1 hts gM91 rfl rfl rfl (by decide +kernel) ⟨Nat.le_of_ble_eq_true rfl, Nat.le_of_ble_eq_true rfl⟩) hK hP [0] [] rfl rfl 1 0 rfl rfl rfl rfl hl.1 rfl (Nat.le_of_ble_eq_true rfl) dM_dry_3 ⟨Nat.le_of_ble_eq_true rfl, Nat.le_of_ble_eq_true rfl⟩ (fun r_1 hr_1 => ?_)
  subst hr_1
  refine lv_if_eq (tgt := 17) hx hb dM_dry_6 (by decide) (fun c_2 => ?_) (fun c_2 => ?_)
  · exact absurd hok (by rw [bz_0 c_2]; decide)
  · replace c_2 := bz_1 c_2
    refine lv_iload_n hx hb dM_dry_9 rfl (lv_at hl 2 rfl) ?_
    refine lv_if_lt (tgt := 17) hx hb dM_dry_10 (by decide) (fun c_3 => ?_) (fun c_3 => ?_)
    · exact absurd c_3 hk0
    · refine lv_iconst (v := 0) hx hb dM_dry_13 (by decide) ?_
      refine lv_goto (tgt := 18) hx hb dM_dry_14 (by decide) ?_
      refine va_put (D := (dC, dI)) (ci := 1) (v := .int 0) (ty := .int) (C := R_M) (T := T_M) (N := 16) hx hb hts in_M t_M tok_M n_M hown hK hP hD hS 0 rfl rfl 0 (by decide) (hts _ flM51) (fun _ h9 => h9) rfl (by decide +kernel) rfl rfl (Nat.le_of_ble_eq_true rfl) dM_dry_18 (fun H locs hP hD hS => ?_)
      have hP : va_P (dC, dI) snC [(h1, .inr (1, [.int 0, .int (nI Wd), .int (nI Ht), .ref b_wall, .int rs, .int (nI Pn), .ref b_px, .ref b_py, .ref b_loss, .ref b_reached, .int jc, .ref b_order, .ref b_upper, .ref b_length, .ref b_heads, .ref b_turn])), (b_wall, .inl (cZ, 256, .inl g_wall)), (b_px, .inl (cI, 12, .inl g_px)), (b_py, .inl (cI, 12, .inl g_py)), (b_loss, .inl (cI, 13, .inl g_loss)), (b_reached, .inl (cI, 256, .inl g_reached)), (b_order, .inl (cI, 12, .inl g_order)), (b_upper, .inl (cI, 12, .inl g_upper)), (b_length, .inl (cI, 12, .inl g_length)), (b_heads, .inl (cI, 12, .inl g_heads)), (b_turn, .inl (cI, 12, .inl g_turn))] H := hP
      have hD : va_D A [(h1, .inr (1, [.int 0, .int (nI Wd), .int (nI Ht), .ref b_wall, .int rs, .int (nI Pn), .ref b_px, .ref b_py, .ref b_loss, .ref b_reached, .int jc, .ref b_order, .ref b_upper, .ref b_length, .ref b_heads, .ref b_turn])), (b_wall, .inl (cZ, 256, .inl g_wall)), (b_px, .inl (cI, 12, .inl g_px)), (b_py, .inl (cI, 12, .inl g_py)), (b_loss, .inl (cI, 13, .inl g_loss)), (b_reached, .inl (cI, 256, .inl g_reached)), (b_order, .inl (cI, 12, .inl g_order)), (b_upper, .inl (cI, 12, .inl g_upper)), (b_length, .inl (cI, 12, .inl g_length)), (b_heads, .inl (cI, 12, .inl g_heads)), (b_turn, .inl (cI, 12, .inl g_turn))] := hD
      refine lv_aload_n hx hb dM_dry_21 rfl (lv_at hl 0 rfl) ?_
      refine va_get (D := (dC, dI)) (ci := 1) (v := .int 0) (C := R_M) (T := T_M) (N := 16) hx hb hts in_M hown hK hP 0 rfl rfl 0 (by decide) (hts _ flM51) (fun _ h9 => h9) rfl dM_dry_22 ?_
      refine lv_if_le (tgt := 30) hx hb dM_dry_25 (by decide) (fun c_4 => ?_) (fun c_4 => ?_)
      · refine lv_aload_n hx hb dM_dry_30 rfl (lv_at hl 0 rfl) ?_
        refine xm_Vv (S := Unit) (As := []) (w1 := fun _ => [(h1, .inr (1, [.int 0, .int (nI Wd), .int (nI Ht), .ref b_wall, .int rs, .int (nI Pn), .ref b_px, .ref b_py, .ref b_loss, .ref b_reached, .int jc, .ref b_order, .ref b_upper, .ref b_length, .ref b_heads, .ref b_turn])), (b_wall, .inl (cZ, 256, .inl g_wall)), (b_px, .inl (cI, 12, .inl g_px)), (b_py, .inl (cI, 12, .inl g_py)), (b_reached, .inl (cI, 256, .inl (md_fy g_wall rs X Y Pn Wd Ht 0 g_reached)))]) (wz := fun _ => [(h1, .inr (1, [.int 0, .int (nI Wd), .int (nI Ht), .ref b_wall, .int rs, .int (nI Pn), .ref b_px, .ref b_py, .ref b_loss, .ref b_reached, .int jc, .ref b_order, .ref b_upper, .ref b_length, .ref b_heads, .ref b_turn])), (b_wall, .inl (cZ, 256, .inl g_wall)), (b_px, .inl (cI, 12, .inl g_px)), (b_py, .inl (cI, 12, .inl g_py)), (b_loss, .inl (cI, 13, .inl g_loss)), (b_reached, .inl (cI, 256, .inl (md_fy g_wall rs X Y Pn Wd Ht 0 g_reached))), (b_order, .inl (cI, 12, .inl g_order)), (b_upper, .inl (cI, 12, .inl g_upper)), (b_length, .inl (cI, 12, .inl g_length)), (b_heads, .inl (cI, 12, .inl g_heads)), (b_turn, .inl (cI, 12, .inl g_turn))]) (wr := [(b_loss, .inl (cI, 13, .inl g_loss)), (b_order, .inl (cI, 12, .inl g_order)), (b_upper, .inl (cI, 12, .inl g_upper)), (b_length, .inl (cI, 12, .inl g_length)), (b_heads, .inl (cI, 12, .inl g_heads)), (b_turn, .inl (cI, 12, .inl g_turn))]) ⟨hx, hb, hml, hown, hts⟩ (cM_findReached l dC dI h1 b_wall b_px b_py b_loss b_reached b_order b_upper b_length b_heads b_turn 0 Wd Ht Pn rs jc cZ cI g_wall g_px g_py g_reached X Y _ hW hH hPn hXY) (cwV 0 hts gM94 rfl rfl rfl (by decide +kernel) ⟨Nat.le_of_ble_eq_true rfl, Nat.le_of_ble_eq_true rfl⟩) hK hP hD hS hA [0, 1, 2, 3, 5] [4, 6, 7, 8, 9, 10] [6, 7, 8, 9, 0, 10, 1, 2, 3, 4, 5] [0, 1] rfl rfl (fun _ => rfl) (by decide) (by decide) (by decide) (by decide) rfl 1 0 rfl rfl rfl rfl hl.1 rfl (Nat.le_of_ble_eq_true rfl) dM_dry_31 ⟨Nat.le_of_ble_eq_true rfl, Nat.le_of_ble_eq_true rfl⟩ (fun u H locs hr_5 hP hD hS => ?_)
        refine lv_iload_n hx hb dM_dry_34 rfl (lv_at hl 2 rfl) ?_
        refine lv_istore_n (lv' := [(3, .int kk), (0, .ref h1), (1, .int x), (2, .int kk)]) hx hb dM_dry_35 rfl hl (by decide) rfl (fun ls hl => ?_)
        refine lv_iconst (v := 0) hx hb dM_dry_36 (by decide) ?_
        refine lv_istore (lv' := [(4, .int 0), (3, .int kk), (0, .ref h1), (1, .int x), (2, .int kk)]) hx hb dM_dry_37 hl (by decide) rfl (fun ls hl => ?_)
        exact lp39 (Ht + 1) Ht 0 kk (by omega) (by omega) rfl _ _ hP hD hS ls (lv_sub hl [0, 1, 2, 3, 4] rfl)
      · exact absurd c_4 (by decide)
set_option maxHeartbeats 4000000 in
set_option maxRecDepth 100000 in
theorem cM_dry_x (l : Launch) (dC : Nat → ClassId) (dI : Nat → Nat → Nat) (h1 b_wall b_px b_py b_loss b_reached b_order b_upper b_length b_heads b_turn : Nat) (cd : Int32) (Wd Ht Pn : Nat) (rs jc : Int32) (cZ cI : ClassId) (g_wall g_px g_py g_loss g_reached g_order g_upper g_length g_heads g_turn : Nat → Int32) (x kk : Int32) (sz : Nat) (hno : (md_set Pn x && !decide (kk < 0)) = false) : Met l yM_dry (kM_dry :: WD) { frames := 5, cells := 0, slots := 0, locals := 138 } (va_Pc [.ref h1, .int x, .int kk] (xm (dC, dI) snC [(h1, .inr (1, [.int cd, .int (nI Wd), .int (nI Ht), .ref b_wall, .int rs, .int (nI Pn), .ref b_px, .ref b_py, .ref b_loss, .ref b_reached, .int jc, .ref b_order, .ref b_upper, .ref b_length, .ref b_heads, .ref b_turn])), (b_wall, .inl (cZ, 256, .inl g_wall)), (b_px, .inl (cI, 12, .inl g_px)), (b_py, .inl (cI, 12, .inl g_py)), (b_loss, .inl (cI, 13, .inl g_loss)), (b_reached, .inl (cI, 256, .inl g_reached)), (b_order, .inl (cI, 12, .inl g_order)), (b_upper, .inl (cI, 12, .inl g_upper)), (b_length, .inl (cI, 12, .inl g_length)), (b_heads, .inl (cI, 12, .inl g_heads)), (b_turn, .inl (cI, 12, .inl g_turn))] [(cZ, .boolean), (cI, .int)] sz)) (va_Qi (fun (r : Int32) (_ : Unit) => True) (fun _ => xo (dC, dI) snC [(h1, .inr (1, [.int 1, .int (nI Wd), .int (nI Ht), .ref b_wall, .int rs, .int (nI Pn), .ref b_px, .ref b_py, .ref b_loss, .ref b_reached, .int jc, .ref b_order, .ref b_upper, .ref b_length, .ref b_heads, .ref b_turn])), (b_wall, .inl (cZ, 256, .inl g_wall)), (b_px, .inl (cI, 12, .inl g_px)), (b_py, .inl (cI, 12, .inl g_py)), (b_loss, .inl (cI, 13, .inl g_loss)), (b_reached, .inl (cI, 256, .inl g_reached)), (b_order, .inl (cI, 12, .inl g_order)), (b_upper, .inl (cI, 12, .inl g_upper)), (b_length, .inl (cI, 12, .inl g_length)), (b_heads, .inl (cI, 12, .inl g_heads)), (b_turn, .inl (cI, 12, .inl g_turn))] [(cZ, .boolean), (cI, .int)] (va_A [(h1, .inr (1, [.int cd, .int (nI Wd), .int (nI Ht), .ref b_wall, .int rs, .int (nI Pn), .ref b_px, .ref b_py, .ref b_loss, .ref b_reached, .int jc, .ref b_order, .ref b_upper, .ref b_length, .ref b_heads, .ref b_turn])), (b_wall, .inl (cZ, 256, .inl g_wall)), (b_px, .inl (cI, 12, .inl g_px)), (b_py, .inl (cI, 12, .inl g_py)), (b_loss, .inl (cI, 13, .inl g_loss)), (b_reached, .inl (cI, 256, .inl g_reached)), (b_order, .inl (cI, 12, .inl g_order)), (b_upper, .inl (cI, 12, .inl g_upper)), (b_length, .inl (cI, 12, .inl g_length)), (b_heads, .inl (cI, 12, .inl g_heads)), (b_turn, .inl (cI, 12, .inl g_turn))] sz)) (va_A [(h1, .inr (1, [.int cd, .int (nI Wd), .int (nI Ht), .ref b_wall, .int rs, .int (nI Pn), .ref b_px, .ref b_py, .ref b_loss, .ref b_reached, .int jc, .ref b_order, .ref b_upper, .ref b_length, .ref b_heads, .ref b_turn])), (b_wall, .inl (cZ, 256, .inl g_wall)), (b_px, .inl (cI, 12, .inl g_px)), (b_py, .inl (cI, 12, .inl g_py)), (b_loss, .inl (cI, 13, .inl g_loss)), (b_reached, .inl (cI, 256, .inl g_reached)), (b_order, .inl (cI, 12, .inl g_order)), (b_upper, .inl (cI, 12, .inl g_upper)), (b_length, .inl (cI, 12, .inl g_length)), (b_heads, .inl (cI, 12, .inl g_heads)), (b_turn, .inl (cI, 12, .inl g_turn))] sz)) 0 0 (va_A [(h1, .inr (1, [.int cd, .int (nI Wd), .int (nI Ht), .ref b_wall, .int rs, .int (nI Pn), .ref b_px, .ref b_py, .ref b_loss, .ref b_reached, .int jc, .ref b_order, .ref b_upper, .ref b_length, .ref b_heads, .ref b_turn])), (b_wall, .inl (cZ, 256, .inl g_wall)), (b_px, .inl (cI, 12, .inl g_px)), (b_py, .inl (cI, 12, .inl g_py)), (b_loss, .inl (cI, 13, .inl g_loss)), (b_reached, .inl (cI, 256, .inl g_reached)), (b_order, .inl (cI, 12, .inl g_order)), (b_upper, .inl (cI, 12, .inl g_upper)), (b_length, .inl (cI, 12, .inl g_length)), (b_heads, .inl (cI, 12, .inl g_heads)), (b_turn, .inl (cI, 12, .inl g_turn))] sz) := by
  refine Met.ofW (cc := bM_dry) (maxL := 6) (ret := (some .int)) (by decide) rfl ?_
  intro p e s m args below meth c s₁ B hml hv
  obtain ⟨rfl, hsz, hP, hK, hD0⟩ := hv
  have hx := B.exec
  have hb := B.bytes
  have hr := B.returns
  have hts : ∀ w ∈ WD, w.before _ s = true := fun w h => atoms_spec (ws := kM_dry :: WD) B.pre w (List.mem_cons_of_mem _ h)
  have hown : s.vm.findClass R_M = some m.cls := findClass_of_methodNamed B.named
  have hlocks := B.notSynchronized
  subst hsz
  have hD := hD0.self (sz := s.heap.size)
  generalize hAe : va_A [(h1, .inr (1, [.int cd, .int (nI Wd), .int (nI Ht), .ref b_wall, .int rs, .int (nI Pn), .ref b_px, .ref b_py, .ref b_loss, .ref b_reached, .int jc, .ref b_order, .ref b_upper, .ref b_length, .ref b_heads, .ref b_turn])), (b_wall, .inl (cZ, 256, .inl g_wall)), (b_px, .inl (cI, 12, .inl g_px)), (b_py, .inl (cI, 12, .inl g_py)), (b_loss, .inl (cI, 13, .inl g_loss)), (b_reached, .inl (cI, 256, .inl g_reached)), (b_order, .inl (cI, 12, .inl g_order)), (b_upper, .inl (cI, 12, .inl g_upper)), (b_length, .inl (cI, 12, .inl g_length)), (b_heads, .inl (cI, 12, .inl g_heads)), (b_turn, .inl (cI, 12, .inl g_turn))] s.heap.size = A at hD ⊢
  have hA : ∀ q : Nat, s.heap.size ≤ q → A q := fun q h => by rw [← hAe]; exact Or.inr h
  have hS : va_S A s.heap s.heap [] := va_S.rf
  have hl := lv_entry ([.ref h1, .int x, .int kk]) (n := 6) (Nat.le_of_ble_eq_true rfl)
  rw [lg_entry_eq]
  generalize (lg_sl ([.ref h1, .int x, .int kk]) ++ List.replicate (6 - (lg_sl ([.ref h1, .int x, .int kk])).length) Slot.unset).toArray = ls at hl ⊢
  have hl : lv_has ls 6 [(0, .ref h1), (1, .int x), (2, .int kk)] := hl
  refine lv_aload_n hx hb dM_dry_0 rfl (lv_at hl 0 rfl) ?_
  refine lv_aload_n hx hb dM_dry_1 rfl (lv_at hl 0 rfl) ?_
  refine lv_iload_n hx hb dM_dry_2 rfl (lv_at hl 1 rfl) ?_
  refine xr_V (As := [.int x]) ⟨hx, hb, hml, hown, hts⟩ (cM_isSet l dC dI h1 b_wall b_px b_py b_loss b_reached b_order b_upper b_length b_heads b_turn cd Wd Ht Pn rs jc x) (cwV 1 hts gM91 rfl rfl rfl (by decide +kernel) ⟨Nat.le_of_ble_eq_true rfl, Nat.le_of_ble_eq_true rfl⟩) hK hP [0] [] rfl rfl 1 0 rfl rfl rfl rfl hl.1 rfl (Nat.le_of_ble_eq_true rfl) dM_dry_3 ⟨Nat.le_of_ble_eq_true rfl, Nat.le_of_ble_eq_true rfl⟩ (fun r_1 hr_1 => ?_)
  subst hr_1
  refine lv_if_eq (tgt := 17) hx hb dM_dry_6 (by decide) (fun c_2 => ?_) (fun c_2 => ?_)
  · replace c_2 := bz_0 c_2
    refine lv_iconst (v := 1) hx hb dM_dry_17 (by decide) ?_
    refine va_put (D := (dC, dI)) (ci := 1) (v := .int 1) (ty := .int) (C := R_M) (T := T_M) (N := 16) hx hb hts in_M t_M tok_M n_M hown hK hP hD hS 0 rfl rfl 0 (by decide) (hts _ flM51) (fun _ h9 => h9) rfl (by decide +kernel) rfl rfl (Nat.le_of_ble_eq_true rfl) dM_dry_18 (fun H locs hP hD hS => ?_)
    have hP : va_P (dC, dI) snC [(h1, .inr (1, [.int 1, .int (nI Wd), .int (nI Ht), .ref b_wall, .int rs, .int (nI Pn), .ref b_px, .ref b_py, .ref b_loss, .ref b_reached, .int jc, .ref b_order, .ref b_upper, .ref b_length, .ref b_heads, .ref b_turn])), (b_wall, .inl (cZ, 256, .inl g_wall)), (b_px, .inl (cI, 12, .inl g_px)), (b_py, .inl (cI, 12, .inl g_py)), (b_loss, .inl (cI, 13, .inl g_loss)), (b_reached, .inl (cI, 256, .inl g_reached)), (b_order, .inl (cI, 12, .inl g_order)), (b_upper, .inl (cI, 12, .inl g_upper)), (b_length, .inl (cI, 12, .inl g_length)), (b_heads, .inl (cI, 12, .inl g_heads)), (b_turn, .inl (cI, 12, .inl g_turn))] H := hP
    have hD : va_D A [(h1, .inr (1, [.int 1, .int (nI Wd), .int (nI Ht), .ref b_wall, .int rs, .int (nI Pn), .ref b_px, .ref b_py, .ref b_loss, .ref b_reached, .int jc, .ref b_order, .ref b_upper, .ref b_length, .ref b_heads, .ref b_turn])), (b_wall, .inl (cZ, 256, .inl g_wall)), (b_px, .inl (cI, 12, .inl g_px)), (b_py, .inl (cI, 12, .inl g_py)), (b_loss, .inl (cI, 13, .inl g_loss)), (b_reached, .inl (cI, 256, .inl g_reached)), (b_order, .inl (cI, 12, .inl g_order)), (b_upper, .inl (cI, 12, .inl g_upper)), (b_length, .inl (cI, 12, .inl g_length)), (b_heads, .inl (cI, 12, .inl g_heads)), (b_turn, .inl (cI, 12, .inl g_turn))] := hD
    refine lv_aload_n hx hb dM_dry_21 rfl (lv_at hl 0 rfl) ?_
    refine va_get (D := (dC, dI)) (ci := 1) (v := .int 1) (C := R_M) (T := T_M) (N := 16) hx hb hts in_M hown hK hP 0 rfl rfl 0 (by decide) (hts _ flM51) (fun _ h9 => h9) rfl dM_dry_22 ?_
    refine lv_if_le (tgt := 30) hx hb dM_dry_25 (by decide) (fun c_3 => ?_) (fun c_3 => ?_)
    · exact absurd c_3 (by decide)
    · refine lv_iconst (v := 0) hx hb dM_dry_28 (by decide) ?_
      exact W.iret (v := 0) hx hb hr (fun t ht hW => ⟨⟨0, (), rfl, trivial, by rw [ht]; exact hP, va_K.moved hW.alike hK, hD⟩, hS.F ht⟩) hS.2.2 dM_dry_29
  · replace c_2 := bz_1 c_2
    refine lv_iload_n hx hb dM_dry_9 rfl (lv_at hl 2 rfl) ?_
    refine lv_if_lt (tgt := 17) hx hb dM_dry_10 (by decide) (fun c_4 => ?_) (fun c_4 => ?_)
    · refine lv_iconst (v := 1) hx hb dM_dry_17 (by decide) ?_
      refine va_put (D := (dC, dI)) (ci := 1) (v := .int 1) (ty := .int) (C := R_M) (T := T_M) (N := 16) hx hb hts in_M t_M tok_M n_M hown hK hP hD hS 0 rfl rfl 0 (by decide) (hts _ flM51) (fun _ h9 => h9) rfl (by decide +kernel) rfl rfl (Nat.le_of_ble_eq_true rfl) dM_dry_18 (fun H locs hP hD hS => ?_)
      have hP : va_P (dC, dI) snC [(h1, .inr (1, [.int 1, .int (nI Wd), .int (nI Ht), .ref b_wall, .int rs, .int (nI Pn), .ref b_px, .ref b_py, .ref b_loss, .ref b_reached, .int jc, .ref b_order, .ref b_upper, .ref b_length, .ref b_heads, .ref b_turn])), (b_wall, .inl (cZ, 256, .inl g_wall)), (b_px, .inl (cI, 12, .inl g_px)), (b_py, .inl (cI, 12, .inl g_py)), (b_loss, .inl (cI, 13, .inl g_loss)), (b_reached, .inl (cI, 256, .inl g_reached)), (b_order, .inl (cI, 12, .inl g_order)), (b_upper, .inl (cI, 12, .inl g_upper)), (b_length, .inl (cI, 12, .inl g_length)), (b_heads, .inl (cI, 12, .inl g_heads)), (b_turn, .inl (cI, 12, .inl g_turn))] H := hP
      have hD : va_D A [(h1, .inr (1, [.int 1, .int (nI Wd), .int (nI Ht), .ref b_wall, .int rs, .int (nI Pn), .ref b_px, .ref b_py, .ref b_loss, .ref b_reached, .int jc, .ref b_order, .ref b_upper, .ref b_length, .ref b_heads, .ref b_turn])), (b_wall, .inl (cZ, 256, .inl g_wall)), (b_px, .inl (cI, 12, .inl g_px)), (b_py, .inl (cI, 12, .inl g_py)), (b_loss, .inl (cI, 13, .inl g_loss)), (b_reached, .inl (cI, 256, .inl g_reached)), (b_order, .inl (cI, 12, .inl g_order)), (b_upper, .inl (cI, 12, .inl g_upper)), (b_length, .inl (cI, 12, .inl g_length)), (b_heads, .inl (cI, 12, .inl g_heads)), (b_turn, .inl (cI, 12, .inl g_turn))] := hD
      refine lv_aload_n hx hb dM_dry_21 rfl (lv_at hl 0 rfl) ?_
      refine va_get (D := (dC, dI)) (ci := 1) (v := .int 1) (C := R_M) (T := T_M) (N := 16) hx hb hts in_M hown hK hP 0 rfl rfl 0 (by decide) (hts _ flM51) (fun _ h9 => h9) rfl dM_dry_22 ?_
      refine lv_if_le (tgt := 30) hx hb dM_dry_25 (by decide) (fun c_5 => ?_) (fun c_5 => ?_)
      · exact absurd c_5 (by decide)
      · refine lv_iconst (v := 0) hx hb dM_dry_28 (by decide) ?_
        exact W.iret (v := 0) hx hb hr (fun t ht hW => ⟨⟨0, (), rfl, trivial, by rw [ht]; exact hP, va_K.moved hW.alike hK, hD⟩, hS.F ht⟩) hS.2.2 dM_dry_29
    · exact absurd hno (by simp [*])
set_option maxHeartbeats 4000000 in
set_option maxRecDepth 100000 in
theorem cM_ones (l : Launch) (dC : Nat → ClassId) (dI : Nat → Nat → Nat) (v : Nat) (hv0 : v < 2 ^ 31) : Met l yM_ones (kM_ones :: WD) { frames := 0, cells := 0, slots := 0, locals := 0 } (va_Pc [.int (nI v)] (xw (dC, dI) snC [] [])) (xr_Q (fun r => r = md_on v v 0)) 0 0 (fun _ => False) := by
  refine Met.ofW (cc := bM_ones) (maxL := 3) (ret := (some .int)) (by decide) rfl ?_
  intro p e s m args below meth c s₁ B hml hv
  obtain ⟨rfl, hP, hK⟩ := hv
  have hx := B.exec
  have hb := B.bytes
  have hr := B.returns
  have hts : ∀ w ∈ WD, w.before _ s = true := fun w h => atoms_spec (ws := kM_ones :: WD) B.pre w (List.mem_cons_of_mem _ h)
  have hown : s.vm.findClass R_M = some m.cls := findClass_of_methodNamed B.named
  have hlocks := B.notSynchronized
  have hl := lv_entry ([.int (nI v)]) (n := 3) (Nat.le_of_ble_eq_true rfl)
  rw [lg_entry_eq]
  generalize (lg_sl ([.int (nI v)]) ++ List.replicate (3 - (lg_sl ([.int (nI v)])).length) Slot.unset).toArray = ls at hl ⊢
  have hl : lv_has ls 3 [(0, .int (nI v))] := hl
  have lp4 : ∀ (k n : Nat) (z : Nat) (c9 : Int32), n < k → z ≤ n → z < 2 ^ 31 → md_on n z c9 = md_on v v 0 → ∀ ls : Array Slot, lv_has ls 3 [(2, .int (nI z)), (1, .int c9)] → W p l e (headSpec (kM_ones :: WD) { frames := 0, cells := 0, slots := 0, locals := 0 }).room s m ([.int (nI v)]).toArray below meth c s.heap [] 0 0 (MQ below (xr_Q (fun r => r = md_on v v 0)) ([.int (nI v)]).toArray s 0 0 (fun _ => False)) (F0 m 4 ls []) := by
    intro k
    induction k with
    | zero => exact fun n _ _ h => absurd h (Nat.not_lt_zero n)
    | succ k ih =>
      intro n z c9 hk hzn hz31 hT ls hl
      refine lv_iload_n hx hb dM_ones_4 rfl (lv_at hl 0 rfl) ?_
      refine lv_if_eq (tgt := 20) hx hb dM_ones_5 (by decide) (fun c_1 => ?_) (fun c_1 => ?_)
      · obtain rfl : z = 0 := by rw [show (0 : Int32) = nI 0 from rfl, nI_eq (by omega) (by omega)] at c_1; exact c_1
        refine lv_iload_n hx hb dM_ones_20 rfl (lv_at hl 1 rfl) ?_
        exact W.iret (v := c9) hx hb hr (fun t ht hW => ⟨⟨c9, rfl, (by rw [← hT]; cases n <;> simp [md_on])⟩, ht⟩) (fun _ h => absurd h List.not_mem_nil) dM_ones_21
      · have hz0 : z ≠ 0 := fun e => c_1 (by rw [e]; rfl)
        obtain ⟨n, rfl⟩ : ∃ n', n = n' + 1 := ⟨n - 1, by omega⟩
        have hz1 : z &&& (z - 1) ≤ z - 1 := Nat.and_le_right
        refine lv_iinc (v := (c9 + 1)) (lv' := [(1, .int (c9 + 1)), (2, .int (nI z))]) hx hb dM_ones_8 hl (k := 1) rfl rfl (by decide) rfl (fun ls hl => ?_)
        refine lv_iload_n hx hb dM_ones_11 rfl (lv_at hl 1 rfl) ?_
        refine lv_iload_n hx hb dM_ones_12 rfl (lv_at hl 1 rfl) ?_
        refine lv_iconst (v := 1) hx hb dM_ones_13 (by decide) ?_
        refine lv_isub hx hb dM_ones_14 ?_
        refine lv_iand hx hb dM_ones_15 ?_
        rw [show ((nI z) &&& ((nI z) - 1) : Int32) = nI (z &&& (z - 1)) from (md_clr (by omega))]
        refine lv_istore_n (lv' := [(2, .int (nI (z &&& (z - 1)))), (1, .int (c9 + 1))]) hx hb dM_ones_16 rfl hl (by decide) rfl (fun ls hl => ?_)
        refine lv_goto (tgt := 4) hx hb dM_ones_17 (by decide) ?_
        exact ih n (z &&& (z - 1)) (c9 + 1) (by omega) (by omega) (by omega) (by rw [← hT]; simp [md_on, hz0]) ls (lv_sub hl [0, 1] rfl)
  refine lv_iconst (v := 0) hx hb dM_ones_0 (by decide) ?_
  refine lv_istore_n (lv' := [(1, .int 0), (0, .int (nI v))]) hx hb dM_ones_1 rfl hl (by decide) rfl (fun ls hl => ?_)
  refine lv_iload_n hx hb dM_ones_2 rfl (lv_at hl 1 rfl) ?_
  refine lv_istore_n (lv' := [(2, .int (nI v)), (1, .int 0), (0, .int (nI v))]) hx hb dM_ones_3 rfl hl (by decide) rfl (fun ls hl => ?_)
  exact lp4 (v + 1) v v 0 (by omega) (by omega) hv0 rfl ls (lv_sub hl [0, 1] rfl)
set_option maxHeartbeats 4000000 in
set_option maxRecDepth 100000 in
theorem cM_best (l : Launch) (dC : Nat → ClassId) (dI : Nat → Nat → Nat) (h1 b_wall b_px b_py b_loss b_reached b_order b_upper b_length b_heads b_turn : Nat) (cd : Int32) (Wd Ht Pn : Nat) (rs jc : Int32) (cZ cI : ClassId) (g_wall g_px g_py g_loss g_reached g_order g_upper g_length g_heads g_turn : Nat → Int32) (X Y : Nat → Nat) (sz : Nat) (hW : Wd ≤ 16) (hH : Ht ≤ 16) (hPn : Pn ≤ 12) (hXY : ∀ i, i < Pn → g_px i = nI (X i) ∧ g_py i = nI (Y i) ∧ X i < 16 ∧ Y i < 16) : Met l yM_best (kM_best :: WD) { frames := 5, cells := 0, slots := 0, locals := 138 } (va_Pc [.ref h1] (xm (dC, dI) snC [(h1, .inr (1, [.int cd, .int (nI Wd), .int (nI Ht), .ref b_wall, .int rs, .int (nI Pn), .ref b_px, .ref b_py, .ref b_loss, .ref b_reached, .int jc, .ref b_order, .ref b_upper, .ref b_length, .ref b_heads, .ref b_turn])), (b_wall, .inl (cZ, 256, .inl g_wall)), (b_px, .inl (cI, 12, .inl g_px)), (b_py, .inl (cI, 12, .inl g_py)), (b_loss, .inl (cI, 13, .inl g_loss)), (b_reached, .inl (cI, 256, .inl g_reached)), (b_order, .inl (cI, 12, .inl g_order)), (b_upper, .inl (cI, 12, .inl g_upper)), (b_length, .inl (cI, 12, .inl g_length)), (b_heads, .inl (cI, 12, .inl g_heads)), (b_turn, .inl (cI, 12, .inl g_turn))] [(cZ, .boolean), (cI, .int)] sz)) (va_Qi (fun (r : Int32) (_ : Unit) => r = md_be g_wall (md_fy g_wall rs X Y Pn Wd Ht 0 g_reached) Wd Ht (2 ^ Pn) 0 (-1)) (fun _ => xo (dC, dI) snC [(h1, .inr (1, [.int 0, .int (nI Wd), .int (nI Ht), .ref b_wall, .int rs, .int (nI Pn), .ref b_px, .ref b_py, .ref b_loss, .ref b_reached, .int jc, .ref b_order, .ref b_upper, .ref b_length, .ref b_heads, .ref b_turn])), (b_wall, .inl (cZ, 256, .inl g_wall)), (b_px, .inl (cI, 12, .inl g_px)), (b_py, .inl (cI, 12, .inl g_py)), (b_loss, .inl (cI, 13, .inl g_loss)), (b_reached, .inl (cI, 256, .inl (md_fy g_wall rs X Y Pn Wd Ht 0 g_reached))), (b_order, .inl (cI, 12, .inl g_order)), (b_upper, .inl (cI, 12, .inl g_upper)), (b_length, .inl (cI, 12, .inl g_length)), (b_heads, .inl (cI, 12, .inl g_heads)), (b_turn, .inl (cI, 12, .inl g_turn))] [(cZ, .boolean), (cI, .int)] (va_A [(h1, .inr (1, [.int cd, .int (nI Wd), .int (nI Ht), .ref b_wall, .int rs, .int (nI Pn), .ref b_px, .ref b_py, .ref b_loss, .ref b_reached, .int jc, .ref b_order, .ref b_upper, .ref b_length, .ref b_heads, .ref b_turn])), (b_wall, .inl (cZ, 256, .inl g_wall)), (b_px, .inl (cI, 12, .inl g_px)), (b_py, .inl (cI, 12, .inl g_py)), (b_loss, .inl (cI, 13, .inl g_loss)), (b_reached, .inl (cI, 256, .inl g_reached)), (b_order, .inl (cI, 12, .inl g_order)), (b_upper, .inl (cI, 12, .inl g_upper)), (b_length, .inl (cI, 12, .inl g_length)), (b_heads, .inl (cI, 12, .inl g_heads)), (b_turn, .inl (cI, 12, .inl g_turn))] sz)) (va_A [(h1, .inr (1, [.int cd, .int (nI Wd), .int (nI Ht), .ref b_wall, .int rs, .int (nI Pn), .ref b_px, .ref b_py, .ref b_loss, .ref b_reached, .int jc, .ref b_order, .ref b_upper, .ref b_length, .ref b_heads, .ref b_turn])), (b_wall, .inl (cZ, 256, .inl g_wall)), (b_px, .inl (cI, 12, .inl g_px)), (b_py, .inl (cI, 12, .inl g_py)), (b_loss, .inl (cI, 13, .inl g_loss)), (b_reached, .inl (cI, 256, .inl g_reached)), (b_order, .inl (cI, 12, .inl g_order)), (b_upper, .inl (cI, 12, .inl g_upper)), (b_length, .inl (cI, 12, .inl g_length)), (b_heads, .inl (cI, 12, .inl g_heads)), (b_turn, .inl (cI, 12, .inl g_turn))] sz)) 0 0 (va_A [(h1, .inr (1, [.int cd, .int (nI Wd), .int (nI Ht), .ref b_wall, .int rs, .int (nI Pn), .ref b_px, .ref b_py, .ref b_loss, .ref b_reached, .int jc, .ref b_order, .ref b_upper, .ref b_length, .ref b_heads, .ref b_turn])), (b_wall, .inl (cZ, 256, .inl g_wall)), (b_px, .inl (cI, 12, .inl g_px)), (b_py, .inl (cI, 12, .inl g_py)), (b_loss, .inl (cI, 13, .inl g_loss)), (b_reached, .inl (cI, 256, .inl g_reached)), (b_order, .inl (cI, 12, .inl g_order)), (b_upper, .inl (cI, 12, .inl g_upper)), (b_length, .inl (cI, 12, .inl g_length)), (b_heads, .inl (cI, 12, .inl g_heads)), (b_turn, .inl (cI, 12, .inl g_turn))] sz) := by
  refine Met.ofW (cc := bM_best) (maxL := 4) (ret := (some .int)) (by decide) rfl ?_
  intro p e s m args below meth c s₁ B hml hv
  obtain ⟨rfl, hsz, hP, hK, hD0⟩ := hv
  have hx := B.exec
  have hb := B.bytes
  have hr := B.returns
  have hts : ∀ w ∈ WD, w.before _ s = true := fun w h => atoms_spec (ws := kM_best :: WD) B.pre w (List.mem_cons_of_mem _ h)
  have hown : s.vm.findClass R_M = some m.cls := findClass_of_methodNamed B.named
  have hlocks := B.notSynchronized
  subst hsz
  have hD := hD0.self (sz := s.heap.size)
  generalize hAe : va_A [(h1, .inr (1, [.int cd, .int (nI Wd), .int (nI Ht), .ref b_wall, .int rs, .int (nI Pn), .ref b_px, .ref b_py, .ref b_loss, .ref b_reached, .int jc, .ref b_order, .ref b_upper, .ref b_length, .ref b_heads, .ref b_turn])), (b_wall, .inl (cZ, 256, .inl g_wall)), (b_px, .inl (cI, 12, .inl g_px)), (b_py, .inl (cI, 12, .inl g_py)), (b_loss, .inl (cI, 13, .inl g_loss)), (b_reached, .inl (cI, 256, .inl g_reached)), (b_order, .inl (cI, 12, .inl g_order)), (b_upper, .inl (cI, 12, .inl g_upper)), (b_length, .inl (cI, 12, .inl g_length)), (b_heads, .inl (cI, 12, .inl g_heads)), (b_turn, .inl (cI, 12, .inl g_turn))] s.heap.size = A at hD ⊢
  have hA : ∀ q : Nat, s.heap.size ≤ q → A q := fun q h => by rw [← hAe]; exact Or.inr h
  have hS : va_S A s.heap s.heap [] := va_S.rf
  have hl := lv_entry ([.ref h1]) (n := 4) (Nat.le_of_ble_eq_true rfl)
  rw [lg_entry_eq]
  generalize (lg_sl ([.ref h1]) ++ List.replicate (4 - (lg_sl ([.ref h1])).length) Slot.unset).toArray = ls at hl ⊢
  have hl : lv_has ls 4 [(0, .ref h1)] := hl
  have hp2 := sn_pow hPn
  have hp1 : 1 ≤ 2 ^ Pn := Nat.one_le_two_pow
  have lp13 : ∀ (k n : Nat) (i : Nat) (bs : Int32), n < k → i + n = 2 ^ Pn → (bs = -1 ∨ ∃ j, j < 2 ^ Pn ∧ bs = nI j) → md_be g_wall (md_fy g_wall rs X Y Pn Wd Ht 0 g_reached) Wd Ht n i bs = md_be g_wall (md_fy g_wall rs X Y Pn Wd Ht 0 g_reached) Wd Ht (2 ^ Pn) 0 (-1) → ∀ (H : Heap) (locs : List Loc), va_P (dC, dI) snC [(h1, .inr (1, [.int 0, .int (nI Wd), .int (nI Ht), .ref b_wall, .int rs, .int (nI Pn), .ref b_px, .ref b_py, .ref b_loss, .ref b_reached, .int jc, .ref b_order, .ref b_upper, .ref b_length, .ref b_heads, .ref b_turn])), (b_wall, .inl (cZ, 256, .inl g_wall)), (b_px, .inl (cI, 12, .inl g_px)), (b_py, .inl (cI, 12, .inl g_py)), (b_loss, .inl (cI, 13, .inl g_loss)), (b_reached, .inl (cI, 256, .inl (md_fy g_wall rs X Y Pn Wd Ht 0 g_reached))), (b_order, .inl (cI, 12, .inl g_order)), (b_upper, .inl (cI, 12, .inl g_upper)), (b_length, .inl (cI, 12, .inl g_length)), (b_heads, .inl (cI, 12, .inl g_heads)), (b_turn, .inl (cI, 12, .inl g_turn))] H → va_D A [(h1, .inr (1, [.int 0, .int (nI Wd), .int (nI Ht), .ref b_wall, .int rs, .int (nI Pn), .ref b_px, .ref b_py, .ref b_loss, .ref b_reached, .int jc, .ref b_order, .ref b_upper, .ref b_length, .ref b_heads, .ref b_turn])), (b_wall, .inl (cZ, 256, .inl g_wall)), (b_px, .inl (cI, 12, .inl g_px)), (b_py, .inl (cI, 12, .inl g_py)), (b_loss, .inl (cI, 13, .inl g_loss)), (b_reached, .inl (cI, 256, .inl (md_fy g_wall rs X Y Pn Wd Ht 0 g_reached))), (b_order, .inl (cI, 12, .inl g_order)), (b_upper, .inl (cI, 12, .inl g_upper)), (b_length, .inl (cI, 12, .inl g_length)), (b_heads, .inl (cI, 12, .inl g_heads)), (b_turn, .inl (cI, 12, .inl g_turn))] → va_S A s.heap H locs → ∀ ls : Array Slot, lv_has ls 4 [(2, .int (nI i)), (1, .int bs), (0, .ref h1)] → W p l e (headSpec (kM_best :: WD) { frames := 5, cells := 0, slots := 0, locals := 138 }).room s m ([.ref h1]).toArray below meth c H locs 0 0 (MQ below (va_Qi (fun (r : Int32) (_ : Unit) => r = md_be g_wall (md_fy g_wall rs X Y Pn Wd Ht 0 g_reached) Wd Ht (2 ^ Pn) 0 (-1)) (fun _ => xo (dC, dI) snC [(h1, .inr (1, [.int 0, .int (nI Wd), .int (nI Ht), .ref b_wall, .int rs, .int (nI Pn), .ref b_px, .ref b_py, .ref b_loss, .ref b_reached, .int jc, .ref b_order, .ref b_upper, .ref b_length, .ref b_heads, .ref b_turn])), (b_wall, .inl (cZ, 256, .inl g_wall)), (b_px, .inl (cI, 12, .inl g_px)), (b_py, .inl (cI, 12, .inl g_py)), (b_loss, .inl (cI, 13, .inl g_loss)), (b_reached, .inl (cI, 256, .inl (md_fy g_wall rs X Y Pn Wd Ht 0 g_reached))), (b_order, .inl (cI, 12, .inl g_order)), (b_upper, .inl (cI, 12, .inl g_upper)), (b_length, .inl (cI, 12, .inl g_length)), (b_heads, .inl (cI, 12, .inl g_heads)), (b_turn, .inl (cI, 12, .inl g_turn))] [(cZ, .boolean), (cI, .int)] A) A) ([.ref h1]).toArray s 0 0 (A)) (F0 m 13 ls []) := by
    intro k
    induction k with
    | zero => exact fun n _ _ h => absurd h (Nat.not_lt_zero n)
    | succ k ih =>
      intro n i bs hk hin hbs hT H locs hP hD hS ls hl
      refine lv_iload_n hx hb dM_best_13 rfl (lv_at hl 0 rfl) ?_
      refine lv_iconst (v := 1) hx hb dM_best_14 (by decide) ?_
      refine lv_aload_n hx hb dM_best_15 rfl (lv_at hl 2 rfl) ?_
      refine va_get (D := (dC, dI)) (ci := 1) (v := .int (nI Pn)) (C := R_M) (T := T_M) (N := 16) hx hb hts in_M hown hK hP 0 rfl rfl 5 (by decide) (hts _ flM54) (fun _ h9 => h9) rfl dM_best_16 ?_
      refine lv_ishl hx hb dM_best_19 ?_
      rw [show (1 <<< ((nI Pn) &&& 31) : Int32) = nI (2 ^ Pn) from (md_bit hPn)]
      refine lv_icmp_ge (tgt := 69) hx hb dM_best_20 (by decide) (fun c_1 => ?_) (fun c_1 => ?_)
      · have hz := (nI_leI (by omega) (by omega)).mp c_1
        obtain rfl : n = 0 := by omega
        refine lv_iload_n hx hb dM_best_69 rfl (lv_at hl 1 rfl) ?_
        exact W.iret (v := bs) hx hb hr (fun t ht hW => ⟨⟨bs, (), rfl, (by rw [← hT]; simp [md_be]), by rw [ht]; exact hP, va_K.moved hW.alike hK, hD⟩, hS.F ht⟩) hS.2.2 dM_best_70
      · have hz : i < 2 ^ Pn := by have h9 := mt (nI_leI (by omega) (by omega)).mpr c_1; omega
        obtain ⟨n, rfl⟩ : ∃ n', n = n' + 1 := ⟨n - 1, by omega⟩
        refine lv_iload_n hx hb dM_best_23 rfl (lv_at hl 1 rfl) ?_
        refine lv_iconst (v := (-1)) hx hb dM_best_24 (by decide) ?_
        refine lv_icmp_eq (tgt := 39) hx hb dM_best_25 (by decide) (fun c_2 => ?_) (fun c_2 => ?_)
        · refine lv_iconst (v := 1) hx hb dM_best_39 (by decide) ?_
          refine lv_goto (tgt := 44) hx hb dM_best_40 (by decide) ?_
          refine lv_istore_n (lv' := [(3, .int 1), (2, .int (nI i)), (1, .int bs), (0, .ref h1)]) hx hb dM_best_44 rfl hl (by decide) rfl (fun ls hl => ?_)
          refine lv_iload_n hx hb dM_best_45 rfl (lv_at hl 0 rfl) ?_
          refine lv_if_eq (tgt := 61) hx hb dM_best_46 (by decide) (fun c_3 => ?_) (fun c_3 => ?_)
          · exact absurd c_3 (by decide)
          · refine lv_aload_n hx hb dM_best_49 rfl (lv_at hl 3 rfl) ?_
            refine lv_iload_n hx hb dM_best_50 rfl (lv_at hl 1 rfl) ?_
            refine xr_V (As := [.int (nI i)]) ⟨hx, hb, hml, hown, hts⟩ (cM_dryCells l dC dI h1 b_wall b_px b_py b_loss b_reached b_order b_upper b_length b_heads b_turn 0 Wd Ht Pn rs jc cZ cI g_wall (md_fy g_wall rs X Y Pn Wd Ht 0 g_reached) (nI i) hW hH) (cwV 1 hts gM97 rfl rfl rfl (by decide +kernel) ⟨Nat.le_of_ble_eq_true rfl, Nat.le_of_ble_eq_true rfl⟩) hK hP [0, 1, 5] [0, 1] rfl rfl 1 0 rfl rfl rfl rfl hl.1 rfl (Nat.le_of_ble_eq_true rfl) dM_best_51 ⟨Nat.le_of_ble_eq_true rfl, Nat.le_of_ble_eq_true rfl⟩ (fun r_4 hr_4 => ?_)
            subst hr_4
            refine lv_if_ne (tgt := 61) hx hb dM_best_54 (by decide) (fun c_5 => ?_) (fun c_5 => ?_)
            · refine lv_iload_n hx hb dM_best_61 rfl (lv_at hl 2 rfl) ?_
              refine lv_istore_n (lv' := [(1, .int bs), (3, .int 1), (2, .int (nI i)), (0, .ref h1)]) hx hb dM_best_62 rfl hl (by decide) rfl (fun ls hl => ?_)
              refine lv_iinc (v := (nI (i + 1))) (lv' := [(2, .int (nI (i + 1))), (1, .int bs), (3, .int 1), (0, .ref h1)]) hx hb dM_best_63 hl (k := 2) rfl (nI_1 i) (by decide) rfl (fun ls hl => ?_)
              refine lv_goto (tgt := 13) hx hb dM_best_66 (by decide) ?_
              exact ih n (i + 1) bs (by omega) (by omega) hbs (by rw [← hT]; first | (simp [md_be, md_few, md_pcn, nI_clamp (show i < 2 ^ 31 by omega), c_1, c_2, c_3, c_5]; done) | (simp [md_be, md_few, md_pcn, nI_clamp (show i < 2 ^ 31 by omega), c_1, c_2, c_3, c_5, nI_clamp (show j < 2 ^ 31 by omega)]; done)) _ _ hP hD hS ls (lv_sub hl [0, 1, 3] rfl)
            · refine lv_iload_n hx hb dM_best_57 rfl (lv_at hl 1 rfl) ?_
              refine lv_goto (tgt := 62) hx hb dM_best_58 (by decide) ?_
              refine lv_istore_n (lv' := [(1, .int (nI i)), (3, .int 1), (2, .int (nI i)), (0, .ref h1)]) hx hb dM_best_62 rfl hl (by decide) rfl (fun ls hl => ?_)
              refine lv_iinc (v := (nI (i + 1))) (lv' := [(2, .int (nI (i + 1))), (1, .int (nI i)), (3, .int 1), (0, .ref h1)]) hx hb dM_best_63 hl (k := 2) rfl (nI_1 i) (by decide) rfl (fun ls hl => ?_)
              refine lv_goto (tgt := 13) hx hb dM_best_66 (by decide) ?_
              exact ih n (i + 1) (nI i) (by omega) (by omega) (Or.inr ⟨i, by omega, rfl⟩) (by rw [← hT]; first | (simp [md_be, md_few, md_pcn, nI_clamp (show i < 2 ^ 31 by omega), c_1, c_2, c_3, c_5]; done) | (simp [md_be, md_few, md_pcn, nI_clamp (show i < 2 ^ 31 by omega), c_1, c_2, c_3, c_5, nI_clamp (show j < 2 ^ 31 by omega)]; done)) _ _ hP hD hS ls (lv_sub hl [0, 1, 3] rfl)
        · obtain ⟨j, hj, rfl⟩ := hbs.resolve_left c_2
          refine lv_iload_n hx hb dM_best_28 rfl (lv_at hl 0 rfl) ?_
          refine xr_S (As := [.int (nI i)]) ⟨hx, hb, hml, hown, hts⟩ (cM_ones l dC dI i (by omega)) (va_cwS 1 hts gM101 rfl rfl rfl (by decide +kernel) ⟨Nat.le_of_ble_eq_true rfl, Nat.le_of_ble_eq_true rfl⟩) hK hP [] [] rfl rfl rfl hl.1 rfl (Nat.le_of_ble_eq_true rfl) dM_best_29 ⟨Nat.le_of_ble_eq_true rfl, Nat.le_of_ble_eq_true rfl⟩ (fun r_6 hr_6 => ?_)
          subst hr_6
          refine lv_iload_n hx hb dM_best_32 rfl (lv_at hl 1 rfl) ?_
          refine xr_S (As := [.int (nI j)]) ⟨hx, hb, hml, hown, hts⟩ (cM_ones l dC dI j (by omega)) (va_cwS 1 hts gM101 rfl rfl rfl (by decide +kernel) ⟨Nat.le_of_ble_eq_true rfl, Nat.le_of_ble_eq_true rfl⟩) hK hP [] [] rfl rfl rfl hl.1 rfl (Nat.le_of_ble_eq_true rfl) dM_best_33 ⟨Nat.le_of_ble_eq_true rfl, Nat.le_of_ble_eq_true rfl⟩ (fun r_7 hr_7 => ?_)
          subst hr_7
          refine lv_icmp_ge (tgt := 43) hx hb dM_best_36 (by decide) (fun c_8 => ?_) (fun c_8 => ?_)
          · refine lv_iconst (v := 0) hx hb dM_best_43 (by decide) ?_
            refine lv_istore_n (lv' := [(3, .int 0), (2, .int (nI i)), (1, .int (nI j)), (0, .ref h1)]) hx hb dM_best_44 rfl hl (by decide) rfl (fun ls hl => ?_)
            refine lv_iload_n hx hb dM_best_45 rfl (lv_at hl 0 rfl) ?_
            refine lv_if_eq (tgt := 61) hx hb dM_best_46 (by decide) (fun c_9 => ?_) (fun c_9 => ?_)
            · refine lv_iload_n hx hb dM_best_61 rfl (lv_at hl 2 rfl) ?_
              refine lv_istore_n (lv' := [(1, .int (nI j)), (3, .int 0), (2, .int (nI i)), (0, .ref h1)]) hx hb dM_best_62 rfl hl (by decide) rfl (fun ls hl => ?_)
              refine lv_iinc (v := (nI (i + 1))) (lv' := [(2, .int (nI (i + 1))), (1, .int (nI j)), (3, .int 0), (0, .ref h1)]) hx hb dM_best_63 hl (k := 2) rfl (nI_1 i) (by decide) rfl (fun ls hl => ?_)
              refine lv_goto (tgt := 13) hx hb dM_best_66 (by decide) ?_
              exact ih n (i + 1) (nI j) (by omega) (by omega) (Or.inr ⟨j, hj, rfl⟩) (by rw [← hT]; first | (simp [md_be, md_few, md_pcn, nI_clamp (show i < 2 ^ 31 by omega), c_1, c_2, c_8, c_9]; done) | (simp [md_be, md_few, md_pcn, nI_clamp (show i < 2 ^ 31 by omega), c_1, c_2, c_8, c_9, nI_clamp (show j < 2 ^ 31 by omega)]; done)) _ _ hP hD hS ls (lv_sub hl [0, 1, 3] rfl)
            · exact absurd c_9 (by decide)
          · refine lv_iconst (v := 1) hx hb dM_best_39 (by decide) ?_
            refine lv_goto (tgt := 44) hx hb dM_best_40 (by decide) ?_
            refine lv_istore_n (lv' := [(3, .int 1), (2, .int (nI i)), (1, .int (nI j)), (0, .ref h1)]) hx hb dM_best_44 rfl hl (by decide) rfl (fun ls hl => ?_)
            refine lv_iload_n hx hb dM_best_45 rfl (lv_at hl 0 rfl) ?_
            refine lv_if_eq (tgt := 61) hx hb dM_best_46 (by decide) (fun c_10 => ?_) (fun c_10 => ?_)
            · exact absurd c_10 (by decide)
            · refine lv_aload_n hx hb dM_best_49 rfl (lv_at hl 3 rfl) ?_
              refine lv_iload_n hx hb dM_best_50 rfl (lv_at hl 1 rfl) ?_
              refine xr_V (As := [.int (nI i)]) ⟨hx, hb, hml, hown, hts⟩ (cM_dryCells l dC dI h1 b_wall b_px b_py b_loss b_reached b_order b_upper b_length b_heads b_turn 0 Wd Ht Pn rs jc cZ cI g_wall (md_fy g_wall rs X Y Pn Wd Ht 0 g_reached) (nI i) hW hH) (cwV 1 hts gM97 rfl rfl rfl (by decide +kernel) ⟨Nat.le_of_ble_eq_true rfl, Nat.le_of_ble_eq_true rfl⟩) hK hP [0, 1, 5] [0, 1] rfl rfl 1 0 rfl rfl rfl rfl hl.1 rfl (Nat.le_of_ble_eq_true rfl) dM_best_51 ⟨Nat.le_of_ble_eq_true rfl, Nat.le_of_ble_eq_true rfl⟩ (fun r_11 hr_11 => ?_)
              subst hr_11
              refine lv_if_ne (tgt := 61) hx hb dM_best_54 (by decide) (fun c_12 => ?_) (fun c_12 => ?_)
              · refine lv_iload_n hx hb dM_best_61 rfl (lv_at hl 2 rfl) ?_
                refine lv_istore_n (lv' := [(1, .int (nI j)), (3, .int 1), (2, .int (nI i)), (0, .ref h1)]) hx hb dM_best_62 rfl hl (by decide) rfl (fun ls hl => ?_)
                refine lv_iinc (v := (nI (i + 1))) (lv' := [(2, .int (nI (i + 1))), (1, .int (nI j)), (3, .int 1), (0, .ref h1)]) hx hb dM_best_63 hl (k := 2) rfl (nI_1 i) (by decide) rfl (fun ls hl => ?_)
                refine lv_goto (tgt := 13) hx hb dM_best_66 (by decide) ?_
                exact ih n (i + 1) (nI j) (by omega) (by omega) (Or.inr ⟨j, hj, rfl⟩) (by rw [← hT]; first | (simp [md_be, md_few, md_pcn, nI_clamp (show i < 2 ^ 31 by omega), c_1, c_2, c_8, c_10, c_12]; done) | (simp [md_be, md_few, md_pcn, nI_clamp (show i < 2 ^ 31 by omega), c_1, c_2, c_8, c_10, c_12, nI_clamp (show j < 2 ^ 31 by omega)]; done)) _ _ hP hD hS ls (lv_sub hl [0, 1, 3] rfl)
              · refine lv_iload_n hx hb dM_best_57 rfl (lv_at hl 1 rfl) ?_
                refine lv_goto (tgt := 62) hx hb dM_best_58 (by decide) ?_
                refine lv_istore_n (lv' := [(1, .int (nI i)), (3, .int 1), (2, .int (nI i)), (0, .ref h1)]) hx hb dM_best_62 rfl hl (by decide) rfl (fun ls hl => ?_)
                refine lv_iinc (v := (nI (i + 1))) (lv' := [(2, .int (nI (i + 1))), (1, .int (nI i)), (3, .int 1), (0, .ref h1)]) hx hb dM_best_63 hl (k := 2) rfl (nI_1 i) (by decide) rfl (fun ls hl => ?_)
                refine lv_goto (tgt := 13) hx hb dM_best_66 (by decide) ?_
                exact ih n (i + 1) (nI i) (by omega) (by omega) (Or.inr ⟨i, by omega, rfl⟩) (by rw [← hT]; first | (simp [md_be, md_few, md_pcn, nI_clamp (show i < 2 ^ 31 by omega), c_1, c_2, c_8, c_10, c_12]; done) | (simp [md_be, md_few, md_pcn, nI_clamp (show i < 2 ^ 31 by omega), c_1, c_2, c_8, c_10, c_12, nI_clamp (show j < 2 ^ 31 by omega)]; done)) _ _ hP hD hS ls (lv_sub hl [0, 1, 3] rfl)
  refine lv_aload_n hx hb dM_best_0 rfl (lv_at hl 0 rfl) ?_
  refine lv_iconst (v := 0) hx hb dM_best_1 (by decide) ?_
  refine va_put (D := (dC, dI)) (ci := 1) (v := .int 0) (ty := .int) (C := R_M) (T := T_M) (N := 16) hx hb hts in_M t_M tok_M n_M hown hK hP hD hS 0 rfl rfl 0 (by decide) (hts _ flM51) (fun _ h9 => h9) rfl (by decide +kernel) rfl rfl (Nat.le_of_ble_eq_true rfl) dM_best_2 (fun H locs hP hD hS => ?_)
  have hP : va_P (dC, dI) snC [(h1, .inr (1, [.int 0, .int (nI Wd), .int (nI Ht), .ref b_wall, .int rs, .int (nI Pn), .ref b_px, .ref b_py, .ref b_loss, .ref b_reached, .int jc, .ref b_order, .ref b_upper, .ref b_length, .ref b_heads, .ref b_turn])), (b_wall, .inl (cZ, 256, .inl g_wall)), (b_px, .inl (cI, 12, .inl g_px)), (b_py, .inl (cI, 12, .inl g_py)), (b_loss, .inl (cI, 13, .inl g_loss)), (b_reached, .inl (cI, 256, .inl g_reached)), (b_order, .inl (cI, 12, .inl g_order)), (b_upper, .inl (cI, 12, .inl g_upper)), (b_length, .inl (cI, 12, .inl g_length)), (b_heads, .inl (cI, 12, .inl g_heads)), (b_turn, .inl (cI, 12, .inl g_turn))] H := hP
  have hD : va_D A [(h1, .inr (1, [.int 0, .int (nI Wd), .int (nI Ht), .ref b_wall, .int rs, .int (nI Pn), .ref b_px, .ref b_py, .ref b_loss, .ref b_reached, .int jc, .ref b_order, .ref b_upper, .ref b_length, .ref b_heads, .ref b_turn])), (b_wall, .inl (cZ, 256, .inl g_wall)), (b_px, .inl (cI, 12, .inl g_px)), (b_py, .inl (cI, 12, .inl g_py)), (b_loss, .inl (cI, 13, .inl g_loss)), (b_reached, .inl (cI, 256, .inl g_reached)), (b_order, .inl (cI, 12, .inl g_order)), (b_upper, .inl (cI, 12, .inl g_upper)), (b_length, .inl (cI, 12, .inl g_length)), (b_heads, .inl (cI, 12, .inl g_heads)), (b_turn, .inl (cI, 12, .inl g_turn))] := hD
  refine lv_aload_n hx hb dM_best_5 rfl (lv_at hl 0 rfl) ?_
  refine xm_Vv (S := Unit) (As := []) (w1 := fun _ => [(h1, .inr (1, [.int 0, .int (nI Wd), .int (nI Ht), .ref b_wall, .int rs, .int (nI Pn), .ref b_px, .ref b_py, .ref b_loss, .ref b_reached, .int jc, .ref b_order, .ref b_upper, .ref b_length, .ref b_heads, .ref b_turn])), (b_wall, .inl (cZ, 256, .inl g_wall)), (b_px, .inl (cI, 12, .inl g_px)), (b_py, .inl (cI, 12, .inl g_py)), (b_reached, .inl (cI, 256, .inl (md_fy g_wall rs X Y Pn Wd Ht 0 g_reached)))]) (wz := fun _ => [(h1, .inr (1, [.int 0, .int (nI Wd), .int (nI Ht), .ref b_wall, .int rs, .int (nI Pn), .ref b_px, .ref b_py, .ref b_loss, .ref b_reached, .int jc, .ref b_order, .ref b_upper, .ref b_length, .ref b_heads, .ref b_turn])), (b_wall, .inl (cZ, 256, .inl g_wall)), (b_px, .inl (cI, 12, .inl g_px)), (b_py, .inl (cI, 12, .inl g_py)), (b_loss, .inl (cI, 13, .inl g_loss)), (b_reached, .inl (cI, 256, .inl (md_fy g_wall rs X Y Pn Wd Ht 0 g_reached))), (b_order, .inl (cI, 12, .inl g_order)), (b_upper, .inl (cI, 12, .inl g_upper)), (b_length, .inl (cI, 12, .inl g_length)), (b_heads, .inl (cI, 12, .inl g_heads)), (b_turn, .inl (cI, 12, .inl g_turn))]) (wr := [(b_loss, .inl (cI, 13, .inl g_loss)), (b_order, .inl (cI, 12, .inl g_order)), (b_upper, .inl (cI, 12, .inl g_upper)), (b_length, .inl (cI, 12, .inl g_length)), (b_heads, .inl (cI, 12, .inl g_heads)), (b_turn, .inl (cI, 12, .inl g_turn))]) ⟨hx, hb, hml, hown, hts⟩ (cM_findReached l dC dI h1 b_wall b_px b_py b_loss b_reached b_order b_upper b_length b_heads b_turn 0 Wd Ht Pn rs jc cZ cI g_wall g_px g_py g_reached X Y _ hW hH hPn hXY) (cwV 0 hts gM94 rfl rfl rfl (by decide +kernel) ⟨Nat.le_of_ble_eq_true rfl, Nat.le_of_ble_eq_true rfl⟩) hK hP hD hS hA [0, 1, 2, 3, 5] [4, 6, 7, 8, 9, 10] [6, 7, 8, 9, 0, 10, 1, 2, 3, 4, 5] [0, 1] rfl rfl (fun _ => rfl) (by decide) (by decide) (by decide) (by decide) rfl 1 0 rfl rfl rfl rfl hl.1 rfl (Nat.le_of_ble_eq_true rfl) dM_best_6 ⟨Nat.le_of_ble_eq_true rfl, Nat.le_of_ble_eq_true rfl⟩ (fun u H locs hr_1 hP hD hS => ?_)
  refine lv_iconst (v := (-1)) hx hb dM_best_9 (by decide) ?_
  refine lv_istore_n (lv' := [(1, .int (-1)), (0, .ref h1)]) hx hb dM_best_10 rfl hl (by decide) rfl (fun ls hl => ?_)
  refine lv_iconst (v := 0) hx hb dM_best_11 (by decide) ?_
  refine lv_istore_n (lv' := [(2, .int 0), (1, .int (-1)), (0, .ref h1)]) hx hb dM_best_12 rfl hl (by decide) rfl (fun ls hl => ?_)
  exact lp13 (2 ^ Pn + 1) (2 ^ Pn) 0 (-1) (by omega) (by omega) (Or.inl rfl) rfl _ _ hP hD hS ls (lv_sub hl [0, 1, 2] rfl)
set_option maxHeartbeats 4000000 in
set_option maxRecDepth 100000 in
theorem cM_size (l : Launch) (dC : Nat → ClassId) (dI : Nat → Nat → Nat) (h1 b_wall b_px b_py b_loss b_reached b_order b_upper b_length b_heads b_turn : Nat) (cd : Int32) (Wd Ht Pn : Nat) (rs jc : Int32) (cZ cI : ClassId) (g_wall g_px g_py g_loss g_reached g_order g_upper g_length g_heads g_turn : Nat → Int32) (h : Nat) (lo : Int32) (sz : Nat) (hh1 : 1 ≤ h) (hh2 : h ≤ 12) (hok : sn_lok lo = true) : Met l yM_size (kM_size :: WD) { frames := 0, cells := 0, slots := 0, locals := 0 } (va_Pc [.ref h1, .int (nI h), .int lo] (xm (dC, dI) snC [(h1, .inr (1, [.int cd, .int (nI Wd), .int (nI Ht), .ref b_wall, .int rs, .int (nI Pn), .ref b_px, .ref b_py, .ref b_loss, .ref b_reached, .int jc, .ref b_order, .ref b_upper, .ref b_length, .ref b_heads, .ref b_turn])), (b_wall, .inl (cZ, 256, .inl g_wall)), (b_px, .inl (cI, 12, .inl g_px)), (b_py, .inl (cI, 12, .inl g_py)), (b_loss, .inl (cI, 13, .inl g_loss)), (b_reached, .inl (cI, 256, .inl g_reached)), (b_order, .inl (cI, 12, .inl g_order)), (b_upper, .inl (cI, 12, .inl g_upper)), (b_length, .inl (cI, 12, .inl g_length)), (b_heads, .inl (cI, 12, .inl g_heads)), (b_turn, .inl (cI, 12, .inl g_turn))] [(cZ, .boolean), (cI, .int)] sz)) (va_Qi (fun (r : Int32) (_ : Unit) => r = md_sz (upd g_loss h lo) 12 1 0) (fun _ => xo (dC, dI) snC [(h1, .inr (1, [.int 0, .int (nI Wd), .int (nI Ht), .ref b_wall, .int rs, .int (nI Pn), .ref b_px, .ref b_py, .ref b_loss, .ref b_reached, .int jc, .ref b_order, .ref b_upper, .ref b_length, .ref b_heads, .ref b_turn])), (b_wall, .inl (cZ, 256, .inl g_wall)), (b_px, .inl (cI, 12, .inl g_px)), (b_py, .inl (cI, 12, .inl g_py)), (b_loss, .inl (cI, 13, .inl (upd g_loss h lo))), (b_reached, .inl (cI, 256, .inl g_reached)), (b_order, .inl (cI, 12, .inl g_order)), (b_upper, .inl (cI, 12, .inl g_upper)), (b_length, .inl (cI, 12, .inl g_length)), (b_heads, .inl (cI, 12, .inl g_heads)), (b_turn, .inl (cI, 12, .inl g_turn))] [(cZ, .boolean), (cI, .int)] (va_A [(h1, .inr (1, [.int cd, .int (nI Wd), .int (nI Ht), .ref b_wall, .int rs, .int (nI Pn), .ref b_px, .ref b_py, .ref b_loss, .ref b_reached, .int jc, .ref b_order, .ref b_upper, .ref b_length, .ref b_heads, .ref b_turn])), (b_wall, .inl (cZ, 256, .inl g_wall)), (b_px, .inl (cI, 12, .inl g_px)), (b_py, .inl (cI, 12, .inl g_py)), (b_loss, .inl (cI, 13, .inl g_loss)), (b_reached, .inl (cI, 256, .inl g_reached)), (b_order, .inl (cI, 12, .inl g_order)), (b_upper, .inl (cI, 12, .inl g_upper)), (b_length, .inl (cI, 12, .inl g_length)), (b_heads, .inl (cI, 12, .inl g_heads)), (b_turn, .inl (cI, 12, .inl g_turn))] sz)) (va_A [(h1, .inr (1, [.int cd, .int (nI Wd), .int (nI Ht), .ref b_wall, .int rs, .int (nI Pn), .ref b_px, .ref b_py, .ref b_loss, .ref b_reached, .int jc, .ref b_order, .ref b_upper, .ref b_length, .ref b_heads, .ref b_turn])), (b_wall, .inl (cZ, 256, .inl g_wall)), (b_px, .inl (cI, 12, .inl g_px)), (b_py, .inl (cI, 12, .inl g_py)), (b_loss, .inl (cI, 13, .inl g_loss)), (b_reached, .inl (cI, 256, .inl g_reached)), (b_order, .inl (cI, 12, .inl g_order)), (b_upper, .inl (cI, 12, .inl g_upper)), (b_length, .inl (cI, 12, .inl g_length)), (b_heads, .inl (cI, 12, .inl g_heads)), (b_turn, .inl (cI, 12, .inl g_turn))] sz)) 0 0 (va_A [(h1, .inr (1, [.int cd, .int (nI Wd), .int (nI Ht), .ref b_wall, .int rs, .int (nI Pn), .ref b_px, .ref b_py, .ref b_loss, .ref b_reached, .int jc, .ref b_order, .ref b_upper, .ref b_length, .ref b_heads, .ref b_turn])), (b_wall, .inl (cZ, 256, .inl g_wall)), (b_px, .inl (cI, 12, .inl g_px)), (b_py, .inl (cI, 12, .inl g_py)), (b_loss, .inl (cI, 13, .inl g_loss)), (b_reached, .inl (cI, 256, .inl g_reached)), (b_order, .inl (cI, 12, .inl g_order)), (b_upper, .inl (cI, 12, .inl g_upper)), (b_length, .inl (cI, 12, .inl g_length)), (b_heads, .inl (cI, 12, .inl g_heads)), (b_turn, .inl (cI, 12, .inl g_turn))] sz) := by
  refine Met.ofW (cc := bM_size) (maxL := 5) (ret := (some .int)) (by decide) rfl ?_
  intro p e s m args below meth c s₁ B hml hv
  obtain ⟨rfl, hsz, hP, hK, hD0⟩ := hv
  have hx := B.exec
  have hb := B.bytes
  have hr := B.returns
  have hts : ∀ w ∈ WD, w.before _ s = true := fun w h => atoms_spec (ws := kM_size :: WD) B.pre w (List.mem_cons_of_mem _ h)
  have hown : s.vm.findClass R_M = some m.cls := findClass_of_methodNamed B.named
  have hlocks := B.notSynchronized
  subst hsz
  have hD := hD0.self (sz := s.heap.size)
  generalize hAe : va_A [(h1, .inr (1, [.int cd, .int (nI Wd), .int (nI Ht), .ref b_wall, .int rs, .int (nI Pn), .ref b_px, .ref b_py, .ref b_loss, .ref b_reached, .int jc, .ref b_order, .ref b_upper, .ref b_length, .ref b_heads, .ref b_turn])), (b_wall, .inl (cZ, 256, .inl g_wall)), (b_px, .inl (cI, 12, .inl g_px)), (b_py, .inl (cI, 12, .inl g_py)), (b_loss, .inl (cI, 13, .inl g_loss)), (b_reached, .inl (cI, 256, .inl g_reached)), (b_order, .inl (cI, 12, .inl g_order)), (b_upper, .inl (cI, 12, .inl g_upper)), (b_length, .inl (cI, 12, .inl g_length)), (b_heads, .inl (cI, 12, .inl g_heads)), (b_turn, .inl (cI, 12, .inl g_turn))] s.heap.size = A at hD ⊢
  have hA : ∀ q : Nat, s.heap.size ≤ q → A q := fun q h => by rw [← hAe]; exact Or.inr h
  have hS : va_S A s.heap s.heap [] := va_S.rf
  have hl := lv_entry ([.ref h1, .int (nI h), .int lo]) (n := 5) (Nat.le_of_ble_eq_true rfl)
  rw [lg_entry_eq]
  generalize (lg_sl ([.ref h1, .int (nI h), .int lo]) ++ List.replicate (5 - (lg_sl ([.ref h1, .int (nI h), .int lo])).length) Slot.unset).toArray = ls at hl ⊢
  have hl : lv_has ls 5 [(0, .ref h1), (1, .int (nI h)), (2, .int lo)] := hl
  have lp52 : ∀ (k n : Nat) (i : Nat) (c9 : Int32), n < k → i + n = 13 → md_sz (upd g_loss h lo) n i c9 = md_sz (upd g_loss h lo) 12 1 0 → ∀ (H : Heap) (locs : List Loc), va_P (dC, dI) snC [(h1, .inr (1, [.int 0, .int (nI Wd), .int (nI Ht), .ref b_wall, .int rs, .int (nI Pn), .ref b_px, .ref b_py, .ref b_loss, .ref b_reached, .int jc, .ref b_order, .ref b_upper, .ref b_length, .ref b_heads, .ref b_turn])), (b_wall, .inl (cZ, 256, .inl g_wall)), (b_px, .inl (cI, 12, .inl g_px)), (b_py, .inl (cI, 12, .inl g_py)), (b_loss, .inl (cI, 13, .inl (upd g_loss h lo))), (b_reached, .inl (cI, 256, .inl g_reached)), (b_order, .inl (cI, 12, .inl g_order)), (b_upper, .inl (cI, 12, .inl g_upper)), (b_length, .inl (cI, 12, .inl g_length)), (b_heads, .inl (cI, 12, .inl g_heads)), (b_turn, .inl (cI, 12, .inl g_turn))] H → va_D A [(h1, .inr (1, [.int 0, .int (nI Wd), .int (nI Ht), .ref b_wall, .int rs, .int (nI Pn), .ref b_px, .ref b_py, .ref b_loss, .ref b_reached, .int jc, .ref b_order, .ref b_upper, .ref b_length, .ref b_heads, .ref b_turn])), (b_wall, .inl (cZ, 256, .inl g_wall)), (b_px, .inl (cI, 12, .inl g_px)), (b_py, .inl (cI, 12, .inl g_py)), (b_loss, .inl (cI, 13, .inl (upd g_loss h lo))), (b_reached, .inl (cI, 256, .inl g_reached)), (b_order, .inl (cI, 12, .inl g_order)), (b_upper, .inl (cI, 12, .inl g_upper)), (b_length, .inl (cI, 12, .inl g_length)), (b_heads, .inl (cI, 12, .inl g_heads)), (b_turn, .inl (cI, 12, .inl g_turn))] → va_S A s.heap H locs → ∀ ls : Array Slot, lv_has ls 5 [(4, .int (nI i)), (3, .int c9), (0, .ref h1)] → W p l e (headSpec (kM_size :: WD) { frames := 0, cells := 0, slots := 0, locals := 0 }).room s m ([.ref h1, .int (nI h), .int lo]).toArray below meth c H locs 0 0 (MQ below (va_Qi (fun (r : Int32) (_ : Unit) => r = md_sz (upd g_loss h lo) 12 1 0) (fun _ => xo (dC, dI) snC [(h1, .inr (1, [.int 0, .int (nI Wd), .int (nI Ht), .ref b_wall, .int rs, .int (nI Pn), .ref b_px, .ref b_py, .ref b_loss, .ref b_reached, .int jc, .ref b_order, .ref b_upper, .ref b_length, .ref b_heads, .ref b_turn])), (b_wall, .inl (cZ, 256, .inl g_wall)), (b_px, .inl (cI, 12, .inl g_px)), (b_py, .inl (cI, 12, .inl g_py)), (b_loss, .inl (cI, 13, .inl (upd g_loss h lo))), (b_reached, .inl (cI, 256, .inl g_reached)), (b_order, .inl (cI, 12, .inl g_order)), (b_upper, .inl (cI, 12, .inl g_upper)), (b_length, .inl (cI, 12, .inl g_length)), (b_heads, .inl (cI, 12, .inl g_heads)), (b_turn, .inl (cI, 12, .inl g_turn))] [(cZ, .boolean), (cI, .int)] A) A) ([.ref h1, .int (nI h), .int lo]).toArray s 0 0 (A)) (F0 m 52 ls []) := by
    intro k
    induction k with
    | zero => exact fun n _ _ h => absurd h (Nat.not_lt_zero n)
    | succ k ih =>
      intro n i c9 hk hin hT H locs hP hD hS ls hl
      refine lv_iload hx hb dM_size_52 (lv_at hl 0 rfl) ?_
      refine lv_bipush (v := (nI 13)) hx hb dM_size_54 (by decide) ?_
      refine lv_icmp_ge (tgt := 83) hx hb dM_size_56 (by decide) (fun c_1 => ?_) (fun c_1 => ?_)
      · have hz := (nI_leI (by omega) (by omega)).mp c_1
        obtain rfl : n = 0 := by omega
        refine lv_iload_n hx hb dM_size_83 rfl (lv_at hl 1 rfl) ?_
        exact W.iret (v := c9) hx hb hr (fun t ht hW => ⟨⟨c9, (), rfl, (by rw [← hT]; simp [md_sz]), by rw [ht]; exact hP, va_K.moved hW.alike hK, hD⟩, hS.F ht⟩) hS.2.2 dM_size_84
      · have hz : i < 13 := by have h9 := mt (nI_leI (by omega) (by omega)).mpr c_1; omega
        obtain ⟨n, rfl⟩ : ∃ n', n = n' + 1 := ⟨n - 1, by omega⟩
        refine lv_iload_n hx hb dM_size_59 rfl (lv_at hl 1 rfl) ?_
        refine lv_aload_n hx hb dM_size_60 rfl (lv_at hl 2 rfl) ?_
        refine va_get (D := (dC, dI)) (ci := 1) (v := .ref b_loss) (C := R_M) (T := T_M) (N := 16) hx hb hts in_M hown hK hP 0 rfl rfl 8 (by decide) (hts _ flM24) (fun _ h9 => h9) rfl dM_size_61 ?_
        refine lv_iload hx hb dM_size_64 (lv_at hl 0 rfl) ?_
        refine xa_iald hx hb hK hP 4 1 rfl rfl (i := i) (by omega) (by first | decide | omega) dM_size_66 ?_
        refine lv_if_lt (tgt := 74) hx hb dM_size_67 (by decide) (fun c_2 => ?_) (fun c_2 => ?_)
        · refine lv_iconst (v := 0) hx hb dM_size_74 (by decide) ?_
          refine lv_iadd hx hb dM_size_75 ?_
          refine lv_istore_n (lv' := [(3, .int (c9 + 0)), (4, .int (nI i)), (0, .ref h1)]) hx hb dM_size_76 rfl hl (by decide) rfl (fun ls hl => ?_)
          refine lv_iinc (v := (nI (i + 1))) (lv' := [(4, .int (nI (i + 1))), (3, .int (c9 + 0)), (0, .ref h1)]) hx hb dM_size_77 hl (k := 1) rfl (nI_1 i) (by decide) rfl (fun ls hl => ?_)
          refine lv_goto (tgt := 52) hx hb dM_size_80 (by decide) ?_
          exact ih n (i + 1) (c9 + 0) (by omega) (by omega) (by rw [← hT]; simp [md_sz, c_1, c_2]) _ _ hP hD hS ls (lv_sub hl [0, 1, 2] rfl)
        · refine lv_iconst (v := 1) hx hb dM_size_70 (by decide) ?_
          refine lv_goto (tgt := 75) hx hb dM_size_71 (by decide) ?_
          refine lv_iadd hx hb dM_size_75 ?_
          refine lv_istore_n (lv' := [(3, .int (c9 + 1)), (4, .int (nI i)), (0, .ref h1)]) hx hb dM_size_76 rfl hl (by decide) rfl (fun ls hl => ?_)
          refine lv_iinc (v := (nI (i + 1))) (lv' := [(4, .int (nI (i + 1))), (3, .int (c9 + 1)), (0, .ref h1)]) hx hb dM_size_77 hl (k := 1) rfl (nI_1 i) (by decide) rfl (fun ls hl => ?_)
          refine lv_goto (tgt := 52) hx hb dM_size_80 (by decide) ?_
          exact ih n (i + 1) (c9 + 1) (by omega) (by omega) (by rw [← hT]; simp [md_sz, c_1, c_2]) _ _ hP hD hS ls (lv_sub hl [0, 1, 2] rfl)
  refine lv_aload_n hx hb dM_size_0 rfl (lv_at hl 0 rfl) ?_
  refine lv_iload_n hx hb dM_size_1 rfl (lv_at hl 1 rfl) ?_
  refine lv_iconst (v := (nI 1)) hx hb dM_size_2 (by decide) ?_
  refine lv_icmp_lt (tgt := 23) hx hb dM_size_3 (by decide) (fun c_1 => ?_) (fun c_1 => ?_)
  · exact absurd ((nI_ltI (by omega) (by omega)).mp c_1) (by omega)
  · refine lv_iload_n hx hb dM_size_6 rfl (lv_at hl 1 rfl) ?_
    refine lv_bipush (v := (nI 12)) hx hb dM_size_7 (by decide) ?_
    refine lv_icmp_gt (tgt := 23) hx hb dM_size_9 (by decide) (fun c_2 => ?_) (fun c_2 => ?_)
    · exact absurd ((nI_ltI (by omega) (by omega)).mp c_2) (by omega)
    · refine lv_iload_n hx hb dM_size_12 rfl (lv_at hl 2 rfl) ?_
      refine lv_if_lt (tgt := 23) hx hb dM_size_13 (by decide) (fun c_3 => ?_) (fun c_3 => ?_)
      · exact absurd hok (by simp [sn_lok, *])
      · refine lv_iload_n hx hb dM_size_16 rfl (lv_at hl 2 rfl) ?_
        refine lv_sipush (v := 1000) hx hb dM_size_17 (by decide) ?_
        refine lv_icmp_le (tgt := 27) hx hb dM_size_20 (by decide) (fun c_4 => ?_) (fun c_4 => ?_)
        · refine lv_iconst (v := 0) hx hb dM_size_27 (by decide) ?_
          refine va_put (D := (dC, dI)) (ci := 1) (v := .int 0) (ty := .int) (C := R_M) (T := T_M) (N := 16) hx hb hts in_M t_M tok_M n_M hown hK hP hD hS 0 rfl rfl 0 (by decide) (hts _ flM51) (fun _ h9 => h9) rfl (by decide +kernel) rfl rfl (Nat.le_of_ble_eq_true rfl) dM_size_28 (fun H locs hP hD hS => ?_)
          have hP : va_P (dC, dI) snC [(h1, .inr (1, [.int 0, .int (nI Wd), .int (nI Ht), .ref b_wall, .int rs, .int (nI Pn), .ref b_px, .ref b_py, .ref b_loss, .ref b_reached, .int jc, .ref b_order, .ref b_upper, .ref b_length, .ref b_heads, .ref b_turn])), (b_wall, .inl (cZ, 256, .inl g_wall)), (b_px, .inl (cI, 12, .inl g_px)), (b_py, .inl (cI, 12, .inl g_py)), (b_loss, .inl (cI, 13, .inl g_loss)), (b_reached, .inl (cI, 256, .inl g_reached)), (b_order, .inl (cI, 12, .inl g_order)), (b_upper, .inl (cI, 12, .inl g_upper)), (b_length, .inl (cI, 12, .inl g_length)), (b_heads, .inl (cI, 12, .inl g_heads)), (b_turn, .inl (cI, 12, .inl g_turn))] H := hP
          have hD : va_D A [(h1, .inr (1, [.int 0, .int (nI Wd), .int (nI Ht), .ref b_wall, .int rs, .int (nI Pn), .ref b_px, .ref b_py, .ref b_loss, .ref b_reached, .int jc, .ref b_order, .ref b_upper, .ref b_length, .ref b_heads, .ref b_turn])), (b_wall, .inl (cZ, 256, .inl g_wall)), (b_px, .inl (cI, 12, .inl g_px)), (b_py, .inl (cI, 12, .inl g_py)), (b_loss, .inl (cI, 13, .inl g_loss)), (b_reached, .inl (cI, 256, .inl g_reached)), (b_order, .inl (cI, 12, .inl g_order)), (b_upper, .inl (cI, 12, .inl g_upper)), (b_length, .inl (cI, 12, .inl g_length)), (b_heads, .inl (cI, 12, .inl g_heads)), (b_turn, .inl (cI, 12, .inl g_turn))] := hD
          refine lv_aload_n hx hb dM_size_31 rfl (lv_at hl 0 rfl) ?_
          refine va_get (D := (dC, dI)) (ci := 1) (v := .int 0) (C := R_M) (T := T_M) (N := 16) hx hb hts in_M hown hK hP 0 rfl rfl 0 (by decide) (hts _ flM51) (fun _ h9 => h9) rfl dM_size_32 ?_
          refine lv_if_le (tgt := 40) hx hb dM_size_35 (by decide) (fun c_5 => ?_) (fun c_5 => ?_)
          · refine lv_aload_n hx hb dM_size_40 rfl (lv_at hl 0 rfl) ?_
            refine va_get (D := (dC, dI)) (ci := 1) (v := .ref b_loss) (C := R_M) (T := T_M) (N := 16) hx hb hts in_M hown hK hP 0 rfl rfl 8 (by decide) (hts _ flM24) (fun _ h9 => h9) rfl dM_size_41 ?_
            refine lv_iload_n hx hb dM_size_44 rfl (lv_at hl 1 rfl) ?_
            refine lv_iload_n hx hb dM_size_45 rfl (lv_at hl 2 rfl) ?_
            refine xa_iast hx hb hK hP hD hS 4 1 rfl rfl (i := h) (x := lo) (by omega) (by first | decide | omega) dM_size_46 (fun H locs hP hD hS => ?_)
            have hP : va_P (dC, dI) snC [(h1, .inr (1, [.int 0, .int (nI Wd), .int (nI Ht), .ref b_wall, .int rs, .int (nI Pn), .ref b_px, .ref b_py, .ref b_loss, .ref b_reached, .int jc, .ref b_order, .ref b_upper, .ref b_length, .ref b_heads, .ref b_turn])), (b_wall, .inl (cZ, 256, .inl g_wall)), (b_px, .inl (cI, 12, .inl g_px)), (b_py, .inl (cI, 12, .inl g_py)), (b_loss, .inl (cI, 13, .inl (upd g_loss h lo))), (b_reached, .inl (cI, 256, .inl g_reached)), (b_order, .inl (cI, 12, .inl g_order)), (b_upper, .inl (cI, 12, .inl g_upper)), (b_length, .inl (cI, 12, .inl g_length)), (b_heads, .inl (cI, 12, .inl g_heads)), (b_turn, .inl (cI, 12, .inl g_turn))] H := hP
            have hD : va_D A [(h1, .inr (1, [.int 0, .int (nI Wd), .int (nI Ht), .ref b_wall, .int rs, .int (nI Pn), .ref b_px, .ref b_py, .ref b_loss, .ref b_reached, .int jc, .ref b_order, .ref b_upper, .ref b_length, .ref b_heads, .ref b_turn])), (b_wall, .inl (cZ, 256, .inl g_wall)), (b_px, .inl (cI, 12, .inl g_px)), (b_py, .inl (cI, 12, .inl g_py)), (b_loss, .inl (cI, 13, .inl (upd g_loss h lo))), (b_reached, .inl (cI, 256, .inl g_reached)), (b_order, .inl (cI, 12, .inl g_order)), (b_upper, .inl (cI, 12, .inl g_upper)), (b_length, .inl (cI, 12, .inl g_length)), (b_heads, .inl (cI, 12, .inl g_heads)), (b_turn, .inl (cI, 12, .inl g_turn))] := hD
            refine lv_iconst (v := 0) hx hb dM_size_47 (by decide) ?_
            refine lv_istore_n (lv' := [(3, .int 0), (0, .ref h1), (1, .int (nI h)), (2, .int lo)]) hx hb dM_size_48 rfl hl (by decide) rfl (fun ls hl => ?_)
            refine lv_iconst (v := 1) hx hb dM_size_49 (by decide) ?_
            refine lv_istore (lv' := [(4, .int 1), (3, .int 0), (0, .ref h1), (1, .int (nI h)), (2, .int lo)]) hx hb dM_size_50 hl (by decide) rfl (fun ls hl => ?_)
            exact lp52 13 12 1 0 (by omega) (by omega) rfl _ _ hP hD hS ls (lv_sub hl [0, 1, 2] rfl)
          · exact absurd c_5 (by decide)
        · exact absurd hok (by simp [sn_lok, *])
set_option maxHeartbeats 4000000 in
set_option maxRecDepth 100000 in
theorem cM_size_x (l : Launch) (dC : Nat → ClassId) (dI : Nat → Nat → Nat) (h1 b_wall b_px b_py b_loss b_reached b_order b_upper b_length b_heads b_turn : Nat) (cd : Int32) (Wd Ht Pn : Nat) (rs jc : Int32) (cZ cI : ClassId) (g_wall g_px g_py g_loss g_reached g_order g_upper g_length g_heads g_turn : Nat → Int32) (x lo : Int32) (sz : Nat) (hno : (sn_hok x && sn_lok lo) = false) : Met l yM_size (kM_size :: WD) { frames := 0, cells := 0, slots := 0, locals := 0 } (va_Pc [.ref h1, .int x, .int lo] (xm (dC, dI) snC [(h1, .inr (1, [.int cd, .int (nI Wd), .int (nI Ht), .ref b_wall, .int rs, .int (nI Pn), .ref b_px, .ref b_py, .ref b_loss, .ref b_reached, .int jc, .ref b_order, .ref b_upper, .ref b_length, .ref b_heads, .ref b_turn])), (b_wall, .inl (cZ, 256, .inl g_wall)), (b_px, .inl (cI, 12, .inl g_px)), (b_py, .inl (cI, 12, .inl g_py)), (b_loss, .inl (cI, 13, .inl g_loss)), (b_reached, .inl (cI, 256, .inl g_reached)), (b_order, .inl (cI, 12, .inl g_order)), (b_upper, .inl (cI, 12, .inl g_upper)), (b_length, .inl (cI, 12, .inl g_length)), (b_heads, .inl (cI, 12, .inl g_heads)), (b_turn, .inl (cI, 12, .inl g_turn))] [(cZ, .boolean), (cI, .int)] sz)) (va_Qi (fun (r : Int32) (_ : Unit) => True) (fun _ => xo (dC, dI) snC [(h1, .inr (1, [.int 1, .int (nI Wd), .int (nI Ht), .ref b_wall, .int rs, .int (nI Pn), .ref b_px, .ref b_py, .ref b_loss, .ref b_reached, .int jc, .ref b_order, .ref b_upper, .ref b_length, .ref b_heads, .ref b_turn])), (b_wall, .inl (cZ, 256, .inl g_wall)), (b_px, .inl (cI, 12, .inl g_px)), (b_py, .inl (cI, 12, .inl g_py)), (b_loss, .inl (cI, 13, .inl g_loss)), (b_reached, .inl (cI, 256, .inl g_reached)), (b_order, .inl (cI, 12, .inl g_order)), (b_upper, .inl (cI, 12, .inl g_upper)), (b_length, .inl (cI, 12, .inl g_length)), (b_heads, .inl (cI, 12, .inl g_heads)), (b_turn, .inl (cI, 12, .inl g_turn))] [(cZ, .boolean), (cI, .int)] (va_A [(h1, .inr (1, [.int cd, .int (nI Wd), .int (nI Ht), .ref b_wall, .int rs, .int (nI Pn), .ref b_px, .ref b_py, .ref b_loss, .ref b_reached, .int jc, .ref b_order, .ref b_upper, .ref b_length, .ref b_heads, .ref b_turn])), (b_wall, .inl (cZ, 256, .inl g_wall)), (b_px, .inl (cI, 12, .inl g_px)), (b_py, .inl (cI, 12, .inl g_py)), (b_loss, .inl (cI, 13, .inl g_loss)), (b_reached, .inl (cI, 256, .inl g_reached)), (b_order, .inl (cI, 12, .inl g_order)), (b_upper, .inl (cI, 12, .inl g_upper)), (b_length, .inl (cI, 12, .inl g_length)), (b_heads, .inl (cI, 12, .inl g_heads)), (b_turn, .inl (cI, 12, .inl g_turn))] sz)) (va_A [(h1, .inr (1, [.int cd, .int (nI Wd), .int (nI Ht), .ref b_wall, .int rs, .int (nI Pn), .ref b_px, .ref b_py, .ref b_loss, .ref b_reached, .int jc, .ref b_order, .ref b_upper, .ref b_length, .ref b_heads, .ref b_turn])), (b_wall, .inl (cZ, 256, .inl g_wall)), (b_px, .inl (cI, 12, .inl g_px)), (b_py, .inl (cI, 12, .inl g_py)), (b_loss, .inl (cI, 13, .inl g_loss)), (b_reached, .inl (cI, 256, .inl g_reached)), (b_order, .inl (cI, 12, .inl g_order)), (b_upper, .inl (cI, 12, .inl g_upper)), (b_length, .inl (cI, 12, .inl g_length)), (b_heads, .inl (cI, 12, .inl g_heads)), (b_turn, .inl (cI, 12, .inl g_turn))] sz)) 0 0 (va_A [(h1, .inr (1, [.int cd, .int (nI Wd), .int (nI Ht), .ref b_wall, .int rs, .int (nI Pn), .ref b_px, .ref b_py, .ref b_loss, .ref b_reached, .int jc, .ref b_order, .ref b_upper, .ref b_length, .ref b_heads, .ref b_turn])), (b_wall, .inl (cZ, 256, .inl g_wall)), (b_px, .inl (cI, 12, .inl g_px)), (b_py, .inl (cI, 12, .inl g_py)), (b_loss, .inl (cI, 13, .inl g_loss)), (b_reached, .inl (cI, 256, .inl g_reached)), (b_order, .inl (cI, 12, .inl g_order)), (b_upper, .inl (cI, 12, .inl g_upper)), (b_length, .inl (cI, 12, .inl g_length)), (b_heads, .inl (cI, 12, .inl g_heads)), (b_turn, .inl (cI, 12, .inl g_turn))] sz) := by
  refine Met.ofW (cc := bM_size) (maxL := 5) (ret := (some .int)) (by decide) rfl ?_
  intro p e s m args below meth c s₁ B hml hv
  obtain ⟨rfl, hsz, hP, hK, hD0⟩ := hv
  have hx := B.exec
  have hb := B.bytes
  have hr := B.returns
  have hts : ∀ w ∈ WD, w.before _ s = true := fun w h => atoms_spec (ws := kM_size :: WD) B.pre w (List.mem_cons_of_mem _ h)
  have hown : s.vm.findClass R_M = some m.cls := findClass_of_methodNamed B.named
  have hlocks := B.notSynchronized
  subst hsz
  have hD := hD0.self (sz := s.heap.size)
  generalize hAe : va_A [(h1, .inr (1, [.int cd, .int (nI Wd), .int (nI Ht), .ref b_wall, .int rs, .int (nI Pn), .ref b_px, .ref b_py, .ref b_loss, .ref b_reached, .int jc, .ref b_order, .ref b_upper, .ref b_length, .ref b_heads, .ref b_turn])), (b_wall, .inl (cZ, 256, .inl g_wall)), (b_px, .inl (cI, 12, .inl g_px)), (b_py, .inl (cI, 12, .inl g_py)), (b_loss, .inl (cI, 13, .inl g_loss)), (b_reached, .inl (cI, 256, .inl g_reached)), (b_order, .inl (cI, 12, .inl g_order)), (b_upper, .inl (cI, 12, .inl g_upper)), (b_length, .inl (cI, 12, .inl g_length)), (b_heads, .inl (cI, 12, .inl g_heads)), (b_turn, .inl (cI, 12, .inl g_turn))] s.heap.size = A at hD ⊢
  have hA : ∀ q : Nat, s.heap.size ≤ q → A q := fun q h => by rw [← hAe]; exact Or.inr h
  have hS : va_S A s.heap s.heap [] := va_S.rf
  have hl := lv_entry ([.ref h1, .int x, .int lo]) (n := 5) (Nat.le_of_ble_eq_true rfl)
  rw [lg_entry_eq]
  generalize (lg_sl ([.ref h1, .int x, .int lo]) ++ List.replicate (5 - (lg_sl ([.ref h1, .int x, .int lo])).length) Slot.unset).toArray = ls at hl ⊢
  have hl : lv_has ls 5 [(0, .ref h1), (1, .int x), (2, .int lo)] := hl
  refine lv_aload_n hx hb dM_size_0 rfl (lv_at hl 0 rfl) ?_
  refine lv_iload_n hx hb dM_size_1 rfl (lv_at hl 1 rfl) ?_
  refine lv_iconst (v := 1) hx hb dM_size_2 (by decide) ?_
  refine lv_icmp_lt (tgt := 23) hx hb dM_size_3 (by decide) (fun c_1 => ?_) (fun c_1 => ?_)
  · refine lv_iconst (v := 1) hx hb dM_size_23 (by decide) ?_
    refine lv_goto (tgt := 28) hx hb dM_size_24 (by decide) ?_
    refine va_put (D := (dC, dI)) (ci := 1) (v := .int 1) (ty := .int) (C := R_M) (T := T_M) (N := 16) hx hb hts in_M t_M tok_M n_M hown hK hP hD hS 0 rfl rfl 0 (by decide) (hts _ flM51) (fun _ h9 => h9) rfl (by decide +kernel) rfl rfl (Nat.le_of_ble_eq_true rfl) dM_size_28 (fun H locs hP hD hS => ?_)
    have hP : va_P (dC, dI) snC [(h1, .inr (1, [.int 1, .int (nI Wd), .int (nI Ht), .ref b_wall, .int rs, .int (nI Pn), .ref b_px, .ref b_py, .ref b_loss, .ref b_reached, .int jc, .ref b_order, .ref b_upper, .ref b_length, .ref b_heads, .ref b_turn])), (b_wall, .inl (cZ, 256, .inl g_wall)), (b_px, .inl (cI, 12, .inl g_px)), (b_py, .inl (cI, 12, .inl g_py)), (b_loss, .inl (cI, 13, .inl g_loss)), (b_reached, .inl (cI, 256, .inl g_reached)), (b_order, .inl (cI, 12, .inl g_order)), (b_upper, .inl (cI, 12, .inl g_upper)), (b_length, .inl (cI, 12, .inl g_length)), (b_heads, .inl (cI, 12, .inl g_heads)), (b_turn, .inl (cI, 12, .inl g_turn))] H := hP
    have hD : va_D A [(h1, .inr (1, [.int 1, .int (nI Wd), .int (nI Ht), .ref b_wall, .int rs, .int (nI Pn), .ref b_px, .ref b_py, .ref b_loss, .ref b_reached, .int jc, .ref b_order, .ref b_upper, .ref b_length, .ref b_heads, .ref b_turn])), (b_wall, .inl (cZ, 256, .inl g_wall)), (b_px, .inl (cI, 12, .inl g_px)), (b_py, .inl (cI, 12, .inl g_py)), (b_loss, .inl (cI, 13, .inl g_loss)), (b_reached, .inl (cI, 256, .inl g_reached)), (b_order, .inl (cI, 12, .inl g_order)), (b_upper, .inl (cI, 12, .inl g_upper)), (b_length, .inl (cI, 12, .inl g_length)), (b_heads, .inl (cI, 12, .inl g_heads)), (b_turn, .inl (cI, 12, .inl g_turn))] := hD
    refine lv_aload_n hx hb dM_size_31 rfl (lv_at hl 0 rfl) ?_
    refine va_get (D := (dC, dI)) (ci := 1) (v := .int 1) (C := R_M) (T := T_M) (N := 16) hx hb hts in_M hown hK hP 0 rfl rfl 0 (by decide) (hts _ flM51) (fun _ h9 => h9) rfl dM_size_32 ?_
    refine lv_if_le (tgt := 40) hx hb dM_size_35 (by decide) (fun c_2 => ?_) (fun c_2 => ?_)
    · exact absurd c_2 (by decide)
    · refine lv_iconst (v := 0) hx hb dM_size_38 (by decide) ?_
      exact W.iret (v := 0) hx hb hr (fun t ht hW => ⟨⟨0, (), rfl, trivial, by rw [ht]; exact hP, va_K.moved hW.alike hK, hD⟩, hS.F ht⟩) hS.2.2 dM_size_39
  · refine lv_iload_n hx hb dM_size_6 rfl (lv_at hl 1 rfl) ?_
    refine lv_bipush (v := 12) hx hb dM_size_7 (by decide) ?_
    refine lv_icmp_gt (tgt := 23) hx hb dM_size_9 (by decide) (fun c_3 => ?_) (fun c_3 => ?_)
    · refine lv_iconst (v := 1) hx hb dM_size_23 (by decide) ?_
      refine lv_goto (tgt := 28) hx hb dM_size_24 (by decide) ?_
      refine va_put (D := (dC, dI)) (ci := 1) (v := .int 1) (ty := .int) (C := R_M) (T := T_M) (N := 16) hx hb hts in_M t_M tok_M n_M hown hK hP hD hS 0 rfl rfl 0 (by decide) (hts _ flM51) (fun _ h9 => h9) rfl (by decide +kernel) rfl rfl (Nat.le_of_ble_eq_true rfl) dM_size_28 (fun H locs hP hD hS => ?_)
      have hP : va_P (dC, dI) snC [(h1, .inr (1, [.int 1, .int (nI Wd), .int (nI Ht), .ref b_wall, .int rs, .int (nI Pn), .ref b_px, .ref b_py, .ref b_loss, .ref b_reached, .int jc, .ref b_order, .ref b_upper, .ref b_length, .ref b_heads, .ref b_turn])), (b_wall, .inl (cZ, 256, .inl g_wall)), (b_px, .inl (cI, 12, .inl g_px)), (b_py, .inl (cI, 12, .inl g_py)), (b_loss, .inl (cI, 13, .inl g_loss)), (b_reached, .inl (cI, 256, .inl g_reached)), (b_order, .inl (cI, 12, .inl g_order)), (b_upper, .inl (cI, 12, .inl g_upper)), (b_length, .inl (cI, 12, .inl g_length)), (b_heads, .inl (cI, 12, .inl g_heads)), (b_turn, .inl (cI, 12, .inl g_turn))] H := hP
      have hD : va_D A [(h1, .inr (1, [.int 1, .int (nI Wd), .int (nI Ht), .ref b_wall, .int rs, .int (nI Pn), .ref b_px, .ref b_py, .ref b_loss, .ref b_reached, .int jc, .ref b_order, .ref b_upper, .ref b_length, .ref b_heads, .ref b_turn])), (b_wall, .inl (cZ, 256, .inl g_wall)), (b_px, .inl (cI, 12, .inl g_px)), (b_py, .inl (cI, 12, .inl g_py)), (b_loss, .inl (cI, 13, .inl g_loss)), (b_reached, .inl (cI, 256, .inl g_reached)), (b_order, .inl (cI, 12, .inl g_order)), (b_upper, .inl (cI, 12, .inl g_upper)), (b_length, .inl (cI, 12, .inl g_length)), (b_heads, .inl (cI, 12, .inl g_heads)), (b_turn, .inl (cI, 12, .inl g_turn))] := hD
      refine lv_aload_n hx hb dM_size_31 rfl (lv_at hl 0 rfl) ?_
      refine va_get (D := (dC, dI)) (ci := 1) (v := .int 1) (C := R_M) (T := T_M) (N := 16) hx hb hts in_M hown hK hP 0 rfl rfl 0 (by decide) (hts _ flM51) (fun _ h9 => h9) rfl dM_size_32 ?_
      refine lv_if_le (tgt := 40) hx hb dM_size_35 (by decide) (fun c_4 => ?_) (fun c_4 => ?_)
      · exact absurd c_4 (by decide)
      · refine lv_iconst (v := 0) hx hb dM_size_38 (by decide) ?_
        exact W.iret (v := 0) hx hb hr (fun t ht hW => ⟨⟨0, (), rfl, trivial, by rw [ht]; exact hP, va_K.moved hW.alike hK, hD⟩, hS.F ht⟩) hS.2.2 dM_size_39
    · refine lv_iload_n hx hb dM_size_12 rfl (lv_at hl 2 rfl) ?_
      refine lv_if_lt (tgt := 23) hx hb dM_size_13 (by decide) (fun c_5 => ?_) (fun c_5 => ?_)
      · refine lv_iconst (v := 1) hx hb dM_size_23 (by decide) ?_
        refine lv_goto (tgt := 28) hx hb dM_size_24 (by decide) ?_
        refine va_put (D := (dC, dI)) (ci := 1) (v := .int 1) (ty := .int) (C := R_M) (T := T_M) (N := 16) hx hb hts in_M t_M tok_M n_M hown hK hP hD hS 0 rfl rfl 0 (by decide) (hts _ flM51) (fun _ h9 => h9) rfl (by decide +kernel) rfl rfl (Nat.le_of_ble_eq_true rfl) dM_size_28 (fun H locs hP hD hS => ?_)
        have hP : va_P (dC, dI) snC [(h1, .inr (1, [.int 1, .int (nI Wd), .int (nI Ht), .ref b_wall, .int rs, .int (nI Pn), .ref b_px, .ref b_py, .ref b_loss, .ref b_reached, .int jc, .ref b_order, .ref b_upper, .ref b_length, .ref b_heads, .ref b_turn])), (b_wall, .inl (cZ, 256, .inl g_wall)), (b_px, .inl (cI, 12, .inl g_px)), (b_py, .inl (cI, 12, .inl g_py)), (b_loss, .inl (cI, 13, .inl g_loss)), (b_reached, .inl (cI, 256, .inl g_reached)), (b_order, .inl (cI, 12, .inl g_order)), (b_upper, .inl (cI, 12, .inl g_upper)), (b_length, .inl (cI, 12, .inl g_length)), (b_heads, .inl (cI, 12, .inl g_heads)), (b_turn, .inl (cI, 12, .inl g_turn))] H := hP
        have hD : va_D A [(h1, .inr (1, [.int 1, .int (nI Wd), .int (nI Ht), .ref b_wall, .int rs, .int (nI Pn), .ref b_px, .ref b_py, .ref b_loss, .ref b_reached, .int jc, .ref b_order, .ref b_upper, .ref b_length, .ref b_heads, .ref b_turn])), (b_wall, .inl (cZ, 256, .inl g_wall)), (b_px, .inl (cI, 12, .inl g_px)), (b_py, .inl (cI, 12, .inl g_py)), (b_loss, .inl (cI, 13, .inl g_loss)), (b_reached, .inl (cI, 256, .inl g_reached)), (b_order, .inl (cI, 12, .inl g_order)), (b_upper, .inl (cI, 12, .inl g_upper)), (b_length, .inl (cI, 12, .inl g_length)), (b_heads, .inl (cI, 12, .inl g_heads)), (b_turn, .inl (cI, 12, .inl g_turn))] := hD
        refine lv_aload_n hx hb dM_size_31 rfl (lv_at hl 0 rfl) ?_
        refine va_get (D := (dC, dI)) (ci := 1) (v := .int 1) (C := R_M) (T := T_M) (N := 16) hx hb hts in_M hown hK hP 0 rfl rfl 0 (by decide) (hts _ flM51) (fun _ h9 => h9) rfl dM_size_32 ?_
        refine lv_if_le (tgt := 40) hx hb dM_size_35 (by decide) (fun c_6 => ?_) (fun c_6 => ?_)
        · exact absurd c_6 (by decide)
        · refine lv_iconst (v := 0) hx hb dM_size_38 (by decide) ?_
          exact W.iret (v := 0) hx hb hr (fun t ht hW => ⟨⟨0, (), rfl, trivial, by rw [ht]; exact hP, va_K.moved hW.alike hK, hD⟩, hS.F ht⟩) hS.2.2 dM_size_39
      · refine lv_iload_n hx hb dM_size_16 rfl (lv_at hl 2 rfl) ?_
        refine lv_sipush (v := 1000) hx hb dM_size_17 (by decide) ?_
        refine lv_icmp_le (tgt := 27) hx hb dM_size_20 (by decide) (fun c_7 => ?_) (fun c_7 => ?_)
        · exact absurd hno (by simp [sn_hok, sn_lok, Int32.not_lt.mp ‹¬ (12 : Int32) < x›, *])
        · refine lv_iconst (v := 1) hx hb dM_size_23 (by decide) ?_
          refine lv_goto (tgt := 28) hx hb dM_size_24 (by decide) ?_
          refine va_put (D := (dC, dI)) (ci := 1) (v := .int 1) (ty := .int) (C := R_M) (T := T_M) (N := 16) hx hb hts in_M t_M tok_M n_M hown hK hP hD hS 0 rfl rfl 0 (by decide) (hts _ flM51) (fun _ h9 => h9) rfl (by decide +kernel) rfl rfl (Nat.le_of_ble_eq_true rfl) dM_size_28 (fun H locs hP hD hS => ?_)
          have hP : va_P (dC, dI) snC [(h1, .inr (1, [.int 1, .int (nI Wd), .int (nI Ht), .ref b_wall, .int rs, .int (nI Pn), .ref b_px, .ref b_py, .ref b_loss, .ref b_reached, .int jc, .ref b_order, .ref b_upper, .ref b_length, .ref b_heads, .ref b_turn])), (b_wall, .inl (cZ, 256, .inl g_wall)), (b_px, .inl (cI, 12, .inl g_px)), (b_py, .inl (cI, 12, .inl g_py)), (b_loss, .inl (cI, 13, .inl g_loss)), (b_reached, .inl (cI, 256, .inl g_reached)), (b_order, .inl (cI, 12, .inl g_order)), (b_upper, .inl (cI, 12, .inl g_upper)), (b_length, .inl (cI, 12, .inl g_length)), (b_heads, .inl (cI, 12, .inl g_heads)), (b_turn, .inl (cI, 12, .inl g_turn))] H := hP
          have hD : va_D A [(h1, .inr (1, [.int 1, .int (nI Wd), .int (nI Ht), .ref b_wall, .int rs, .int (nI Pn), .ref b_px, .ref b_py, .ref b_loss, .ref b_reached, .int jc, .ref b_order, .ref b_upper, .ref b_length, .ref b_heads, .ref b_turn])), (b_wall, .inl (cZ, 256, .inl g_wall)), (b_px, .inl (cI, 12, .inl g_px)), (b_py, .inl (cI, 12, .inl g_py)), (b_loss, .inl (cI, 13, .inl g_loss)), (b_reached, .inl (cI, 256, .inl g_reached)), (b_order, .inl (cI, 12, .inl g_order)), (b_upper, .inl (cI, 12, .inl g_upper)), (b_length, .inl (cI, 12, .inl g_length)), (b_heads, .inl (cI, 12, .inl g_heads)), (b_turn, .inl (cI, 12, .inl g_turn))] := hD
          refine lv_aload_n hx hb dM_size_31 rfl (lv_at hl 0 rfl) ?_
          refine va_get (D := (dC, dI)) (ci := 1) (v := .int 1) (C := R_M) (T := T_M) (N := 16) hx hb hts in_M hown hK hP 0 rfl rfl 0 (by decide) (hts _ flM51) (fun _ h9 => h9) rfl dM_size_32 ?_
          refine lv_if_le (tgt := 40) hx hb dM_size_35 (by decide) (fun c_8 => ?_) (fun c_8 => ?_)
          · exact absurd c_8 (by decide)
          · refine lv_iconst (v := 0) hx hb dM_size_38 (by decide) ?_
            exact W.iret (v := 0) hx hb hr (fun t ht hW => ⟨⟨0, (), rfl, trivial, by rw [ht]; exact hP, va_K.moved hW.alike hK, hD⟩, hS.F ht⟩) hS.2.2 dM_size_39
set_option maxHeartbeats 4000000 in
set_option maxRecDepth 100000 in
theorem cM_lossOf (l : Launch) (dC : Nat → ClassId) (dI : Nat → Nat → Nat) (h1 b_wall b_px b_py b_loss b_reached b_order b_upper b_length b_heads b_turn : Nat) (cd : Int32) (Wd Ht Pn : Nat) (rs jc : Int32) (cI : ClassId) (g_loss : Nat → Int32) (hc : Int32)  : Met l yM_lossOf (kM_lossOf :: WD) { frames := 0, cells := 0, slots := 0, locals := 0 } (va_Pc [.ref h1, .int hc] (xw (dC, dI) snC [(h1, .inr (1, [.int cd, .int (nI Wd), .int (nI Ht), .ref b_wall, .int rs, .int (nI Pn), .ref b_px, .ref b_py, .ref b_loss, .ref b_reached, .int jc, .ref b_order, .ref b_upper, .ref b_length, .ref b_heads, .ref b_turn])), (b_loss, .inl (cI, 13, .inl g_loss))] [(cI, .int)])) (xr_Q (fun r => r = md_loss g_loss hc)) 0 0 (fun _ => False) := by
  refine Met.ofW (cc := bM_lossOf) (maxL := 6) (ret := (some .int)) (by decide) rfl ?_
  intro p e s m args below meth c s₁ B hml hv
  obtain ⟨rfl, hP, hK⟩ := hv
  have hx := B.exec
  have hb := B.bytes
  have hr := B.returns
  have hts : ∀ w ∈ WD, w.before _ s = true := fun w h => atoms_spec (ws := kM_lossOf :: WD) B.pre w (List.mem_cons_of_mem _ h)
  have hown : s.vm.findClass R_M = some m.cls := findClass_of_methodNamed B.named
  have hlocks := B.notSynchronized
  have hl := lv_entry ([.ref h1, .int hc]) (n := 6) (Nat.le_of_ble_eq_true rfl)
  rw [lg_entry_eq]
  generalize (lg_sl ([.ref h1, .int hc]) ++ List.replicate (6 - (lg_sl ([.ref h1, .int hc])).length) Slot.unset).toArray = ls at hl ⊢
  have hl : lv_has ls 6 [(0, .ref h1), (1, .int hc)] := hl
  have lp60 : ∀ (k n : Nat) (i : Nat) (s1 : Bool) (g9 l9 : Int32), n < k → i + n = 13 → md_l1 g_loss hc 12 0 = l9 → md_l2 g_loss hc n i s1 g9 = md_l2 g_loss hc 12 1 false 0 → ∀ ls : Array Slot, lv_has ls 6 [(5, .int (nI i)), (3, .int (bz s1)), (4, .int g9), (2, .int l9), (0, .ref h1), (1, .int hc)] → W p l e (headSpec (kM_lossOf :: WD) { frames := 0, cells := 0, slots := 0, locals := 0 }).room s m ([.ref h1, .int hc]).toArray below meth c s.heap [] 0 0 (MQ below (xr_Q (fun r => r = md_loss g_loss hc)) ([.ref h1, .int hc]).toArray s 0 0 (fun _ => False)) (F0 m 60 ls []) := by
    intro k
    induction k with
    | zero => exact fun n _ _ _ _ h => absurd h (Nat.not_lt_zero n)
    | succ k ih =>
      intro n i s1 g9 l9 hk hin hl1 hT ls hl
      refine lv_iload hx hb dM_lossOf_60 (lv_at hl 0 rfl) ?_
      refine lv_bipush (v := (nI 13)) hx hb dM_lossOf_62 (by decide) ?_
      refine lv_icmp_ge (tgt := 123) hx hb dM_lossOf_64 (by decide) (fun c_1 => ?_) (fun c_1 => ?_)
      · have hz := (nI_leI (by omega) (by omega)).mp c_1
        obtain rfl : n = 0 := by omega
        refine lv_iload_n hx hb dM_lossOf_123 rfl (lv_at hl 1 rfl) ?_
        refine lv_if_eq (tgt := 131) hx hb dM_lossOf_124 (by decide) (fun c_2 => ?_) (fun c_2 => ?_)
        · replace c_2 := bz_0 c_2
          refine lv_iload hx hb dM_lossOf_131 (lv_at hl 2 rfl) ?_
          exact W.iret (v := g9) hx hb hr (fun t ht hW => ⟨⟨g9, rfl, (by rw [md_loss, hl1, ← hT]; simp [md_l2, c_1, c_2])⟩, ht⟩) (fun _ h => absurd h List.not_mem_nil) dM_lossOf_133
        · replace c_2 := bz_1 c_2
          refine lv_iload_n hx hb dM_lossOf_127 rfl (lv_at hl 3 rfl) ?_
          refine lv_goto (tgt := 133) hx hb dM_lossOf_128 (by decide) ?_
          exact W.iret (v := l9) hx hb hr (fun t ht hW => ⟨⟨l9, rfl, (by rw [md_loss, hl1, ← hT]; simp [md_l2, c_1, c_2])⟩, ht⟩) (fun _ h => absurd h List.not_mem_nil) dM_lossOf_133
      · have hz : i < 13 := by have h9 := mt (nI_leI (by omega) (by omega)).mpr c_1; omega
        obtain ⟨n, rfl⟩ : ∃ n', n = n' + 1 := ⟨n - 1, by omega⟩
        refine lv_iload_n hx hb dM_lossOf_67 rfl (lv_at hl 1 rfl) ?_
        refine lv_if_ne (tgt := 87) hx hb dM_lossOf_68 (by decide) (fun c_3 => ?_) (fun c_3 => ?_)
        · replace c_3 := bz_1 c_3
          refine lv_iconst (v := 1) hx hb dM_lossOf_87 (by decide) ?_
          refine lv_goto (tgt := 92) hx hb dM_lossOf_88 (by decide) ?_
          refine lv_topi (fun y_4 ey_4 => ?_)
          obtain rfl : y_4 = bz true := ey_4.trans rfl
          refine lv_istore_n (lv' := [(3, .int (bz true)), (5, .int (nI i)), (4, .int g9), (2, .int l9), (0, .ref h1), (1, .int hc)]) hx hb dM_lossOf_92 rfl hl (by decide) rfl (fun ls hl => ?_)
          refine lv_aload_n hx hb dM_lossOf_93 rfl (lv_at hl 4 rfl) ?_
          refine va_get (D := (dC, dI)) (ci := 1) (v := .ref b_loss) (C := R_M) (T := T_M) (N := 16) hx hb hts in_M hown hK hP 0 rfl rfl 8 (by decide) (hts _ flM24) (fun _ h9 => h9) rfl dM_lossOf_94 ?_
          refine lv_iload hx hb dM_lossOf_97 (lv_at hl 1 rfl) ?_
          refine xa_iald hx hb hK hP 1 0 rfl rfl (i := i) (by omega) (by first | decide | omega) dM_lossOf_99 ?_
          refine lv_if_lt (tgt := 113) hx hb dM_lossOf_100 (by decide) (fun c_5 => ?_) (fun c_5 => ?_)
          · refine lv_iload hx hb dM_lossOf_113 (lv_at hl 2 rfl) ?_
            refine lv_istore (lv' := [(4, .int g9), (3, .int (bz true)), (5, .int (nI i)), (2, .int l9), (0, .ref h1), (1, .int hc)]) hx hb dM_lossOf_115 hl (by decide) rfl (fun ls hl => ?_)
            refine lv_iinc (v := (nI (i + 1))) (lv' := [(5, .int (nI (i + 1))), (4, .int g9), (3, .int (bz true)), (2, .int l9), (0, .ref h1), (1, .int hc)]) hx hb dM_lossOf_117 hl (k := 2) rfl (nI_1 i) (by decide) rfl (fun ls hl => ?_)
            refine lv_goto (tgt := 60) hx hb dM_lossOf_120 (by decide) ?_
            exact ih n (i + 1) true g9 l9 (by omega) (by omega) hl1 (by rw [← hT]; first | (simp [md_l2, c_1, c_3, c_5]; done) | contradiction) ls (lv_sub hl [0, 2, 1, 3, 4, 5] rfl)
          · refine lv_aload_n hx hb dM_lossOf_103 rfl (lv_at hl 4 rfl) ?_
            refine va_get (D := (dC, dI)) (ci := 1) (v := .ref b_loss) (C := R_M) (T := T_M) (N := 16) hx hb hts in_M hown hK hP 0 rfl rfl 8 (by decide) (hts _ flM24) (fun _ h9 => h9) rfl dM_lossOf_104 ?_
            refine lv_iload hx hb dM_lossOf_107 (lv_at hl 1 rfl) ?_
            refine xa_iald hx hb hK hP 1 0 rfl rfl (i := i) (by omega) (by first | decide | omega) dM_lossOf_109 ?_
            refine lv_goto (tgt := 115) hx hb dM_lossOf_110 (by decide) ?_
            refine lv_istore (lv' := [(4, .int (g_loss i)), (3, .int (bz true)), (5, .int (nI i)), (2, .int l9), (0, .ref h1), (1, .int hc)]) hx hb dM_lossOf_115 hl (by decide) rfl (fun ls hl => ?_)
            refine lv_iinc (v := (nI (i + 1))) (lv' := [(5, .int (nI (i + 1))), (4, .int (g_loss i)), (3, .int (bz true)), (2, .int l9), (0, .ref h1), (1, .int hc)]) hx hb dM_lossOf_117 hl (k := 2) rfl (nI_1 i) (by decide) rfl (fun ls hl => ?_)
            refine lv_goto (tgt := 60) hx hb dM_lossOf_120 (by decide) ?_
            exact ih n (i + 1) true (g_loss i) l9 (by omega) (by omega) hl1 (by rw [← hT]; first | (simp [md_l2, c_1, c_3, c_5]; done) | contradiction) ls (lv_sub hl [0, 2, 1, 3, 4, 5] rfl)
        · replace c_3 := bz_0 c_3
          refine lv_aload_n hx hb dM_lossOf_71 rfl (lv_at hl 4 rfl) ?_
          refine va_get (D := (dC, dI)) (ci := 1) (v := .ref b_loss) (C := R_M) (T := T_M) (N := 16) hx hb hts in_M hown hK hP 0 rfl rfl 8 (by decide) (hts _ flM24) (fun _ h9 => h9) rfl dM_lossOf_72 ?_
          refine lv_iload hx hb dM_lossOf_75 (lv_at hl 0 rfl) ?_
          refine xa_iald hx hb hK hP 1 0 rfl rfl (i := i) (by omega) (by first | decide | omega) dM_lossOf_77 ?_
          refine lv_if_lt (tgt := 91) hx hb dM_lossOf_78 (by decide) (fun c_6 => ?_) (fun c_6 => ?_)
          · refine lv_iconst (v := 0) hx hb dM_lossOf_91 (by decide) ?_
            refine lv_topi (fun y_7 ey_7 => ?_)
            obtain rfl : y_7 = bz false := ey_7.trans rfl
            refine lv_istore_n (lv' := [(3, .int (bz false)), (5, .int (nI i)), (4, .int g9), (2, .int l9), (0, .ref h1), (1, .int hc)]) hx hb dM_lossOf_92 rfl hl (by decide) rfl (fun ls hl => ?_)
            refine lv_aload_n hx hb dM_lossOf_93 rfl (lv_at hl 4 rfl) ?_
            refine va_get (D := (dC, dI)) (ci := 1) (v := .ref b_loss) (C := R_M) (T := T_M) (N := 16) hx hb hts in_M hown hK hP 0 rfl rfl 8 (by decide) (hts _ flM24) (fun _ h9 => h9) rfl dM_lossOf_94 ?_
            refine lv_iload hx hb dM_lossOf_97 (lv_at hl 1 rfl) ?_
            refine xa_iald hx hb hK hP 1 0 rfl rfl (i := i) (by omega) (by first | decide | omega) dM_lossOf_99 ?_
            refine lv_if_lt (tgt := 113) hx hb dM_lossOf_100 (by decide) (fun c_8 => ?_) (fun c_8 => ?_)
            · refine lv_iload hx hb dM_lossOf_113 (lv_at hl 2 rfl) ?_
              refine lv_istore (lv' := [(4, .int g9), (3, .int (bz false)), (5, .int (nI i)), (2, .int l9), (0, .ref h1), (1, .int hc)]) hx hb dM_lossOf_115 hl (by decide) rfl (fun ls hl => ?_)
              refine lv_iinc (v := (nI (i + 1))) (lv' := [(5, .int (nI (i + 1))), (4, .int g9), (3, .int (bz false)), (2, .int l9), (0, .ref h1), (1, .int hc)]) hx hb dM_lossOf_117 hl (k := 2) rfl (nI_1 i) (by decide) rfl (fun ls hl => ?_)
              refine lv_goto (tgt := 60) hx hb dM_lossOf_120 (by decide) ?_
              exact ih n (i + 1) false g9 l9 (by omega) (by omega) hl1 (by rw [← hT]; first | (simp [md_l2, c_1, c_3, c_6, c_8]; done) | contradiction) ls (lv_sub hl [0, 2, 1, 3, 4, 5] rfl)
            · refine lv_aload_n hx hb dM_lossOf_103 rfl (lv_at hl 4 rfl) ?_
              refine va_get (D := (dC, dI)) (ci := 1) (v := .ref b_loss) (C := R_M) (T := T_M) (N := 16) hx hb hts in_M hown hK hP 0 rfl rfl 8 (by decide) (hts _ flM24) (fun _ h9 => h9) rfl dM_lossOf_104 ?_
              refine lv_iload hx hb dM_lossOf_107 (lv_at hl 1 rfl) ?_
              refine xa_iald hx hb hK hP 1 0 rfl rfl (i := i) (by omega) (by first | decide | omega) dM_lossOf_109 ?_
              refine lv_goto (tgt := 115) hx hb dM_lossOf_110 (by decide) ?_
              refine lv_istore (lv' := [(4, .int (g_loss i)), (3, .int (bz false)), (5, .int (nI i)), (2, .int l9), (0, .ref h1), (1, .int hc)]) hx hb dM_lossOf_115 hl (by decide) rfl (fun ls hl => ?_)
              refine lv_iinc (v := (nI (i + 1))) (lv' := [(5, .int (nI (i + 1))), (4, .int (g_loss i)), (3, .int (bz false)), (2, .int l9), (0, .ref h1), (1, .int hc)]) hx hb dM_lossOf_117 hl (k := 2) rfl (nI_1 i) (by decide) rfl (fun ls hl => ?_)
              refine lv_goto (tgt := 60) hx hb dM_lossOf_120 (by decide) ?_
              exact ih n (i + 1) false (g_loss i) l9 (by omega) (by omega) hl1 (by rw [← hT]; first | (simp [md_l2, c_1, c_3, c_6, c_8]; done) | contradiction) ls (lv_sub hl [0, 2, 1, 3, 4, 5] rfl)
          · refine lv_iload hx hb dM_lossOf_81 (lv_at hl 0 rfl) ?_
            refine lv_iload_n hx hb dM_lossOf_83 rfl (lv_at hl 5 rfl) ?_
            refine lv_icmp_lt (tgt := 91) hx hb dM_lossOf_84 (by decide) (fun c_9 => ?_) (fun c_9 => ?_)
            · refine lv_iconst (v := 0) hx hb dM_lossOf_91 (by decide) ?_
              refine lv_topi (fun y_10 ey_10 => ?_)
              obtain rfl : y_10 = bz false := ey_10.trans rfl
              refine lv_istore_n (lv' := [(3, .int (bz false)), (5, .int (nI i)), (4, .int g9), (2, .int l9), (0, .ref h1), (1, .int hc)]) hx hb dM_lossOf_92 rfl hl (by decide) rfl (fun ls hl => ?_)
              refine lv_aload_n hx hb dM_lossOf_93 rfl (lv_at hl 4 rfl) ?_
              refine va_get (D := (dC, dI)) (ci := 1) (v := .ref b_loss) (C := R_M) (T := T_M) (N := 16) hx hb hts in_M hown hK hP 0 rfl rfl 8 (by decide) (hts _ flM24) (fun _ h9 => h9) rfl dM_lossOf_94 ?_
              refine lv_iload hx hb dM_lossOf_97 (lv_at hl 1 rfl) ?_
              refine xa_iald hx hb hK hP 1 0 rfl rfl (i := i) (by omega) (by first | decide | omega) dM_lossOf_99 ?_
              refine lv_if_lt (tgt := 113) hx hb dM_lossOf_100 (by decide) (fun c_11 => ?_) (fun c_11 => ?_)
              · refine lv_iload hx hb dM_lossOf_113 (lv_at hl 2 rfl) ?_
                refine lv_istore (lv' := [(4, .int g9), (3, .int (bz false)), (5, .int (nI i)), (2, .int l9), (0, .ref h1), (1, .int hc)]) hx hb dM_lossOf_115 hl (by decide) rfl (fun ls hl => ?_)
                refine lv_iinc (v := (nI (i + 1))) (lv' := [(5, .int (nI (i + 1))), (4, .int g9), (3, .int (bz false)), (2, .int l9), (0, .ref h1), (1, .int hc)]) hx hb dM_lossOf_117 hl (k := 2) rfl (nI_1 i) (by decide) rfl (fun ls hl => ?_)
                refine lv_goto (tgt := 60) hx hb dM_lossOf_120 (by decide) ?_
                exact ih n (i + 1) false g9 l9 (by omega) (by omega) hl1 (by rw [← hT]; first | (simp [md_l2, c_1, c_3, c_6, c_9, c_11]; done) | contradiction) ls (lv_sub hl [0, 2, 1, 3, 4, 5] rfl)
              · refine lv_aload_n hx hb dM_lossOf_103 rfl (lv_at hl 4 rfl) ?_
                refine va_get (D := (dC, dI)) (ci := 1) (v := .ref b_loss) (C := R_M) (T := T_M) (N := 16) hx hb hts in_M hown hK hP 0 rfl rfl 8 (by decide) (hts _ flM24) (fun _ h9 => h9) rfl dM_lossOf_104 ?_
                refine lv_iload hx hb dM_lossOf_107 (lv_at hl 1 rfl) ?_
                refine xa_iald hx hb hK hP 1 0 rfl rfl (i := i) (by omega) (by first | decide | omega) dM_lossOf_109 ?_
                refine lv_goto (tgt := 115) hx hb dM_lossOf_110 (by decide) ?_
                refine lv_istore (lv' := [(4, .int (g_loss i)), (3, .int (bz false)), (5, .int (nI i)), (2, .int l9), (0, .ref h1), (1, .int hc)]) hx hb dM_lossOf_115 hl (by decide) rfl (fun ls hl => ?_)
                refine lv_iinc (v := (nI (i + 1))) (lv' := [(5, .int (nI (i + 1))), (4, .int (g_loss i)), (3, .int (bz false)), (2, .int l9), (0, .ref h1), (1, .int hc)]) hx hb dM_lossOf_117 hl (k := 2) rfl (nI_1 i) (by decide) rfl (fun ls hl => ?_)
                refine lv_goto (tgt := 60) hx hb dM_lossOf_120 (by decide) ?_
                exact ih n (i + 1) false (g_loss i) l9 (by omega) (by omega) hl1 (by rw [← hT]; first | (simp [md_l2, c_1, c_3, c_6, c_9, c_11]; done) | contradiction) ls (lv_sub hl [0, 2, 1, 3, 4, 5] rfl)
            · refine lv_iconst (v := 1) hx hb dM_lossOf_87 (by decide) ?_
              refine lv_goto (tgt := 92) hx hb dM_lossOf_88 (by decide) ?_
              refine lv_topi (fun y_12 ey_12 => ?_)
              obtain rfl : y_12 = bz true := ey_12.trans rfl
              refine lv_istore_n (lv' := [(3, .int (bz true)), (5, .int (nI i)), (4, .int g9), (2, .int l9), (0, .ref h1), (1, .int hc)]) hx hb dM_lossOf_92 rfl hl (by decide) rfl (fun ls hl => ?_)
              refine lv_aload_n hx hb dM_lossOf_93 rfl (lv_at hl 4 rfl) ?_
              refine va_get (D := (dC, dI)) (ci := 1) (v := .ref b_loss) (C := R_M) (T := T_M) (N := 16) hx hb hts in_M hown hK hP 0 rfl rfl 8 (by decide) (hts _ flM24) (fun _ h9 => h9) rfl dM_lossOf_94 ?_
              refine lv_iload hx hb dM_lossOf_97 (lv_at hl 1 rfl) ?_
              refine xa_iald hx hb hK hP 1 0 rfl rfl (i := i) (by omega) (by first | decide | omega) dM_lossOf_99 ?_
              refine lv_if_lt (tgt := 113) hx hb dM_lossOf_100 (by decide) (fun c_13 => ?_) (fun c_13 => ?_)
              · refine lv_iload hx hb dM_lossOf_113 (lv_at hl 2 rfl) ?_
                refine lv_istore (lv' := [(4, .int g9), (3, .int (bz true)), (5, .int (nI i)), (2, .int l9), (0, .ref h1), (1, .int hc)]) hx hb dM_lossOf_115 hl (by decide) rfl (fun ls hl => ?_)
                refine lv_iinc (v := (nI (i + 1))) (lv' := [(5, .int (nI (i + 1))), (4, .int g9), (3, .int (bz true)), (2, .int l9), (0, .ref h1), (1, .int hc)]) hx hb dM_lossOf_117 hl (k := 2) rfl (nI_1 i) (by decide) rfl (fun ls hl => ?_)
                refine lv_goto (tgt := 60) hx hb dM_lossOf_120 (by decide) ?_
                exact ih n (i + 1) true g9 l9 (by omega) (by omega) hl1 (by rw [← hT]; first | (simp [md_l2, c_1, c_3, c_6, c_9, c_13]; done) | contradiction) ls (lv_sub hl [0, 2, 1, 3, 4, 5] rfl)
              · refine lv_aload_n hx hb dM_lossOf_103 rfl (lv_at hl 4 rfl) ?_
                refine va_get (D := (dC, dI)) (ci := 1) (v := .ref b_loss) (C := R_M) (T := T_M) (N := 16) hx hb hts in_M hown hK hP 0 rfl rfl 8 (by decide) (hts _ flM24) (fun _ h9 => h9) rfl dM_lossOf_104 ?_
                refine lv_iload hx hb dM_lossOf_107 (lv_at hl 1 rfl) ?_
                refine xa_iald hx hb hK hP 1 0 rfl rfl (i := i) (by omega) (by first | decide | omega) dM_lossOf_109 ?_
                refine lv_goto (tgt := 115) hx hb dM_lossOf_110 (by decide) ?_
                refine lv_istore (lv' := [(4, .int (g_loss i)), (3, .int (bz true)), (5, .int (nI i)), (2, .int l9), (0, .ref h1), (1, .int hc)]) hx hb dM_lossOf_115 hl (by decide) rfl (fun ls hl => ?_)
                refine lv_iinc (v := (nI (i + 1))) (lv' := [(5, .int (nI (i + 1))), (4, .int (g_loss i)), (3, .int (bz true)), (2, .int l9), (0, .ref h1), (1, .int hc)]) hx hb dM_lossOf_117 hl (k := 2) rfl (nI_1 i) (by decide) rfl (fun ls hl => ?_)
                refine lv_goto (tgt := 60) hx hb dM_lossOf_120 (by decide) ?_
                exact ih n (i + 1) true (g_loss i) l9 (by omega) (by omega) hl1 (by rw [← hT]; first | (simp [md_l2, c_1, c_3, c_6, c_9, c_13]; done) | contradiction) ls (lv_sub hl [0, 2, 1, 3, 4, 5] rfl)
  have lp5 : ∀ (k n : Nat) (l9 : Int32), n < k → n ≤ 12 → md_l1 g_loss hc n l9 = md_l1 g_loss hc 12 0 → ∀ ls : Array Slot, lv_has ls 6 [(3, .int (nI n)), (2, .int l9), (0, .ref h1), (1, .int hc)] → W p l e (headSpec (kM_lossOf :: WD) { frames := 0, cells := 0, slots := 0, locals := 0 }).room s m ([.ref h1, .int hc]).toArray below meth c s.heap [] 0 0 (MQ below (xr_Q (fun r => r = md_loss g_loss hc)) ([.ref h1, .int hc]).toArray s 0 0 (fun _ => False)) (F0 m 5 ls []) := by
    intro k
    induction k with
    | zero => exact fun n _ h => absurd h (Nat.not_lt_zero n)
    | succ k ih =>
      intro n l9 hk hin hT ls hl
      refine lv_iload_n hx hb dM_lossOf_5 rfl (lv_at hl 0 rfl) ?_
      refine lv_if_le (tgt := 52) hx hb dM_lossOf_6 (by decide) (fun c_1 => ?_) (fun c_1 => ?_)
      · obtain rfl : n = 0 := by rw [show (0 : Int32) = nI 0 from rfl, nI_leI (by omega) (by omega)] at c_1; omega
        refine lv_iconst (v := 0) hx hb dM_lossOf_52 (by decide) ?_
        refine lv_istore_n (lv' := [(3, .int 0), (2, .int l9), (0, .ref h1), (1, .int hc)]) hx hb dM_lossOf_53 rfl hl (by decide) rfl (fun ls hl => ?_)
        refine lv_iconst (v := 0) hx hb dM_lossOf_54 (by decide) ?_
        refine lv_istore (lv' := [(4, .int 0), (3, .int 0), (2, .int l9), (0, .ref h1), (1, .int hc)]) hx hb dM_lossOf_55 hl (by decide) rfl (fun ls hl => ?_)
        refine lv_iconst (v := 1) hx hb dM_lossOf_57 (by decide) ?_
        refine lv_istore (lv' := [(5, .int 1), (4, .int 0), (3, .int 0), (2, .int l9), (0, .ref h1), (1, .int hc)]) hx hb dM_lossOf_58 hl (by decide) rfl (fun ls hl => ?_)
        exact lp60 13 12 1 false 0 l9 (by omega) (by omega) (by rw [← hT]; simp [md_l1]) rfl ls (lv_sub hl [0, 2, 1, 3, 4, 5] rfl)
      · obtain ⟨n, rfl⟩ : ∃ z, n = z + 1 := ⟨n - 1, by have : n ≠ 0 := (fun e => c_1 (by rw [e]; decide)); omega⟩
        refine lv_iload_n hx hb dM_lossOf_9 rfl (lv_at hl 0 rfl) ?_
        refine lv_iload_n hx hb dM_lossOf_10 rfl (lv_at hl 3 rfl) ?_
        refine lv_icmp_lt (tgt := 18) hx hb dM_lossOf_11 (by decide) (fun c_2 => ?_) (fun c_2 => ?_)
        · refine lv_iconst (v := 0) hx hb dM_lossOf_18 (by decide) ?_
          refine lv_istore (lv' := [(4, .int 0), (3, .int (nI (n + 1))), (2, .int l9), (0, .ref h1), (1, .int hc)]) hx hb dM_lossOf_19 hl (by decide) rfl (fun ls hl => ?_)
          refine lv_aload_n hx hb dM_lossOf_21 rfl (lv_at hl 3 rfl) ?_
          refine va_get (D := (dC, dI)) (ci := 1) (v := .ref b_loss) (C := R_M) (T := T_M) (N := 16) hx hb hts in_M hown hK hP 0 rfl rfl 8 (by decide) (hts _ flM24) (fun _ h9 => h9) rfl dM_lossOf_22 ?_
          refine lv_iload_n hx hb dM_lossOf_25 rfl (lv_at hl 1 rfl) ?_
          refine xa_iald hx hb hK hP 1 0 rfl rfl (i := (n + 1)) (by omega) (by first | decide | omega) dM_lossOf_26 ?_
          refine lv_if_lt (tgt := 44) hx hb dM_lossOf_27 (by decide) (fun c_3 => ?_) (fun c_3 => ?_)
          · refine lv_iload_n hx hb dM_lossOf_44 rfl (lv_at hl 2 rfl) ?_
            refine lv_istore_n (lv' := [(2, .int l9), (4, .int 0), (3, .int (nI (n + 1))), (0, .ref h1), (1, .int hc)]) hx hb dM_lossOf_45 rfl hl (by decide) rfl (fun ls hl => ?_)
            refine lv_iinc (v := ((nI (n + 1)) - 1)) (lv' := [(3, .int ((nI (n + 1)) - 1)), (2, .int l9), (4, .int 0), (0, .ref h1), (1, .int hc)]) hx hb dM_lossOf_46 hl (k := 2) rfl (sn_dec _) (by decide) rfl (fun ls hl => ?_)
            refine lv_goto (tgt := 5) hx hb dM_lossOf_49 (by decide) ?_
            rw [nI_pred] at hl
            exact ih n l9 (by omega) (by omega) (by rw [← hT]; simp [md_l1, c_1, c_2, c_3]) ls (lv_sub hl [0, 1, 3, 4] rfl)
          · refine lv_iload hx hb dM_lossOf_30 (lv_at hl 0 rfl) ?_
            refine lv_if_eq (tgt := 44) hx hb dM_lossOf_32 (by decide) (fun c_4 => ?_) (fun c_4 => ?_)
            · refine lv_iload_n hx hb dM_lossOf_44 rfl (lv_at hl 2 rfl) ?_
              refine lv_istore_n (lv' := [(2, .int l9), (4, .int 0), (3, .int (nI (n + 1))), (0, .ref h1), (1, .int hc)]) hx hb dM_lossOf_45 rfl hl (by decide) rfl (fun ls hl => ?_)
              refine lv_iinc (v := ((nI (n + 1)) - 1)) (lv' := [(3, .int ((nI (n + 1)) - 1)), (2, .int l9), (4, .int 0), (0, .ref h1), (1, .int hc)]) hx hb dM_lossOf_46 hl (k := 2) rfl (sn_dec _) (by decide) rfl (fun ls hl => ?_)
              refine lv_goto (tgt := 5) hx hb dM_lossOf_49 (by decide) ?_
              rw [nI_pred] at hl
              exact ih n l9 (by omega) (by omega) (by rw [← hT]; simp [md_l1, c_1, c_2, c_3, c_4]) ls (lv_sub hl [0, 1, 3, 4] rfl)
            · exact absurd c_4 (by decide)
        · refine lv_iconst (v := 1) hx hb dM_lossOf_14 (by decide) ?_
          refine lv_goto (tgt := 19) hx hb dM_lossOf_15 (by decide) ?_
          refine lv_istore (lv' := [(4, .int 1), (3, .int (nI (n + 1))), (2, .int l9), (0, .ref h1), (1, .int hc)]) hx hb dM_lossOf_19 hl (by decide) rfl (fun ls hl => ?_)
          refine lv_aload_n hx hb dM_lossOf_21 rfl (lv_at hl 3 rfl) ?_
          refine va_get (D := (dC, dI)) (ci := 1) (v := .ref b_loss) (C := R_M) (T := T_M) (N := 16) hx hb hts in_M hown hK hP 0 rfl rfl 8 (by decide) (hts _ flM24) (fun _ h9 => h9) rfl dM_lossOf_22 ?_
          refine lv_iload_n hx hb dM_lossOf_25 rfl (lv_at hl 1 rfl) ?_
          refine xa_iald hx hb hK hP 1 0 rfl rfl (i := (n + 1)) (by omega) (by first | decide | omega) dM_lossOf_26 ?_
          refine lv_if_lt (tgt := 44) hx hb dM_lossOf_27 (by decide) (fun c_5 => ?_) (fun c_5 => ?_)
          · refine lv_iload_n hx hb dM_lossOf_44 rfl (lv_at hl 2 rfl) ?_
            refine lv_istore_n (lv' := [(2, .int l9), (4, .int 1), (3, .int (nI (n + 1))), (0, .ref h1), (1, .int hc)]) hx hb dM_lossOf_45 rfl hl (by decide) rfl (fun ls hl => ?_)
            refine lv_iinc (v := ((nI (n + 1)) - 1)) (lv' := [(3, .int ((nI (n + 1)) - 1)), (2, .int l9), (4, .int 1), (0, .ref h1), (1, .int hc)]) hx hb dM_lossOf_46 hl (k := 2) rfl (sn_dec _) (by decide) rfl (fun ls hl => ?_)
            refine lv_goto (tgt := 5) hx hb dM_lossOf_49 (by decide) ?_
            rw [nI_pred] at hl
            exact ih n l9 (by omega) (by omega) (by rw [← hT]; simp [md_l1, c_1, c_2, c_5]) ls (lv_sub hl [0, 1, 3, 4] rfl)
          · refine lv_iload hx hb dM_lossOf_30 (lv_at hl 0 rfl) ?_
            refine lv_if_eq (tgt := 44) hx hb dM_lossOf_32 (by decide) (fun c_6 => ?_) (fun c_6 => ?_)
            · exact absurd c_6 (by decide)
            · refine lv_aload_n hx hb dM_lossOf_35 rfl (lv_at hl 3 rfl) ?_
              refine va_get (D := (dC, dI)) (ci := 1) (v := .ref b_loss) (C := R_M) (T := T_M) (N := 16) hx hb hts in_M hown hK hP 0 rfl rfl 8 (by decide) (hts _ flM24) (fun _ h9 => h9) rfl dM_lossOf_36 ?_
              refine lv_iload_n hx hb dM_lossOf_39 rfl (lv_at hl 1 rfl) ?_
              refine xa_iald hx hb hK hP 1 0 rfl rfl (i := (n + 1)) (by omega) (by first | decide | omega) dM_lossOf_40 ?_
              refine lv_goto (tgt := 45) hx hb dM_lossOf_41 (by decide) ?_
              refine lv_istore_n (lv' := [(2, .int (g_loss (n + 1))), (4, .int 1), (3, .int (nI (n + 1))), (0, .ref h1), (1, .int hc)]) hx hb dM_lossOf_45 rfl hl (by decide) rfl (fun ls hl => ?_)
              refine lv_iinc (v := ((nI (n + 1)) - 1)) (lv' := [(3, .int ((nI (n + 1)) - 1)), (2, .int (g_loss (n + 1))), (4, .int 1), (0, .ref h1), (1, .int hc)]) hx hb dM_lossOf_46 hl (k := 2) rfl (sn_dec _) (by decide) rfl (fun ls hl => ?_)
              refine lv_goto (tgt := 5) hx hb dM_lossOf_49 (by decide) ?_
              rw [nI_pred] at hl
              exact ih n (g_loss (n + 1)) (by omega) (by omega) (by rw [← hT]; simp [md_l1, c_1, c_2, c_5, c_6]) ls (lv_sub hl [0, 1, 3, 4] rfl)
  refine lv_iconst (v := 0) hx hb dM_lossOf_0 (by decide) ?_
  refine lv_istore_n (lv' := [(2, .int 0), (0, .ref h1), (1, .int hc)]) hx hb dM_lossOf_1 rfl hl (by decide) rfl (fun ls hl => ?_)
  refine lv_bipush (v := (nI 12)) hx hb dM_lossOf_2 (by decide) ?_
  refine lv_istore_n (lv' := [(3, .int (nI 12)), (2, .int 0), (0, .ref h1), (1, .int hc)]) hx hb dM_lossOf_4 rfl hl (by decide) rfl (fun ls hl => ?_)
  exact lp5 13 12 0 (by omega) (by omega) rfl ls (lv_sub hl [0, 1, 2, 3] rfl)
