def sn_ab (x : Int32) : Int32 := if 0 ≤ x then x else 0 - x
def sn_way (px py : Nat → Int32) (q i : Nat) : Int32 := sn_ab (px i - px q) + sn_ab (py i - py q)
def sn_ou (px py : Nat → Int32) (q : Nat) (wt : Int32) : Nat → Nat → (Nat → Int32) → (Nat → Int32) → (Nat → Int32) × (Nat → Int32)
  | 0, _, u, l => (u, l)
  | n + 1, i, u, l => if sn_hold wt (nI i) = true ∧ ¬ l i ≤ sn_way px py q i then sn_ou px py q wt n (i + 1) (upd u i (nI q)) (upd l i (sn_way px py q i)) else sn_ou px py q wt n (i + 1) u l
def sn_j0 (px py : Nat → Int32) : Nat → Nat → (Nat → Int32) → (Nat → Int32) → (Nat → Int32) × (Nat → Int32)
  | 0, _, u, l => (u, l)
  | n + 1, i, u, l => sn_j0 px py n (i + 1) (upd u i (-1)) (upd l i (px i + py i))
def sn_drop (wt : Int32) (q : Nat) : Int32 := wt &&& ((1 <<< (nI q &&& 31)) ^^^ (-1))
def sn_jp (px py : Nat → Int32) : Nat → Nat → Int32 → (Nat → Int32) → (Nat → Int32) → (Nat → Int32) → (Nat → Int32) → Int32 → (Nat → Int32) × (Nat → Int32) × (Nat → Int32) × (Nat → Int32) × Int32
  | 0, _, _, u, l, t, j, c => (u, l, t, j, c)
  | n + 1, i, wt, u, l, t, j, c => if sn_no l wt 12 0 (-1) 0 = -1 then (u, l, t, j, c) else
    sn_jp px py n (i + 1) (sn_drop wt (sn_no l wt 12 0 (-1) 0).toNatClampNeg) (sn_ou px py (sn_no l wt 12 0 (-1) 0).toNatClampNeg (sn_drop wt (sn_no l wt 12 0 (-1) 0).toNatClampNeg) 12 0 u l).1 (sn_ou px py (sn_no l wt 12 0 (-1) 0).toNatClampNeg (sn_drop wt (sn_no l wt 12 0 (-1) 0).toNatClampNeg) 12 0 u l).2 (upd t (sn_no l wt 12 0 (-1) 0).toNatClampNeg (nI i)) (upd j i (sn_no l wt 12 0 (-1) 0)) (nI (i + 1))
def sn_join (px py : Nat → Int32) (set : Int32) (u l t j : Nat → Int32) : (Nat → Int32) × (Nat → Int32) × (Nat → Int32) × (Nat → Int32) × Int32 := sn_jp px py 12 0 set (sn_j0 px py 12 0 u l).1 (sn_j0 px py 12 0 u l).2 t j 0
theorem sn_jp_step {px py : Nat → Int32} {n i q : Nat} {wt c : Int32} {u l t j : Nat → Int32} (h : sn_no l wt 12 0 (-1) 0 = nI q) (hq : q < 12 := by assumption) : sn_jp px py (n + 1) i wt u l t j c = sn_jp px py n (i + 1) (sn_drop wt q) (sn_ou px py q (sn_drop wt q) 12 0 u l).1 (sn_ou px py q (sn_drop wt q) 12 0 u l).2 (upd t q (nI i)) (upd j i (nI q)) (nI (i + 1)) := by
  have e1 : ¬ (nI q = -1) := fun e => by
    have := congrArg Int32.toInt e
    rw [nI_toInt (by omega)] at this
    have e2 : (-1 : Int32).toInt = -1 := by decide
    omega
  rw [sn_jp, h, if_neg e1, nI_clamp (by omega)]
theorem sn_no_run (l : Nat → Int32) (wt : Int32) : ∀ (n i : Nat) (nr lt : Int32), i + n ≤ 12 → (nr = -1 ∨ ∃ q, q < 12 ∧ nr = nI q) → sn_no l wt n i nr lt = -1 ∨ ∃ q, q < 12 ∧ sn_no l wt n i nr lt = nI q := by
  intro n
  induction n with
  | zero => intro i nr lt _ h; exact h
  | succ n ih =>
    intro i nr lt hi h
    rw [sn_no]
    split
    · exact ih (i + 1) (nI i) (l i) (by omega) (Or.inr ⟨i, by omega, rfl⟩)
    · exact ih (i + 1) nr lt (by omega) h
theorem sn_no_spec {l : Nat → Int32} {wt : Int32} (h : ¬ sn_no l wt 12 0 (-1) 0 = -1) : ∃ q, q < 12 ∧ sn_no l wt 12 0 (-1) 0 = nI q := (sn_no_run l wt 12 0 (-1) 0 (by omega) (Or.inl rfl)).resolve_left h
set_option maxHeartbeats 4000000 in
set_option maxRecDepth 100000 in
theorem cN_offerUpper (l : Launch) (dC : Nat → ClassId) (dI : Nat → Nat → Nat) (h0 a_walls a_placeX a_placeY a_reachers a_lossOf a_upper a_length a_headsOn a_turn a_lack a_joined : Nat) (Wd Ht Pn : Nat) (rs old sc jc : Int32) (cI : ClassId) (f_placeX f_placeY f_upper f_length : Nat → Int32) (q : Nat) (wt : Int32) (sz : Nat) (hq : q < 12) : Met l yN_offerUpper (kN_offerUpper :: WD) { frames := 1, cells := 0, slots := 0, locals := 21 } (va_Pc [.ref h0, .int (nI q), .int wt] (xm (dC, dI) snC [(h0, .inr (0, [.int (nI Wd), .int (nI Ht), .ref a_walls, .int rs, .ref a_placeX, .ref a_placeY, .int (nI Pn), .ref a_reachers, .int old, .ref a_lossOf, .int sc, .ref a_upper, .ref a_length, .ref a_headsOn, .ref a_turn, .ref a_lack, .ref a_joined, .int jc])), (a_placeX, .inl (cI, 12, .inl f_placeX)), (a_placeY, .inl (cI, 12, .inl f_placeY)), (a_upper, .inl (cI, 12, .inl f_upper)), (a_length, .inl (cI, 12, .inl f_length))] [(cI, .int)] sz)) (va_Qv (fun _ : Unit => True) (fun _ => xo (dC, dI) snC [(h0, .inr (0, [.int (nI Wd), .int (nI Ht), .ref a_walls, .int rs, .ref a_placeX, .ref a_placeY, .int (nI Pn), .ref a_reachers, .int old, .ref a_lossOf, .int sc, .ref a_upper, .ref a_length, .ref a_headsOn, .ref a_turn, .ref a_lack, .ref a_joined, .int jc])), (a_placeX, .inl (cI, 12, .inl f_placeX)), (a_placeY, .inl (cI, 12, .inl f_placeY)), (a_upper, .inl (cI, 12, .inl ((sn_ou f_placeX f_placeY q wt 12 0 f_upper f_length).1))), (a_length, .inl (cI, 12, .inl ((sn_ou f_placeX f_placeY q wt 12 0 f_upper f_length).2)))] [(cI, .int)] (va_A [(h0, .inr (0, [.int (nI Wd), .int (nI Ht), .ref a_walls, .int rs, .ref a_placeX, .ref a_placeY, .int (nI Pn), .ref a_reachers, .int old, .ref a_lossOf, .int sc, .ref a_upper, .ref a_length, .ref a_headsOn, .ref a_turn, .ref a_lack, .ref a_joined, .int jc])), (a_placeX, .inl (cI, 12, .inl f_placeX)), (a_placeY, .inl (cI, 12, .inl f_placeY)), (a_upper, .inl (cI, 12, .inl f_upper)), (a_length, .inl (cI, 12, .inl f_length))] sz)) (va_A [(h0, .inr (0, [.int (nI Wd), .int (nI Ht), .ref a_walls, .int rs, .ref a_placeX, .ref a_placeY, .int (nI Pn), .ref a_reachers, .int old, .ref a_lossOf, .int sc, .ref a_upper, .ref a_length, .ref a_headsOn, .ref a_turn, .ref a_lack, .ref a_joined, .int jc])), (a_placeX, .inl (cI, 12, .inl f_placeX)), (a_placeY, .inl (cI, 12, .inl f_placeY)), (a_upper, .inl (cI, 12, .inl f_upper)), (a_length, .inl (cI, 12, .inl f_length))] sz)) 0 0 (va_A [(h0, .inr (0, [.int (nI Wd), .int (nI Ht), .ref a_walls, .int rs, .ref a_placeX, .ref a_placeY, .int (nI Pn), .ref a_reachers, .int old, .ref a_lossOf, .int sc, .ref a_upper, .ref a_length, .ref a_headsOn, .ref a_turn, .ref a_lack, .ref a_joined, .int jc])), (a_placeX, .inl (cI, 12, .inl f_placeX)), (a_placeY, .inl (cI, 12, .inl f_placeY)), (a_upper, .inl (cI, 12, .inl f_upper)), (a_length, .inl (cI, 12, .inl f_length))] sz) := by
  refine Met.ofW (cc := bN_offerUpper) (maxL := 5) (ret := none) (by decide) rfl ?_
  intro p e s m args below meth c s₁ B hml hv
  obtain ⟨rfl, hsz, hP, hK, hD0⟩ := hv
  have hx := B.exec
  have hb := B.bytes
  have hr := B.returns
  have hts : ∀ w ∈ WD, w.before _ s = true := fun w h => atoms_spec (ws := kN_offerUpper :: WD) B.pre w (List.mem_cons_of_mem _ h)
  have hown : s.vm.findClass R_N = some m.cls := findClass_of_methodNamed B.named
  have hlocks := B.notSynchronized
  subst hsz
  have hD := hD0.self (sz := s.heap.size)
  generalize hAe : va_A [(h0, .inr (0, [.int (nI Wd), .int (nI Ht), .ref a_walls, .int rs, .ref a_placeX, .ref a_placeY, .int (nI Pn), .ref a_reachers, .int old, .ref a_lossOf, .int sc, .ref a_upper, .ref a_length, .ref a_headsOn, .ref a_turn, .ref a_lack, .ref a_joined, .int jc])), (a_placeX, .inl (cI, 12, .inl f_placeX)), (a_placeY, .inl (cI, 12, .inl f_placeY)), (a_upper, .inl (cI, 12, .inl f_upper)), (a_length, .inl (cI, 12, .inl f_length))] s.heap.size = A at hD ⊢
  have hA : ∀ q : Nat, s.heap.size ≤ q → A q := fun q h => by rw [← hAe]; exact Or.inr h
  have hS : va_S A s.heap s.heap [] := va_S.rf
  have hl := lv_entry ([.ref h0, .int (nI q), .int wt]) (n := 5) (Nat.le_of_ble_eq_true rfl)
  rw [lg_entry_eq]
  generalize (lg_sl ([.ref h0, .int (nI q), .int wt]) ++ List.replicate (5 - (lg_sl ([.ref h0, .int (nI q), .int wt])).length) Slot.unset).toArray = ls at hl ⊢
  have hl : lv_has ls 5 [(0, .ref h0), (1, .int (nI q)), (2, .int wt)] := hl
  have lp2 : ∀ (k n : Nat) (i : Nat) (g1 g2 : Nat → Int32), n < k → i + n = 12 → sn_ou f_placeX f_placeY q wt n i g1 g2 = sn_ou f_placeX f_placeY q wt 12 0 f_upper f_length → ∀ (H : Heap) (locs : List Loc), va_P (dC, dI) snC [(h0, .inr (0, [.int (nI Wd), .int (nI Ht), .ref a_walls, .int rs, .ref a_placeX, .ref a_placeY, .int (nI Pn), .ref a_reachers, .int old, .ref a_lossOf, .int sc, .ref a_upper, .ref a_length, .ref a_headsOn, .ref a_turn, .ref a_lack, .ref a_joined, .int jc])), (a_placeX, .inl (cI, 12, .inl f_placeX)), (a_placeY, .inl (cI, 12, .inl f_placeY)), (a_upper, .inl (cI, 12, .inl g1)), (a_length, .inl (cI, 12, .inl g2))] H → va_D A [(h0, .inr (0, [.int (nI Wd), .int (nI Ht), .ref a_walls, .int rs, .ref a_placeX, .ref a_placeY, .int (nI Pn), .ref a_reachers, .int old, .ref a_lossOf, .int sc, .ref a_upper, .ref a_length, .ref a_headsOn, .ref a_turn, .ref a_lack, .ref a_joined, .int jc])), (a_placeX, .inl (cI, 12, .inl f_placeX)), (a_placeY, .inl (cI, 12, .inl f_placeY)), (a_upper, .inl (cI, 12, .inl g1)), (a_length, .inl (cI, 12, .inl g2))] → va_S A s.heap H locs → ∀ ls : Array Slot, lv_has ls 5 [(3, .int (nI i)), (0, .ref h0), (1, .int (nI q)), (2, .int wt)] → W p l e (headSpec (kN_offerUpper :: WD) { frames := 1, cells := 0, slots := 0, locals := 21 }).room s m ([.ref h0, .int (nI q), .int wt]).toArray below meth c H locs 0 0 (MQ below (va_Qv (fun _ : Unit => True) (fun _ => xo (dC, dI) snC [(h0, .inr (0, [.int (nI Wd), .int (nI Ht), .ref a_walls, .int rs, .ref a_placeX, .ref a_placeY, .int (nI Pn), .ref a_reachers, .int old, .ref a_lossOf, .int sc, .ref a_upper, .ref a_length, .ref a_headsOn, .ref a_turn, .ref a_lack, .ref a_joined, .int jc])), (a_placeX, .inl (cI, 12, .inl f_placeX)), (a_placeY, .inl (cI, 12, .inl f_placeY)), (a_upper, .inl (cI, 12, .inl ((sn_ou f_placeX f_placeY q wt 12 0 f_upper f_length).1))), (a_length, .inl (cI, 12, .inl ((sn_ou f_placeX f_placeY q wt 12 0 f_upper f_length).2)))] [(cI, .int)] A) A) ([.ref h0, .int (nI q), .int wt]).toArray s 0 0 (A)) (F0 m 2 ls []) := by
    intro k
    induction k with
    | zero => exact fun n _ _ _ h => absurd h (Nat.not_lt_zero n)
    | succ k ih =>
      intro n i g1 g2 hk hin hT H locs hP hD hS ls hl
      refine lv_iload_n hx hb dN_offerUpper_2 rfl (lv_at hl 0 rfl) ?_
      refine lv_bipush (v := (nI 12)) hx hb dN_offerUpper_3 (by decide) ?_
      refine lv_icmp_ge (tgt := 83) hx hb dN_offerUpper_5 (by decide) (fun c_1 => ?_) (fun c_1 => ?_)
      · have hz := (nI_leI (by omega) (by omega)).mp c_1
        obtain rfl : n = 0 := by omega
        rw [show sn_ou f_placeX f_placeY q wt 12 0 f_upper f_length = (g1, g2) from by rw [← hT]; simp [sn_ou]]
        exact W.vret hx hb hr (fun t ht hW => ⟨⟨(), rfl, trivial, by rw [ht]; exact hP, va_K.moved hW.alike hK, hD⟩, hS.F ht⟩) hS.2.2 dN_offerUpper_83
      · have hz : i < 12 := by have h9 := mt (nI_leI (by omega) (by omega)).mpr c_1; omega
        obtain ⟨n, rfl⟩ : ∃ n', n = n' + 1 := ⟨n - 1, by omega⟩
        refine lv_aload_n hx hb dN_offerUpper_8 rfl (lv_at hl 1 rfl) ?_
        refine va_get (D := (dC, dI)) (ci := 0) (v := .ref a_placeX) (C := R_N) (T := T_N) (N := 18) hx hb hts in_N hown hK hP 0 rfl rfl 4 (by decide) (hts _ flN32) (fun _ h9 => h9) rfl dN_offerUpper_9 ?_
        refine lv_iload_n hx hb dN_offerUpper_12 rfl (lv_at hl 0 rfl) ?_
        refine xa_iald hx hb hK hP 1 0 rfl rfl (i := i) (by omega) (by first | decide | omega) dN_offerUpper_13 ?_
        refine lv_aload_n hx hb dN_offerUpper_14 rfl (lv_at hl 1 rfl) ?_
        refine va_get (D := (dC, dI)) (ci := 0) (v := .ref a_placeX) (C := R_N) (T := T_N) (N := 18) hx hb hts in_N hown hK hP 0 rfl rfl 4 (by decide) (hts _ flN32) (fun _ h9 => h9) rfl dN_offerUpper_15 ?_
        refine lv_iload_n hx hb dN_offerUpper_18 rfl (lv_at hl 2 rfl) ?_
        refine xa_iald hx hb hK hP 1 0 rfl rfl (i := q) (by omega) (by first | decide | omega) dN_offerUpper_19 ?_
        refine lv_isub hx hb dN_offerUpper_20 ?_
        refine va_mabs hx hb (hml.trans hl.1.symm) hown (hts _ mlN168) (hts _ smH_abs) (hts _ iniH) (hts _ kwH_abs) (Nat.le_of_ble_eq_true rfl) (Nat.le_of_ble_eq_true rfl) (Nat.zero_le _) (Nat.zero_le _) dN_offerUpper_21 ?_
        rw [show (if 0 ≤ ((f_placeX i) - (f_placeX q)) then ((f_placeX i) - (f_placeX q)) else 0 - ((f_placeX i) - (f_placeX q)) : Int32) = sn_ab (f_placeX i - f_placeX q) from rfl]
        refine lv_aload_n hx hb dN_offerUpper_24 rfl (lv_at hl 1 rfl) ?_
        refine va_get (D := (dC, dI)) (ci := 0) (v := .ref a_placeY) (C := R_N) (T := T_N) (N := 18) hx hb hts in_N hown hK hP 0 rfl rfl 5 (by decide) (hts _ flN36) (fun _ h9 => h9) rfl dN_offerUpper_25 ?_
        refine lv_iload_n hx hb dN_offerUpper_28 rfl (lv_at hl 0 rfl) ?_
        refine xa_iald hx hb hK hP 2 0 rfl rfl (i := i) (by omega) (by first | decide | omega) dN_offerUpper_29 ?_
        refine lv_aload_n hx hb dN_offerUpper_30 rfl (lv_at hl 1 rfl) ?_
        refine va_get (D := (dC, dI)) (ci := 0) (v := .ref a_placeY) (C := R_N) (T := T_N) (N := 18) hx hb hts in_N hown hK hP 0 rfl rfl 5 (by decide) (hts _ flN36) (fun _ h9 => h9) rfl dN_offerUpper_31 ?_
        refine lv_iload_n hx hb dN_offerUpper_34 rfl (lv_at hl 2 rfl) ?_
        refine xa_iald hx hb hK hP 2 0 rfl rfl (i := q) (by omega) (by first | decide | omega) dN_offerUpper_35 ?_
        refine lv_isub hx hb dN_offerUpper_36 ?_
        refine va_mabs hx hb (hml.trans hl.1.symm) hown (hts _ mlN168) (hts _ smH_abs) (hts _ iniH) (hts _ kwH_abs) (Nat.le_of_ble_eq_true rfl) (Nat.le_of_ble_eq_true rfl) (Nat.zero_le _) (Nat.zero_le _) dN_offerUpper_37 ?_
        rw [show (if 0 ≤ ((f_placeY i) - (f_placeY q)) then ((f_placeY i) - (f_placeY q)) else 0 - ((f_placeY i) - (f_placeY q)) : Int32) = sn_ab (f_placeY i - f_placeY q) from rfl]
        refine lv_iadd hx hb dN_offerUpper_40 ?_
        rw [show ((sn_ab (f_placeX i - f_placeX q)) + (sn_ab (f_placeY i - f_placeY q)) : Int32) = sn_way f_placeX f_placeY q i from rfl]
        refine lv_istore (lv' := [(4, .int (sn_way f_placeX f_placeY q i)), (3, .int (nI i)), (0, .ref h0), (1, .int (nI q)), (2, .int wt)]) hx hb dN_offerUpper_41 hl (by decide) rfl (fun ls hl => ?_)
        refine lv_iload_n hx hb dN_offerUpper_43 rfl (lv_at hl 4 rfl) ?_
        refine lv_iload_n hx hb dN_offerUpper_44 rfl (lv_at hl 1 rfl) ?_
        refine xr_S (As := [.int wt, .int (nI i)]) ⟨hx, hb, hml, hown, hts⟩ (cN_holds l dC dI wt (nI i)) (va_cwS 2 hts gN123 rfl rfl rfl (by decide +kernel) ⟨Nat.le_of_ble_eq_true rfl, Nat.le_of_ble_eq_true rfl⟩) hK hP [] [] rfl rfl rfl hl.1 rfl (Nat.le_of_ble_eq_true rfl) dN_offerUpper_45 ⟨Nat.zero_le _, Nat.zero_le _⟩ (fun r_2 hr_2 => ?_)
        subst hr_2
        refine lv_if_eq (tgt := 77) hx hb dN_offerUpper_48 (by decide) (fun c_3 => ?_) (fun c_3 => ?_)
        · replace c_3 := bz_0 c_3
          refine lv_iinc (v := (nI (i + 1))) (lv' := [(3, .int (nI (i + 1))), (4, .int (sn_way f_placeX f_placeY q i)), (0, .ref h0), (1, .int (nI q)), (2, .int wt)]) hx hb dN_offerUpper_77 hl (k := 1) rfl (nI_1 i) (by decide) rfl (fun ls hl => ?_)
          refine lv_goto (tgt := 2) hx hb dN_offerUpper_80 (by decide) ?_
          exact ih n (i + 1) g1 g2 (by omega) (by omega) (by rw [← hT]; simp [sn_ou, c_1, c_3]) _ _ hP hD hS ls (lv_sub hl [0, 2, 3, 4] rfl)
        · replace c_3 := bz_1 c_3
          refine lv_iload hx hb dN_offerUpper_51 (lv_at hl 0 rfl) ?_
          refine lv_aload_n hx hb dN_offerUpper_53 rfl (lv_at hl 2 rfl) ?_
          refine va_get (D := (dC, dI)) (ci := 0) (v := .ref a_length) (C := R_N) (T := T_N) (N := 18) hx hb hts in_N hown hK hP 0 rfl rfl 12 (by decide) (hts _ flN64) (fun _ h9 => h9) rfl dN_offerUpper_54 ?_
          refine lv_iload_n hx hb dN_offerUpper_57 rfl (lv_at hl 1 rfl) ?_
          refine xa_iald hx hb hK hP 4 0 rfl rfl (i := i) (by omega) (by first | decide | omega) dN_offerUpper_58 ?_
          refine lv_icmp_ge (tgt := 77) hx hb dN_offerUpper_59 (by decide) (fun c_4 => ?_) (fun c_4 => ?_)
          · refine lv_iinc (v := (nI (i + 1))) (lv' := [(3, .int (nI (i + 1))), (4, .int (sn_way f_placeX f_placeY q i)), (0, .ref h0), (1, .int (nI q)), (2, .int wt)]) hx hb dN_offerUpper_77 hl (k := 1) rfl (nI_1 i) (by decide) rfl (fun ls hl => ?_)
            refine lv_goto (tgt := 2) hx hb dN_offerUpper_80 (by decide) ?_
            exact ih n (i + 1) g1 g2 (by omega) (by omega) (by rw [← hT]; simp [sn_ou, c_1, c_3, c_4]) _ _ hP hD hS ls (lv_sub hl [0, 2, 3, 4] rfl)
          · refine lv_aload_n hx hb dN_offerUpper_62 rfl (lv_at hl 2 rfl) ?_
            refine va_get (D := (dC, dI)) (ci := 0) (v := .ref a_upper) (C := R_N) (T := T_N) (N := 18) hx hb hts in_N hown hK hP 0 rfl rfl 11 (by decide) (hts _ flN61) (fun _ h9 => h9) rfl dN_offerUpper_63 ?_
            refine lv_iload_n hx hb dN_offerUpper_66 rfl (lv_at hl 1 rfl) ?_
            refine lv_iload_n hx hb dN_offerUpper_67 rfl (lv_at hl 3 rfl) ?_
            refine xa_iast hx hb hK hP hD hS 3 0 rfl rfl (i := i) (x := nI q) (by omega) (by first | decide | omega) dN_offerUpper_68 (fun H locs hP hD hS => ?_)
            have hP : va_P (dC, dI) snC [(h0, .inr (0, [.int (nI Wd), .int (nI Ht), .ref a_walls, .int rs, .ref a_placeX, .ref a_placeY, .int (nI Pn), .ref a_reachers, .int old, .ref a_lossOf, .int sc, .ref a_upper, .ref a_length, .ref a_headsOn, .ref a_turn, .ref a_lack, .ref a_joined, .int jc])), (a_placeX, .inl (cI, 12, .inl f_placeX)), (a_placeY, .inl (cI, 12, .inl f_placeY)), (a_upper, .inl (cI, 12, .inl (upd g1 i (nI q)))), (a_length, .inl (cI, 12, .inl g2))] H := hP
            have hD : va_D A [(h0, .inr (0, [.int (nI Wd), .int (nI Ht), .ref a_walls, .int rs, .ref a_placeX, .ref a_placeY, .int (nI Pn), .ref a_reachers, .int old, .ref a_lossOf, .int sc, .ref a_upper, .ref a_length, .ref a_headsOn, .ref a_turn, .ref a_lack, .ref a_joined, .int jc])), (a_placeX, .inl (cI, 12, .inl f_placeX)), (a_placeY, .inl (cI, 12, .inl f_placeY)), (a_upper, .inl (cI, 12, .inl (upd g1 i (nI q)))), (a_length, .inl (cI, 12, .inl g2))] := hD
            refine lv_aload_n hx hb dN_offerUpper_69 rfl (lv_at hl 2 rfl) ?_
            refine va_get (D := (dC, dI)) (ci := 0) (v := .ref a_length) (C := R_N) (T := T_N) (N := 18) hx hb hts in_N hown hK hP 0 rfl rfl 12 (by decide) (hts _ flN64) (fun _ h9 => h9) rfl dN_offerUpper_70 ?_
            refine lv_iload_n hx hb dN_offerUpper_73 rfl (lv_at hl 1 rfl) ?_
            refine lv_iload hx hb dN_offerUpper_74 (lv_at hl 0 rfl) ?_
            refine xa_iast hx hb hK hP hD hS 4 0 rfl rfl (i := i) (x := sn_way f_placeX f_placeY q i) (by omega) (by first | decide | omega) dN_offerUpper_76 (fun H locs hP hD hS => ?_)
            have hP : va_P (dC, dI) snC [(h0, .inr (0, [.int (nI Wd), .int (nI Ht), .ref a_walls, .int rs, .ref a_placeX, .ref a_placeY, .int (nI Pn), .ref a_reachers, .int old, .ref a_lossOf, .int sc, .ref a_upper, .ref a_length, .ref a_headsOn, .ref a_turn, .ref a_lack, .ref a_joined, .int jc])), (a_placeX, .inl (cI, 12, .inl f_placeX)), (a_placeY, .inl (cI, 12, .inl f_placeY)), (a_upper, .inl (cI, 12, .inl (upd g1 i (nI q)))), (a_length, .inl (cI, 12, .inl (upd g2 i (sn_way f_placeX f_placeY q i))))] H := hP
            have hD : va_D A [(h0, .inr (0, [.int (nI Wd), .int (nI Ht), .ref a_walls, .int rs, .ref a_placeX, .ref a_placeY, .int (nI Pn), .ref a_reachers, .int old, .ref a_lossOf, .int sc, .ref a_upper, .ref a_length, .ref a_headsOn, .ref a_turn, .ref a_lack, .ref a_joined, .int jc])), (a_placeX, .inl (cI, 12, .inl f_placeX)), (a_placeY, .inl (cI, 12, .inl f_placeY)), (a_upper, .inl (cI, 12, .inl (upd g1 i (nI q)))), (a_length, .inl (cI, 12, .inl (upd g2 i (sn_way f_placeX f_placeY q i))))] := hD
            refine lv_iinc (v := (nI (i + 1))) (lv' := [(3, .int (nI (i + 1))), (4, .int (sn_way f_placeX f_placeY q i)), (0, .ref h0), (1, .int (nI q)), (2, .int wt)]) hx hb dN_offerUpper_77 hl (k := 1) rfl (nI_1 i) (by decide) rfl (fun ls hl => ?_)
            refine lv_goto (tgt := 2) hx hb dN_offerUpper_80 (by decide) ?_
            exact ih n (i + 1) (upd g1 i (nI q)) (upd g2 i (sn_way f_placeX f_placeY q i)) (by omega) (by omega) (by rw [← hT]; simp [sn_ou, c_1, c_3, c_4]) _ _ hP hD hS ls (lv_sub hl [0, 2, 3, 4] rfl)
  refine lv_iconst (v := 0) hx hb dN_offerUpper_0 (by decide) ?_
  refine lv_istore_n (lv' := [(3, .int 0), (0, .ref h0), (1, .int (nI q)), (2, .int wt)]) hx hb dN_offerUpper_1 rfl hl (by decide) rfl (fun ls hl => ?_)
  exact lp2 13 12 0 f_upper f_length (by omega) (by omega) rfl _ _ hP hD hS ls (lv_sub hl [0, 1, 2, 3] rfl)
set_option maxHeartbeats 4000000 in
set_option maxRecDepth 100000 in
theorem cN_joinPlaces (l : Launch) (dC : Nat → ClassId) (dI : Nat → Nat → Nat) (h0 a_walls a_placeX a_placeY a_reachers a_lossOf a_upper a_length a_headsOn a_turn a_lack a_joined : Nat) (Wd Ht Pn : Nat) (rs old sc jc : Int32) (cI : ClassId) (f_placeX f_placeY f_upper f_length f_turn f_joined : Nat → Int32) (set : Int32) (sz : Nat)  : Met l yN_joinPlaces (kN_joinPlaces :: WD) { frames := 2, cells := 0, slots := 0, locals := 45 } (va_Pc [.ref h0, .int set] (xm (dC, dI) snC [(h0, .inr (0, [.int (nI Wd), .int (nI Ht), .ref a_walls, .int rs, .ref a_placeX, .ref a_placeY, .int (nI Pn), .ref a_reachers, .int old, .ref a_lossOf, .int sc, .ref a_upper, .ref a_length, .ref a_headsOn, .ref a_turn, .ref a_lack, .ref a_joined, .int jc])), (a_placeX, .inl (cI, 12, .inl f_placeX)), (a_placeY, .inl (cI, 12, .inl f_placeY)), (a_upper, .inl (cI, 12, .inl f_upper)), (a_length, .inl (cI, 12, .inl f_length)), (a_turn, .inl (cI, 12, .inl f_turn)), (a_joined, .inl (cI, 12, .inl f_joined))] [(cI, .int)] sz)) (va_Qv (fun _ : Unit => True) (fun _ => xo (dC, dI) snC [(h0, .inr (0, [.int (nI Wd), .int (nI Ht), .ref a_walls, .int rs, .ref a_placeX, .ref a_placeY, .int (nI Pn), .ref a_reachers, .int old, .ref a_lossOf, .int sc, .ref a_upper, .ref a_length, .ref a_headsOn, .ref a_turn, .ref a_lack, .ref a_joined, .int ((sn_join f_placeX f_placeY set f_upper f_length f_turn f_joined).2.2.2.2)])), (a_placeX, .inl (cI, 12, .inl f_placeX)), (a_placeY, .inl (cI, 12, .inl f_placeY)), (a_upper, .inl (cI, 12, .inl ((sn_join f_placeX f_placeY set f_upper f_length f_turn f_joined).1))), (a_length, .inl (cI, 12, .inl ((sn_join f_placeX f_placeY set f_upper f_length f_turn f_joined).2.1))), (a_turn, .inl (cI, 12, .inl ((sn_join f_placeX f_placeY set f_upper f_length f_turn f_joined).2.2.1))), (a_joined, .inl (cI, 12, .inl ((sn_join f_placeX f_placeY set f_upper f_length f_turn f_joined).2.2.2.1)))] [(cI, .int)] (va_A [(h0, .inr (0, [.int (nI Wd), .int (nI Ht), .ref a_walls, .int rs, .ref a_placeX, .ref a_placeY, .int (nI Pn), .ref a_reachers, .int old, .ref a_lossOf, .int sc, .ref a_upper, .ref a_length, .ref a_headsOn, .ref a_turn, .ref a_lack, .ref a_joined, .int jc])), (a_placeX, .inl (cI, 12, .inl f_placeX)), (a_placeY, .inl (cI, 12, .inl f_placeY)), (a_upper, .inl (cI, 12, .inl f_upper)), (a_length, .inl (cI, 12, .inl f_length)), (a_turn, .inl (cI, 12, .inl f_turn)), (a_joined, .inl (cI, 12, .inl f_joined))] sz)) (va_A [(h0, .inr (0, [.int (nI Wd), .int (nI Ht), .ref a_walls, .int rs, .ref a_placeX, .ref a_placeY, .int (nI Pn), .ref a_reachers, .int old, .ref a_lossOf, .int sc, .ref a_upper, .ref a_length, .ref a_headsOn, .ref a_turn, .ref a_lack, .ref a_joined, .int jc])), (a_placeX, .inl (cI, 12, .inl f_placeX)), (a_placeY, .inl (cI, 12, .inl f_placeY)), (a_upper, .inl (cI, 12, .inl f_upper)), (a_length, .inl (cI, 12, .inl f_length)), (a_turn, .inl (cI, 12, .inl f_turn)), (a_joined, .inl (cI, 12, .inl f_joined))] sz)) 0 0 (va_A [(h0, .inr (0, [.int (nI Wd), .int (nI Ht), .ref a_walls, .int rs, .ref a_placeX, .ref a_placeY, .int (nI Pn), .ref a_reachers, .int old, .ref a_lossOf, .int sc, .ref a_upper, .ref a_length, .ref a_headsOn, .ref a_turn, .ref a_lack, .ref a_joined, .int jc])), (a_placeX, .inl (cI, 12, .inl f_placeX)), (a_placeY, .inl (cI, 12, .inl f_placeY)), (a_upper, .inl (cI, 12, .inl f_upper)), (a_length, .inl (cI, 12, .inl f_length)), (a_turn, .inl (cI, 12, .inl f_turn)), (a_joined, .inl (cI, 12, .inl f_joined))] sz) := by
  refine Met.ofW (cc := bN_joinPlaces) (maxL := 5) (ret := none) (by decide) rfl ?_
  intro p e s m args below meth c s₁ B hml hv
  obtain ⟨rfl, hsz, hP, hK, hD0⟩ := hv
  have hx := B.exec
  have hb := B.bytes
  have hr := B.returns
  have hts : ∀ w ∈ WD, w.before _ s = true := fun w h => atoms_spec (ws := kN_joinPlaces :: WD) B.pre w (List.mem_cons_of_mem _ h)
  have hown : s.vm.findClass R_N = some m.cls := findClass_of_methodNamed B.named
  have hlocks := B.notSynchronized
  subst hsz
  have hD := hD0.self (sz := s.heap.size)
  generalize hAe : va_A [(h0, .inr (0, [.int (nI Wd), .int (nI Ht), .ref a_walls, .int rs, .ref a_placeX, .ref a_placeY, .int (nI Pn), .ref a_reachers, .int old, .ref a_lossOf, .int sc, .ref a_upper, .ref a_length, .ref a_headsOn, .ref a_turn, .ref a_lack, .ref a_joined, .int jc])), (a_placeX, .inl (cI, 12, .inl f_placeX)), (a_placeY, .inl (cI, 12, .inl f_placeY)), (a_upper, .inl (cI, 12, .inl f_upper)), (a_length, .inl (cI, 12, .inl f_length)), (a_turn, .inl (cI, 12, .inl f_turn)), (a_joined, .inl (cI, 12, .inl f_joined))] s.heap.size = A at hD ⊢
  have hA : ∀ q : Nat, s.heap.size ≤ q → A q := fun q h => by rw [← hAe]; exact Or.inr h
  have hS : va_S A s.heap s.heap [] := va_S.rf
  have hl := lv_entry ([.ref h0, .int set]) (n := 5) (Nat.le_of_ble_eq_true rfl)
  rw [lg_entry_eq]
  generalize (lg_sl ([.ref h0, .int set]) ++ List.replicate (5 - (lg_sl ([.ref h0, .int set])).length) Slot.unset).toArray = ls at hl ⊢
  have hl : lv_has ls 5 [(0, .ref h0), (1, .int set)] := hl
  have lp49 : ∀ (k n : Nat) (i : Nat) (wt : Int32) (g1 g2 g3 g4 : Nat → Int32) (jj : Int32), n < k → i + n = 12 → sn_jp f_placeX f_placeY n i wt g1 g2 g3 g4 jj = sn_join f_placeX f_placeY set f_upper f_length f_turn f_joined → ∀ (H : Heap) (locs : List Loc), va_P (dC, dI) snC [(h0, .inr (0, [.int (nI Wd), .int (nI Ht), .ref a_walls, .int rs, .ref a_placeX, .ref a_placeY, .int (nI Pn), .ref a_reachers, .int old, .ref a_lossOf, .int sc, .ref a_upper, .ref a_length, .ref a_headsOn, .ref a_turn, .ref a_lack, .ref a_joined, .int jj])), (a_placeX, .inl (cI, 12, .inl f_placeX)), (a_placeY, .inl (cI, 12, .inl f_placeY)), (a_upper, .inl (cI, 12, .inl g1)), (a_length, .inl (cI, 12, .inl g2)), (a_turn, .inl (cI, 12, .inl g3)), (a_joined, .inl (cI, 12, .inl g4))] H → va_D A [(h0, .inr (0, [.int (nI Wd), .int (nI Ht), .ref a_walls, .int rs, .ref a_placeX, .ref a_placeY, .int (nI Pn), .ref a_reachers, .int old, .ref a_lossOf, .int sc, .ref a_upper, .ref a_length, .ref a_headsOn, .ref a_turn, .ref a_lack, .ref a_joined, .int jj])), (a_placeX, .inl (cI, 12, .inl f_placeX)), (a_placeY, .inl (cI, 12, .inl f_placeY)), (a_upper, .inl (cI, 12, .inl g1)), (a_length, .inl (cI, 12, .inl g2)), (a_turn, .inl (cI, 12, .inl g3)), (a_joined, .inl (cI, 12, .inl g4))] → va_S A s.heap H locs → ∀ ls : Array Slot, lv_has ls 5 [(3, .int (nI i)), (2, .int wt), (0, .ref h0), (1, .int set)] → W p l e (headSpec (kN_joinPlaces :: WD) { frames := 2, cells := 0, slots := 0, locals := 45 }).room s m ([.ref h0, .int set]).toArray below meth c H locs 0 0 (MQ below (va_Qv (fun _ : Unit => True) (fun _ => xo (dC, dI) snC [(h0, .inr (0, [.int (nI Wd), .int (nI Ht), .ref a_walls, .int rs, .ref a_placeX, .ref a_placeY, .int (nI Pn), .ref a_reachers, .int old, .ref a_lossOf, .int sc, .ref a_upper, .ref a_length, .ref a_headsOn, .ref a_turn, .ref a_lack, .ref a_joined, .int ((sn_join f_placeX f_placeY set f_upper f_length f_turn f_joined).2.2.2.2)])), (a_placeX, .inl (cI, 12, .inl f_placeX)), (a_placeY, .inl (cI, 12, .inl f_placeY)), (a_upper, .inl (cI, 12, .inl ((sn_join f_placeX f_placeY set f_upper f_length f_turn f_joined).1))), (a_length, .inl (cI, 12, .inl ((sn_join f_placeX f_placeY set f_upper f_length f_turn f_joined).2.1))), (a_turn, .inl (cI, 12, .inl ((sn_join f_placeX f_placeY set f_upper f_length f_turn f_joined).2.2.1))), (a_joined, .inl (cI, 12, .inl ((sn_join f_placeX f_placeY set f_upper f_length f_turn f_joined).2.2.2.1)))] [(cI, .int)] A) A) ([.ref h0, .int set]).toArray s 0 0 (A)) (F0 m 49 ls []) := by
    intro k
    induction k with
    | zero => exact fun n _ _ _ _ _ _ _ h => absurd h (Nat.not_lt_zero n)
    | succ k ih =>
      intro n i wt g1 g2 g3 g4 jj hk hin hT H locs hP hD hS ls hl
      refine lv_iload_n hx hb dN_joinPlaces_49 rfl (lv_at hl 0 rfl) ?_
      refine lv_bipush (v := (nI 12)) hx hb dN_joinPlaces_50 (by decide) ?_
      refine lv_icmp_ge (tgt := 114) hx hb dN_joinPlaces_52 (by decide) (fun c_1 => ?_) (fun c_1 => ?_)
      · have hz := (nI_leI (by omega) (by omega)).mp c_1
        obtain rfl : n = 0 := by omega
        rw [show sn_join f_placeX f_placeY set f_upper f_length f_turn f_joined = (g1, g2, g3, g4, jj) from by rw [← hT]; simp [sn_jp]]
        exact W.vret hx hb hr (fun t ht hW => ⟨⟨(), rfl, trivial, by rw [ht]; exact hP, va_K.moved hW.alike hK, hD⟩, hS.F ht⟩) hS.2.2 dN_joinPlaces_114
      · have hz : i < 12 := by have h9 := mt (nI_leI (by omega) (by omega)).mpr c_1; omega
        obtain ⟨n, rfl⟩ : ∃ n', n = n' + 1 := ⟨n - 1, by omega⟩
        refine lv_aload_n hx hb dN_joinPlaces_55 rfl (lv_at hl 2 rfl) ?_
        refine lv_iload_n hx hb dN_joinPlaces_56 rfl (lv_at hl 1 rfl) ?_
        refine xr_V (As := [.int wt]) ⟨hx, hb, hml, hown, hts⟩ (cN_nearestOf l dC dI h0 a_walls a_placeX a_placeY a_reachers a_lossOf a_upper a_length a_headsOn a_turn a_lack a_joined Wd Ht Pn rs old sc jj cI g2 wt) (cwV 1 hts gN187 rfl rfl rfl (by decide +kernel) ⟨Nat.le_of_ble_eq_true rfl, Nat.le_of_ble_eq_true rfl⟩) hK hP [0, 4] [0] rfl rfl 0 0 rfl rfl rfl rfl hl.1 rfl (Nat.le_of_ble_eq_true rfl) dN_joinPlaces_57 ⟨Nat.zero_le _, Nat.zero_le _⟩ (fun nx hnx => ?_)
        refine lv_istore (lv' := [(4, .int nx), (3, .int (nI i)), (2, .int wt), (0, .ref h0), (1, .int set)]) hx hb dN_joinPlaces_60 hl (by decide) rfl (fun ls hl => ?_)
        refine lv_iload hx hb dN_joinPlaces_62 (lv_at hl 0 rfl) ?_
        refine lv_iconst (v := (-1)) hx hb dN_joinPlaces_64 (by decide) ?_
        refine lv_icmp_ne (tgt := 69) hx hb dN_joinPlaces_65 (by decide) (fun c_2 => ?_) (fun c_2 => ?_)
        · obtain ⟨q, hq, eq⟩ := sn_no_spec (hnx ▸ c_2 : ¬ sn_no g2 wt 12 0 (-1) 0 = -1)
          obtain rfl : nx = nI q := hnx.trans eq
          have hnq : sn_no g2 wt 12 0 (-1) 0 = nI q := eq
          refine lv_aload_n hx hb dN_joinPlaces_69 rfl (lv_at hl 3 rfl) ?_
          refine va_get (D := (dC, dI)) (ci := 0) (v := .ref a_joined) (C := R_N) (T := T_N) (N := 18) hx hb hts in_N hown hK hP 0 rfl rfl 16 (by decide) (hts _ flN76) (fun _ h9 => h9) rfl dN_joinPlaces_70 ?_
          refine lv_iload_n hx hb dN_joinPlaces_73 rfl (lv_at hl 1 rfl) ?_
          refine lv_iload hx hb dN_joinPlaces_74 (lv_at hl 0 rfl) ?_
          refine xa_iast hx hb hK hP hD hS 6 0 rfl rfl (i := i) (x := (nI q)) (by omega) (by first | decide | omega) dN_joinPlaces_76 (fun H locs hP hD hS => ?_)
          have hP : va_P (dC, dI) snC [(h0, .inr (0, [.int (nI Wd), .int (nI Ht), .ref a_walls, .int rs, .ref a_placeX, .ref a_placeY, .int (nI Pn), .ref a_reachers, .int old, .ref a_lossOf, .int sc, .ref a_upper, .ref a_length, .ref a_headsOn, .ref a_turn, .ref a_lack, .ref a_joined, .int jj])), (a_placeX, .inl (cI, 12, .inl f_placeX)), (a_placeY, .inl (cI, 12, .inl f_placeY)), (a_upper, .inl (cI, 12, .inl g1)), (a_length, .inl (cI, 12, .inl g2)), (a_turn, .inl (cI, 12, .inl g3)), (a_joined, .inl (cI, 12, .inl (upd g4 i (nI q))))] H := hP
          have hD : va_D A [(h0, .inr (0, [.int (nI Wd), .int (nI Ht), .ref a_walls, .int rs, .ref a_placeX, .ref a_placeY, .int (nI Pn), .ref a_reachers, .int old, .ref a_lossOf, .int sc, .ref a_upper, .ref a_length, .ref a_headsOn, .ref a_turn, .ref a_lack, .ref a_joined, .int jj])), (a_placeX, .inl (cI, 12, .inl f_placeX)), (a_placeY, .inl (cI, 12, .inl f_placeY)), (a_upper, .inl (cI, 12, .inl g1)), (a_length, .inl (cI, 12, .inl g2)), (a_turn, .inl (cI, 12, .inl g3)), (a_joined, .inl (cI, 12, .inl (upd g4 i (nI q))))] := hD
          refine lv_aload_n hx hb dN_joinPlaces_77 rfl (lv_at hl 3 rfl) ?_
          refine va_get (D := (dC, dI)) (ci := 0) (v := .ref a_turn) (C := R_N) (T := T_N) (N := 18) hx hb hts in_N hown hK hP 0 rfl rfl 14 (by decide) (hts _ flN70) (fun _ h9 => h9) rfl dN_joinPlaces_78 ?_
          refine lv_iload hx hb dN_joinPlaces_81 (lv_at hl 0 rfl) ?_
          refine lv_iload_n hx hb dN_joinPlaces_83 rfl (lv_at hl 1 rfl) ?_
          refine xa_iast hx hb hK hP hD hS 5 0 rfl rfl (i := q) (x := nI i) (by omega) (by first | decide | omega) dN_joinPlaces_84 (fun H locs hP hD hS => ?_)
          have hP : va_P (dC, dI) snC [(h0, .inr (0, [.int (nI Wd), .int (nI Ht), .ref a_walls, .int rs, .ref a_placeX, .ref a_placeY, .int (nI Pn), .ref a_reachers, .int old, .ref a_lossOf, .int sc, .ref a_upper, .ref a_length, .ref a_headsOn, .ref a_turn, .ref a_lack, .ref a_joined, .int jj])), (a_placeX, .inl (cI, 12, .inl f_placeX)), (a_placeY, .inl (cI, 12, .inl f_placeY)), (a_upper, .inl (cI, 12, .inl g1)), (a_length, .inl (cI, 12, .inl g2)), (a_turn, .inl (cI, 12, .inl (upd g3 q (nI i)))), (a_joined, .inl (cI, 12, .inl (upd g4 i (nI q))))] H := hP
          have hD : va_D A [(h0, .inr (0, [.int (nI Wd), .int (nI Ht), .ref a_walls, .int rs, .ref a_placeX, .ref a_placeY, .int (nI Pn), .ref a_reachers, .int old, .ref a_lossOf, .int sc, .ref a_upper, .ref a_length, .ref a_headsOn, .ref a_turn, .ref a_lack, .ref a_joined, .int jj])), (a_placeX, .inl (cI, 12, .inl f_placeX)), (a_placeY, .inl (cI, 12, .inl f_placeY)), (a_upper, .inl (cI, 12, .inl g1)), (a_length, .inl (cI, 12, .inl g2)), (a_turn, .inl (cI, 12, .inl (upd g3 q (nI i)))), (a_joined, .inl (cI, 12, .inl (upd g4 i (nI q))))] := hD
          refine lv_aload_n hx hb dN_joinPlaces_85 rfl (lv_at hl 3 rfl) ?_
          refine lv_iload_n hx hb dN_joinPlaces_86 rfl (lv_at hl 1 rfl) ?_
          refine lv_iconst (v := 1) hx hb dN_joinPlaces_87 (by decide) ?_
          refine lv_iadd hx hb dN_joinPlaces_88 ?_
          rw [show ((nI i) + 1 : Int32) = nI (i + 1) from (nI_1 i)]
          refine va_put (D := (dC, dI)) (ci := 0) (v := .int (nI (i + 1))) (ty := .int) (C := R_N) (T := T_N) (N := 18) hx hb hts in_N t_N tok_N n_N hown hK hP hD hS 0 rfl rfl 17 (by decide) (hts _ flN79) (fun _ h9 => h9) rfl (by decide +kernel) rfl rfl (Nat.le_of_ble_eq_true rfl) dN_joinPlaces_89 (fun H locs hP hD hS => ?_)
          have hP : va_P (dC, dI) snC [(h0, .inr (0, [.int (nI Wd), .int (nI Ht), .ref a_walls, .int rs, .ref a_placeX, .ref a_placeY, .int (nI Pn), .ref a_reachers, .int old, .ref a_lossOf, .int sc, .ref a_upper, .ref a_length, .ref a_headsOn, .ref a_turn, .ref a_lack, .ref a_joined, .int (nI (i + 1))])), (a_placeX, .inl (cI, 12, .inl f_placeX)), (a_placeY, .inl (cI, 12, .inl f_placeY)), (a_upper, .inl (cI, 12, .inl g1)), (a_length, .inl (cI, 12, .inl g2)), (a_turn, .inl (cI, 12, .inl (upd g3 q (nI i)))), (a_joined, .inl (cI, 12, .inl (upd g4 i (nI q))))] H := hP
          have hD : va_D A [(h0, .inr (0, [.int (nI Wd), .int (nI Ht), .ref a_walls, .int rs, .ref a_placeX, .ref a_placeY, .int (nI Pn), .ref a_reachers, .int old, .ref a_lossOf, .int sc, .ref a_upper, .ref a_length, .ref a_headsOn, .ref a_turn, .ref a_lack, .ref a_joined, .int (nI (i + 1))])), (a_placeX, .inl (cI, 12, .inl f_placeX)), (a_placeY, .inl (cI, 12, .inl f_placeY)), (a_upper, .inl (cI, 12, .inl g1)), (a_length, .inl (cI, 12, .inl g2)), (a_turn, .inl (cI, 12, .inl (upd g3 q (nI i)))), (a_joined, .inl (cI, 12, .inl (upd g4 i (nI q))))] := hD
          refine lv_iload_n hx hb dN_joinPlaces_92 rfl (lv_at hl 2 rfl) ?_
          refine lv_iconst (v := 1) hx hb dN_joinPlaces_93 (by decide) ?_
          refine lv_iload hx hb dN_joinPlaces_94 (lv_at hl 0 rfl) ?_
          refine lv_ishl hx hb dN_joinPlaces_96 ?_
          refine lv_iconst (v := (-1)) hx hb dN_joinPlaces_97 (by decide) ?_
          refine lv_ixor hx hb dN_joinPlaces_98 ?_
          refine lv_iand hx hb dN_joinPlaces_99 ?_
          rw [show (wt &&& ((1 <<< ((nI q) &&& 31)) ^^^ (-1)) : Int32) = sn_drop wt q from rfl]
          refine lv_istore_n (lv' := [(2, .int (sn_drop wt q)), (4, .int (nI q)), (3, .int (nI i)), (0, .ref h0), (1, .int set)]) hx hb dN_joinPlaces_100 rfl hl (by decide) rfl (fun ls hl => ?_)
          refine lv_aload_n hx hb dN_joinPlaces_101 rfl (lv_at hl 3 rfl) ?_
          refine lv_iload hx hb dN_joinPlaces_102 (lv_at hl 1 rfl) ?_
          refine lv_iload_n hx hb dN_joinPlaces_104 rfl (lv_at hl 0 rfl) ?_
          refine xm_Vv (S := Unit) (As := [.int (nI q), .int (sn_drop wt q)]) (w1 := fun _ => [(h0, .inr (0, [.int (nI Wd), .int (nI Ht), .ref a_walls, .int rs, .ref a_placeX, .ref a_placeY, .int (nI Pn), .ref a_reachers, .int old, .ref a_lossOf, .int sc, .ref a_upper, .ref a_length, .ref a_headsOn, .ref a_turn, .ref a_lack, .ref a_joined, .int (nI (i + 1))])), (a_placeX, .inl (cI, 12, .inl f_placeX)), (a_placeY, .inl (cI, 12, .inl f_placeY)), (a_upper, .inl (cI, 12, .inl ((sn_ou f_placeX f_placeY q (sn_drop wt q) 12 0 g1 g2).1))), (a_length, .inl (cI, 12, .inl ((sn_ou f_placeX f_placeY q (sn_drop wt q) 12 0 g1 g2).2)))]) (wz := fun _ => [(h0, .inr (0, [.int (nI Wd), .int (nI Ht), .ref a_walls, .int rs, .ref a_placeX, .ref a_placeY, .int (nI Pn), .ref a_reachers, .int old, .ref a_lossOf, .int sc, .ref a_upper, .ref a_length, .ref a_headsOn, .ref a_turn, .ref a_lack, .ref a_joined, .int (nI (i + 1))])), (a_placeX, .inl (cI, 12, .inl f_placeX)), (a_placeY, .inl (cI, 12, .inl f_placeY)), (a_upper, .inl (cI, 12, .inl ((sn_ou f_placeX f_placeY q (sn_drop wt q) 12 0 g1 g2).1))), (a_length, .inl (cI, 12, .inl ((sn_ou f_placeX f_placeY q (sn_drop wt q) 12 0 g1 g2).2))), (a_turn, .inl (cI, 12, .inl (upd g3 q (nI i)))), (a_joined, .inl (cI, 12, .inl (upd g4 i (nI q))))]) (wr := [(a_turn, .inl (cI, 12, .inl (upd g3 q (nI i)))), (a_joined, .inl (cI, 12, .inl (upd g4 i (nI q))))]) ⟨hx, hb, hml, hown, hts⟩ (cN_offerUpper l dC dI h0 a_walls a_placeX a_placeY a_reachers a_lossOf a_upper a_length a_headsOn a_turn a_lack a_joined Wd Ht Pn rs old sc (nI (i + 1)) cI f_placeX f_placeY g1 g2 q (sn_drop wt q) _ (by omega)) (cwV 2 hts gN190 rfl rfl rfl (by decide +kernel) ⟨Nat.le_of_ble_eq_true rfl, Nat.le_of_ble_eq_true rfl⟩) hK hP hD hS hA [0, 1, 2, 3, 4] [5, 6] [2, 3, 4, 5, 6, 0, 1] [0] rfl rfl (fun _ => rfl) (by decide) (by decide) (by decide) (by decide) rfl 0 0 rfl rfl rfl rfl hl.1 rfl (Nat.le_of_ble_eq_true rfl) dN_joinPlaces_105 ⟨Nat.zero_le _, Nat.zero_le _⟩ (fun u H locs hr_3 hP hD hS => ?_)
          refine lv_iinc (v := (nI (i + 1))) (lv' := [(3, .int (nI (i + 1))), (2, .int (sn_drop wt q)), (4, .int (nI q)), (0, .ref h0), (1, .int set)]) hx hb dN_joinPlaces_108 hl (k := 2) rfl (nI_1 i) (by decide) rfl (fun ls hl => ?_)
          refine lv_goto (tgt := 49) hx hb dN_joinPlaces_111 (by decide) ?_
          exact ih n (i + 1) (sn_drop wt q) ((sn_ou f_placeX f_placeY q (sn_drop wt q) 12 0 g1 g2).1) ((sn_ou f_placeX f_placeY q (sn_drop wt q) 12 0 g1 g2).2) (upd g3 q (nI i)) (upd g4 i (nI q)) (nI (i + 1)) (by omega) (by omega) (by rw [← hT, sn_jp_step hnq]) _ _ hP hD hS ls (lv_sub hl [0, 1, 3, 4] rfl)
        · rw [show sn_join f_placeX f_placeY set f_upper f_length f_turn f_joined = (g1, g2, g3, g4, jj) from by rw [← hT]; simp [sn_jp, c_1, c_2, ← hnx]]
          exact W.vret hx hb hr (fun t ht hW => ⟨⟨(), rfl, trivial, by rw [ht]; exact hP, va_K.moved hW.alike hK, hD⟩, hS.F ht⟩) hS.2.2 dN_joinPlaces_68
  have lp2 : ∀ (k n : Nat) (i : Nat) (g1 g2 : Nat → Int32), n < k → i + n = 12 → sn_j0 f_placeX f_placeY n i g1 g2 = sn_j0 f_placeX f_placeY 12 0 f_upper f_length → ∀ (H : Heap) (locs : List Loc), va_P (dC, dI) snC [(h0, .inr (0, [.int (nI Wd), .int (nI Ht), .ref a_walls, .int rs, .ref a_placeX, .ref a_placeY, .int (nI Pn), .ref a_reachers, .int old, .ref a_lossOf, .int sc, .ref a_upper, .ref a_length, .ref a_headsOn, .ref a_turn, .ref a_lack, .ref a_joined, .int jc])), (a_placeX, .inl (cI, 12, .inl f_placeX)), (a_placeY, .inl (cI, 12, .inl f_placeY)), (a_upper, .inl (cI, 12, .inl g1)), (a_length, .inl (cI, 12, .inl g2)), (a_turn, .inl (cI, 12, .inl f_turn)), (a_joined, .inl (cI, 12, .inl f_joined))] H → va_D A [(h0, .inr (0, [.int (nI Wd), .int (nI Ht), .ref a_walls, .int rs, .ref a_placeX, .ref a_placeY, .int (nI Pn), .ref a_reachers, .int old, .ref a_lossOf, .int sc, .ref a_upper, .ref a_length, .ref a_headsOn, .ref a_turn, .ref a_lack, .ref a_joined, .int jc])), (a_placeX, .inl (cI, 12, .inl f_placeX)), (a_placeY, .inl (cI, 12, .inl f_placeY)), (a_upper, .inl (cI, 12, .inl g1)), (a_length, .inl (cI, 12, .inl g2)), (a_turn, .inl (cI, 12, .inl f_turn)), (a_joined, .inl (cI, 12, .inl f_joined))] → va_S A s.heap H locs → ∀ ls : Array Slot, lv_has ls 5 [(2, .int (nI i)), (0, .ref h0), (1, .int set)] → W p l e (headSpec (kN_joinPlaces :: WD) { frames := 2, cells := 0, slots := 0, locals := 45 }).room s m ([.ref h0, .int set]).toArray below meth c H locs 0 0 (MQ below (va_Qv (fun _ : Unit => True) (fun _ => xo (dC, dI) snC [(h0, .inr (0, [.int (nI Wd), .int (nI Ht), .ref a_walls, .int rs, .ref a_placeX, .ref a_placeY, .int (nI Pn), .ref a_reachers, .int old, .ref a_lossOf, .int sc, .ref a_upper, .ref a_length, .ref a_headsOn, .ref a_turn, .ref a_lack, .ref a_joined, .int ((sn_join f_placeX f_placeY set f_upper f_length f_turn f_joined).2.2.2.2)])), (a_placeX, .inl (cI, 12, .inl f_placeX)), (a_placeY, .inl (cI, 12, .inl f_placeY)), (a_upper, .inl (cI, 12, .inl ((sn_join f_placeX f_placeY set f_upper f_length f_turn f_joined).1))), (a_length, .inl (cI, 12, .inl ((sn_join f_placeX f_placeY set f_upper f_length f_turn f_joined).2.1))), (a_turn, .inl (cI, 12, .inl ((sn_join f_placeX f_placeY set f_upper f_length f_turn f_joined).2.2.1))), (a_joined, .inl (cI, 12, .inl ((sn_join f_placeX f_placeY set f_upper f_length f_turn f_joined).2.2.2.1)))] [(cI, .int)] A) A) ([.ref h0, .int set]).toArray s 0 0 (A)) (F0 m 2 ls []) := by
    intro k
    induction k with
    | zero => exact fun n _ _ _ h => absurd h (Nat.not_lt_zero n)
    | succ k ih =>
      intro n i g1 g2 hk hin hT H locs hP hD hS ls hl
      refine lv_iload_n hx hb dN_joinPlaces_2 rfl (lv_at hl 0 rfl) ?_
      refine lv_bipush (v := (nI 12)) hx hb dN_joinPlaces_3 (by decide) ?_
      refine lv_icmp_ge (tgt := 40) hx hb dN_joinPlaces_5 (by decide) (fun c_1 => ?_) (fun c_1 => ?_)
      · have hz := (nI_leI (by omega) (by omega)).mp c_1
        obtain rfl : n = 0 := by omega
        refine lv_aload_n hx hb dN_joinPlaces_40 rfl (lv_at hl 1 rfl) ?_
        refine lv_iconst (v := 0) hx hb dN_joinPlaces_41 (by decide) ?_
        refine va_put (D := (dC, dI)) (ci := 0) (v := .int 0) (ty := .int) (C := R_N) (T := T_N) (N := 18) hx hb hts in_N t_N tok_N n_N hown hK hP hD hS 0 rfl rfl 17 (by decide) (hts _ flN79) (fun _ h9 => h9) rfl (by decide +kernel) rfl rfl (Nat.le_of_ble_eq_true rfl) dN_joinPlaces_42 (fun H locs hP hD hS => ?_)
        have hP : va_P (dC, dI) snC [(h0, .inr (0, [.int (nI Wd), .int (nI Ht), .ref a_walls, .int rs, .ref a_placeX, .ref a_placeY, .int (nI Pn), .ref a_reachers, .int old, .ref a_lossOf, .int sc, .ref a_upper, .ref a_length, .ref a_headsOn, .ref a_turn, .ref a_lack, .ref a_joined, .int 0])), (a_placeX, .inl (cI, 12, .inl f_placeX)), (a_placeY, .inl (cI, 12, .inl f_placeY)), (a_upper, .inl (cI, 12, .inl g1)), (a_length, .inl (cI, 12, .inl g2)), (a_turn, .inl (cI, 12, .inl f_turn)), (a_joined, .inl (cI, 12, .inl f_joined))] H := hP
        have hD : va_D A [(h0, .inr (0, [.int (nI Wd), .int (nI Ht), .ref a_walls, .int rs, .ref a_placeX, .ref a_placeY, .int (nI Pn), .ref a_reachers, .int old, .ref a_lossOf, .int sc, .ref a_upper, .ref a_length, .ref a_headsOn, .ref a_turn, .ref a_lack, .ref a_joined, .int 0])), (a_placeX, .inl (cI, 12, .inl f_placeX)), (a_placeY, .inl (cI, 12, .inl f_placeY)), (a_upper, .inl (cI, 12, .inl g1)), (a_length, .inl (cI, 12, .inl g2)), (a_turn, .inl (cI, 12, .inl f_turn)), (a_joined, .inl (cI, 12, .inl f_joined))] := hD
        refine lv_iload_n hx hb dN_joinPlaces_45 rfl (lv_at hl 2 rfl) ?_
        refine lv_istore_n (lv' := [(2, .int set), (0, .ref h0), (1, .int set)]) hx hb dN_joinPlaces_46 rfl hl (by decide) rfl (fun ls hl => ?_)
        refine lv_iconst (v := 0) hx hb dN_joinPlaces_47 (by decide) ?_
        refine lv_istore_n (lv' := [(3, .int 0), (2, .int set), (0, .ref h0), (1, .int set)]) hx hb dN_joinPlaces_48 rfl hl (by decide) rfl (fun ls hl => ?_)
        exact lp49 13 12 0 set g1 g2 f_turn f_joined 0 (by omega) (by omega) (by rw [sn_join, ← hT]; simp [sn_j0]) _ _ hP hD hS ls (lv_sub hl [0, 1, 2, 3] rfl)
      · have hz : i < 12 := by have h9 := mt (nI_leI (by omega) (by omega)).mpr c_1; omega
        obtain ⟨n, rfl⟩ : ∃ n', n = n' + 1 := ⟨n - 1, by omega⟩
        refine lv_aload_n hx hb dN_joinPlaces_8 rfl (lv_at hl 1 rfl) ?_
        refine va_get (D := (dC, dI)) (ci := 0) (v := .ref a_upper) (C := R_N) (T := T_N) (N := 18) hx hb hts in_N hown hK hP 0 rfl rfl 11 (by decide) (hts _ flN61) (fun _ h9 => h9) rfl dN_joinPlaces_9 ?_
        refine lv_iload_n hx hb dN_joinPlaces_12 rfl (lv_at hl 0 rfl) ?_
        refine lv_iconst (v := (-1)) hx hb dN_joinPlaces_13 (by decide) ?_
        refine xa_iast hx hb hK hP hD hS 3 0 rfl rfl (i := i) (x := (-1)) (by omega) (by first | decide | omega) dN_joinPlaces_14 (fun H locs hP hD hS => ?_)
        have hP : va_P (dC, dI) snC [(h0, .inr (0, [.int (nI Wd), .int (nI Ht), .ref a_walls, .int rs, .ref a_placeX, .ref a_placeY, .int (nI Pn), .ref a_reachers, .int old, .ref a_lossOf, .int sc, .ref a_upper, .ref a_length, .ref a_headsOn, .ref a_turn, .ref a_lack, .ref a_joined, .int jc])), (a_placeX, .inl (cI, 12, .inl f_placeX)), (a_placeY, .inl (cI, 12, .inl f_placeY)), (a_upper, .inl (cI, 12, .inl (upd g1 i (-1)))), (a_length, .inl (cI, 12, .inl g2)), (a_turn, .inl (cI, 12, .inl f_turn)), (a_joined, .inl (cI, 12, .inl f_joined))] H := hP
        have hD : va_D A [(h0, .inr (0, [.int (nI Wd), .int (nI Ht), .ref a_walls, .int rs, .ref a_placeX, .ref a_placeY, .int (nI Pn), .ref a_reachers, .int old, .ref a_lossOf, .int sc, .ref a_upper, .ref a_length, .ref a_headsOn, .ref a_turn, .ref a_lack, .ref a_joined, .int jc])), (a_placeX, .inl (cI, 12, .inl f_placeX)), (a_placeY, .inl (cI, 12, .inl f_placeY)), (a_upper, .inl (cI, 12, .inl (upd g1 i (-1)))), (a_length, .inl (cI, 12, .inl g2)), (a_turn, .inl (cI, 12, .inl f_turn)), (a_joined, .inl (cI, 12, .inl f_joined))] := hD
        refine lv_aload_n hx hb dN_joinPlaces_15 rfl (lv_at hl 1 rfl) ?_
        refine va_get (D := (dC, dI)) (ci := 0) (v := .ref a_length) (C := R_N) (T := T_N) (N := 18) hx hb hts in_N hown hK hP 0 rfl rfl 12 (by decide) (hts _ flN64) (fun _ h9 => h9) rfl dN_joinPlaces_16 ?_
        refine lv_iload_n hx hb dN_joinPlaces_19 rfl (lv_at hl 0 rfl) ?_
        refine lv_aload_n hx hb dN_joinPlaces_20 rfl (lv_at hl 1 rfl) ?_
        refine va_get (D := (dC, dI)) (ci := 0) (v := .ref a_placeX) (C := R_N) (T := T_N) (N := 18) hx hb hts in_N hown hK hP 0 rfl rfl 4 (by decide) (hts _ flN32) (fun _ h9 => h9) rfl dN_joinPlaces_21 ?_
        refine lv_iload_n hx hb dN_joinPlaces_24 rfl (lv_at hl 0 rfl) ?_
        refine xa_iald hx hb hK hP 1 0 rfl rfl (i := i) (by omega) (by first | decide | omega) dN_joinPlaces_25 ?_
        refine lv_aload_n hx hb dN_joinPlaces_26 rfl (lv_at hl 1 rfl) ?_
        refine va_get (D := (dC, dI)) (ci := 0) (v := .ref a_placeY) (C := R_N) (T := T_N) (N := 18) hx hb hts in_N hown hK hP 0 rfl rfl 5 (by decide) (hts _ flN36) (fun _ h9 => h9) rfl dN_joinPlaces_27 ?_
        refine lv_iload_n hx hb dN_joinPlaces_30 rfl (lv_at hl 0 rfl) ?_
        refine xa_iald hx hb hK hP 2 0 rfl rfl (i := i) (by omega) (by first | decide | omega) dN_joinPlaces_31 ?_
        refine lv_iadd hx hb dN_joinPlaces_32 ?_
        refine xa_iast hx hb hK hP hD hS 4 0 rfl rfl (i := i) (x := (f_placeX i) + (f_placeY i)) (by omega) (by first | decide | omega) dN_joinPlaces_33 (fun H locs hP hD hS => ?_)
        have hP : va_P (dC, dI) snC [(h0, .inr (0, [.int (nI Wd), .int (nI Ht), .ref a_walls, .int rs, .ref a_placeX, .ref a_placeY, .int (nI Pn), .ref a_reachers, .int old, .ref a_lossOf, .int sc, .ref a_upper, .ref a_length, .ref a_headsOn, .ref a_turn, .ref a_lack, .ref a_joined, .int jc])), (a_placeX, .inl (cI, 12, .inl f_placeX)), (a_placeY, .inl (cI, 12, .inl f_placeY)), (a_upper, .inl (cI, 12, .inl (upd g1 i (-1)))), (a_length, .inl (cI, 12, .inl (upd g2 i ((f_placeX i) + (f_placeY i))))), (a_turn, .inl (cI, 12, .inl f_turn)), (a_joined, .inl (cI, 12, .inl f_joined))] H := hP
        have hD : va_D A [(h0, .inr (0, [.int (nI Wd), .int (nI Ht), .ref a_walls, .int rs, .ref a_placeX, .ref a_placeY, .int (nI Pn), .ref a_reachers, .int old, .ref a_lossOf, .int sc, .ref a_upper, .ref a_length, .ref a_headsOn, .ref a_turn, .ref a_lack, .ref a_joined, .int jc])), (a_placeX, .inl (cI, 12, .inl f_placeX)), (a_placeY, .inl (cI, 12, .inl f_placeY)), (a_upper, .inl (cI, 12, .inl (upd g1 i (-1)))), (a_length, .inl (cI, 12, .inl (upd g2 i ((f_placeX i) + (f_placeY i))))), (a_turn, .inl (cI, 12, .inl f_turn)), (a_joined, .inl (cI, 12, .inl f_joined))] := hD
        refine lv_iinc (v := (nI (i + 1))) (lv' := [(2, .int (nI (i + 1))), (0, .ref h0), (1, .int set)]) hx hb dN_joinPlaces_34 hl (k := 0) rfl (nI_1 i) (by decide) rfl (fun ls hl => ?_)
        refine lv_goto (tgt := 2) hx hb dN_joinPlaces_37 (by decide) ?_
        exact ih n (i + 1) (upd g1 i (-1)) (upd g2 i ((f_placeX i) + (f_placeY i))) (by omega) (by omega) (by rw [← hT]; simp [sn_j0]) _ _ hP hD hS ls (lv_sub hl [0, 1, 2] rfl)
  refine lv_iconst (v := 0) hx hb dN_joinPlaces_0 (by decide) ?_
  refine lv_istore_n (lv' := [(2, .int 0), (0, .ref h0), (1, .int set)]) hx hb dN_joinPlaces_1 rfl hl (by decide) rfl (fun ls hl => ?_)
  exact lp2 13 12 0 f_upper f_length (by omega) (by omega) rfl _ _ hP hD hS ls (lv_sub hl [0, 1, 2] rfl)
