def lo2 (a u : Nat) : Nat := if u ≤ a then u else a
def hi2 (a u : Nat) : Nat := if a ≤ u then u else a
theorem hi2_lt {a u : Nat} (ha : a < 16) (hu : u < 16) : hi2 a u < 16 := by unfold hi2; split <;> omega
theorem lo2_le (a u : Nat) : lo2 a u ≤ hi2 a u := by unfold lo2 hi2; split <;> split <;> omega
theorem md_lo {a u : Nat} (ha : a < 16) (hu : u < 16) : md_least (nI a) (nI u) = nI (lo2 a u) := by
  unfold md_least lo2
  by_cases h : u ≤ a
  · rw [if_pos ((nI_leI (by omega) (by omega)).mpr h), if_pos h]
  · rw [if_neg (mt (nI_leI (by omega) (by omega)).mp h), if_neg h]
theorem md_hi {a u : Nat} (ha : a < 16) (hu : u < 16) : md_most (nI a) (nI u) = nI (hi2 a u) := by
  unfold md_most hi2
  by_cases h : a ≤ u
  · rw [if_pos ((nI_leI (by omega) (by omega)).mpr h), if_pos h]
  · rw [if_neg (mt (nI_leI (by omega) (by omega)).mp h), if_neg h]
def md_si (g : Nat → Int32) (a b u v wy : Nat) : Nat → Nat → Bool → Bool
  | 0, _, s => s
  | n + 1, wx, s => if s = true then md_si g a b u v wy n (wx + 1) (md_free g wx wy || !md_cross (nI a) (nI b) (nI u) (nI v) (nI wx) (nI wy)) else false
def md_so (g : Nat → Int32) (a b u v : Nat) : Nat → Nat → Bool → Bool
  | 0, _, s => s
  | n + 1, wy, s => if s = true then md_so g a b u v n (wy + 1) (md_si g a b u v wy (hi2 a u - lo2 a u + 1) (lo2 a u) s) else false
def md_sees (g : Nat → Int32) (a b u v : Nat) : Bool := md_so g a b u v (hi2 b v - lo2 b v + 1) (lo2 b v) (md_free g a b && md_free g u v)
def md_rch (g : Nat → Int32) (rs : Int32) (X Y : Nat → Nat) (q a b : Nat) : Bool := !decide (rs < (nI a - nI (X q)) * (nI a - nI (X q)) + (nI b - nI (Y q)) * (nI b - nI (Y q))) && md_sees g (X q) (Y q) a b
def md_rs (g : Nat → Int32) (rs : Int32) (X Y : Nat → Nat) (x y : Nat) : Nat → Nat → Int32 → Int32
  | 0, _, c => c
  | n + 1, p, c => md_rs g rs X Y x y n (p + 1) (if md_rch g rs X Y p x y = true then c ||| sn_bit p else c)
def md_fx (g : Nat → Int32) (rs : Int32) (X Y : Nat → Nat) (Pn y : Nat) : Nat → Nat → (Nat → Int32) → Nat → Int32
  | 0, _, f => f
  | n + 1, x, f => md_fx g rs X Y Pn y n (x + 1) (upd f (y * 16 + x) (md_rs g rs X Y x y Pn 0 0))
def md_fy (g : Nat → Int32) (rs : Int32) (X Y : Nat → Nat) (Pn Wd : Nat) : Nat → Nat → (Nat → Int32) → Nat → Int32
  | 0, _, f => f
  | n + 1, y, f => md_fy g rs X Y Pn Wd n (y + 1) (md_fx g rs X Y Pn y Wd 0 f)
def md_dry (g r : Nat → Int32) (st : Int32) (x y : Nat) : Bool := md_free g x y && decide (r (y * 16 + x) &&& st = 0)
def md_dx (g r : Nat → Int32) (st : Int32) (y : Nat) : Nat → Nat → Int32 → Int32
  | 0, _, c => c
  | n + 1, x, c => md_dx g r st y n (x + 1) (if md_dry g r st x y = true then c + 1 else c + 0)
def md_dy (g r : Nat → Int32) (st : Int32) (Wd : Nat) : Nat → Nat → Int32 → Int32
  | 0, _, c => c
  | n + 1, y, c => md_dy g r st Wd n (y + 1) (md_dx g r st y Wd 0 c)
set_option maxHeartbeats 4000000 in
set_option maxRecDepth 100000 in
theorem cM_sees (l : Launch) (dC : Nat → ClassId) (dI : Nat → Nat → Nat) (h1 b_wall b_px b_py b_loss b_reached b_order b_upper b_length b_heads b_turn : Nat) (cd : Int32) (Wd Ht Pn : Nat) (rs jc : Int32) (cZ : ClassId) (g_wall : Nat → Int32) (a b u v : Nat) (ha : a < 16) (hb0 : b < 16) (hu : u < 16) (hv0 : v < 16) : Met l yM_sees (kM_sees :: WD) { frames := 2, cells := 0, slots := 0, locals := 62 } (va_Pc [.ref h1, .int (nI a), .int (nI b), .int (nI u), .int (nI v)] (xw (dC, dI) snC [(h1, .inr (1, [.int cd, .int (nI Wd), .int (nI Ht), .ref b_wall, .int rs, .int (nI Pn), .ref b_px, .ref b_py, .ref b_loss, .ref b_reached, .int jc, .ref b_order, .ref b_upper, .ref b_length, .ref b_heads, .ref b_turn])), (b_wall, .inl (cZ, 256, .inl g_wall))] [(cZ, .boolean)])) (xr_Q (fun r => r = bz (md_sees g_wall a b u v))) 0 0 (fun _ => False) := by
  refine Met.ofW (cc := bM_sees) (maxL := 8) (ret := (some .boolean)) (by decide) rfl ?_
  intro p e s m args below meth c s₁ B hml hv
  obtain ⟨rfl, hP, hK⟩ := hv
  have hx := B.exec
  have hb := B.bytes
  have hr := B.returns
  have hts : ∀ w ∈ WD, w.before _ s = true := fun w h => atoms_spec (ws := kM_sees :: WD) B.pre w (List.mem_cons_of_mem _ h)
  have hown : s.vm.findClass R_M = some m.cls := findClass_of_methodNamed B.named
  have hlocks := B.notSynchronized
  have hl := lv_entry ([.ref h1, .int (nI a), .int (nI b), .int (nI u), .int (nI v)]) (n := 8) (Nat.le_of_ble_eq_true rfl)
  rw [lg_entry_eq]
  generalize (lg_sl ([.ref h1, .int (nI a), .int (nI b), .int (nI u), .int (nI v)]) ++ List.replicate (8 - (lg_sl ([.ref h1, .int (nI a), .int (nI b), .int (nI u), .int (nI v)])).length) Slot.unset).toArray = ls at hl ⊢
  have hl : lv_has ls 8 [(0, .ref h1), (1, .int (nI a)), (2, .int (nI b)), (3, .int (nI u)), (4, .int (nI v))] := hl
  have hx1 := hi2_lt ha hu
  have hy1 := hi2_lt hb0 hv0
  have hx2 := lo2_le a u
  have hy2 := lo2_le b v
  have lp57 : ∀ (k n : Nat) (wy wx : Nat) (s1 s9 : Bool), n < k → wy < 16 → wx + n = hi2 a u + 1 → md_si g_wall a b u v wy n wx s1 = s9 → (∀ ls : Array Slot, lv_has ls 8 [(6, .int (nI wy)), (5, .int (bz s9)), (0, .ref h1), (1, .int (nI a)), (2, .int (nI b)), (3, .int (nI u)), (4, .int (nI v))] → W p l e (headSpec (kM_sees :: WD) { frames := 2, cells := 0, slots := 0, locals := 62 }).room s m ([.ref h1, .int (nI a), .int (nI b), .int (nI u), .int (nI v)]).toArray below meth c s.heap [] 0 0 (MQ below (xr_Q (fun r => r = bz (md_sees g_wall a b u v))) ([.ref h1, .int (nI a), .int (nI b), .int (nI u), .int (nI v)]).toArray s 0 0 (fun _ => False)) (F0 m 111 ls [])) → ∀ ls : Array Slot, lv_has ls 8 [(7, .int (nI wx)), (6, .int (nI wy)), (5, .int (bz s1)), (0, .ref h1), (1, .int (nI a)), (2, .int (nI b)), (3, .int (nI u)), (4, .int (nI v))] → W p l e (headSpec (kM_sees :: WD) { frames := 2, cells := 0, slots := 0, locals := 62 }).room s m ([.ref h1, .int (nI a), .int (nI b), .int (nI u), .int (nI v)]).toArray below meth c s.heap [] 0 0 (MQ below (xr_Q (fun r => r = bz (md_sees g_wall a b u v))) ([.ref h1, .int (nI a), .int (nI b), .int (nI u), .int (nI v)]).toArray s 0 0 (fun _ => False)) (F0 m 57 ls []) := by
    intro k
    induction k with
    | zero => exact fun n _ _ _ _ h => absurd h (Nat.not_lt_zero n)
    | succ k ih =>
      intro n wy wx s1 s9 hk hwy hin hT hend ls hl
      refine lv_iload hx hb dM_sees_57 (lv_at hl 0 rfl) ?_
      refine lv_iload_n hx hb dM_sees_59 rfl (lv_at hl 4 rfl) ?_
      refine lv_iload_n hx hb dM_sees_60 rfl (lv_at hl 6 rfl) ?_
      refine xr_S (As := [.int (nI a), .int (nI u)]) ⟨hx, hb, hml, hown, hts⟩ (cM_most l dC dI (nI a) (nI u)) (va_cwS 2 hts gM64 rfl rfl rfl (by decide +kernel) ⟨Nat.le_of_ble_eq_true rfl, Nat.le_of_ble_eq_true rfl⟩) hK hP [] [] rfl rfl rfl hl.1 rfl (Nat.le_of_ble_eq_true rfl) dM_sees_61 ⟨Nat.le_of_ble_eq_true rfl, Nat.le_of_ble_eq_true rfl⟩ (fun r_1 hr_1 => ?_)
      subst hr_1
      rw [show (md_most (nI a) (nI u) : Int32) = nI (hi2 a u) from (md_hi ha hu)]
      refine lv_icmp_gt (tgt := 111) hx hb dM_sees_64 (by decide) (fun c_2 => ?_) (fun c_2 => ?_)
      · have hz := (nI_ltI (by omega) (by omega)).mp c_2
        obtain rfl : n = 0 := by omega
        obtain rfl : s1 = s9 := by rw [← hT]; simp [md_si, c_2]
        exact hend  ls (lv_sub hl [1, 2, 3, 4, 5, 6, 7] rfl)
      · have hz : wx ≤ hi2 a u := by have h9 := mt (nI_ltI (by omega) (by omega)).mpr c_2; omega
        obtain ⟨n, rfl⟩ : ∃ n', n = n' + 1 := ⟨n - 1, by omega⟩
        refine lv_iload hx hb dM_sees_67 (lv_at hl 2 rfl) ?_
        refine lv_if_eq (tgt := 111) hx hb dM_sees_69 (by decide) (fun c_3 => ?_) (fun c_3 => ?_)
        · replace c_3 := bz_0 c_3
          obtain rfl : s1 = s9 := by rw [← hT]; simp [md_si, c_2, c_3]
          exact hend  ls (lv_sub hl [1, 2, 3, 4, 5, 6, 7] rfl)
        · replace c_3 := bz_1 c_3
          refine lv_aload_n hx hb dM_sees_72 rfl (lv_at hl 3 rfl) ?_
          refine lv_iload hx hb dM_sees_73 (lv_at hl 0 rfl) ?_
          refine lv_iload hx hb dM_sees_75 (lv_at hl 1 rfl) ?_
          refine xr_V (As := [.int (nI wx), .int (nI wy)]) ⟨hx, hb, hml, hown, hts⟩ (cM_isFree l dC dI h1 b_wall b_px b_py b_loss b_reached b_order b_upper b_length b_heads b_turn cd Wd Ht Pn rs jc cZ g_wall wx wy (by omega) (by omega)) (cwV 2 hts gM61 rfl rfl rfl (by decide +kernel) ⟨Nat.le_of_ble_eq_true rfl, Nat.le_of_ble_eq_true rfl⟩) hK hP [0, 1] [0] rfl rfl 1 0 rfl rfl rfl rfl hl.1 rfl (Nat.le_of_ble_eq_true rfl) dM_sees_77 ⟨Nat.le_of_ble_eq_true rfl, Nat.le_of_ble_eq_true rfl⟩ (fun r_4 hr_4 => ?_)
          subst hr_4
          refine lv_if_ne (tgt := 98) hx hb dM_sees_80 (by decide) (fun c_5 => ?_) (fun c_5 => ?_)
          · replace c_5 := bz_1 c_5
            refine lv_iconst (v := 1) hx hb dM_sees_98 (by decide) ?_
            refine lv_goto (tgt := 103) hx hb dM_sees_99 (by decide) ?_
            refine lv_topi (fun y_6 ey_6 => ?_)
            obtain rfl : y_6 = bz true := ey_6.trans rfl
            refine lv_istore (lv' := [(5, .int (bz true)), (7, .int (nI wx)), (6, .int (nI wy)), (0, .ref h1), (1, .int (nI a)), (2, .int (nI b)), (3, .int (nI u)), (4, .int (nI v))]) hx hb dM_sees_103 hl (by decide) rfl (fun ls hl => ?_)
            refine lv_iinc (v := (nI (wx + 1))) (lv' := [(7, .int (nI (wx + 1))), (5, .int (bz true)), (6, .int (nI wy)), (0, .ref h1), (1, .int (nI a)), (2, .int (nI b)), (3, .int (nI u)), (4, .int (nI v))]) hx hb dM_sees_105 hl (k := 1) rfl (nI_1 wx) (by decide) rfl (fun ls hl => ?_)
            refine lv_goto (tgt := 57) hx hb dM_sees_108 (by decide) ?_
            exact ih n wy (wx + 1) true s9 (by omega) hwy (by omega) (by rw [← hT]; simp [md_si, c_2, c_3, c_5]) hend ls (lv_sub hl [0, 2, 1, 3, 4, 5, 6, 7] rfl)
          · replace c_5 := bz_0 c_5
            refine lv_iload_n hx hb dM_sees_83 rfl (lv_at hl 4 rfl) ?_
            refine lv_iload_n hx hb dM_sees_84 rfl (lv_at hl 5 rfl) ?_
            refine lv_iload_n hx hb dM_sees_85 rfl (lv_at hl 6 rfl) ?_
            refine lv_iload hx hb dM_sees_86 (lv_at hl 7 rfl) ?_
            refine lv_iload hx hb dM_sees_88 (lv_at hl 0 rfl) ?_
            refine lv_iload hx hb dM_sees_90 (lv_at hl 1 rfl) ?_
            refine xr_S (As := [.int (nI a), .int (nI b), .int (nI u), .int (nI v), .int (nI wx), .int (nI wy)]) ⟨hx, hb, hml, hown, hts⟩ (cM_crosses l dC dI (nI a) (nI b) (nI u) (nI v) (nI wx) (nI wy)) (va_cwS 6 hts gM75 rfl rfl rfl (by decide +kernel) ⟨Nat.le_of_ble_eq_true rfl, Nat.le_of_ble_eq_true rfl⟩) hK hP [] [] rfl rfl rfl hl.1 rfl (Nat.le_of_ble_eq_true rfl) dM_sees_92 ⟨Nat.le_of_ble_eq_true rfl, Nat.le_of_ble_eq_true rfl⟩ (fun r_7 hr_7 => ?_)
            subst hr_7
            refine lv_if_ne (tgt := 102) hx hb dM_sees_95 (by decide) (fun c_8 => ?_) (fun c_8 => ?_)
            · replace c_8 := bz_1 c_8
              refine lv_iconst (v := 0) hx hb dM_sees_102 (by decide) ?_
              refine lv_topi (fun y_9 ey_9 => ?_)
              obtain rfl : y_9 = bz false := ey_9.trans rfl
              refine lv_istore (lv' := [(5, .int (bz false)), (7, .int (nI wx)), (6, .int (nI wy)), (0, .ref h1), (1, .int (nI a)), (2, .int (nI b)), (3, .int (nI u)), (4, .int (nI v))]) hx hb dM_sees_103 hl (by decide) rfl (fun ls hl => ?_)
              refine lv_iinc (v := (nI (wx + 1))) (lv' := [(7, .int (nI (wx + 1))), (5, .int (bz false)), (6, .int (nI wy)), (0, .ref h1), (1, .int (nI a)), (2, .int (nI b)), (3, .int (nI u)), (4, .int (nI v))]) hx hb dM_sees_105 hl (k := 1) rfl (nI_1 wx) (by decide) rfl (fun ls hl => ?_)
              refine lv_goto (tgt := 57) hx hb dM_sees_108 (by decide) ?_
              exact ih n wy (wx + 1) false s9 (by omega) hwy (by omega) (by rw [← hT]; simp [md_si, c_2, c_3, c_5, c_8]) hend ls (lv_sub hl [0, 2, 1, 3, 4, 5, 6, 7] rfl)
            · replace c_8 := bz_0 c_8
              refine lv_iconst (v := 1) hx hb dM_sees_98 (by decide) ?_
              refine lv_goto (tgt := 103) hx hb dM_sees_99 (by decide) ?_
              refine lv_topi (fun y_10 ey_10 => ?_)
              obtain rfl : y_10 = bz true := ey_10.trans rfl
              refine lv_istore (lv' := [(5, .int (bz true)), (7, .int (nI wx)), (6, .int (nI wy)), (0, .ref h1), (1, .int (nI a)), (2, .int (nI b)), (3, .int (nI u)), (4, .int (nI v))]) hx hb dM_sees_103 hl (by decide) rfl (fun ls hl => ?_)
              refine lv_iinc (v := (nI (wx + 1))) (lv' := [(7, .int (nI (wx + 1))), (5, .int (bz true)), (6, .int (nI wy)), (0, .ref h1), (1, .int (nI a)), (2, .int (nI b)), (3, .int (nI u)), (4, .int (nI v))]) hx hb dM_sees_105 hl (k := 1) rfl (nI_1 wx) (by decide) rfl (fun ls hl => ?_)
              refine lv_goto (tgt := 57) hx hb dM_sees_108 (by decide) ?_
              exact ih n wy (wx + 1) true s9 (by omega) hwy (by omega) (by rw [← hT]; simp [md_si, c_2, c_3, c_5, c_8]) hend ls (lv_sub hl [0, 2, 1, 3, 4, 5, 6, 7] rfl)
  have lp34 : ∀ (k n : Nat) (wy : Nat) (s1 : Bool), n < k → wy + n = hi2 b v + 1 → md_so g_wall a b u v n wy s1 = md_so g_wall a b u v (hi2 b v - lo2 b v + 1) (lo2 b v) (md_free g_wall a b && md_free g_wall u v) → ∀ ls : Array Slot, lv_has ls 8 [(6, .int (nI wy)), (5, .int (bz s1)), (0, .ref h1), (1, .int (nI a)), (2, .int (nI b)), (3, .int (nI u)), (4, .int (nI v))] → W p l e (headSpec (kM_sees :: WD) { frames := 2, cells := 0, slots := 0, locals := 62 }).room s m ([.ref h1, .int (nI a), .int (nI b), .int (nI u), .int (nI v)]).toArray below meth c s.heap [] 0 0 (MQ below (xr_Q (fun r => r = bz (md_sees g_wall a b u v))) ([.ref h1, .int (nI a), .int (nI b), .int (nI u), .int (nI v)]).toArray s 0 0 (fun _ => False)) (F0 m 34 ls []) := by
    intro k
    induction k with
    | zero => exact fun n _ _ h => absurd h (Nat.not_lt_zero n)
    | succ k ih =>
      intro n wy s1 hk hin hT ls hl
      refine lv_iload hx hb dM_sees_34 (lv_at hl 0 rfl) ?_
      refine lv_iload_n hx hb dM_sees_36 rfl (lv_at hl 4 rfl) ?_
      refine lv_iload hx hb dM_sees_37 (lv_at hl 6 rfl) ?_
      refine xr_S (As := [.int (nI b), .int (nI v)]) ⟨hx, hb, hml, hown, hts⟩ (cM_most l dC dI (nI b) (nI v)) (va_cwS 2 hts gM64 rfl rfl rfl (by decide +kernel) ⟨Nat.le_of_ble_eq_true rfl, Nat.le_of_ble_eq_true rfl⟩) hK hP [] [] rfl rfl rfl hl.1 rfl (Nat.le_of_ble_eq_true rfl) dM_sees_39 ⟨Nat.le_of_ble_eq_true rfl, Nat.le_of_ble_eq_true rfl⟩ (fun r_1 hr_1 => ?_)
      subst hr_1
      rw [show (md_most (nI b) (nI v) : Int32) = nI (hi2 b v) from (md_hi hb0 hv0)]
      refine lv_icmp_gt (tgt := 117) hx hb dM_sees_42 (by decide) (fun c_2 => ?_) (fun c_2 => ?_)
      · have hz := (nI_ltI (by omega) (by omega)).mp c_2
        obtain rfl : n = 0 := by omega
        refine lv_iload hx hb dM_sees_117 (lv_at hl 1 rfl) ?_
        exact W.zret (v := bz s1) hx hb hr (bz_nar _) (fun t ht hW => ⟨⟨bz s1, rfl, (by rw [md_sees, ← hT]; simp [md_so, c_2])⟩, ht⟩) (fun _ h => absurd h List.not_mem_nil) dM_sees_119
      · have hz : wy ≤ hi2 b v := by have h9 := mt (nI_ltI (by omega) (by omega)).mpr c_2; omega
        obtain ⟨n, rfl⟩ : ∃ n', n = n' + 1 := ⟨n - 1, by omega⟩
        refine lv_iload hx hb dM_sees_45 (lv_at hl 1 rfl) ?_
        refine lv_if_eq (tgt := 117) hx hb dM_sees_47 (by decide) (fun c_3 => ?_) (fun c_3 => ?_)
        · replace c_3 := bz_0 c_3
          refine lv_iload hx hb dM_sees_117 (lv_at hl 1 rfl) ?_
          exact W.zret (v := bz s1) hx hb hr (bz_nar _) (fun t ht hW => ⟨⟨bz s1, rfl, (by rw [md_sees, ← hT]; simp [md_so, c_2, c_3])⟩, ht⟩) (fun _ h => absurd h List.not_mem_nil) dM_sees_119
        · replace c_3 := bz_1 c_3
          refine lv_iload_n hx hb dM_sees_50 rfl (lv_at hl 3 rfl) ?_
          refine lv_iload_n hx hb dM_sees_51 rfl (lv_at hl 5 rfl) ?_
          refine xr_S (As := [.int (nI a), .int (nI u)]) ⟨hx, hb, hml, hown, hts⟩ (cM_least l dC dI (nI a) (nI u)) (va_cwS 2 hts gM68 rfl rfl rfl (by decide +kernel) ⟨Nat.le_of_ble_eq_true rfl, Nat.le_of_ble_eq_true rfl⟩) hK hP [] [] rfl rfl rfl hl.1 rfl (Nat.le_of_ble_eq_true rfl) dM_sees_52 ⟨Nat.le_of_ble_eq_true rfl, Nat.le_of_ble_eq_true rfl⟩ (fun r_4 hr_4 => ?_)
          subst hr_4
          rw [show (md_least (nI a) (nI u) : Int32) = nI (lo2 a u) from (md_lo ha hu)]
          refine lv_istore (lv' := [(7, .int (nI (lo2 a u))), (6, .int (nI wy)), (5, .int (bz s1)), (0, .ref h1), (1, .int (nI a)), (2, .int (nI b)), (3, .int (nI u)), (4, .int (nI v))]) hx hb dM_sees_55 hl (by decide) rfl (fun ls hl => ?_)
          refine lp57 (hi2 a u - lo2 a u + 2) (hi2 a u - lo2 a u + 1) wy (lo2 a u) s1 _ (by omega) (by omega) (by omega) rfl ?_ ls (lv_sub hl [0, 1, 2, 3, 4, 5, 6, 7] rfl)
          intro ls hl
          refine lv_iinc (v := (nI (wy + 1))) (lv' := [(6, .int (nI (wy + 1))), (5, .int (bz (md_si g_wall a b u v wy (hi2 a u - lo2 a u + 1) (lo2 a u) s1))), (0, .ref h1), (1, .int (nI a)), (2, .int (nI b)), (3, .int (nI u)), (4, .int (nI v))]) hx hb dM_sees_111 hl (k := 0) rfl (nI_1 wy) (by decide) rfl (fun ls hl => ?_)
          refine lv_goto (tgt := 34) hx hb dM_sees_114 (by decide) ?_
          exact ih n (wy + 1) (md_si g_wall a b u v wy (hi2 a u - lo2 a u + 1) (lo2 a u) s1) (by omega) (by omega) (by rw [← hT]; simp [md_so, c_2, c_3]) ls (lv_sub hl [0, 1, 2, 3, 4, 5, 6] rfl)
  refine lv_aload_n hx hb dM_sees_0 rfl (lv_at hl 0 rfl) ?_
  refine lv_iload_n hx hb dM_sees_1 rfl (lv_at hl 1 rfl) ?_
  refine lv_iload_n hx hb dM_sees_2 rfl (lv_at hl 2 rfl) ?_
  refine xr_V (As := [.int (nI a), .int (nI b)]) ⟨hx, hb, hml, hown, hts⟩ (cM_isFree l dC dI h1 b_wall b_px b_py b_loss b_reached b_order b_upper b_length b_heads b_turn cd Wd Ht Pn rs jc cZ g_wall a b (by omega) (by omega)) (cwV 2 hts gM61 rfl rfl rfl (by decide +kernel) ⟨Nat.le_of_ble_eq_true rfl, Nat.le_of_ble_eq_true rfl⟩) hK hP [0, 1] [0] rfl rfl 1 0 rfl rfl rfl rfl hl.1 rfl (Nat.le_of_ble_eq_true rfl) dM_sees_3 ⟨Nat.le_of_ble_eq_true rfl, Nat.le_of_ble_eq_true rfl⟩ (fun r_1 hr_1 => ?_)
  subst hr_1
  refine lv_if_eq (tgt := 23) hx hb dM_sees_6 (by decide) (fun c_2 => ?_) (fun c_2 => ?_)
  · replace c_2 := bz_0 c_2
    refine lv_iconst (v := 0) hx hb dM_sees_23 (by decide) ?_
    refine lv_topi (fun y_3 ey_3 => ?_)
    obtain rfl : y_3 = bz false := ey_3.trans rfl
    refine lv_istore (lv' := [(5, .int (bz false)), (0, .ref h1), (1, .int (nI a)), (2, .int (nI b)), (3, .int (nI u)), (4, .int (nI v))]) hx hb dM_sees_24 hl (by decide) rfl (fun ls hl => ?_)
    refine lv_iload_n hx hb dM_sees_26 rfl (lv_at hl 3 rfl) ?_
    refine lv_iload hx hb dM_sees_27 (lv_at hl 5 rfl) ?_
    refine xr_S (As := [.int (nI b), .int (nI v)]) ⟨hx, hb, hml, hown, hts⟩ (cM_least l dC dI (nI b) (nI v)) (va_cwS 2 hts gM68 rfl rfl rfl (by decide +kernel) ⟨Nat.le_of_ble_eq_true rfl, Nat.le_of_ble_eq_true rfl⟩) hK hP [] [] rfl rfl rfl hl.1 rfl (Nat.le_of_ble_eq_true rfl) dM_sees_29 ⟨Nat.le_of_ble_eq_true rfl, Nat.le_of_ble_eq_true rfl⟩ (fun r_4 hr_4 => ?_)
    subst hr_4
    rw [show (md_least (nI b) (nI v) : Int32) = nI (lo2 b v) from (md_lo hb0 hv0)]
    refine lv_istore (lv' := [(6, .int (nI (lo2 b v))), (5, .int (bz false)), (0, .ref h1), (1, .int (nI a)), (2, .int (nI b)), (3, .int (nI u)), (4, .int (nI v))]) hx hb dM_sees_32 hl (by decide) rfl (fun ls hl => ?_)
    exact lp34 (hi2 b v - lo2 b v + 2) (hi2 b v - lo2 b v + 1) (lo2 b v) false (by omega) (by omega) (by simp [c_2]) ls (lv_sub hl [0, 1, 2, 3, 4, 5, 6] rfl)
  · replace c_2 := bz_1 c_2
    refine lv_aload_n hx hb dM_sees_9 rfl (lv_at hl 0 rfl) ?_
    refine lv_iload_n hx hb dM_sees_10 rfl (lv_at hl 3 rfl) ?_
    refine lv_iload hx hb dM_sees_11 (lv_at hl 4 rfl) ?_
    refine xr_V (As := [.int (nI u), .int (nI v)]) ⟨hx, hb, hml, hown, hts⟩ (cM_isFree l dC dI h1 b_wall b_px b_py b_loss b_reached b_order b_upper b_length b_heads b_turn cd Wd Ht Pn rs jc cZ g_wall u v (by omega) (by omega)) (cwV 2 hts gM61 rfl rfl rfl (by decide +kernel) ⟨Nat.le_of_ble_eq_true rfl, Nat.le_of_ble_eq_true rfl⟩) hK hP [0, 1] [0] rfl rfl 1 0 rfl rfl rfl rfl hl.1 rfl (Nat.le_of_ble_eq_true rfl) dM_sees_13 ⟨Nat.le_of_ble_eq_true rfl, Nat.le_of_ble_eq_true rfl⟩ (fun r_5 hr_5 => ?_)
    subst hr_5
    refine lv_if_eq (tgt := 23) hx hb dM_sees_16 (by decide) (fun c_6 => ?_) (fun c_6 => ?_)
    · replace c_6 := bz_0 c_6
      refine lv_iconst (v := 0) hx hb dM_sees_23 (by decide) ?_
      refine lv_topi (fun y_7 ey_7 => ?_)
      obtain rfl : y_7 = bz false := ey_7.trans rfl
      refine lv_istore (lv' := [(5, .int (bz false)), (0, .ref h1), (1, .int (nI a)), (2, .int (nI b)), (3, .int (nI u)), (4, .int (nI v))]) hx hb dM_sees_24 hl (by decide) rfl (fun ls hl => ?_)
      refine lv_iload_n hx hb dM_sees_26 rfl (lv_at hl 3 rfl) ?_
      refine lv_iload hx hb dM_sees_27 (lv_at hl 5 rfl) ?_
      refine xr_S (As := [.int (nI b), .int (nI v)]) ⟨hx, hb, hml, hown, hts⟩ (cM_least l dC dI (nI b) (nI v)) (va_cwS 2 hts gM68 rfl rfl rfl (by decide +kernel) ⟨Nat.le_of_ble_eq_true rfl, Nat.le_of_ble_eq_true rfl⟩) hK hP [] [] rfl rfl rfl hl.1 rfl (Nat.le_of_ble_eq_true rfl) dM_sees_29 ⟨Nat.le_of_ble_eq_true rfl, Nat.le_of_ble_eq_true rfl⟩ (fun r_8 hr_8 => ?_)
      subst hr_8
      rw [show (md_least (nI b) (nI v) : Int32) = nI (lo2 b v) from (md_lo hb0 hv0)]
      refine lv_istore (lv' := [(6, .int (nI (lo2 b v))), (5, .int (bz false)), (0, .ref h1), (1, .int (nI a)), (2, .int (nI b)), (3, .int (nI u)), (4, .int (nI v))]) hx hb dM_sees_32 hl (by decide) rfl (fun ls hl => ?_)
      exact lp34 (hi2 b v - lo2 b v + 2) (hi2 b v - lo2 b v + 1) (lo2 b v) false (by omega) (by omega) (by simp [c_2, c_6]) ls (lv_sub hl [0, 1, 2, 3, 4, 5, 6] rfl)
    · replace c_6 := bz_1 c_6
      refine lv_iconst (v := 1) hx hb dM_sees_19 (by decide) ?_
      refine lv_goto (tgt := 24) hx hb dM_sees_20 (by decide) ?_
      refine lv_topi (fun y_9 ey_9 => ?_)
      obtain rfl : y_9 = bz true := ey_9.trans rfl
      refine lv_istore (lv' := [(5, .int (bz true)), (0, .ref h1), (1, .int (nI a)), (2, .int (nI b)), (3, .int (nI u)), (4, .int (nI v))]) hx hb dM_sees_24 hl (by decide) rfl (fun ls hl => ?_)
      refine lv_iload_n hx hb dM_sees_26 rfl (lv_at hl 3 rfl) ?_
      refine lv_iload hx hb dM_sees_27 (lv_at hl 5 rfl) ?_
      refine xr_S (As := [.int (nI b), .int (nI v)]) ⟨hx, hb, hml, hown, hts⟩ (cM_least l dC dI (nI b) (nI v)) (va_cwS 2 hts gM68 rfl rfl rfl (by decide +kernel) ⟨Nat.le_of_ble_eq_true rfl, Nat.le_of_ble_eq_true rfl⟩) hK hP [] [] rfl rfl rfl hl.1 rfl (Nat.le_of_ble_eq_true rfl) dM_sees_29 ⟨Nat.le_of_ble_eq_true rfl, Nat.le_of_ble_eq_true rfl⟩ (fun r_10 hr_10 => ?_)
      subst hr_10
      rw [show (md_least (nI b) (nI v) : Int32) = nI (lo2 b v) from (md_lo hb0 hv0)]
      refine lv_istore (lv' := [(6, .int (nI (lo2 b v))), (5, .int (bz true)), (0, .ref h1), (1, .int (nI a)), (2, .int (nI b)), (3, .int (nI u)), (4, .int (nI v))]) hx hb dM_sees_32 hl (by decide) rfl (fun ls hl => ?_)
      exact lp34 (hi2 b v - lo2 b v + 2) (hi2 b v - lo2 b v + 1) (lo2 b v) true (by omega) (by omega) (by simp [c_2, c_6]) ls (lv_sub hl [0, 1, 2, 3, 4, 5, 6] rfl)
set_option maxHeartbeats 4000000 in
set_option maxRecDepth 100000 in
theorem cM_isReached (l : Launch) (dC : Nat → ClassId) (dI : Nat → Nat → Nat) (h1 b_wall b_px b_py b_loss b_reached b_order b_upper b_length b_heads b_turn : Nat) (cd : Int32) (Wd Ht Pn : Nat) (rs jc : Int32) (cZ cI : ClassId) (g_wall g_px g_py : Nat → Int32) (X Y : Nat → Nat) (q a b : Nat) (hPn : Pn ≤ 12) (hXY : ∀ i, i < Pn → g_px i = nI (X i) ∧ g_py i = nI (Y i) ∧ X i < 16 ∧ Y i < 16) (hq : q < Pn) (ha : a < 16) (hb0 : b < 16) : Met l yM_isReached (kM_isReached :: WD) { frames := 3, cells := 0, slots := 0, locals := 89 } (va_Pc [.ref h1, .int (nI q), .int (nI a), .int (nI b)] (xw (dC, dI) snC [(h1, .inr (1, [.int cd, .int (nI Wd), .int (nI Ht), .ref b_wall, .int rs, .int (nI Pn), .ref b_px, .ref b_py, .ref b_loss, .ref b_reached, .int jc, .ref b_order, .ref b_upper, .ref b_length, .ref b_heads, .ref b_turn])), (b_wall, .inl (cZ, 256, .inl g_wall)), (b_px, .inl (cI, 12, .inl g_px)), (b_py, .inl (cI, 12, .inl g_py))] [(cZ, .boolean), (cI, .int)])) (xr_Q (fun r => r = bz (md_rch g_wall rs X Y q a b))) 0 0 (fun _ => False) := by
  refine Met.ofW (cc := bM_isReached) (maxL := 6) (ret := (some .boolean)) (by decide) rfl ?_
  intro p e s m args below meth c s₁ B hml hv
  obtain ⟨rfl, hP, hK⟩ := hv
  have hx := B.exec
  have hb := B.bytes
  have hr := B.returns
  have hts : ∀ w ∈ WD, w.before _ s = true := fun w h => atoms_spec (ws := kM_isReached :: WD) B.pre w (List.mem_cons_of_mem _ h)
  have hown : s.vm.findClass R_M = some m.cls := findClass_of_methodNamed B.named
  have hlocks := B.notSynchronized
  have hl := lv_entry ([.ref h1, .int (nI q), .int (nI a), .int (nI b)]) (n := 6) (Nat.le_of_ble_eq_true rfl)
  rw [lg_entry_eq]
  generalize (lg_sl ([.ref h1, .int (nI q), .int (nI a), .int (nI b)]) ++ List.replicate (6 - (lg_sl ([.ref h1, .int (nI q), .int (nI a), .int (nI b)])).length) Slot.unset).toArray = ls at hl ⊢
  have hl : lv_has ls 6 [(0, .ref h1), (1, .int (nI q)), (2, .int (nI a)), (3, .int (nI b))] := hl
  have hxy := hXY q hq
  refine lv_iload_n hx hb dM_isReached_0 rfl (lv_at hl 2 rfl) ?_
  refine lv_aload_n hx hb dM_isReached_1 rfl (lv_at hl 0 rfl) ?_
  refine va_get (D := (dC, dI)) (ci := 1) (v := .ref b_px) (C := R_M) (T := T_M) (N := 16) hx hb hts in_M hown hK hP 0 rfl rfl 6 (by decide) (hts _ flM17) (fun _ h9 => h9) rfl dM_isReached_2 ?_
  refine lv_iload_n hx hb dM_isReached_5 rfl (lv_at hl 1 rfl) ?_
  refine xa_iald hx hb hK hP 2 1 rfl rfl (i := q) (by omega) (by first | decide | omega) dM_isReached_6 ?_
  rw [show (g_px q : Int32) = nI (X q) from hxy.1]
  refine lv_isub hx hb dM_isReached_7 ?_
  refine lv_istore (lv' := [(4, .int ((nI a) - (nI (X q)))), (0, .ref h1), (1, .int (nI q)), (2, .int (nI a)), (3, .int (nI b))]) hx hb dM_isReached_8 hl (by decide) rfl (fun ls hl => ?_)
  refine lv_iload_n hx hb dM_isReached_10 rfl (lv_at hl 4 rfl) ?_
  refine lv_aload_n hx hb dM_isReached_11 rfl (lv_at hl 1 rfl) ?_
  refine va_get (D := (dC, dI)) (ci := 1) (v := .ref b_py) (C := R_M) (T := T_M) (N := 16) hx hb hts in_M hown hK hP 0 rfl rfl 7 (by decide) (hts _ flM21) (fun _ h9 => h9) rfl dM_isReached_12 ?_
  refine lv_iload_n hx hb dM_isReached_15 rfl (lv_at hl 2 rfl) ?_
  refine xa_iald hx hb hK hP 3 1 rfl rfl (i := q) (by omega) (by first | decide | omega) dM_isReached_16 ?_
  rw [show (g_py q : Int32) = nI (Y q) from hxy.2.1]
  refine lv_isub hx hb dM_isReached_17 ?_
  refine lv_istore (lv' := [(5, .int ((nI b) - (nI (Y q)))), (4, .int ((nI a) - (nI (X q)))), (0, .ref h1), (1, .int (nI q)), (2, .int (nI a)), (3, .int (nI b))]) hx hb dM_isReached_18 hl (by decide) rfl (fun ls hl => ?_)
  refine lv_iload hx hb dM_isReached_20 (lv_at hl 1 rfl) ?_
  refine lv_iload hx hb dM_isReached_22 (lv_at hl 1 rfl) ?_
  refine lv_imul hx hb dM_isReached_24 ?_
  refine lv_iload hx hb dM_isReached_25 (lv_at hl 0 rfl) ?_
  refine lv_iload hx hb dM_isReached_27 (lv_at hl 0 rfl) ?_
  refine lv_imul hx hb dM_isReached_29 ?_
  refine lv_iadd hx hb dM_isReached_30 ?_
  refine lv_aload_n hx hb dM_isReached_31 rfl (lv_at hl 2 rfl) ?_
  refine va_get (D := (dC, dI)) (ci := 1) (v := .int rs) (C := R_M) (T := T_M) (N := 16) hx hb hts in_M hown hK hP 0 rfl rfl 4 (by decide) (hts _ flM13) (fun _ h9 => h9) rfl dM_isReached_32 ?_
  refine lv_icmp_gt (tgt := 63) hx hb dM_isReached_35 (by decide) (fun c_1 => ?_) (fun c_1 => ?_)
  · refine lv_iconst (v := 0) hx hb dM_isReached_63 (by decide) ?_
    exact W.zret (v := 0) hx hb hr (by decide) (fun t ht hW => ⟨⟨0, rfl, (by simp [bz, md_rch, c_1])⟩, ht⟩) (fun _ h => absurd h List.not_mem_nil) dM_isReached_64
  · refine lv_aload_n hx hb dM_isReached_38 rfl (lv_at hl 2 rfl) ?_
    refine lv_aload_n hx hb dM_isReached_39 rfl (lv_at hl 2 rfl) ?_
    refine va_get (D := (dC, dI)) (ci := 1) (v := .ref b_px) (C := R_M) (T := T_M) (N := 16) hx hb hts in_M hown hK hP 0 rfl rfl 6 (by decide) (hts _ flM17) (fun _ h9 => h9) rfl dM_isReached_40 ?_
    refine lv_iload_n hx hb dM_isReached_43 rfl (lv_at hl 3 rfl) ?_
    refine xa_iald hx hb hK hP 2 1 rfl rfl (i := q) (by omega) (by first | decide | omega) dM_isReached_44 ?_
    rw [show (g_px q : Int32) = nI (X q) from hxy.1]
    refine lv_aload_n hx hb dM_isReached_45 rfl (lv_at hl 2 rfl) ?_
    refine va_get (D := (dC, dI)) (ci := 1) (v := .ref b_py) (C := R_M) (T := T_M) (N := 16) hx hb hts in_M hown hK hP 0 rfl rfl 7 (by decide) (hts _ flM21) (fun _ h9 => h9) rfl dM_isReached_46 ?_
    refine lv_iload_n hx hb dM_isReached_49 rfl (lv_at hl 3 rfl) ?_
    refine xa_iald hx hb hK hP 3 1 rfl rfl (i := q) (by omega) (by first | decide | omega) dM_isReached_50 ?_
    rw [show (g_py q : Int32) = nI (Y q) from hxy.2.1]
    refine lv_iload_n hx hb dM_isReached_51 rfl (lv_at hl 4 rfl) ?_
    refine lv_iload_n hx hb dM_isReached_52 rfl (lv_at hl 5 rfl) ?_
    refine xr_V (As := [.int (nI (X q)), .int (nI (Y q)), .int (nI a), .int (nI b)]) ⟨hx, hb, hml, hown, hts⟩ (cM_sees l dC dI h1 b_wall b_px b_py b_loss b_reached b_order b_upper b_length b_heads b_turn cd Wd Ht Pn rs jc cZ g_wall (X q) (Y q) a b (by omega) (by omega) (by omega) (by omega)) (cwV 4 hts gM79 rfl rfl rfl (by decide +kernel) ⟨Nat.le_of_ble_eq_true rfl, Nat.le_of_ble_eq_true rfl⟩) hK hP [0, 1] [0] rfl rfl 1 0 rfl rfl rfl rfl hl.1 rfl (Nat.le_of_ble_eq_true rfl) dM_isReached_53 ⟨Nat.le_of_ble_eq_true rfl, Nat.le_of_ble_eq_true rfl⟩ (fun r_2 hr_2 => ?_)
    subst hr_2
    refine lv_if_eq (tgt := 63) hx hb dM_isReached_56 (by decide) (fun c_3 => ?_) (fun c_3 => ?_)
    · replace c_3 := bz_0 c_3
      refine lv_iconst (v := 0) hx hb dM_isReached_63 (by decide) ?_
      exact W.zret (v := 0) hx hb hr (by decide) (fun t ht hW => ⟨⟨0, rfl, (by simp [bz, md_rch, c_1, c_3])⟩, ht⟩) (fun _ h => absurd h List.not_mem_nil) dM_isReached_64
    · replace c_3 := bz_1 c_3
      refine lv_iconst (v := 1) hx hb dM_isReached_59 (by decide) ?_
      refine lv_goto (tgt := 64) hx hb dM_isReached_60 (by decide) ?_
      exact W.zret (v := 1) hx hb hr (by decide) (fun t ht hW => ⟨⟨1, rfl, (by simp [bz, md_rch, c_1, c_3])⟩, ht⟩) (fun _ h => absurd h List.not_mem_nil) dM_isReached_64
set_option maxHeartbeats 4000000 in
set_option maxRecDepth 100000 in
theorem cM_findReached (l : Launch) (dC : Nat → ClassId) (dI : Nat → Nat → Nat) (h1 b_wall b_px b_py b_loss b_reached b_order b_upper b_length b_heads b_turn : Nat) (cd : Int32) (Wd Ht Pn : Nat) (rs jc : Int32) (cZ cI : ClassId) (g_wall g_px g_py g_reached : Nat → Int32) (X Y : Nat → Nat) (sz : Nat) (hW : Wd ≤ 16) (hH : Ht ≤ 16) (hPn : Pn ≤ 12) (hXY : ∀ i, i < Pn → g_px i = nI (X i) ∧ g_py i = nI (Y i) ∧ X i < 16 ∧ Y i < 16) : Met l yM_findReached (kM_findReached :: WD) { frames := 4, cells := 0, slots := 0, locals := 114 } (va_Pc [.ref h1] (xm (dC, dI) snC [(h1, .inr (1, [.int cd, .int (nI Wd), .int (nI Ht), .ref b_wall, .int rs, .int (nI Pn), .ref b_px, .ref b_py, .ref b_loss, .ref b_reached, .int jc, .ref b_order, .ref b_upper, .ref b_length, .ref b_heads, .ref b_turn])), (b_wall, .inl (cZ, 256, .inl g_wall)), (b_px, .inl (cI, 12, .inl g_px)), (b_py, .inl (cI, 12, .inl g_py)), (b_reached, .inl (cI, 256, .inl g_reached))] [(cZ, .boolean), (cI, .int)] sz)) (va_Qv (fun _ : Unit => True) (fun _ => xo (dC, dI) snC [(h1, .inr (1, [.int cd, .int (nI Wd), .int (nI Ht), .ref b_wall, .int rs, .int (nI Pn), .ref b_px, .ref b_py, .ref b_loss, .ref b_reached, .int jc, .ref b_order, .ref b_upper, .ref b_length, .ref b_heads, .ref b_turn])), (b_wall, .inl (cZ, 256, .inl g_wall)), (b_px, .inl (cI, 12, .inl g_px)), (b_py, .inl (cI, 12, .inl g_py)), (b_reached, .inl (cI, 256, .inl (md_fy g_wall rs X Y Pn Wd Ht 0 g_reached)))] [(cZ, .boolean), (cI, .int)] (va_A [(h1, .inr (1, [.int cd, .int (nI Wd), .int (nI Ht), .ref b_wall, .int rs, .int (nI Pn), .ref b_px, .ref b_py, .ref b_loss, .ref b_reached, .int jc, .ref b_order, .ref b_upper, .ref b_length, .ref b_heads, .ref b_turn])), (b_wall, .inl (cZ, 256, .inl g_wall)), (b_px, .inl (cI, 12, .inl g_px)), (b_py, .inl (cI, 12, .inl g_py)), (b_reached, .inl (cI, 256, .inl g_reached))] sz)) (va_A [(h1, .inr (1, [.int cd, .int (nI Wd), .int (nI Ht), .ref b_wall, .int rs, .int (nI Pn), .ref b_px, .ref b_py, .ref b_loss, .ref b_reached, .int jc, .ref b_order, .ref b_upper, .ref b_length, .ref b_heads, .ref b_turn])), (b_wall, .inl (cZ, 256, .inl g_wall)), (b_px, .inl (cI, 12, .inl g_px)), (b_py, .inl (cI, 12, .inl g_py)), (b_reached, .inl (cI, 256, .inl g_reached))] sz)) 0 0 (va_A [(h1, .inr (1, [.int cd, .int (nI Wd), .int (nI Ht), .ref b_wall, .int rs, .int (nI Pn), .ref b_px, .ref b_py, .ref b_loss, .ref b_reached, .int jc, .ref b_order, .ref b_upper, .ref b_length, .ref b_heads, .ref b_turn])), (b_wall, .inl (cZ, 256, .inl g_wall)), (b_px, .inl (cI, 12, .inl g_px)), (b_py, .inl (cI, 12, .inl g_py)), (b_reached, .inl (cI, 256, .inl g_reached))] sz) := by
  refine Met.ofW (cc := bM_findReached) (maxL := 5) (ret := none) (by decide) rfl ?_
  intro p e s m args below meth c s₁ B hml hv
  obtain ⟨rfl, hsz, hP, hK, hD0⟩ := hv
  have hx := B.exec
  have hb := B.bytes
  have hr := B.returns
  have hts : ∀ w ∈ WD, w.before _ s = true := fun w h => atoms_spec (ws := kM_findReached :: WD) B.pre w (List.mem_cons_of_mem _ h)
  have hown : s.vm.findClass R_M = some m.cls := findClass_of_methodNamed B.named
  have hlocks := B.notSynchronized
  subst hsz
  have hD := hD0.self (sz := s.heap.size)
  generalize hAe : va_A [(h1, .inr (1, [.int cd, .int (nI Wd), .int (nI Ht), .ref b_wall, .int rs, .int (nI Pn), .ref b_px, .ref b_py, .ref b_loss, .ref b_reached, .int jc, .ref b_order, .ref b_upper, .ref b_length, .ref b_heads, .ref b_turn])), (b_wall, .inl (cZ, 256, .inl g_wall)), (b_px, .inl (cI, 12, .inl g_px)), (b_py, .inl (cI, 12, .inl g_py)), (b_reached, .inl (cI, 256, .inl g_reached))] s.heap.size = A at hD ⊢
  have hA : ∀ q : Nat, s.heap.size ≤ q → A q := fun q h => by rw [← hAe]; exact Or.inr h
  have hS : va_S A s.heap s.heap [] := va_S.rf
  have hl := lv_entry ([.ref h1]) (n := 5) (Nat.le_of_ble_eq_true rfl)
  rw [lg_entry_eq]
  generalize (lg_sl ([.ref h1]) ++ List.replicate (5 - (lg_sl ([.ref h1])).length) Slot.unset).toArray = ls at hl ⊢
  have hl : lv_has ls 5 [(0, .ref h1)] := hl
  have lp25 : ∀ (k n : Nat) (y x pl : Nat) (c9 z9 : Int32) (g : Nat → Int32), n < k → y < Ht → x < Wd → pl + n = Pn → md_rs g_wall rs X Y x y n pl c9 = z9 → (∀ (H : Heap) (locs : List Loc), va_P (dC, dI) snC [(h1, .inr (1, [.int cd, .int (nI Wd), .int (nI Ht), .ref b_wall, .int rs, .int (nI Pn), .ref b_px, .ref b_py, .ref b_loss, .ref b_reached, .int jc, .ref b_order, .ref b_upper, .ref b_length, .ref b_heads, .ref b_turn])), (b_wall, .inl (cZ, 256, .inl g_wall)), (b_px, .inl (cI, 12, .inl g_px)), (b_py, .inl (cI, 12, .inl g_py)), (b_reached, .inl (cI, 256, .inl g))] H → va_D A [(h1, .inr (1, [.int cd, .int (nI Wd), .int (nI Ht), .ref b_wall, .int rs, .int (nI Pn), .ref b_px, .ref b_py, .ref b_loss, .ref b_reached, .int jc, .ref b_order, .ref b_upper, .ref b_length, .ref b_heads, .ref b_turn])), (b_wall, .inl (cZ, 256, .inl g_wall)), (b_px, .inl (cI, 12, .inl g_px)), (b_py, .inl (cI, 12, .inl g_py)), (b_reached, .inl (cI, 256, .inl g))] → va_S A s.heap H locs → ∀ ls : Array Slot, lv_has ls 5 [(3, .int z9), (2, .int (nI x)), (1, .int (nI y)), (0, .ref h1)] → W p l e (headSpec (kM_findReached :: WD) { frames := 4, cells := 0, slots := 0, locals := 114 }).room s m ([.ref h1]).toArray below meth c H locs 0 0 (MQ below (va_Qv (fun _ : Unit => True) (fun _ => xo (dC, dI) snC [(h1, .inr (1, [.int cd, .int (nI Wd), .int (nI Ht), .ref b_wall, .int rs, .int (nI Pn), .ref b_px, .ref b_py, .ref b_loss, .ref b_reached, .int jc, .ref b_order, .ref b_upper, .ref b_length, .ref b_heads, .ref b_turn])), (b_wall, .inl (cZ, 256, .inl g_wall)), (b_px, .inl (cI, 12, .inl g_px)), (b_py, .inl (cI, 12, .inl g_py)), (b_reached, .inl (cI, 256, .inl (md_fy g_wall rs X Y Pn Wd Ht 0 g_reached)))] [(cZ, .boolean), (cI, .int)] A) A) ([.ref h1]).toArray s 0 0 (A)) (F0 m 62 ls [])) → ∀ (H : Heap) (locs : List Loc), va_P (dC, dI) snC [(h1, .inr (1, [.int cd, .int (nI Wd), .int (nI Ht), .ref b_wall, .int rs, .int (nI Pn), .ref b_px, .ref b_py, .ref b_loss, .ref b_reached, .int jc, .ref b_order, .ref b_upper, .ref b_length, .ref b_heads, .ref b_turn])), (b_wall, .inl (cZ, 256, .inl g_wall)), (b_px, .inl (cI, 12, .inl g_px)), (b_py, .inl (cI, 12, .inl g_py)), (b_reached, .inl (cI, 256, .inl g))] H → va_D A [(h1, .inr (1, [.int cd, .int (nI Wd), .int (nI Ht), .ref b_wall, .int rs, .int (nI Pn), .ref b_px, .ref b_py, .ref b_loss, .ref b_reached, .int jc, .ref b_order, .ref b_upper, .ref b_length, .ref b_heads, .ref b_turn])), (b_wall, .inl (cZ, 256, .inl g_wall)), (b_px, .inl (cI, 12, .inl g_px)), (b_py, .inl (cI, 12, .inl g_py)), (b_reached, .inl (cI, 256, .inl g))] → va_S A s.heap H locs → ∀ ls : Array Slot, lv_has ls 5 [(4, .int (nI pl)), (3, .int c9), (2, .int (nI x)), (1, .int (nI y)), (0, .ref h1)] → W p l e (headSpec (kM_findReached :: WD) { frames := 4, cells := 0, slots := 0, locals := 114 }).room s m ([.ref h1]).toArray below meth c H locs 0 0 (MQ below (va_Qv (fun _ : Unit => True) (fun _ => xo (dC, dI) snC [(h1, .inr (1, [.int cd, .int (nI Wd), .int (nI Ht), .ref b_wall, .int rs, .int (nI Pn), .ref b_px, .ref b_py, .ref b_loss, .ref b_reached, .int jc, .ref b_order, .ref b_upper, .ref b_length, .ref b_heads, .ref b_turn])), (b_wall, .inl (cZ, 256, .inl g_wall)), (b_px, .inl (cI, 12, .inl g_px)), (b_py, .inl (cI, 12, .inl g_py)), (b_reached, .inl (cI, 256, .inl (md_fy g_wall rs X Y Pn Wd Ht 0 g_reached)))] [(cZ, .boolean), (cI, .int)] A) A) ([.ref h1]).toArray s 0 0 (A)) (F0 m 25 ls []) := by
    intro k
    induction k with
    | zero => exact fun n _ _ _ _ _ _ h => absurd h (Nat.not_lt_zero n)
    | succ k ih =>
      intro n y x pl c9 z9 g hk hy hx9 hin hT hend H locs hP hD hS ls hl
      refine lv_iload hx hb dM_findReached_25 (lv_at hl 0 rfl) ?_
      refine lv_aload_n hx hb dM_findReached_27 rfl (lv_at hl 4 rfl) ?_
      refine va_get (D := (dC, dI)) (ci := 1) (v := .int (nI Pn)) (C := R_M) (T := T_M) (N := 16) hx hb hts in_M hown hK hP 0 rfl rfl 5 (by decide) (hts _ flM54) (fun _ h9 => h9) rfl dM_findReached_28 ?_
      refine lv_icmp_ge (tgt := 62) hx hb dM_findReached_31 (by decide) (fun c_1 => ?_) (fun c_1 => ?_)
      · have hz := (nI_leI (by omega) (by omega)).mp c_1
        obtain rfl : n = 0 := by omega
        obtain rfl : c9 = z9 := by rw [← hT]; simp [md_rs]
        exact hend  _ _ hP hD hS ls (lv_sub hl [1, 2, 3, 4] rfl)
      · have hz : pl < Pn := by have h9 := mt (nI_leI (by omega) (by omega)).mpr c_1; omega
        obtain ⟨n, rfl⟩ : ∃ n', n = n' + 1 := ⟨n - 1, by omega⟩
        refine lv_aload_n hx hb dM_findReached_34 rfl (lv_at hl 4 rfl) ?_
        refine lv_iload hx hb dM_findReached_35 (lv_at hl 0 rfl) ?_
        refine lv_iload_n hx hb dM_findReached_37 rfl (lv_at hl 2 rfl) ?_
        refine lv_iload_n hx hb dM_findReached_38 rfl (lv_at hl 3 rfl) ?_
        refine xr_V (As := [.int (nI pl), .int (nI x), .int (nI y)]) ⟨hx, hb, hml, hown, hts⟩ (cM_isReached l dC dI h1 b_wall b_px b_py b_loss b_reached b_order b_upper b_length b_heads b_turn cd Wd Ht Pn rs jc cZ cI g_wall g_px g_py X Y pl x y hPn hXY (by omega) (by omega) (by omega)) (cwV 3 hts gM83 rfl rfl rfl (by decide +kernel) ⟨Nat.le_of_ble_eq_true rfl, Nat.le_of_ble_eq_true rfl⟩) hK hP [0, 1, 2, 3] [0, 1] rfl rfl 1 0 rfl rfl rfl rfl hl.1 rfl (Nat.le_of_ble_eq_true rfl) dM_findReached_39 ⟨Nat.le_of_ble_eq_true rfl, Nat.le_of_ble_eq_true rfl⟩ (fun r_2 hr_2 => ?_)
        subst hr_2
        refine lv_if_eq (tgt := 54) hx hb dM_findReached_42 (by decide) (fun c_3 => ?_) (fun c_3 => ?_)
        · replace c_3 := bz_0 c_3
          refine lv_iload_n hx hb dM_findReached_54 rfl (lv_at hl 1 rfl) ?_
          refine lv_istore_n (lv' := [(3, .int c9), (4, .int (nI pl)), (2, .int (nI x)), (1, .int (nI y)), (0, .ref h1)]) hx hb dM_findReached_55 rfl hl (by decide) rfl (fun ls hl => ?_)
          refine lv_iinc (v := (nI (pl + 1))) (lv' := [(4, .int (nI (pl + 1))), (3, .int c9), (2, .int (nI x)), (1, .int (nI y)), (0, .ref h1)]) hx hb dM_findReached_56 hl (k := 1) rfl (nI_1 pl) (by decide) rfl (fun ls hl => ?_)
          refine lv_goto (tgt := 25) hx hb dM_findReached_59 (by decide) ?_
          exact ih n y x (pl + 1) c9 z9 g (by omega) hy hx9 (by omega) (by rw [← hT]; simp [md_rs, c_1, c_3]) hend _ _ hP hD hS ls (lv_sub hl [0, 1, 2, 3, 4] rfl)
        · replace c_3 := bz_1 c_3
          refine lv_iload_n hx hb dM_findReached_45 rfl (lv_at hl 1 rfl) ?_
          refine lv_iconst (v := 1) hx hb dM_findReached_46 (by decide) ?_
          refine lv_iload hx hb dM_findReached_47 (lv_at hl 0 rfl) ?_
          refine lv_ishl hx hb dM_findReached_49 ?_
          rw [show (1 <<< ((nI pl) &&& 31) : Int32) = sn_bit pl from rfl]
          refine lv_ior hx hb dM_findReached_50 ?_
          refine lv_goto (tgt := 55) hx hb dM_findReached_51 (by decide) ?_
          refine lv_istore_n (lv' := [(3, .int (c9 ||| (sn_bit pl))), (4, .int (nI pl)), (2, .int (nI x)), (1, .int (nI y)), (0, .ref h1)]) hx hb dM_findReached_55 rfl hl (by decide) rfl (fun ls hl => ?_)
          refine lv_iinc (v := (nI (pl + 1))) (lv' := [(4, .int (nI (pl + 1))), (3, .int (c9 ||| (sn_bit pl))), (2, .int (nI x)), (1, .int (nI y)), (0, .ref h1)]) hx hb dM_findReached_56 hl (k := 1) rfl (nI_1 pl) (by decide) rfl (fun ls hl => ?_)
          refine lv_goto (tgt := 25) hx hb dM_findReached_59 (by decide) ?_
          exact ih n y x (pl + 1) (c9 ||| (sn_bit pl)) z9 g (by omega) hy hx9 (by omega) (by rw [← hT]; simp [md_rs, c_1, c_3]) hend _ _ hP hD hS ls (lv_sub hl [0, 1, 2, 3, 4] rfl)
  have lp12 : ∀ (k n : Nat) (y x : Nat) (g g9 : Nat → Int32), n < k → y < Ht → x + n = Wd → md_fx g_wall rs X Y Pn y n x g = g9 → (∀ (H : Heap) (locs : List Loc), va_P (dC, dI) snC [(h1, .inr (1, [.int cd, .int (nI Wd), .int (nI Ht), .ref b_wall, .int rs, .int (nI Pn), .ref b_px, .ref b_py, .ref b_loss, .ref b_reached, .int jc, .ref b_order, .ref b_upper, .ref b_length, .ref b_heads, .ref b_turn])), (b_wall, .inl (cZ, 256, .inl g_wall)), (b_px, .inl (cI, 12, .inl g_px)), (b_py, .inl (cI, 12, .inl g_py)), (b_reached, .inl (cI, 256, .inl g9))] H → va_D A [(h1, .inr (1, [.int cd, .int (nI Wd), .int (nI Ht), .ref b_wall, .int rs, .int (nI Pn), .ref b_px, .ref b_py, .ref b_loss, .ref b_reached, .int jc, .ref b_order, .ref b_upper, .ref b_length, .ref b_heads, .ref b_turn])), (b_wall, .inl (cZ, 256, .inl g_wall)), (b_px, .inl (cI, 12, .inl g_px)), (b_py, .inl (cI, 12, .inl g_py)), (b_reached, .inl (cI, 256, .inl g9))] → va_S A s.heap H locs → ∀ ls : Array Slot, lv_has ls 5 [(1, .int (nI y)), (0, .ref h1)] → W p l e (headSpec (kM_findReached :: WD) { frames := 4, cells := 0, slots := 0, locals := 114 }).room s m ([.ref h1]).toArray below meth c H locs 0 0 (MQ below (va_Qv (fun _ : Unit => True) (fun _ => xo (dC, dI) snC [(h1, .inr (1, [.int cd, .int (nI Wd), .int (nI Ht), .ref b_wall, .int rs, .int (nI Pn), .ref b_px, .ref b_py, .ref b_loss, .ref b_reached, .int jc, .ref b_order, .ref b_upper, .ref b_length, .ref b_heads, .ref b_turn])), (b_wall, .inl (cZ, 256, .inl g_wall)), (b_px, .inl (cI, 12, .inl g_px)), (b_py, .inl (cI, 12, .inl g_py)), (b_reached, .inl (cI, 256, .inl (md_fy g_wall rs X Y Pn Wd Ht 0 g_reached)))] [(cZ, .boolean), (cI, .int)] A) A) ([.ref h1]).toArray s 0 0 (A)) (F0 m 80 ls [])) → ∀ (H : Heap) (locs : List Loc), va_P (dC, dI) snC [(h1, .inr (1, [.int cd, .int (nI Wd), .int (nI Ht), .ref b_wall, .int rs, .int (nI Pn), .ref b_px, .ref b_py, .ref b_loss, .ref b_reached, .int jc, .ref b_order, .ref b_upper, .ref b_length, .ref b_heads, .ref b_turn])), (b_wall, .inl (cZ, 256, .inl g_wall)), (b_px, .inl (cI, 12, .inl g_px)), (b_py, .inl (cI, 12, .inl g_py)), (b_reached, .inl (cI, 256, .inl g))] H → va_D A [(h1, .inr (1, [.int cd, .int (nI Wd), .int (nI Ht), .ref b_wall, .int rs, .int (nI Pn), .ref b_px, .ref b_py, .ref b_loss, .ref b_reached, .int jc, .ref b_order, .ref b_upper, .ref b_length, .ref b_heads, .ref b_turn])), (b_wall, .inl (cZ, 256, .inl g_wall)), (b_px, .inl (cI, 12, .inl g_px)), (b_py, .inl (cI, 12, .inl g_py)), (b_reached, .inl (cI, 256, .inl g))] → va_S A s.heap H locs → ∀ ls : Array Slot, lv_has ls 5 [(2, .int (nI x)), (1, .int (nI y)), (0, .ref h1)] → W p l e (headSpec (kM_findReached :: WD) { frames := 4, cells := 0, slots := 0, locals := 114 }).room s m ([.ref h1]).toArray below meth c H locs 0 0 (MQ below (va_Qv (fun _ : Unit => True) (fun _ => xo (dC, dI) snC [(h1, .inr (1, [.int cd, .int (nI Wd), .int (nI Ht), .ref b_wall, .int rs, .int (nI Pn), .ref b_px, .ref b_py, .ref b_loss, .ref b_reached, .int jc, .ref b_order, .ref b_upper, .ref b_length, .ref b_heads, .ref b_turn])), (b_wall, .inl (cZ, 256, .inl g_wall)), (b_px, .inl (cI, 12, .inl g_px)), (b_py, .inl (cI, 12, .inl g_py)), (b_reached, .inl (cI, 256, .inl (md_fy g_wall rs X Y Pn Wd Ht 0 g_reached)))] [(cZ, .boolean), (cI, .int)] A) A) ([.ref h1]).toArray s 0 0 (A)) (F0 m 12 ls []) := by
    intro k
    induction k with
    | zero => exact fun n _ _ _ _ h => absurd h (Nat.not_lt_zero n)
    | succ k ih =>
      intro n y x g g9 hk hy hin hT hend H locs hP hD hS ls hl
      refine lv_iload_n hx hb dM_findReached_12 rfl (lv_at hl 0 rfl) ?_
      refine lv_aload_n hx hb dM_findReached_13 rfl (lv_at hl 2 rfl) ?_
      refine va_get (D := (dC, dI)) (ci := 1) (v := .int (nI Wd)) (C := R_M) (T := T_M) (N := 16) hx hb hts in_M hown hK hP 0 rfl rfl 1 (by decide) (hts _ flM45) (fun _ h9 => h9) rfl dM_findReached_14 ?_
      refine lv_icmp_ge (tgt := 80) hx hb dM_findReached_17 (by decide) (fun c_1 => ?_) (fun c_1 => ?_)
      · have hz := (nI_leI (by omega) (by omega)).mp c_1
        obtain rfl : n = 0 := by omega
        obtain rfl : g = g9 := by rw [← hT]; simp [md_fx]
        exact hend  _ _ hP hD hS ls (lv_sub hl [1, 2] rfl)
      · have hz : x < Wd := by have h9 := mt (nI_leI (by omega) (by omega)).mpr c_1; omega
        obtain ⟨n, rfl⟩ : ∃ n', n = n' + 1 := ⟨n - 1, by omega⟩
        refine lv_iconst (v := 0) hx hb dM_findReached_20 (by decide) ?_
        refine lv_istore_n (lv' := [(3, .int 0), (2, .int (nI x)), (1, .int (nI y)), (0, .ref h1)]) hx hb dM_findReached_21 rfl hl (by decide) rfl (fun ls hl => ?_)
        refine lv_iconst (v := 0) hx hb dM_findReached_22 (by decide) ?_
        refine lv_istore (lv' := [(4, .int 0), (3, .int 0), (2, .int (nI x)), (1, .int (nI y)), (0, .ref h1)]) hx hb dM_findReached_23 hl (by decide) rfl (fun ls hl => ?_)
        refine lp25 (Pn + 1) Pn y x 0 0 _ g (by omega) (by omega) (by omega) (by omega) rfl ?_ _ _ hP hD hS ls (lv_sub hl [0, 1, 2, 3, 4] rfl)
        intro H locs hP hD hS ls hl
        refine lv_aload_n hx hb dM_findReached_62 rfl (lv_at hl 3 rfl) ?_
        refine va_get (D := (dC, dI)) (ci := 1) (v := .ref b_reached) (C := R_M) (T := T_M) (N := 16) hx hb hts in_M hown hK hP 0 rfl rfl 9 (by decide) (hts _ flM27) (fun _ h9 => h9) rfl dM_findReached_63 ?_
        refine lv_bipush (v := 16) hx hb dM_findReached_66 (by decide) ?_
        refine lv_iload_n hx hb dM_findReached_68 rfl (lv_at hl 2 rfl) ?_
        refine lv_imul hx hb dM_findReached_69 ?_
        refine lv_iload_n hx hb dM_findReached_70 rfl (lv_at hl 1 rfl) ?_
        refine lv_iadd hx hb dM_findReached_71 ?_
        rw [show ((16 * (nI y)) + (nI x) : Int32) = nI (y * 16 + x) from md_cell x y]
        refine lv_iload_n hx hb dM_findReached_72 rfl (lv_at hl 0 rfl) ?_
        refine xa_iast hx hb hK hP hD hS 4 1 rfl rfl (i := (y * 16 + x)) (x := md_rs g_wall rs X Y x y Pn 0 0) (by omega) (by first | decide | omega) dM_findReached_73 (fun H locs hP hD hS => ?_)
        have hP : va_P (dC, dI) snC [(h1, .inr (1, [.int cd, .int (nI Wd), .int (nI Ht), .ref b_wall, .int rs, .int (nI Pn), .ref b_px, .ref b_py, .ref b_loss, .ref b_reached, .int jc, .ref b_order, .ref b_upper, .ref b_length, .ref b_heads, .ref b_turn])), (b_wall, .inl (cZ, 256, .inl g_wall)), (b_px, .inl (cI, 12, .inl g_px)), (b_py, .inl (cI, 12, .inl g_py)), (b_reached, .inl (cI, 256, .inl (upd g (y * 16 + x) (md_rs g_wall rs X Y x y Pn 0 0))))] H := hP
        have hD : va_D A [(h1, .inr (1, [.int cd, .int (nI Wd), .int (nI Ht), .ref b_wall, .int rs, .int (nI Pn), .ref b_px, .ref b_py, .ref b_loss, .ref b_reached, .int jc, .ref b_order, .ref b_upper, .ref b_length, .ref b_heads, .ref b_turn])), (b_wall, .inl (cZ, 256, .inl g_wall)), (b_px, .inl (cI, 12, .inl g_px)), (b_py, .inl (cI, 12, .inl g_py)), (b_reached, .inl (cI, 256, .inl (upd g (y * 16 + x) (md_rs g_wall rs X Y x y Pn 0 0))))] := hD
        refine lv_iinc (v := (nI (x + 1))) (lv' := [(2, .int (nI (x + 1))), (3, .int (md_rs g_wall rs X Y x y Pn 0 0)), (1, .int (nI y)), (0, .ref h1)]) hx hb dM_findReached_74 hl (k := 1) rfl (nI_1 x) (by decide) rfl (fun ls hl => ?_)
        refine lv_goto (tgt := 12) hx hb dM_findReached_77 (by decide) ?_
        exact ih n y (x + 1) (upd g (y * 16 + x) (md_rs g_wall rs X Y x y Pn 0 0)) g9 (by omega) hy (by omega) (by rw [← hT]; simp [md_fx]) hend _ _ hP hD hS ls (lv_sub hl [0, 2, 3] rfl)
  have lp2 : ∀ (k n : Nat) (y : Nat) (g : Nat → Int32), n < k → y + n = Ht → md_fy g_wall rs X Y Pn Wd n y g = md_fy g_wall rs X Y Pn Wd Ht 0 g_reached → ∀ (H : Heap) (locs : List Loc), va_P (dC, dI) snC [(h1, .inr (1, [.int cd, .int (nI Wd), .int (nI Ht), .ref b_wall, .int rs, .int (nI Pn), .ref b_px, .ref b_py, .ref b_loss, .ref b_reached, .int jc, .ref b_order, .ref b_upper, .ref b_length, .ref b_heads, .ref b_turn])), (b_wall, .inl (cZ, 256, .inl g_wall)), (b_px, .inl (cI, 12, .inl g_px)), (b_py, .inl (cI, 12, .inl g_py)), (b_reached, .inl (cI, 256, .inl g))] H → va_D A [(h1, .inr (1, [.int cd, .int (nI Wd), .int (nI Ht), .ref b_wall, .int rs, .int (nI Pn), .ref b_px, .ref b_py, .ref b_loss, .ref b_reached, .int jc, .ref b_order, .ref b_upper, .ref b_length, .ref b_heads, .ref b_turn])), (b_wall, .inl (cZ, 256, .inl g_wall)), (b_px, .inl (cI, 12, .inl g_px)), (b_py, .inl (cI, 12, .inl g_py)), (b_reached, .inl (cI, 256, .inl g))] → va_S A s.heap H locs → ∀ ls : Array Slot, lv_has ls 5 [(1, .int (nI y)), (0, .ref h1)] → W p l e (headSpec (kM_findReached :: WD) { frames := 4, cells := 0, slots := 0, locals := 114 }).room s m ([.ref h1]).toArray below meth c H locs 0 0 (MQ below (va_Qv (fun _ : Unit => True) (fun _ => xo (dC, dI) snC [(h1, .inr (1, [.int cd, .int (nI Wd), .int (nI Ht), .ref b_wall, .int rs, .int (nI Pn), .ref b_px, .ref b_py, .ref b_loss, .ref b_reached, .int jc, .ref b_order, .ref b_upper, .ref b_length, .ref b_heads, .ref b_turn])), (b_wall, .inl (cZ, 256, .inl g_wall)), (b_px, .inl (cI, 12, .inl g_px)), (b_py, .inl (cI, 12, .inl g_py)), (b_reached, .inl (cI, 256, .inl (md_fy g_wall rs X Y Pn Wd Ht 0 g_reached)))] [(cZ, .boolean), (cI, .int)] A) A) ([.ref h1]).toArray s 0 0 (A)) (F0 m 2 ls []) := by
    intro k
    induction k with
    | zero => exact fun n _ _ h => absurd h (Nat.not_lt_zero n)
    | succ k ih =>
      intro n y g hk hin hT H locs hP hD hS ls hl
      refine lv_iload_n hx hb dM_findReached_2 rfl (lv_at hl 0 rfl) ?_
      refine lv_aload_n hx hb dM_findReached_3 rfl (lv_at hl 1 rfl) ?_
      refine va_get (D := (dC, dI)) (ci := 1) (v := .int (nI Ht)) (C := R_M) (T := T_M) (N := 16) hx hb hts in_M hown hK hP 0 rfl rfl 2 (by decide) (hts _ flM48) (fun _ h9 => h9) rfl dM_findReached_4 ?_
      refine lv_icmp_ge (tgt := 86) hx hb dM_findReached_7 (by decide) (fun c_1 => ?_) (fun c_1 => ?_)
      · have hz := (nI_leI (by omega) (by omega)).mp c_1
        obtain rfl : n = 0 := by omega
        rw [show md_fy g_wall rs X Y Pn Wd Ht 0 g_reached = g from by rw [← hT]; simp [md_fy]]
        exact W.vret hx hb hr (fun t ht hW => ⟨⟨(), rfl, trivial, by rw [ht]; exact hP, va_K.moved hW.alike hK, hD⟩, hS.F ht⟩) hS.2.2 dM_findReached_86
      · have hz : y < Ht := by have h9 := mt (nI_leI (by omega) (by omega)).mpr c_1; omega
        obtain ⟨n, rfl⟩ : ∃ n', n = n' + 1 := ⟨n - 1, by omega⟩
        refine lv_iconst (v := 0) hx hb dM_findReached_10 (by decide) ?_
        refine lv_istore_n (lv' := [(2, .int 0), (1, .int (nI y)), (0, .ref h1)]) hx hb dM_findReached_11 rfl hl (by decide) rfl (fun ls hl => ?_)
        refine lp12 (Wd + 1) Wd y 0 g _ (by omega) (by omega) (by omega) rfl ?_ _ _ hP hD hS ls (lv_sub hl [0, 1, 2] rfl)
        intro H locs hP hD hS ls hl
        refine lv_iinc (v := (nI (y + 1))) (lv' := [(1, .int (nI (y + 1))), (0, .ref h1)]) hx hb dM_findReached_80 hl (k := 0) rfl (nI_1 y) (by decide) rfl (fun ls hl => ?_)
        refine lv_goto (tgt := 2) hx hb dM_findReached_83 (by decide) ?_
        exact ih n (y + 1) (md_fx g_wall rs X Y Pn y Wd 0 g) (by omega) (by omega) (by rw [← hT]; simp [md_fy]) _ _ hP hD hS ls (lv_sub hl [0, 1] rfl)
  refine lv_iconst (v := 0) hx hb dM_findReached_0 (by decide) ?_
  refine lv_istore_n (lv' := [(1, .int 0), (0, .ref h1)]) hx hb dM_findReached_1 rfl hl (by decide) rfl (fun ls hl => ?_)
  exact lp2 (Ht + 1) Ht 0 g_reached (by omega) (by omega) rfl _ _ hP hD hS ls (lv_sub hl [0, 1] rfl)
set_option maxHeartbeats 4000000 in
set_option maxRecDepth 100000 in
theorem cM_dryCells (l : Launch) (dC : Nat → ClassId) (dI : Nat → Nat → Nat) (h1 b_wall b_px b_py b_loss b_reached b_order b_upper b_length b_heads b_turn : Nat) (cd : Int32) (Wd Ht Pn : Nat) (rs jc : Int32) (cZ cI : ClassId) (g_wall g_reached : Nat → Int32) (st : Int32) (hW : Wd ≤ 16) (hH : Ht ≤ 16)  : Met l yM_dryCells (kM_dryCells :: WD) { frames := 1, cells := 0, slots := 0, locals := 22 } (va_Pc [.ref h1, .int st] (xw (dC, dI) snC [(h1, .inr (1, [.int cd, .int (nI Wd), .int (nI Ht), .ref b_wall, .int rs, .int (nI Pn), .ref b_px, .ref b_py, .ref b_loss, .ref b_reached, .int jc, .ref b_order, .ref b_upper, .ref b_length, .ref b_heads, .ref b_turn])), (b_wall, .inl (cZ, 256, .inl g_wall)), (b_reached, .inl (cI, 256, .inl g_reached))] [(cZ, .boolean), (cI, .int)])) (xr_Q (fun r => r = md_dy g_wall g_reached st Wd Ht 0 0)) 0 0 (fun _ => False) := by
  refine Met.ofW (cc := bM_dryCells) (maxL := 5) (ret := (some .int)) (by decide) rfl ?_
  intro p e s m args below meth c s₁ B hml hv
  obtain ⟨rfl, hP, hK⟩ := hv
  have hx := B.exec
  have hb := B.bytes
  have hr := B.returns
  have hts : ∀ w ∈ WD, w.before _ s = true := fun w h => atoms_spec (ws := kM_dryCells :: WD) B.pre w (List.mem_cons_of_mem _ h)
  have hown : s.vm.findClass R_M = some m.cls := findClass_of_methodNamed B.named
  have hlocks := B.notSynchronized
  have hl := lv_entry ([.ref h1, .int st]) (n := 5) (Nat.le_of_ble_eq_true rfl)
  rw [lg_entry_eq]
  generalize (lg_sl ([.ref h1, .int st]) ++ List.replicate (5 - (lg_sl ([.ref h1, .int st])).length) Slot.unset).toArray = ls at hl ⊢
  have hl : lv_has ls 5 [(0, .ref h1), (1, .int st)] := hl
  have lp15 : ∀ (k n : Nat) (y x : Nat) (c9 z9 : Int32), n < k → y < Ht → x + n = Wd → md_dx g_wall g_reached st y n x c9 = z9 → (∀ ls : Array Slot, lv_has ls 5 [(3, .int (nI y)), (2, .int z9), (0, .ref h1), (1, .int st)] → W p l e (headSpec (kM_dryCells :: WD) { frames := 1, cells := 0, slots := 0, locals := 22 }).room s m ([.ref h1, .int st]).toArray below meth c s.heap [] 0 0 (MQ below (xr_Q (fun r => r = md_dy g_wall g_reached st Wd Ht 0 0)) ([.ref h1, .int st]).toArray s 0 0 (fun _ => False)) (F0 m 65 ls [])) → ∀ ls : Array Slot, lv_has ls 5 [(4, .int (nI x)), (3, .int (nI y)), (2, .int c9), (0, .ref h1), (1, .int st)] → W p l e (headSpec (kM_dryCells :: WD) { frames := 1, cells := 0, slots := 0, locals := 22 }).room s m ([.ref h1, .int st]).toArray below meth c s.heap [] 0 0 (MQ below (xr_Q (fun r => r = md_dy g_wall g_reached st Wd Ht 0 0)) ([.ref h1, .int st]).toArray s 0 0 (fun _ => False)) (F0 m 15 ls []) := by
    intro k
    induction k with
    | zero => exact fun n _ _ _ _ h => absurd h (Nat.not_lt_zero n)
    | succ k ih =>
      intro n y x c9 z9 hk hy hin hT hend ls hl
      refine lv_iload hx hb dM_dryCells_15 (lv_at hl 0 rfl) ?_
      refine lv_aload_n hx hb dM_dryCells_17 rfl (lv_at hl 3 rfl) ?_
      refine va_get (D := (dC, dI)) (ci := 1) (v := .int (nI Wd)) (C := R_M) (T := T_M) (N := 16) hx hb hts in_M hown hK hP 0 rfl rfl 1 (by decide) (hts _ flM45) (fun _ h9 => h9) rfl dM_dryCells_18 ?_
      refine lv_icmp_ge (tgt := 65) hx hb dM_dryCells_21 (by decide) (fun c_1 => ?_) (fun c_1 => ?_)
      · have hz := (nI_leI (by omega) (by omega)).mp c_1
        obtain rfl : n = 0 := by omega
        obtain rfl : c9 = z9 := by rw [← hT]; simp [md_dx]
        exact hend  ls (lv_sub hl [1, 2, 3, 4] rfl)
      · have hz : x < Wd := by have h9 := mt (nI_leI (by omega) (by omega)).mpr c_1; omega
        obtain ⟨n, rfl⟩ : ∃ n', n = n' + 1 := ⟨n - 1, by omega⟩
        refine lv_iload_n hx hb dM_dryCells_24 rfl (lv_at hl 2 rfl) ?_
        refine lv_aload_n hx hb dM_dryCells_25 rfl (lv_at hl 3 rfl) ?_
        refine lv_iload hx hb dM_dryCells_26 (lv_at hl 0 rfl) ?_
        refine lv_iload_n hx hb dM_dryCells_28 rfl (lv_at hl 1 rfl) ?_
        refine xr_V (As := [.int (nI x), .int (nI y)]) ⟨hx, hb, hml, hown, hts⟩ (cM_isFree l dC dI h1 b_wall b_px b_py b_loss b_reached b_order b_upper b_length b_heads b_turn cd Wd Ht Pn rs jc cZ g_wall x y (by omega) (by omega)) (cwV 2 hts gM61 rfl rfl rfl (by decide +kernel) ⟨Nat.le_of_ble_eq_true rfl, Nat.le_of_ble_eq_true rfl⟩) hK hP [0, 1] [0] rfl rfl 1 0 rfl rfl rfl rfl hl.1 rfl (Nat.le_of_ble_eq_true rfl) dM_dryCells_29 ⟨Nat.le_of_ble_eq_true rfl, Nat.le_of_ble_eq_true rfl⟩ (fun r_2 hr_2 => ?_)
        subst hr_2
        refine lv_if_eq (tgt := 56) hx hb dM_dryCells_32 (by decide) (fun c_3 => ?_) (fun c_3 => ?_)
        · replace c_3 := bz_0 c_3
          refine lv_iconst (v := 0) hx hb dM_dryCells_56 (by decide) ?_
          refine lv_iadd hx hb dM_dryCells_57 ?_
          refine lv_istore_n (lv' := [(2, .int (c9 + 0)), (4, .int (nI x)), (3, .int (nI y)), (0, .ref h1), (1, .int st)]) hx hb dM_dryCells_58 rfl hl (by decide) rfl (fun ls hl => ?_)
          refine lv_iinc (v := (nI (x + 1))) (lv' := [(4, .int (nI (x + 1))), (2, .int (c9 + 0)), (3, .int (nI y)), (0, .ref h1), (1, .int st)]) hx hb dM_dryCells_59 hl (k := 1) rfl (nI_1 x) (by decide) rfl (fun ls hl => ?_)
          refine lv_goto (tgt := 15) hx hb dM_dryCells_62 (by decide) ?_
          exact ih n y (x + 1) (c9 + 0) z9 (by omega) hy (by omega) (by rw [← hT]; simp [md_dx, md_dry, c_1, c_3]) hend ls (lv_sub hl [0, 2, 1, 3, 4] rfl)
        · replace c_3 := bz_1 c_3
          refine lv_aload_n hx hb dM_dryCells_35 rfl (lv_at hl 3 rfl) ?_
          refine va_get (D := (dC, dI)) (ci := 1) (v := .ref b_reached) (C := R_M) (T := T_M) (N := 16) hx hb hts in_M hown hK hP 0 rfl rfl 9 (by decide) (hts _ flM27) (fun _ h9 => h9) rfl dM_dryCells_36 ?_
          refine lv_bipush (v := 16) hx hb dM_dryCells_39 (by decide) ?_
          refine lv_iload_n hx hb dM_dryCells_41 rfl (lv_at hl 1 rfl) ?_
          refine lv_imul hx hb dM_dryCells_42 ?_
          refine lv_iload hx hb dM_dryCells_43 (lv_at hl 0 rfl) ?_
          refine lv_iadd hx hb dM_dryCells_45 ?_
          rw [show ((16 * (nI y)) + (nI x) : Int32) = nI (y * 16 + x) from md_cell x y]
          refine xa_iald hx hb hK hP 2 1 rfl rfl (i := (y * 16 + x)) (by omega) (by first | decide | omega) dM_dryCells_46 ?_
          refine lv_iload_n hx hb dM_dryCells_47 rfl (lv_at hl 4 rfl) ?_
          refine lv_iand hx hb dM_dryCells_48 ?_
          refine lv_if_ne (tgt := 56) hx hb dM_dryCells_49 (by decide) (fun c_4 => ?_) (fun c_4 => ?_)
          · refine lv_iconst (v := 0) hx hb dM_dryCells_56 (by decide) ?_
            refine lv_iadd hx hb dM_dryCells_57 ?_
            refine lv_istore_n (lv' := [(2, .int (c9 + 0)), (4, .int (nI x)), (3, .int (nI y)), (0, .ref h1), (1, .int st)]) hx hb dM_dryCells_58 rfl hl (by decide) rfl (fun ls hl => ?_)
            refine lv_iinc (v := (nI (x + 1))) (lv' := [(4, .int (nI (x + 1))), (2, .int (c9 + 0)), (3, .int (nI y)), (0, .ref h1), (1, .int st)]) hx hb dM_dryCells_59 hl (k := 1) rfl (nI_1 x) (by decide) rfl (fun ls hl => ?_)
            refine lv_goto (tgt := 15) hx hb dM_dryCells_62 (by decide) ?_
            exact ih n y (x + 1) (c9 + 0) z9 (by omega) hy (by omega) (by rw [← hT]; simp [md_dx, md_dry, c_1, c_3, c_4]) hend ls (lv_sub hl [0, 2, 1, 3, 4] rfl)
          · refine lv_iconst (v := 1) hx hb dM_dryCells_52 (by decide) ?_
            refine lv_goto (tgt := 57) hx hb dM_dryCells_53 (by decide) ?_
            refine lv_iadd hx hb dM_dryCells_57 ?_
            refine lv_istore_n (lv' := [(2, .int (c9 + 1)), (4, .int (nI x)), (3, .int (nI y)), (0, .ref h1), (1, .int st)]) hx hb dM_dryCells_58 rfl hl (by decide) rfl (fun ls hl => ?_)
            refine lv_iinc (v := (nI (x + 1))) (lv' := [(4, .int (nI (x + 1))), (2, .int (c9 + 1)), (3, .int (nI y)), (0, .ref h1), (1, .int st)]) hx hb dM_dryCells_59 hl (k := 1) rfl (nI_1 x) (by decide) rfl (fun ls hl => ?_)
            refine lv_goto (tgt := 15) hx hb dM_dryCells_62 (by decide) ?_
            exact ih n y (x + 1) (c9 + 1) z9 (by omega) hy (by omega) (by rw [← hT]; simp [md_dx, md_dry, c_1, c_3, c_4]) hend ls (lv_sub hl [0, 2, 1, 3, 4] rfl)
  have lp4 : ∀ (k n : Nat) (y : Nat) (c9 : Int32), n < k → y + n = Ht → md_dy g_wall g_reached st Wd n y c9 = md_dy g_wall g_reached st Wd Ht 0 0 → ∀ ls : Array Slot, lv_has ls 5 [(3, .int (nI y)), (2, .int c9), (0, .ref h1), (1, .int st)] → W p l e (headSpec (kM_dryCells :: WD) { frames := 1, cells := 0, slots := 0, locals := 22 }).room s m ([.ref h1, .int st]).toArray below meth c s.heap [] 0 0 (MQ below (xr_Q (fun r => r = md_dy g_wall g_reached st Wd Ht 0 0)) ([.ref h1, .int st]).toArray s 0 0 (fun _ => False)) (F0 m 4 ls []) := by
    intro k
    induction k with
    | zero => exact fun n _ _ h => absurd h (Nat.not_lt_zero n)
    | succ k ih =>
      intro n y c9 hk hin hT ls hl
      refine lv_iload_n hx hb dM_dryCells_4 rfl (lv_at hl 0 rfl) ?_
      refine lv_aload_n hx hb dM_dryCells_5 rfl (lv_at hl 2 rfl) ?_
      refine va_get (D := (dC, dI)) (ci := 1) (v := .int (nI Ht)) (C := R_M) (T := T_M) (N := 16) hx hb hts in_M hown hK hP 0 rfl rfl 2 (by decide) (hts _ flM48) (fun _ h9 => h9) rfl dM_dryCells_6 ?_
      refine lv_icmp_ge (tgt := 71) hx hb dM_dryCells_9 (by decide) (fun c_1 => ?_) (fun c_1 => ?_)
      · have hz := (nI_leI (by omega) (by omega)).mp c_1
        obtain rfl : n = 0 := by omega
        refine lv_iload_n hx hb dM_dryCells_71 rfl (lv_at hl 1 rfl) ?_
        exact W.iret (v := c9) hx hb hr (fun t ht hW => ⟨⟨c9, rfl, (by rw [← hT]; simp [md_dy])⟩, ht⟩) (fun _ h => absurd h List.not_mem_nil) dM_dryCells_72
      · have hz : y < Ht := by have h9 := mt (nI_leI (by omega) (by omega)).mpr c_1; omega
        obtain ⟨n, rfl⟩ : ∃ n', n = n' + 1 := ⟨n - 1, by omega⟩
        refine lv_iconst (v := 0) hx hb dM_dryCells_12 (by decide) ?_
        refine lv_istore (lv' := [(4, .int 0), (3, .int (nI y)), (2, .int c9), (0, .ref h1), (1, .int st)]) hx hb dM_dryCells_13 hl (by decide) rfl (fun ls hl => ?_)
        refine lp15 (Wd + 1) Wd y 0 c9 _ (by omega) (by omega) (by omega) rfl ?_ ls (lv_sub hl [0, 1, 2, 3, 4] rfl)
        intro ls hl
        refine lv_iinc (v := (nI (y + 1))) (lv' := [(3, .int (nI (y + 1))), (2, .int (md_dx g_wall g_reached st y Wd 0 c9)), (0, .ref h1), (1, .int st)]) hx hb dM_dryCells_65 hl (k := 0) rfl (nI_1 y) (by decide) rfl (fun ls hl => ?_)
        refine lv_goto (tgt := 4) hx hb dM_dryCells_68 (by decide) ?_
        exact ih n (y + 1) (md_dx g_wall g_reached st y Wd 0 c9) (by omega) (by omega) (by rw [← hT]; simp [md_dy]) ls (lv_sub hl [0, 1, 2, 3] rfl)
  refine lv_iconst (v := 0) hx hb dM_dryCells_0 (by decide) ?_
  refine lv_istore_n (lv' := [(2, .int 0), (0, .ref h1), (1, .int st)]) hx hb dM_dryCells_1 rfl hl (by decide) rfl (fun ls hl => ?_)
  refine lv_iconst (v := 0) hx hb dM_dryCells_2 (by decide) ?_
  refine lv_istore_n (lv' := [(3, .int 0), (2, .int 0), (0, .ref h1), (1, .int st)]) hx hb dM_dryCells_3 rfl hl (by decide) rfl (fun ls hl => ?_)
  exact lp4 (Ht + 1) Ht 0 0 (by omega) (by omega) rfl ls (lv_sub hl [0, 1, 2, 3] rfl)
