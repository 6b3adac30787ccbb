def sn_fill (x : Int32) : Nat → Nat → (Nat → Int32) → Nat → Int32
  | 0, _, f => f
  | n + 1, i, f => sn_fill x n (i + 1) (upd f i x)
def sn_bit (p : Nat) : Int32 := 1 <<< (nI p &&& 31)
def sn_ari (Wd Ht : Nat) (fw : Nat → Int32) (rs bit : Int32) (a b v : Nat) : Nat → Nat → (Nat → Int32) → Nat → Int32
  | 0, _, f => f
  | n + 1, u, f => sn_ari Wd Ht fw rs bit a b v n (u + 1) (if sn_near rs (nI a) (nI b) (nI u) (nI v) = true ∧ sn_free Wd Ht fw a b u v = true then upd f (v * 16 + u) (f (v * 16 + u) ||| bit) else f)
def sn_aro (Wd Ht : Nat) (fw : Nat → Int32) (rs bit : Int32) (a b : Nat) : Nat → Nat → (Nat → Int32) → Nat → Int32
  | 0, _, f => f
  | n + 1, v, f => sn_aro Wd Ht fw rs bit a b n (v + 1) (sn_ari Wd Ht fw rs bit a b v Wd 0 f)
def sn_fr (Wd Ht : Nat) (fw : Nat → Int32) (rs : Int32) (X Y : Nat → Nat) : Nat → Nat → (Nat → Int32) → Nat → Int32
  | 0, _, f => f
  | n + 1, i, f => sn_fr Wd Ht fw rs X Y n (i + 1) (sn_aro Wd Ht fw rs (sn_bit i) (X i) (Y i) Ht 0 f)
def sn_find (Wd Ht : Nat) (fw : Nat → Int32) (rs : Int32) (X Y : Nat → Nat) (Pn : Nat) (old : Int32) (f : Nat → Int32) : Nat → Int32 := if old = 0 then f else sn_fr Wd Ht fw rs X Y Pn 0 (sn_fill 0 256 0 f)
set_option maxHeartbeats 4000000 in
set_option maxRecDepth 100000 in
theorem cA_fill (l : Launch) (dC : Nat → ClassId) (dI : Nat → Nat → Nat) (aa : Nat) (cI : ClassId) (n0 : Nat) (f : Nat → Int32) (x : Int32) (sz : Nat) (hn0 : n0 < 2 ^ 31) : Met l yA_fill (kA_fill :: WD) { frames := 0, cells := 0, slots := 0, locals := 0 } (va_Pc [.ref aa, .int x] (xm (dC, dI) snC [(aa, .inl (cI, n0, .inl f))] [(cI, .int)] sz)) (va_Qv (fun _ : Unit => True) (fun _ => xo (dC, dI) snC [(aa, .inl (cI, n0, .inl (sn_fill x n0 0 f)))] [(cI, .int)] (va_A [(aa, .inl (cI, n0, .inl f))] sz)) (va_A [(aa, .inl (cI, n0, .inl f))] sz)) 0 0 (va_A [(aa, .inl (cI, n0, .inl f))] sz) := by
  refine Met.ofW (cc := bA_fill) (maxL := 4) (ret := none) (by decide) rfl ?_
  intro p e s m args below meth c s₁ B hml hv
  obtain ⟨rfl, hsz, hP, hK, hD0⟩ := hv
  have hx := B.exec
  have hb := B.bytes
  have hr := B.returns
  have hts : ∀ w ∈ WD, w.before _ s = true := fun w h => atoms_spec (ws := kA_fill :: WD) B.pre w (List.mem_cons_of_mem _ h)
  have hown : s.vm.findClass R_A = some m.cls := findClass_of_methodNamed B.named
  have hlocks := B.notSynchronized
  subst hsz
  have hD := hD0.self (sz := s.heap.size)
  generalize hAe : va_A [(aa, .inl (cI, n0, .inl f))] s.heap.size = A at hD ⊢
  have hA : ∀ q : Nat, s.heap.size ≤ q → A q := fun q h => by rw [← hAe]; exact Or.inr h
  have hS : va_S A s.heap s.heap [] := va_S.rf
  have hl := lv_entry ([.ref aa, .int x]) (n := 4) (Nat.le_of_ble_eq_true rfl)
  rw [lg_entry_eq]
  generalize (lg_sl ([.ref aa, .int x]) ++ List.replicate (4 - (lg_sl ([.ref aa, .int x])).length) Slot.unset).toArray = ls at hl ⊢
  have hl : lv_has ls 4 [(0, .ref aa), (1, .int x)] := hl
  have lp5 : ∀ (k n : Nat) (i : Nat) (g : Nat → Int32), n < k → i + n = n0 → sn_fill x n i g = sn_fill x n0 0 f → ∀ (H : Heap) (locs : List Loc), va_P (dC, dI) snC [(aa, .inl (cI, n0, .inl g))] H → va_D A [(aa, .inl (cI, n0, .inl g))] → va_S A s.heap H locs → ∀ ls : Array Slot, lv_has ls 4 [(2, .int (nI i)), (3, .int (nI n0)), (0, .ref aa), (1, .int x)] → W p l e (headSpec (kA_fill :: WD) { frames := 0, cells := 0, slots := 0, locals := 0 }).room s m ([.ref aa, .int x]).toArray below meth c H locs 0 0 (MQ below (va_Qv (fun _ : Unit => True) (fun _ => xo (dC, dI) snC [(aa, .inl (cI, n0, .inl (sn_fill x n0 0 f)))] [(cI, .int)] A) A) ([.ref aa, .int x]).toArray s 0 0 (A)) (F0 m 5 ls []) := by
    intro k
    induction k with
    | zero => exact fun n _ _ h => absurd h (Nat.not_lt_zero n)
    | succ k ih =>
      intro n i g hk hin hT H locs hP hD hS ls hl
      refine lv_iload_n hx hb dA_fill_5 rfl (lv_at hl 0 rfl) ?_
      refine lv_iload_n hx hb dA_fill_6 rfl (lv_at hl 1 rfl) ?_
      refine lv_icmp_ge (tgt := 20) hx hb dA_fill_7 (by decide) (fun c_1 => ?_) (fun c_1 => ?_)
      · have hz := (nI_leI (by omega) (by omega)).mp c_1
        obtain rfl : n = 0 := by omega
        rw [show sn_fill x n0 0 f = g from by rw [← hT]; simp [sn_fill]]
        exact W.vret hx hb hr (fun t ht hW => ⟨⟨(), rfl, trivial, by rw [ht]; exact hP, va_K.moved hW.alike hK, hD⟩, hS.F ht⟩) hS.2.2 dA_fill_20
      · have hz : i < n0 := by have h9 := mt (nI_leI (by omega) (by omega)).mpr c_1; omega
        obtain ⟨n, rfl⟩ : ∃ n', n = n' + 1 := ⟨n - 1, by omega⟩
        refine lv_aload_n hx hb dA_fill_10 rfl (lv_at hl 2 rfl) ?_
        refine lv_iload_n hx hb dA_fill_11 rfl (lv_at hl 0 rfl) ?_
        refine lv_iload_n hx hb dA_fill_12 rfl (lv_at hl 3 rfl) ?_
        refine xa_iast hx hb hK hP hD hS 0 0 rfl rfl (i := i) (x := x) (by omega) (by first | decide | omega) dA_fill_13 (fun H locs hP hD hS => ?_)
        have hP : va_P (dC, dI) snC [(aa, .inl (cI, n0, .inl (upd g i x)))] H := hP
        have hD : va_D A [(aa, .inl (cI, n0, .inl (upd g i x)))] := hD
        refine lv_iinc (v := (nI (i + 1))) (lv' := [(2, .int (nI (i + 1))), (3, .int (nI n0)), (0, .ref aa), (1, .int x)]) hx hb dA_fill_14 hl (k := 0) rfl (nI_1 i) (by decide) rfl (fun ls hl => ?_)
        refine lv_goto (tgt := 5) hx hb dA_fill_17 (by decide) ?_
        exact ih n (i + 1) (upd g i x) (by omega) (by omega) (by rw [← hT]; simp [sn_fill]) _ _ hP hD hS ls (lv_sub hl [0, 1, 2, 3] rfl)
  refine lv_iconst (v := 0) hx hb dA_fill_0 (by decide) ?_
  refine lv_istore_n (lv' := [(2, .int 0), (0, .ref aa), (1, .int x)]) hx hb dA_fill_1 rfl hl (by decide) rfl (fun ls hl => ?_)
  refine lv_aload_n hx hb dA_fill_2 rfl (lv_at hl 1 rfl) ?_
  refine va_alen (v := (nI n0)) hx hb hK hP 0 0 rfl rfl rfl dA_fill_3 ?_
  refine lv_istore_n (lv' := [(3, .int (nI n0)), (2, .int 0), (0, .ref aa), (1, .int x)]) hx hb dA_fill_4 rfl hl (by decide) rfl (fun ls hl => ?_)
  exact lp5 (n0 + 1) n0 0 f (by omega) (by omega) rfl _ _ hP hD hS ls (lv_sub hl [1, 0, 2, 3] rfl)
set_option maxHeartbeats 4000000 in
set_option maxRecDepth 100000 in
theorem cN_addReacher (l : Launch) (dC : Nat → ClassId) (dI : Nat → Nat → Nat) (h0 a_walls a_placeX a_placeY a_reachers a_lossOf a_upper a_length a_headsOn a_turn a_lack a_joined : Nat) (Wd Ht Pn : Nat) (rs old sc jc : Int32) (cZ cI : ClassId) (f_walls f_reachers : Nat → Int32) (pl a b : Nat) (sz : Nat) (hW : Wd ≤ 16) (hH : Ht ≤ 16) (ha : a < 16) (hb0 : b < 16) : Met l yN_addReacher (kN_addReacher :: WD) { frames := 3, cells := 0, slots := 0, locals := 76 } (va_Pc [.ref h0, .int (nI pl), .int (nI a), .int (nI b)] (xm (dC, dI) snC [(h0, .inr (0, [.int (nI Wd), .int (nI Ht), .ref a_walls, .int rs, .ref a_placeX, .ref a_placeY, .int (nI Pn), .ref a_reachers, .int old, .ref a_lossOf, .int sc, .ref a_upper, .ref a_length, .ref a_headsOn, .ref a_turn, .ref a_lack, .ref a_joined, .int jc])), (a_walls, .inl (cZ, 256, .inl f_walls)), (a_reachers, .inl (cI, 256, .inl f_reachers))] [(cZ, .boolean), (cI, .int)] sz)) (va_Qv (fun _ : Unit => True) (fun _ => xo (dC, dI) snC [(h0, .inr (0, [.int (nI Wd), .int (nI Ht), .ref a_walls, .int rs, .ref a_placeX, .ref a_placeY, .int (nI Pn), .ref a_reachers, .int old, .ref a_lossOf, .int sc, .ref a_upper, .ref a_length, .ref a_headsOn, .ref a_turn, .ref a_lack, .ref a_joined, .int jc])), (a_walls, .inl (cZ, 256, .inl f_walls)), (a_reachers, .inl (cI, 256, .inl (sn_aro Wd Ht f_walls rs (sn_bit pl) a b Ht 0 f_reachers)))] [(cZ, .boolean), (cI, .int)] (va_A [(h0, .inr (0, [.int (nI Wd), .int (nI Ht), .ref a_walls, .int rs, .ref a_placeX, .ref a_placeY, .int (nI Pn), .ref a_reachers, .int old, .ref a_lossOf, .int sc, .ref a_upper, .ref a_length, .ref a_headsOn, .ref a_turn, .ref a_lack, .ref a_joined, .int jc])), (a_walls, .inl (cZ, 256, .inl f_walls)), (a_reachers, .inl (cI, 256, .inl f_reachers))] sz)) (va_A [(h0, .inr (0, [.int (nI Wd), .int (nI Ht), .ref a_walls, .int rs, .ref a_placeX, .ref a_placeY, .int (nI Pn), .ref a_reachers, .int old, .ref a_lossOf, .int sc, .ref a_upper, .ref a_length, .ref a_headsOn, .ref a_turn, .ref a_lack, .ref a_joined, .int jc])), (a_walls, .inl (cZ, 256, .inl f_walls)), (a_reachers, .inl (cI, 256, .inl f_reachers))] sz)) 0 0 (va_A [(h0, .inr (0, [.int (nI Wd), .int (nI Ht), .ref a_walls, .int rs, .ref a_placeX, .ref a_placeY, .int (nI Pn), .ref a_reachers, .int old, .ref a_lossOf, .int sc, .ref a_upper, .ref a_length, .ref a_headsOn, .ref a_turn, .ref a_lack, .ref a_joined, .int jc])), (a_walls, .inl (cZ, 256, .inl f_walls)), (a_reachers, .inl (cI, 256, .inl f_reachers))] sz) := by
  refine Met.ofW (cc := bN_addReacher) (maxL := 6) (ret := none) (by decide) rfl ?_
  intro p e s m args below meth c s₁ B hml hv
  obtain ⟨rfl, hsz, hP, hK, hD0⟩ := hv
  have hx := B.exec
  have hb := B.bytes
  have hr := B.returns
  have hts : ∀ w ∈ WD, w.before _ s = true := fun w h => atoms_spec (ws := kN_addReacher :: WD) B.pre w (List.mem_cons_of_mem _ h)
  have hown : s.vm.findClass R_N = some m.cls := findClass_of_methodNamed B.named
  have hlocks := B.notSynchronized
  subst hsz
  have hD := hD0.self (sz := s.heap.size)
  generalize hAe : va_A [(h0, .inr (0, [.int (nI Wd), .int (nI Ht), .ref a_walls, .int rs, .ref a_placeX, .ref a_placeY, .int (nI Pn), .ref a_reachers, .int old, .ref a_lossOf, .int sc, .ref a_upper, .ref a_length, .ref a_headsOn, .ref a_turn, .ref a_lack, .ref a_joined, .int jc])), (a_walls, .inl (cZ, 256, .inl f_walls)), (a_reachers, .inl (cI, 256, .inl f_reachers))] s.heap.size = A at hD ⊢
  have hA : ∀ q : Nat, s.heap.size ≤ q → A q := fun q h => by rw [← hAe]; exact Or.inr h
  have hS : va_S A s.heap s.heap [] := va_S.rf
  have hl := lv_entry ([.ref h0, .int (nI pl), .int (nI a), .int (nI b)]) (n := 6) (Nat.le_of_ble_eq_true rfl)
  rw [lg_entry_eq]
  generalize (lg_sl ([.ref h0, .int (nI pl), .int (nI a), .int (nI b)]) ++ List.replicate (6 - (lg_sl ([.ref h0, .int (nI pl), .int (nI a), .int (nI b)])).length) Slot.unset).toArray = ls at hl ⊢
  have hl : lv_has ls 6 [(0, .ref h0), (1, .int (nI pl)), (2, .int (nI a)), (3, .int (nI b))] := hl
  have lp15 : ∀ (k n : Nat) (v u : Nat) (g g9 : Nat → Int32), n < k → v < Ht → u + n = Wd → sn_ari Wd Ht f_walls rs (sn_bit pl) a b v n u g = g9 → (∀ (H : Heap) (locs : List Loc), va_P (dC, dI) snC [(h0, .inr (0, [.int (nI Wd), .int (nI Ht), .ref a_walls, .int rs, .ref a_placeX, .ref a_placeY, .int (nI Pn), .ref a_reachers, .int old, .ref a_lossOf, .int sc, .ref a_upper, .ref a_length, .ref a_headsOn, .ref a_turn, .ref a_lack, .ref a_joined, .int jc])), (a_walls, .inl (cZ, 256, .inl f_walls)), (a_reachers, .inl (cI, 256, .inl g9))] H → va_D A [(h0, .inr (0, [.int (nI Wd), .int (nI Ht), .ref a_walls, .int rs, .ref a_placeX, .ref a_placeY, .int (nI Pn), .ref a_reachers, .int old, .ref a_lossOf, .int sc, .ref a_upper, .ref a_length, .ref a_headsOn, .ref a_turn, .ref a_lack, .ref a_joined, .int jc])), (a_walls, .inl (cZ, 256, .inl f_walls)), (a_reachers, .inl (cI, 256, .inl g9))] → va_S A s.heap H locs → ∀ ls : Array Slot, lv_has ls 6 [(4, .int (nI v)), (0, .ref h0), (1, .int (nI pl)), (2, .int (nI a)), (3, .int (nI b))] → W p l e (headSpec (kN_addReacher :: WD) { frames := 3, cells := 0, slots := 0, locals := 76 }).room s m ([.ref h0, .int (nI pl), .int (nI a), .int (nI b)]).toArray below meth c H locs 0 0 (MQ below (va_Qv (fun _ : Unit => True) (fun _ => xo (dC, dI) snC [(h0, .inr (0, [.int (nI Wd), .int (nI Ht), .ref a_walls, .int rs, .ref a_placeX, .ref a_placeY, .int (nI Pn), .ref a_reachers, .int old, .ref a_lossOf, .int sc, .ref a_upper, .ref a_length, .ref a_headsOn, .ref a_turn, .ref a_lack, .ref a_joined, .int jc])), (a_walls, .inl (cZ, 256, .inl f_walls)), (a_reachers, .inl (cI, 256, .inl (sn_aro Wd Ht f_walls rs (sn_bit pl) a b Ht 0 f_reachers)))] [(cZ, .boolean), (cI, .int)] A) A) ([.ref h0, .int (nI pl), .int (nI a), .int (nI b)]).toArray s 0 0 (A)) (F0 m 74 ls [])) → ∀ (H : Heap) (locs : List Loc), va_P (dC, dI) snC [(h0, .inr (0, [.int (nI Wd), .int (nI Ht), .ref a_walls, .int rs, .ref a_placeX, .ref a_placeY, .int (nI Pn), .ref a_reachers, .int old, .ref a_lossOf, .int sc, .ref a_upper, .ref a_length, .ref a_headsOn, .ref a_turn, .ref a_lack, .ref a_joined, .int jc])), (a_walls, .inl (cZ, 256, .inl f_walls)), (a_reachers, .inl (cI, 256, .inl g))] H → va_D A [(h0, .inr (0, [.int (nI Wd), .int (nI Ht), .ref a_walls, .int rs, .ref a_placeX, .ref a_placeY, .int (nI Pn), .ref a_reachers, .int old, .ref a_lossOf, .int sc, .ref a_upper, .ref a_length, .ref a_headsOn, .ref a_turn, .ref a_lack, .ref a_joined, .int jc])), (a_walls, .inl (cZ, 256, .inl f_walls)), (a_reachers, .inl (cI, 256, .inl g))] → va_S A s.heap H locs → ∀ ls : Array Slot, lv_has ls 6 [(5, .int (nI u)), (4, .int (nI v)), (0, .ref h0), (1, .int (nI pl)), (2, .int (nI a)), (3, .int (nI b))] → W p l e (headSpec (kN_addReacher :: WD) { frames := 3, cells := 0, slots := 0, locals := 76 }).room s m ([.ref h0, .int (nI pl), .int (nI a), .int (nI b)]).toArray below meth c H locs 0 0 (MQ below (va_Qv (fun _ : Unit => True) (fun _ => xo (dC, dI) snC [(h0, .inr (0, [.int (nI Wd), .int (nI Ht), .ref a_walls, .int rs, .ref a_placeX, .ref a_placeY, .int (nI Pn), .ref a_reachers, .int old, .ref a_lossOf, .int sc, .ref a_upper, .ref a_length, .ref a_headsOn, .ref a_turn, .ref a_lack, .ref a_joined, .int jc])), (a_walls, .inl (cZ, 256, .inl f_walls)), (a_reachers, .inl (cI, 256, .inl (sn_aro Wd Ht f_walls rs (sn_bit pl) a b Ht 0 f_reachers)))] [(cZ, .boolean), (cI, .int)] A) A) ([.ref h0, .int (nI pl), .int (nI a), .int (nI b)]).toArray s 0 0 (A)) (F0 m 15 ls []) := by
    intro k
    induction k with
    | zero => exact fun n _ _ _ _ h => absurd h (Nat.not_lt_zero n)
    | succ k ih =>
      intro n v u g g9 hk hv9 hin hT hend H locs hP hD hS ls hl
      refine lv_iload hx hb dN_addReacher_15 (lv_at hl 0 rfl) ?_
      refine lv_aload_n hx hb dN_addReacher_17 rfl (lv_at hl 2 rfl) ?_
      refine va_get (D := (dC, dI)) (ci := 0) (v := .int (nI Wd)) (C := R_N) (T := T_N) (N := 18) hx hb hts in_N hown hK hP 0 rfl rfl 0 (by decide) (hts _ flN18) (fun _ h9 => h9) rfl dN_addReacher_18 ?_
      refine lv_icmp_ge (tgt := 74) hx hb dN_addReacher_21 (by decide) (fun c_1 => ?_) (fun c_1 => ?_)
      · have hz := (nI_leI (by omega) (by omega)).mp c_1
        obtain rfl : n = 0 := by omega
        obtain rfl : g = g9 := by rw [← hT]; simp [sn_ari]
        exact hend _ _ hP hD hS ls (lv_sub hl [1, 2, 3, 4, 5] rfl)
      · have hz : u < Wd := by have h9 := mt (nI_leI (by omega) (by omega)).mpr c_1; omega
        obtain ⟨n, rfl⟩ : ∃ n', n = n' + 1 := ⟨n - 1, by omega⟩
        refine lv_aload_n hx hb dN_addReacher_24 rfl (lv_at hl 2 rfl) ?_
        refine lv_iload_n hx hb dN_addReacher_25 rfl (lv_at hl 4 rfl) ?_
        refine lv_iload_n hx hb dN_addReacher_26 rfl (lv_at hl 5 rfl) ?_
        refine lv_iload hx hb dN_addReacher_27 (lv_at hl 0 rfl) ?_
        refine lv_iload hx hb dN_addReacher_29 (lv_at hl 1 rfl) ?_
        refine xr_V (As := [.int (nI a), .int (nI b), .int (nI u), .int (nI v)]) ⟨hx, hb, hml, hown, hts⟩ (cN_isNear l dC dI h0 a_walls a_placeX a_placeY a_reachers a_lossOf a_upper a_length a_headsOn a_turn a_lack a_joined Wd Ht Pn rs old sc jc (nI a) (nI b) (nI u) (nI v)) (cwV 4 hts gN175 rfl rfl rfl (by decide +kernel) ⟨Nat.le_of_ble_eq_true rfl, Nat.le_of_ble_eq_true rfl⟩) hK hP [0] [] rfl rfl 0 0 rfl rfl rfl rfl hl.1 rfl (Nat.le_of_ble_eq_true rfl) dN_addReacher_31 ⟨Nat.zero_le _, Nat.zero_le _⟩ (fun r_2 hr_2 => ?_)
        subst hr_2
        refine lv_if_eq (tgt := 68) hx hb dN_addReacher_34 (by decide) (fun c_3 => ?_) (fun c_3 => ?_)
        · replace c_3 := bz_0 c_3
          refine lv_iinc (v := (nI (u + 1))) (lv' := [(5, .int (nI (u + 1))), (4, .int (nI v)), (0, .ref h0), (1, .int (nI pl)), (2, .int (nI a)), (3, .int (nI b))]) hx hb dN_addReacher_68 hl (k := 0) rfl (nI_1 u) (by decide) rfl (fun ls hl => ?_)
          refine lv_goto (tgt := 15) hx hb dN_addReacher_71 (by decide) ?_
          exact ih n v (u + 1) g g9 (by omega) hv9 (by omega) (by rw [← hT]; simp [sn_ari, c_1, c_3]) hend _ _ hP hD hS ls (lv_sub hl [0, 1, 2, 3, 4, 5] rfl)
        · replace c_3 := bz_1 c_3
          refine lv_aload_n hx hb dN_addReacher_37 rfl (lv_at hl 2 rfl) ?_
          refine lv_iload_n hx hb dN_addReacher_38 rfl (lv_at hl 4 rfl) ?_
          refine lv_iload_n hx hb dN_addReacher_39 rfl (lv_at hl 5 rfl) ?_
          refine lv_iload hx hb dN_addReacher_40 (lv_at hl 0 rfl) ?_
          refine lv_iload hx hb dN_addReacher_42 (lv_at hl 1 rfl) ?_
          refine xr_V (As := [.int (nI a), .int (nI b), .int (nI u), .int (nI v)]) ⟨hx, hb, hml, hown, hts⟩ (cN_lineIsFree l dC dI h0 a_walls a_placeX a_placeY a_reachers a_lossOf a_upper a_length a_headsOn a_turn a_lack a_joined Wd Ht Pn rs old sc jc cZ f_walls a b u v hW hH (by omega) (by omega) (by omega) (by omega)) (cwV 4 hts gN112 rfl rfl rfl (by decide +kernel) ⟨Nat.le_of_ble_eq_true rfl, Nat.le_of_ble_eq_true rfl⟩) hK hP [0, 1] [0] rfl rfl 0 0 rfl rfl rfl rfl hl.1 rfl (Nat.le_of_ble_eq_true rfl) dN_addReacher_44 ⟨Nat.zero_le _, Nat.zero_le _⟩ (fun r_4 hr_4 => ?_)
          subst hr_4
          refine lv_if_eq (tgt := 68) hx hb dN_addReacher_47 (by decide) (fun c_5 => ?_) (fun c_5 => ?_)
          · replace c_5 := bz_0 c_5
            refine lv_iinc (v := (nI (u + 1))) (lv' := [(5, .int (nI (u + 1))), (4, .int (nI v)), (0, .ref h0), (1, .int (nI pl)), (2, .int (nI a)), (3, .int (nI b))]) hx hb dN_addReacher_68 hl (k := 0) rfl (nI_1 u) (by decide) rfl (fun ls hl => ?_)
            refine lv_goto (tgt := 15) hx hb dN_addReacher_71 (by decide) ?_
            exact ih n v (u + 1) g g9 (by omega) hv9 (by omega) (by rw [← hT]; simp [sn_ari, c_1, c_3, c_5]) hend _ _ hP hD hS ls (lv_sub hl [0, 1, 2, 3, 4, 5] rfl)
          · replace c_5 := bz_1 c_5
            refine lv_aload_n hx hb dN_addReacher_50 rfl (lv_at hl 2 rfl) ?_
            refine va_get (D := (dC, dI)) (ci := 0) (v := .ref a_reachers) (C := R_N) (T := T_N) (N := 18) hx hb hts in_N hown hK hP 0 rfl rfl 7 (by decide) (hts _ flN42) (fun _ h9 => h9) rfl dN_addReacher_51 ?_
            refine lv_iload hx hb dN_addReacher_54 (lv_at hl 0 rfl) ?_
            refine lv_iload hx hb dN_addReacher_56 (lv_at hl 1 rfl) ?_
            refine xr_S (As := [.int (nI u), .int (nI v)]) ⟨hx, hb, hml, hown, hts⟩ (cN_cellAt l dC dI (nI u) (nI v)) (va_cwS 2 hts gN90 rfl rfl rfl (by decide +kernel) ⟨Nat.le_of_ble_eq_true rfl, Nat.le_of_ble_eq_true rfl⟩) hK hP [] [] rfl rfl rfl hl.1 rfl (Nat.le_of_ble_eq_true rfl) dN_addReacher_58 ⟨Nat.zero_le _, Nat.zero_le _⟩ (fun r_6 hr_6 => ?_)
            subst hr_6
            rw [show ((nI v) * 16 + (nI u) : Int32) = nI (v * 16 + u) from sn_cell u v]
            refine lv_dup2_11 hx hb dN_addReacher_61 rfl rfl ?_
            refine xa_iald hx hb hK hP 2 1 rfl rfl (i := (v * 16 + u)) (by omega) (by first | decide | omega) dN_addReacher_62 ?_
            refine lv_iconst (v := 1) hx hb dN_addReacher_63 (by decide) ?_
            refine lv_iload_n hx hb dN_addReacher_64 rfl (lv_at hl 3 rfl) ?_
            refine lv_ishl hx hb dN_addReacher_65 ?_
            rw [show (1 <<< ((nI pl) &&& 31) : Int32) = sn_bit pl from rfl]
            refine lv_ior hx hb dN_addReacher_66 ?_
            refine xa_iast hx hb hK hP hD hS 2 1 rfl rfl (i := (v * 16 + u)) (x := (g (v * 16 + u)) ||| (sn_bit pl)) (by omega) (by first | decide | omega) dN_addReacher_67 (fun H locs hP hD hS => ?_)
            have hP : va_P (dC, dI) snC [(h0, .inr (0, [.int (nI Wd), .int (nI Ht), .ref a_walls, .int rs, .ref a_placeX, .ref a_placeY, .int (nI Pn), .ref a_reachers, .int old, .ref a_lossOf, .int sc, .ref a_upper, .ref a_length, .ref a_headsOn, .ref a_turn, .ref a_lack, .ref a_joined, .int jc])), (a_walls, .inl (cZ, 256, .inl f_walls)), (a_reachers, .inl (cI, 256, .inl (upd g (v * 16 + u) ((g (v * 16 + u)) ||| (sn_bit pl)))))] H := hP
            have hD : va_D A [(h0, .inr (0, [.int (nI Wd), .int (nI Ht), .ref a_walls, .int rs, .ref a_placeX, .ref a_placeY, .int (nI Pn), .ref a_reachers, .int old, .ref a_lossOf, .int sc, .ref a_upper, .ref a_length, .ref a_headsOn, .ref a_turn, .ref a_lack, .ref a_joined, .int jc])), (a_walls, .inl (cZ, 256, .inl f_walls)), (a_reachers, .inl (cI, 256, .inl (upd g (v * 16 + u) ((g (v * 16 + u)) ||| (sn_bit pl)))))] := hD
            refine lv_iinc (v := (nI (u + 1))) (lv' := [(5, .int (nI (u + 1))), (4, .int (nI v)), (0, .ref h0), (1, .int (nI pl)), (2, .int (nI a)), (3, .int (nI b))]) hx hb dN_addReacher_68 hl (k := 0) rfl (nI_1 u) (by decide) rfl (fun ls hl => ?_)
            refine lv_goto (tgt := 15) hx hb dN_addReacher_71 (by decide) ?_
            exact ih n v (u + 1) (upd g (v * 16 + u) ((g (v * 16 + u)) ||| (sn_bit pl))) g9 (by omega) hv9 (by omega) (by rw [← hT]; simp [sn_ari, c_1, c_3, c_5]) hend _ _ hP hD hS ls (lv_sub hl [0, 1, 2, 3, 4, 5] rfl)
  have lp3 : ∀ (k n : Nat) (v : Nat) (g : Nat → Int32), n < k → v + n = Ht → sn_aro Wd Ht f_walls rs (sn_bit pl) a b n v g = sn_aro Wd Ht f_walls rs (sn_bit pl) a b Ht 0 f_reachers → ∀ (H : Heap) (locs : List Loc), va_P (dC, dI) snC [(h0, .inr (0, [.int (nI Wd), .int (nI Ht), .ref a_walls, .int rs, .ref a_placeX, .ref a_placeY, .int (nI Pn), .ref a_reachers, .int old, .ref a_lossOf, .int sc, .ref a_upper, .ref a_length, .ref a_headsOn, .ref a_turn, .ref a_lack, .ref a_joined, .int jc])), (a_walls, .inl (cZ, 256, .inl f_walls)), (a_reachers, .inl (cI, 256, .inl g))] H → va_D A [(h0, .inr (0, [.int (nI Wd), .int (nI Ht), .ref a_walls, .int rs, .ref a_placeX, .ref a_placeY, .int (nI Pn), .ref a_reachers, .int old, .ref a_lossOf, .int sc, .ref a_upper, .ref a_length, .ref a_headsOn, .ref a_turn, .ref a_lack, .ref a_joined, .int jc])), (a_walls, .inl (cZ, 256, .inl f_walls)), (a_reachers, .inl (cI, 256, .inl g))] → va_S A s.heap H locs → ∀ ls : Array Slot, lv_has ls 6 [(4, .int (nI v)), (0, .ref h0), (1, .int (nI pl)), (2, .int (nI a)), (3, .int (nI b))] → W p l e (headSpec (kN_addReacher :: WD) { frames := 3, cells := 0, slots := 0, locals := 76 }).room s m ([.ref h0, .int (nI pl), .int (nI a), .int (nI b)]).toArray below meth c H locs 0 0 (MQ below (va_Qv (fun _ : Unit => True) (fun _ => xo (dC, dI) snC [(h0, .inr (0, [.int (nI Wd), .int (nI Ht), .ref a_walls, .int rs, .ref a_placeX, .ref a_placeY, .int (nI Pn), .ref a_reachers, .int old, .ref a_lossOf, .int sc, .ref a_upper, .ref a_length, .ref a_headsOn, .ref a_turn, .ref a_lack, .ref a_joined, .int jc])), (a_walls, .inl (cZ, 256, .inl f_walls)), (a_reachers, .inl (cI, 256, .inl (sn_aro Wd Ht f_walls rs (sn_bit pl) a b Ht 0 f_reachers)))] [(cZ, .boolean), (cI, .int)] A) A) ([.ref h0, .int (nI pl), .int (nI a), .int (nI b)]).toArray s 0 0 (A)) (F0 m 3 ls []) := by
    intro k
    induction k with
    | zero => exact fun n _ _ h => absurd h (Nat.not_lt_zero n)
    | succ k ih =>
      intro n v g hk hin hT H locs hP hD hS ls hl
      refine lv_iload hx hb dN_addReacher_3 (lv_at hl 0 rfl) ?_
      refine lv_aload_n hx hb dN_addReacher_5 rfl (lv_at hl 1 rfl) ?_
      refine va_get (D := (dC, dI)) (ci := 0) (v := .int (nI Ht)) (C := R_N) (T := T_N) (N := 18) hx hb hts in_N hown hK hP 0 rfl rfl 1 (by decide) (hts _ flN22) (fun _ h9 => h9) rfl dN_addReacher_6 ?_
      refine lv_icmp_ge (tgt := 80) hx hb dN_addReacher_9 (by decide) (fun c_1 => ?_) (fun c_1 => ?_)
      · have hz := (nI_leI (by omega) (by omega)).mp c_1
        obtain rfl : n = 0 := by omega
        rw [show sn_aro Wd Ht f_walls rs (sn_bit pl) a b Ht 0 f_reachers = g from by rw [← hT]; simp [sn_aro]]
        exact W.vret hx hb hr (fun t ht hW => ⟨⟨(), rfl, trivial, by rw [ht]; exact hP, va_K.moved hW.alike hK, hD⟩, hS.F ht⟩) hS.2.2 dN_addReacher_80
      · have hz : v < Ht := by have h9 := mt (nI_leI (by omega) (by omega)).mpr c_1; omega
        obtain ⟨n, rfl⟩ : ∃ n', n = n' + 1 := ⟨n - 1, by omega⟩
        refine lv_iconst (v := 0) hx hb dN_addReacher_12 (by decide) ?_
        refine lv_istore (lv' := [(5, .int 0), (4, .int (nI v)), (0, .ref h0), (1, .int (nI pl)), (2, .int (nI a)), (3, .int (nI b))]) hx hb dN_addReacher_13 hl (by decide) rfl (fun ls hl => ?_)
        refine lp15 (Wd + 1) Wd v 0 g _ (by omega) (by omega) (by omega) rfl ?_ _ _ hP hD hS ls (lv_sub hl [0, 1, 2, 3, 4, 5] rfl)
        intro H locs hP hD hS ls hl
        refine lv_iinc (v := (nI (v + 1))) (lv' := [(4, .int (nI (v + 1))), (0, .ref h0), (1, .int (nI pl)), (2, .int (nI a)), (3, .int (nI b))]) hx hb dN_addReacher_74 hl (k := 0) rfl (nI_1 v) (by decide) rfl (fun ls hl => ?_)
        refine lv_goto (tgt := 3) hx hb dN_addReacher_77 (by decide) ?_
        exact ih n (v + 1) (sn_ari Wd Ht f_walls rs (sn_bit pl) a b v Wd 0 g) (by omega) (by omega) (by rw [← hT]; simp [sn_aro]) _ _ hP hD hS ls (lv_sub hl [0, 1, 2, 3, 4] rfl)
  refine lv_iconst (v := 0) hx hb dN_addReacher_0 (by decide) ?_
  refine lv_istore (lv' := [(4, .int 0), (0, .ref h0), (1, .int (nI pl)), (2, .int (nI a)), (3, .int (nI b))]) hx hb dN_addReacher_1 hl (by decide) rfl (fun ls hl => ?_)
  exact lp3 (Ht + 1) Ht 0 f_reachers (by omega) (by omega) rfl _ _ hP hD hS ls (lv_sub hl [0, 1, 2, 3, 4] rfl)
set_option maxHeartbeats 4000000 in
set_option maxRecDepth 100000 in
theorem cN_findReachers (l : Launch) (dC : Nat → ClassId) (dI : Nat → Nat → Nat) (h0 a_walls a_placeX a_placeY a_reachers a_lossOf a_upper a_length a_headsOn a_turn a_lack a_joined : Nat) (Wd Ht Pn : Nat) (rs old sc jc : Int32) (cZ cI : ClassId) (f_walls f_placeX f_placeY f_reachers : Nat → Int32) (X Y : Nat → Nat) (sz : Nat) (hW : Wd ≤ 16) (hH : Ht ≤ 16) (hPn : Pn ≤ 12) (hXY : ∀ i, i < Pn → f_placeX i = nI (X i) ∧ f_placeY i = nI (Y i) ∧ X i < 16 ∧ Y i < 16) : Met l yN_findReachers (kN_findReachers :: WD) { frames := 4, cells := 0, slots := 0, locals := 101 } (va_Pc [.ref h0] (xm (dC, dI) snC [(h0, .inr (0, [.int (nI Wd), .int (nI Ht), .ref a_walls, .int rs, .ref a_placeX, .ref a_placeY, .int (nI Pn), .ref a_reachers, .int old, .ref a_lossOf, .int sc, .ref a_upper, .ref a_length, .ref a_headsOn, .ref a_turn, .ref a_lack, .ref a_joined, .int jc])), (a_walls, .inl (cZ, 256, .inl f_walls)), (a_placeX, .inl (cI, 12, .inl f_placeX)), (a_placeY, .inl (cI, 12, .inl f_placeY)), (a_reachers, .inl (cI, 256, .inl f_reachers))] [(cZ, .boolean), (cI, .int)] sz)) (va_Qv (fun _ : Unit => True) (fun _ => xo (dC, dI) snC [(h0, .inr (0, [.int (nI Wd), .int (nI Ht), .ref a_walls, .int rs, .ref a_placeX, .ref a_placeY, .int (nI Pn), .ref a_reachers, .int 0, .ref a_lossOf, .int sc, .ref a_upper, .ref a_length, .ref a_headsOn, .ref a_turn, .ref a_lack, .ref a_joined, .int jc])), (a_walls, .inl (cZ, 256, .inl f_walls)), (a_placeX, .inl (cI, 12, .inl f_placeX)), (a_placeY, .inl (cI, 12, .inl f_placeY)), (a_reachers, .inl (cI, 256, .inl (sn_find Wd Ht f_walls rs X Y Pn old f_reachers)))] [(cZ, .boolean), (cI, .int)] (va_A [(h0, .inr (0, [.int (nI Wd), .int (nI Ht), .ref a_walls, .int rs, .ref a_placeX, .ref a_placeY, .int (nI Pn), .ref a_reachers, .int old, .ref a_lossOf, .int sc, .ref a_upper, .ref a_length, .ref a_headsOn, .ref a_turn, .ref a_lack, .ref a_joined, .int jc])), (a_walls, .inl (cZ, 256, .inl f_walls)), (a_placeX, .inl (cI, 12, .inl f_placeX)), (a_placeY, .inl (cI, 12, .inl f_placeY)), (a_reachers, .inl (cI, 256, .inl f_reachers))] sz)) (va_A [(h0, .inr (0, [.int (nI Wd), .int (nI Ht), .ref a_walls, .int rs, .ref a_placeX, .ref a_placeY, .int (nI Pn), .ref a_reachers, .int old, .ref a_lossOf, .int sc, .ref a_upper, .ref a_length, .ref a_headsOn, .ref a_turn, .ref a_lack, .ref a_joined, .int jc])), (a_walls, .inl (cZ, 256, .inl f_walls)), (a_placeX, .inl (cI, 12, .inl f_placeX)), (a_placeY, .inl (cI, 12, .inl f_placeY)), (a_reachers, .inl (cI, 256, .inl f_reachers))] sz)) 0 0 (va_A [(h0, .inr (0, [.int (nI Wd), .int (nI Ht), .ref a_walls, .int rs, .ref a_placeX, .ref a_placeY, .int (nI Pn), .ref a_reachers, .int old, .ref a_lossOf, .int sc, .ref a_upper, .ref a_length, .ref a_headsOn, .ref a_turn, .ref a_lack, .ref a_joined, .int jc])), (a_walls, .inl (cZ, 256, .inl f_walls)), (a_placeX, .inl (cI, 12, .inl f_placeX)), (a_placeY, .inl (cI, 12, .inl f_placeY)), (a_reachers, .inl (cI, 256, .inl f_reachers))] sz) := by
  refine Met.ofW (cc := bN_findReachers) (maxL := 2) (ret := none) (by decide) rfl ?_
  intro p e s m args below meth c s₁ B hml hv
  obtain ⟨rfl, hsz, hP, hK, hD0⟩ := hv
  have hx := B.exec
  have hb := B.bytes
  have hr := B.returns
  have hts : ∀ w ∈ WD, w.before _ s = true := fun w h => atoms_spec (ws := kN_findReachers :: WD) B.pre w (List.mem_cons_of_mem _ h)
  have hown : s.vm.findClass R_N = some m.cls := findClass_of_methodNamed B.named
  have hlocks := B.notSynchronized
  subst hsz
  have hD := hD0.self (sz := s.heap.size)
  generalize hAe : va_A [(h0, .inr (0, [.int (nI Wd), .int (nI Ht), .ref a_walls, .int rs, .ref a_placeX, .ref a_placeY, .int (nI Pn), .ref a_reachers, .int old, .ref a_lossOf, .int sc, .ref a_upper, .ref a_length, .ref a_headsOn, .ref a_turn, .ref a_lack, .ref a_joined, .int jc])), (a_walls, .inl (cZ, 256, .inl f_walls)), (a_placeX, .inl (cI, 12, .inl f_placeX)), (a_placeY, .inl (cI, 12, .inl f_placeY)), (a_reachers, .inl (cI, 256, .inl f_reachers))] s.heap.size = A at hD ⊢
  have hA : ∀ q : Nat, s.heap.size ≤ q → A q := fun q h => by rw [← hAe]; exact Or.inr h
  have hS : va_S A s.heap s.heap [] := va_S.rf
  have hl := lv_entry ([.ref h0]) (n := 2) (Nat.le_of_ble_eq_true rfl)
  rw [lg_entry_eq]
  generalize (lg_sl ([.ref h0]) ++ List.replicate (2 - (lg_sl ([.ref h0])).length) Slot.unset).toArray = ls at hl ⊢
  have hl : lv_has ls 2 [(0, .ref h0)] := hl
  have lp18 : ∀ (k n : Nat) (i : Nat) (g : Nat → Int32), n < k → i + n = Pn → sn_fr Wd Ht f_walls rs X Y n i g = sn_fr Wd Ht f_walls rs X Y Pn 0 (sn_fill 0 256 0 f_reachers) → ¬ old = 0 → ∀ (H : Heap) (locs : List Loc), va_P (dC, dI) snC [(h0, .inr (0, [.int (nI Wd), .int (nI Ht), .ref a_walls, .int rs, .ref a_placeX, .ref a_placeY, .int (nI Pn), .ref a_reachers, .int old, .ref a_lossOf, .int sc, .ref a_upper, .ref a_length, .ref a_headsOn, .ref a_turn, .ref a_lack, .ref a_joined, .int jc])), (a_walls, .inl (cZ, 256, .inl f_walls)), (a_placeX, .inl (cI, 12, .inl f_placeX)), (a_placeY, .inl (cI, 12, .inl f_placeY)), (a_reachers, .inl (cI, 256, .inl g))] H → va_D A [(h0, .inr (0, [.int (nI Wd), .int (nI Ht), .ref a_walls, .int rs, .ref a_placeX, .ref a_placeY, .int (nI Pn), .ref a_reachers, .int old, .ref a_lossOf, .int sc, .ref a_upper, .ref a_length, .ref a_headsOn, .ref a_turn, .ref a_lack, .ref a_joined, .int jc])), (a_walls, .inl (cZ, 256, .inl f_walls)), (a_placeX, .inl (cI, 12, .inl f_placeX)), (a_placeY, .inl (cI, 12, .inl f_placeY)), (a_reachers, .inl (cI, 256, .inl g))] → va_S A s.heap H locs → ∀ ls : Array Slot, lv_has ls 2 [(1, .int (nI i)), (0, .ref h0)] → W p l e (headSpec (kN_findReachers :: WD) { frames := 4, cells := 0, slots := 0, locals := 101 }).room s m ([.ref h0]).toArray below meth c H locs 0 0 (MQ below (va_Qv (fun _ : Unit => True) (fun _ => xo (dC, dI) snC [(h0, .inr (0, [.int (nI Wd), .int (nI Ht), .ref a_walls, .int rs, .ref a_placeX, .ref a_placeY, .int (nI Pn), .ref a_reachers, .int 0, .ref a_lossOf, .int sc, .ref a_upper, .ref a_length, .ref a_headsOn, .ref a_turn, .ref a_lack, .ref a_joined, .int jc])), (a_walls, .inl (cZ, 256, .inl f_walls)), (a_placeX, .inl (cI, 12, .inl f_placeX)), (a_placeY, .inl (cI, 12, .inl f_placeY)), (a_reachers, .inl (cI, 256, .inl (sn_find Wd Ht f_walls rs X Y Pn old f_reachers)))] [(cZ, .boolean), (cI, .int)] A) A) ([.ref h0]).toArray s 0 0 (A)) (F0 m 18 ls []) := by
    intro k
    induction k with
    | zero => exact fun n _ _ h => absurd h (Nat.not_lt_zero n)
    | succ k ih =>
      intro n i g hk hin hT hold H locs hP hD hS ls hl
      refine lv_iload_n hx hb dN_findReachers_18 rfl (lv_at hl 0 rfl) ?_
      refine lv_bipush (v := (nI 12)) hx hb dN_findReachers_19 (by decide) ?_
      refine lv_icmp_ge (tgt := 55) hx hb dN_findReachers_21 (by decide) (fun c_1 => ?_) (fun c_1 => ?_)
      · have hz := (nI_leI (by omega) (by omega)).mp c_1
        obtain rfl : n = 0 := by omega
        refine lv_aload_n hx hb dN_findReachers_55 rfl (lv_at hl 1 rfl) ?_
        refine lv_iconst (v := 0) hx hb dN_findReachers_56 (by decide) ?_
        refine va_put (D := (dC, dI)) (ci := 0) (v := .int 0) (ty := .boolean) (C := R_N) (T := T_N) (N := 18) hx hb hts in_N t_N tok_N n_N hown hK hP hD hS 0 rfl rfl 8 (by decide) (hts _ flN45) (fun _ h9 => h9) rfl (by decide +kernel) rfl rfl (Nat.le_of_ble_eq_true rfl) dN_findReachers_57 (fun H locs hP hD hS => ?_)
        have hP : va_P (dC, dI) snC [(h0, .inr (0, [.int (nI Wd), .int (nI Ht), .ref a_walls, .int rs, .ref a_placeX, .ref a_placeY, .int (nI Pn), .ref a_reachers, .int 0, .ref a_lossOf, .int sc, .ref a_upper, .ref a_length, .ref a_headsOn, .ref a_turn, .ref a_lack, .ref a_joined, .int jc])), (a_walls, .inl (cZ, 256, .inl f_walls)), (a_placeX, .inl (cI, 12, .inl f_placeX)), (a_placeY, .inl (cI, 12, .inl f_placeY)), (a_reachers, .inl (cI, 256, .inl g))] H := hP
        have hD : va_D A [(h0, .inr (0, [.int (nI Wd), .int (nI Ht), .ref a_walls, .int rs, .ref a_placeX, .ref a_placeY, .int (nI Pn), .ref a_reachers, .int 0, .ref a_lossOf, .int sc, .ref a_upper, .ref a_length, .ref a_headsOn, .ref a_turn, .ref a_lack, .ref a_joined, .int jc])), (a_walls, .inl (cZ, 256, .inl f_walls)), (a_placeX, .inl (cI, 12, .inl f_placeX)), (a_placeY, .inl (cI, 12, .inl f_placeY)), (a_reachers, .inl (cI, 256, .inl g))] := hD
        rw [show sn_find Wd Ht f_walls rs X Y Pn old f_reachers = g from by rw [sn_find, if_neg hold, ← hT]; simp [sn_fr]]
        exact W.vret hx hb hr (fun t ht hW => ⟨⟨(), rfl, trivial, by rw [ht]; exact hP, va_K.moved hW.alike hK, hD⟩, hS.F ht⟩) hS.2.2 dN_findReachers_60
      · refine lv_iload_n hx hb dN_findReachers_24 rfl (lv_at hl 0 rfl) ?_
        refine lv_aload_n hx hb dN_findReachers_25 rfl (lv_at hl 1 rfl) ?_
        refine va_get (D := (dC, dI)) (ci := 0) (v := .int (nI Pn)) (C := R_N) (T := T_N) (N := 18) hx hb hts in_N hown hK hP 0 rfl rfl 6 (by decide) (hts _ flN39) (fun _ h9 => h9) rfl dN_findReachers_26 ?_
        refine lv_icmp_ge (tgt := 55) hx hb dN_findReachers_29 (by decide) (fun c_2 => ?_) (fun c_2 => ?_)
        · have hz := (nI_leI (by omega) (by omega)).mp c_2
          obtain rfl : n = 0 := by omega
          refine lv_aload_n hx hb dN_findReachers_55 rfl (lv_at hl 1 rfl) ?_
          refine lv_iconst (v := 0) hx hb dN_findReachers_56 (by decide) ?_
          refine va_put (D := (dC, dI)) (ci := 0) (v := .int 0) (ty := .boolean) (C := R_N) (T := T_N) (N := 18) hx hb hts in_N t_N tok_N n_N hown hK hP hD hS 0 rfl rfl 8 (by decide) (hts _ flN45) (fun _ h9 => h9) rfl (by decide +kernel) rfl rfl (Nat.le_of_ble_eq_true rfl) dN_findReachers_57 (fun H locs hP hD hS => ?_)
          have hP : va_P (dC, dI) snC [(h0, .inr (0, [.int (nI Wd), .int (nI Ht), .ref a_walls, .int rs, .ref a_placeX, .ref a_placeY, .int (nI Pn), .ref a_reachers, .int 0, .ref a_lossOf, .int sc, .ref a_upper, .ref a_length, .ref a_headsOn, .ref a_turn, .ref a_lack, .ref a_joined, .int jc])), (a_walls, .inl (cZ, 256, .inl f_walls)), (a_placeX, .inl (cI, 12, .inl f_placeX)), (a_placeY, .inl (cI, 12, .inl f_placeY)), (a_reachers, .inl (cI, 256, .inl g))] H := hP
          have hD : va_D A [(h0, .inr (0, [.int (nI Wd), .int (nI Ht), .ref a_walls, .int rs, .ref a_placeX, .ref a_placeY, .int (nI Pn), .ref a_reachers, .int 0, .ref a_lossOf, .int sc, .ref a_upper, .ref a_length, .ref a_headsOn, .ref a_turn, .ref a_lack, .ref a_joined, .int jc])), (a_walls, .inl (cZ, 256, .inl f_walls)), (a_placeX, .inl (cI, 12, .inl f_placeX)), (a_placeY, .inl (cI, 12, .inl f_placeY)), (a_reachers, .inl (cI, 256, .inl g))] := hD
          rw [show sn_find Wd Ht f_walls rs X Y Pn old f_reachers = g from by rw [sn_find, if_neg hold, ← hT]; simp [sn_fr]]
          exact W.vret hx hb hr (fun t ht hW => ⟨⟨(), rfl, trivial, by rw [ht]; exact hP, va_K.moved hW.alike hK, hD⟩, hS.F ht⟩) hS.2.2 dN_findReachers_60
        · have hz : i < Pn := by have h9 := mt (nI_leI (by omega) (by omega)).mpr c_2; omega
          obtain ⟨n, rfl⟩ : ∃ n', n = n' + 1 := ⟨n - 1, by omega⟩
          have hxy := hXY i hz
          refine lv_aload_n hx hb dN_findReachers_32 rfl (lv_at hl 1 rfl) ?_
          refine lv_iload_n hx hb dN_findReachers_33 rfl (lv_at hl 0 rfl) ?_
          refine lv_aload_n hx hb dN_findReachers_34 rfl (lv_at hl 1 rfl) ?_
          refine va_get (D := (dC, dI)) (ci := 0) (v := .ref a_placeX) (C := R_N) (T := T_N) (N := 18) hx hb hts in_N hown hK hP 0 rfl rfl 4 (by decide) (hts _ flN32) (fun _ h9 => h9) rfl dN_findReachers_35 ?_
          refine lv_iload_n hx hb dN_findReachers_38 rfl (lv_at hl 0 rfl) ?_
          refine xa_iald hx hb hK hP 2 1 rfl rfl (i := i) (by omega) (by first | decide | omega) dN_findReachers_39 ?_
          rw [show (f_placeX i : Int32) = nI (X i) from (hXY i hz).1]
          refine lv_aload_n hx hb dN_findReachers_40 rfl (lv_at hl 1 rfl) ?_
          refine va_get (D := (dC, dI)) (ci := 0) (v := .ref a_placeY) (C := R_N) (T := T_N) (N := 18) hx hb hts in_N hown hK hP 0 rfl rfl 5 (by decide) (hts _ flN36) (fun _ h9 => h9) rfl dN_findReachers_41 ?_
          refine lv_iload_n hx hb dN_findReachers_44 rfl (lv_at hl 0 rfl) ?_
          refine xa_iald hx hb hK hP 3 1 rfl rfl (i := i) (by omega) (by first | decide | omega) dN_findReachers_45 ?_
          rw [show (f_placeY i : Int32) = nI (Y i) from (hXY i hz).2.1]
          refine xm_Vv (S := Unit) (As := [.int (nI i), .int (nI (X i)), .int (nI (Y i))]) (w1 := fun _ => [(h0, .inr (0, [.int (nI Wd), .int (nI Ht), .ref a_walls, .int rs, .ref a_placeX, .ref a_placeY, .int (nI Pn), .ref a_reachers, .int old, .ref a_lossOf, .int sc, .ref a_upper, .ref a_length, .ref a_headsOn, .ref a_turn, .ref a_lack, .ref a_joined, .int jc])), (a_walls, .inl (cZ, 256, .inl f_walls)), (a_reachers, .inl (cI, 256, .inl (sn_aro Wd Ht f_walls rs (sn_bit i) (X i) (Y i) Ht 0 g)))]) (wz := fun _ => [(h0, .inr (0, [.int (nI Wd), .int (nI Ht), .ref a_walls, .int rs, .ref a_placeX, .ref a_placeY, .int (nI Pn), .ref a_reachers, .int old, .ref a_lossOf, .int sc, .ref a_upper, .ref a_length, .ref a_headsOn, .ref a_turn, .ref a_lack, .ref a_joined, .int jc])), (a_walls, .inl (cZ, 256, .inl f_walls)), (a_placeX, .inl (cI, 12, .inl f_placeX)), (a_placeY, .inl (cI, 12, .inl f_placeY)), (a_reachers, .inl (cI, 256, .inl (sn_aro Wd Ht f_walls rs (sn_bit i) (X i) (Y i) Ht 0 g)))]) (wr := [(a_placeX, .inl (cI, 12, .inl f_placeX)), (a_placeY, .inl (cI, 12, .inl f_placeY))]) ⟨hx, hb, hml, hown, hts⟩ (cN_addReacher l dC dI h0 a_walls a_placeX a_placeY a_reachers a_lossOf a_upper a_length a_headsOn a_turn a_lack a_joined Wd Ht Pn rs old sc jc cZ cI f_walls g i (X i) (Y i) _ hW hH (by omega) (by omega)) (cwV 3 hts gN171 rfl rfl rfl (by decide +kernel) ⟨Nat.le_of_ble_eq_true rfl, Nat.le_of_ble_eq_true rfl⟩) hK hP hD hS hA [0, 1, 4] [2, 3] [2, 3, 0, 1, 4] [0, 1] rfl rfl (fun _ => rfl) (by decide) (by decide) (by decide) (by decide) rfl 0 0 rfl rfl rfl rfl hl.1 rfl (Nat.le_of_ble_eq_true rfl) dN_findReachers_46 ⟨Nat.zero_le _, Nat.zero_le _⟩ (fun u H locs hr_3 hP hD hS => ?_)
          refine lv_iinc (v := (nI (i + 1))) (lv' := [(1, .int (nI (i + 1))), (0, .ref h0)]) hx hb dN_findReachers_49 hl (k := 0) rfl (nI_1 i) (by decide) rfl (fun ls hl => ?_)
          refine lv_goto (tgt := 18) hx hb dN_findReachers_52 (by decide) ?_
          exact ih n (i + 1) (sn_aro Wd Ht f_walls rs (sn_bit i) (X i) (Y i) Ht 0 g) (by omega) (by omega) (by rw [← hT]; simp [sn_fr]) hold _ _ hP hD hS ls (lv_sub hl [0, 1] rfl)
  refine lv_aload_n hx hb dN_findReachers_0 rfl (lv_at hl 0 rfl) ?_
  refine va_get (D := (dC, dI)) (ci := 0) (v := .int old) (C := R_N) (T := T_N) (N := 18) hx hb hts in_N hown hK hP 0 rfl rfl 8 (by decide) (hts _ flN45) (fun _ h9 => h9) rfl dN_findReachers_1 ?_
  refine lv_if_ne (tgt := 8) hx hb dN_findReachers_4 (by decide) (fun c_1 => ?_) (fun c_1 => ?_)
  · have hold := c_1
    refine lv_aload_n hx hb dN_findReachers_8 rfl (lv_at hl 0 rfl) ?_
    refine va_get (D := (dC, dI)) (ci := 0) (v := .ref a_reachers) (C := R_N) (T := T_N) (N := 18) hx hb hts in_N hown hK hP 0 rfl rfl 7 (by decide) (hts _ flN42) (fun _ h9 => h9) rfl dN_findReachers_9 ?_
    refine lv_iconst (v := 0) hx hb dN_findReachers_12 (by decide) ?_
    refine xm_Sv (S := Unit) (As := [.ref a_reachers, .int 0]) (w1 := fun _ => [(a_reachers, .inl (cI, 256, .inl (sn_fill 0 256 0 f_reachers)))]) (wz := fun _ => [(h0, .inr (0, [.int (nI Wd), .int (nI Ht), .ref a_walls, .int rs, .ref a_placeX, .ref a_placeY, .int (nI Pn), .ref a_reachers, .int old, .ref a_lossOf, .int sc, .ref a_upper, .ref a_length, .ref a_headsOn, .ref a_turn, .ref a_lack, .ref a_joined, .int jc])), (a_walls, .inl (cZ, 256, .inl f_walls)), (a_placeX, .inl (cI, 12, .inl f_placeX)), (a_placeY, .inl (cI, 12, .inl f_placeY)), (a_reachers, .inl (cI, 256, .inl (sn_fill 0 256 0 f_reachers)))]) (wr := [(h0, .inr (0, [.int (nI Wd), .int (nI Ht), .ref a_walls, .int rs, .ref a_placeX, .ref a_placeY, .int (nI Pn), .ref a_reachers, .int old, .ref a_lossOf, .int sc, .ref a_upper, .ref a_length, .ref a_headsOn, .ref a_turn, .ref a_lack, .ref a_joined, .int jc])), (a_walls, .inl (cZ, 256, .inl f_walls)), (a_placeX, .inl (cI, 12, .inl f_placeX)), (a_placeY, .inl (cI, 12, .inl f_placeY))]) ⟨hx, hb, hml, hown, hts⟩ (cA_fill l dC dI a_reachers cI 256 f_reachers 0 _ (by decide)) (va_cwS 2 hts gN52 rfl rfl rfl (by decide +kernel) ⟨Nat.le_of_ble_eq_true rfl, Nat.le_of_ble_eq_true rfl⟩) hK hP hD hS hA [4] [0, 1, 2, 3] [0, 1, 2, 3, 4] [1] rfl rfl (fun _ => rfl) (by decide) (by decide) (by decide) (by decide) rfl rfl hl.1 rfl (Nat.le_of_ble_eq_true rfl) dN_findReachers_13 ⟨Nat.zero_le _, Nat.zero_le _⟩ (fun u H locs hr_2 hP hD hS => ?_)
    refine lv_iconst (v := 0) hx hb dN_findReachers_16 (by decide) ?_
    refine lv_istore_n (lv' := [(1, .int 0), (0, .ref h0)]) hx hb dN_findReachers_17 rfl hl (by decide) rfl (fun ls hl => ?_)
    exact lp18 (Pn + 1) Pn 0 (sn_fill 0 256 0 f_reachers) (by omega) (by omega) rfl hold _ _ hP hD hS ls (lv_sub hl [0, 1] rfl)
  · subst c_1
    rw [show sn_find Wd Ht f_walls rs X Y Pn 0 f_reachers = f_reachers from rfl]
    exact W.vret hx hb hr (fun t ht hW => ⟨⟨(), rfl, trivial, by rw [ht]; exact hP, va_K.moved hW.alike hK, hD⟩, hS.F ht⟩) hS.2.2 dN_findReachers_7
