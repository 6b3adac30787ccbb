def xc (b L : Nat) (xs : Nat → Int32) (U : State) : Prop := va_X b L xs U U.heap ∧ b < U.heap.size
theorem xc_blind {b L : Nat} {xs : Nat → Int32} {av : List Value} : FrameBlind (va_Pc av (xc b L xs)) := fun a U g mk q => by
  obtain ⟨q0, qX, qb⟩ := q
  exact ⟨q0, va_X.moved (u := U) (U := U.calling g mk a) (Vm.Alike.refl U.vm) qX, qb⟩
def ce9 (L : Nat) (xs : Nat → Int32) (k : Nat) : Int32 := if k < L then xs k else 0
set_option maxHeartbeats 4000000 in
set_option maxRecDepth 100000 in
theorem cL_cell (l : Launch) (b L : Nat) (xs : Nat → Int32) (hL : L ≤ 2562) (k : Nat) (hk : k < 2) : Met l yL_cell (kL_cell :: WD) { frames := 0, cells := 0, slots := 0, locals := 0 } (va_Pc [.ref b, .int (nI k)] (xc b L xs)) (xr_Q (fun r => r = ce9 L xs k)) 0 0 (fun _ => False) := by
  refine Met.ofW (cc := bL_cell) (maxL := 2) (ret := (some .int)) (by decide) rfl ?_
  intro p e s m args below meth c s₁ B hml hv
  obtain ⟨rfl, hX, hbl⟩ := hv
  have hx := B.exec
  have hb := B.bytes
  have hr := B.returns
  have hlocks := B.notSynchronized
  have hbA : ¬ (fun q : Nat => s.heap.size ≤ q) b := Nat.not_le.mpr hbl
  have hS : va_S (fun q : Nat => s.heap.size ≤ q) s.heap s.heap [] := va_S.rf
  have hl := lv_entry ([.ref b, .int (nI k)]) (n := 2) (Nat.le_of_ble_eq_true rfl)
  rw [lg_entry_eq]
  generalize (lg_sl ([.ref b, .int (nI k)]) ++ List.replicate (2 - (lg_sl ([.ref b, .int (nI k)])).length) Slot.unset).toArray = ls at hl ⊢
  have hl : lv_has ls 2 [(0, .ref b), (1, .int (nI k))] := hl
  refine lv_iload_n hx hb dL_cell_0 rfl (lv_at hl 1 rfl) ?_
  refine lv_aload_n hx hb dL_cell_1 rfl (lv_at hl 0 rfl) ?_
  refine va_slen hx hb hX hbl hbA hS dL_cell_2 ?_
  refine lv_icmp_ge (tgt := 12) hx hb dL_cell_3 (by decide) (fun c_1 => ?_) (fun c_1 => ?_)
  · refine lv_iconst (v := 0) hx hb dL_cell_12 (by decide) ?_
    have h9 : ¬ k < L := fun q => absurd c_1 (nI_ge q (by omega))
    exact W.iret (v := 0) hx hb hr (fun t ht hW => ⟨⟨0, rfl, by rw [ce9, if_neg h9]⟩, ht⟩) (fun _ h => absurd h List.not_mem_nil) dL_cell_13
  · have h9 : k < L := by
      rcases Nat.lt_or_ge k L with q | q
      · exact q
      · exact absurd (nI_le q (by omega)) c_1
    refine lv_aload_n hx hb dL_cell_6 rfl (lv_at hl 0 rfl) ?_
    refine lv_iload_n hx hb dL_cell_7 rfl (lv_at hl 1 rfl) ?_
    refine xa_sld hx hb hX hbl hbA hS (i := k) h9 (by omega) dL_cell_8 ?_
    refine lv_goto (tgt := 13) hx hb dL_cell_9 (by decide) ?_
    exact W.iret (v := xs k) hx hb hr (fun t ht hW => ⟨⟨xs k, rfl, by rw [ce9, if_pos h9]⟩, ht⟩) (fun _ h => absurd h List.not_mem_nil) dL_cell_13
section XCL
variable {p : Program} {l : Launch} {e : Env} {R : Room} {s : State} {m : MethodId} {args : Array Value} {below : List Frame} {meth : Method} {c : Code} {H : Heap} {locs : List Loc} {cells slots : Nat} {Q : State → Prop}
variable {cc : ByteArray} {pc : Nat} {ls : Array Slot} {rest st0 : List Value} {y : MethodName} {bytes : ByteArray} {maxL nL n index : Nat} {ret : Option FieldType} {ws : List Cond} {rm : Room} {Ts : List Cond} {own : String} {As : List Value}
theorem xl_C {post : Int32 → Prop} {B : State → Prop} (S : CallFix p m c cc nL s args Ts own) (hM : Met l y ws rm (va_Pc As B) (xr_Q post) 0 0 (fun _ => False)) (cw : CallB R s args own index y bytes maxL ret ws rm 0 0 n ∧ (Cond.static y).before args s = true)
    (hbl : FrameBlind (va_Pc As B)) (hB : ∀ U : State, U.heap = H → s.WarmedH U.vm → B U)
    (hn : As.length = n) (hsize : ls.size = nL) (hstack : st0 = As.reverse ++ rest) (hW : (rest.map fun v => v.category).sum ≤ 8) (hdg : decode cc pc = .ok (.invokestatic index, 3)) (hf : cells ≤ R.cells ∧ slots ≤ R.slots)
    (kk : ∀ r : Int32, post r → W p l e R s m args below meth c H locs cells slots Q (F0 m (pc + 3) ls (.int r :: rest))) : W p l e R s m args below meth c H locs cells slots Q (F0 m pc ls st0) :=
  xr_go (va_runS (As := As) (rest := rest) S hM cw ⟨hbl, fun U hU hW => ⟨rfl, hB U hU hW⟩⟩ rfl hn hsize hstack (lv_room hW) hdg hf) kk
end XCL
theorem xc_at {b L : Nat} {xs : Nat → Int32} {s : State} {A : Nat → Prop} {H : Heap} {locs : List Loc} (hX : va_X b L xs s s.heap) (hbl : b < s.heap.size) (hbA : ¬ A b) (hS : va_S A s.heap H locs) : ∀ U : State, U.heap = H → s.WarmedH U.vm → xc b L xs U := fun U hU hW => by
  refine ⟨va_X.moved hW.alike ?_, ?_⟩
  · rw [hU]; exact va_X.kept hX (hS.2.1 b hbl hbA)
  · rw [hU]; exact Nat.lt_of_lt_of_le hbl hS.1
theorem nr_str : ∀ x ∈ xt_strs, Cond.exactly (.string R_N x.1) "java/lang/String" ∈ flatC (Jvm.Cond.and given_1 narrow_1) := by decide +kernel
theorem tb_str : ∀ x ∈ xt_strs, Cond.stringRef R_N x.1 x.2 ∈ lw_tbl := by decide +kernel
theorem nr_1 : Cond.isRef (.static Bundle.tN "UNASSIGNED_STACK" Bundle.steD) ∈ flatC (Jvm.Cond.and given_1 narrow_1) := by decide +kernel
theorem nr_2 : Cond.isRef (.static Bundle.tN "SUPPRESSED_SENTINEL" Bundle.listD) ∈ flatC (Jvm.Cond.and given_1 narrow_1) := by decide +kernel
theorem nr_3 : Cond.not (.castable xt_ISE xt_IAE) ∈ flatC (Jvm.Cond.and given_1 narrow_1) := by decide +kernel
theorem tb_1 : Cond.laysStatic Bundle.tN "UNASSIGNED_STACK" Bundle.steD ∈ lw_tbl := by decide +kernel
theorem tb_2 : Cond.laysStatic Bundle.tN "SUPPRESSED_SENTINEL" Bundle.listD ∈ lw_tbl := by decide +kernel
theorem tb_3 : Cond.initialized Bundle.tN ∈ lw_tbl := by decide +kernel
theorem xl_S_of {args : Array Value} {s : State} (hts : ∀ w ∈ lw_tbl, w.before args s = true) (hgv : (Jvm.Cond.and given_1 narrow_1).before args s = true) : xl_S (fun q => s.heap.size ≤ q) s := by
  have hs := flat_of_before _ hgv
  have hA : ∀ a : Nat, a < s.heap.size → ¬ (fun q => s.heap.size ≤ q) a := fun a h => Nat.not_le.mpr h
  refine ⟨vx_Zqof (hts _ tb_1) (hts _ tb_3) (hs _ nr_1) hA, vx_Zqof (hts _ tb_2) (hts _ tb_3) (hs _ nr_2) hA, fun x hx => ?_, fun w hw => xt_arg0 w hw (hts w (xt_tb w hw)), va_Nc.of (hs _ nr_3)⟩
  obtain ⟨a, c, cell, k, q1, _⟩ := Cond.exactly_spec (args := args) (first := s) (o := none) (s := s) (idx := []) (hs _ (nr_str x hx))
  exact ⟨a, vk_R.of (hts _ (tb_str x hx)) q1⟩
theorem sn_w0_at (Wd Ht : Nat) : ∀ (n i : Nat) (f : Nat → Int32) (c : Nat), sn_w0 Wd Ht n i f c = if i ≤ c ∧ c < i + n then sn_wl Wd Ht c else f c := by
  intro n
  induction n with
  | zero => intro i r c; rw [if_neg (by omega)]; rfl
  | succ n ih =>
    intro i r c
    rw [sn_w0, ih]
    by_cases e : c = i
    · subst e; rw [if_neg (by omega), if_pos (by omega), pk_us]
    · rw [pk_un e]
      by_cases h : i + 1 ≤ c ∧ c < i + 1 + n
      · rw [if_pos h, if_pos (by omega)]
      · rw [if_neg h, if_neg (by omega)]
theorem RL_init (w h : Int32) : RL (sn_cl w) (sn_cl h) 0 16 0 0 (sn_w0 (sn_cl w) (sn_cl h) 256 0 (fun _ => 0)) (fun _ => 0) (fun _ => 0) (fun _ => 0) (sn_fill (-1) 13 0 (fun _ => 0)) (fun _ => 0) (fun _ => 0) (fun _ => 0) (sn_fill (-1) 13 0 (fun _ => 0)) (fun _ => 0) (fun _ => 0) := by
  have hw := sn_cl_le w
  have hh := sn_cl_le h
  refine ⟨⟨hw, hh, by omega⟩, fun i hi => absurd hi (Nat.not_lt_zero i), fun x y hx hy => ?_, fun x y hx hy hc => ?_, fun i => Or.inl rfl, fun i h1 h2 => ⟨rfl, Or.inl ?_⟩, by decide +kernel, fun _ x y hx hy => ?_⟩
  · rw [sn_w0_at, if_pos (by omega), sn_wl, if_neg (by omega)]
  · rw [sn_w0_at, if_pos (by omega), sn_wl, if_pos (by omega)]
  · rw [sn_fill_at, if_pos (by omega)]
  · split <;> rfl
theorem xk_sameZ {D : va_G} {cl : List vw_C} {tys : List (ClassId × FieldType)} {s : State} (hK : va_K D cl tys s) (i j : Nat) {c1 c2 : ClassId} (hi : tys[i]? = some (c1, .boolean)) (hj : tys[j]? = some (c2, .boolean)) : c1 = c2 :=
  Option.some.inj ((hK.2 i _ hi).2.symm.trans (hK.2 j _ hj).2)
