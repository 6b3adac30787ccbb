def xt_IAE : String := "java/lang/IllegalArgumentException"
def xt_ISE : String := "java/lang/IllegalStateException"
def xt_nm : List String := ["java/lang/RuntimeException", "java/lang/Exception"]
def xt_strs : List (Nat × String) := [(162, "there is no such cell"), (95, "reach is out of its bounds"), (102, "the cell is a wall"), (108, "the cell is a place already"), (110, "there are as many places as there may be"), (164, "there is no such place"), (166, "a bit of the set is no place"), (132, "k is below 0"), (147, "heads are out of their bounds"), (149, "loss is out of its bounds"), (154, "there is no such thing of a pipe")]
def xt_bad : List Cond := [.castable xt_IAE xt_IAE, .castable xt_ISE xt_ISE, .declares ⟨"java/lang/RuntimeException", "<init>", "(Ljava/lang/String;)V"⟩, .declares ⟨"java/lang/Exception", "<init>", "(Ljava/lang/String;)V"⟩, .declares ⟨"java/lang/Throwable", "<init>", "(Ljava/lang/String;)V"⟩]
theorem xt_ride {s U : State} (hW : s.WarmedH U.vm) : ∀ w ∈ xt_bad, w.before #[] s = true → w.before #[] U = true := by
  intro w hw
  simp only [xt_bad, List.mem_cons, List.not_mem_nil, or_false] at hw
  rcases hw with rfl | rfl | rfl | rfl | rfl
  · intro h; have h1 : (Cond.castable xt_IAE xt_IAE).before #[] (s.setVm U.vm) = true := Cond.before_shiftedFace (State.Shifted.of_warmed hW) _ rfl h; exact h1
  · intro h; have h1 : (Cond.castable xt_ISE xt_ISE).before #[] (s.setVm U.vm) = true := Cond.before_shiftedFace (State.Shifted.of_warmed hW) _ rfl h; exact h1
  · intro h; have h1 := Cond.before_shiftedFace (State.Shifted.of_warmed hW) _ rfl h; exact h1
  · intro h; have h1 := Cond.before_shiftedFace (State.Shifted.of_warmed hW) _ rfl h; exact h1
  · intro h; have h1 := Cond.before_shiftedFace (State.Shifted.of_warmed hW) _ rfl h; exact h1
theorem xt_arg {s : State} {args : Array Value} : ∀ w ∈ xt_bad, w.before #[] s = true → w.before args s = true := by
  intro w hw
  simp only [xt_bad, List.mem_cons, List.not_mem_nil, or_false] at hw
  rcases hw with rfl | rfl | rfl | rfl | rfl
  · exact fun h => h
  · exact fun h => h
  · exact fun h => h
  · exact fun h => h
  · exact fun h => h
theorem xt_arg0 {s : State} {args : Array Value} : ∀ w ∈ xt_bad, w.before args s = true → w.before #[] s = true := by
  intro w hw
  simp only [xt_bad, List.mem_cons, List.not_mem_nil, or_false] at hw
  rcases hw with rfl | rfl | rfl | rfl | rfl
  · exact fun h => h
  · exact fun h => h
  · exact fun h => h
  · exact fun h => h
  · exact fun h => h
theorem xt_same {s U : State} (hv : U.vm = s.vm) : ∀ w ∈ xt_bad, w.before #[] s = true → w.before #[] U = true := by
  intro w hw h
  have hW : s.WarmedH U.vm := by rw [hv]; exact State.WarmedH.refl s
  exact xt_ride hW w hw h
def xt_S (U : State) : Prop := vx_Zq Bundle.tN "UNASSIGNED_STACK" Bundle.steD (fun q => U.heap.size ≤ q) U U.heap ∧ vx_Zq Bundle.tN "SUPPRESSED_SENTINEL" Bundle.listD (fun q => U.heap.size ≤ q) U U.heap ∧ (∀ x ∈ xt_strs, ∃ a, vk_R R_N x.1 x.2 a U) ∧ ∀ w ∈ xt_bad, w.before #[] U = true
theorem xt_S.same {s U : State} (h : xt_S s) (hU : U.heap = s.heap) (hW : s.WarmedH U.vm) : xt_S U := by
  obtain ⟨h1, h2, h3, h4⟩ := h
  refine ⟨by rw [hU]; exact vx_Zq.moved hW.alike h1, by rw [hU]; exact vx_Zq.moved hW.alike h2, fun x hx => ?_, fun w hw => xt_ride hW w hw (h4 w hw)⟩
  obtain ⟨a, ha⟩ := h3 x hx
  exact ⟨a, vk_R.warm hW ha⟩
theorem xt_S.blind {U : State} (h : xt_S U) (a : Array Value) (g : JFrame) (mk : MethodId) : xt_S (U.calling g mk a) := by
  obtain ⟨h1, h2, h3, h4⟩ := h
  refine ⟨vx_Zq.moved (u := U) (U := U.calling g mk a) (Vm.Alike.refl U.vm) h1, vx_Zq.moved (u := U) (U := U.calling g mk a) (Vm.Alike.refl U.vm) h2, fun x hx => ?_, fun w hw => xt_same (s := U) (U := U.calling g mk a) rfl w hw (h4 w hw)⟩
  obtain ⟨b, hb⟩ := h3 x hx
  exact ⟨b, vk_R.same (u := U) (U := U.calling g mk a) rfl hb⟩
def xt_B (D : va_G) (cl : List vw_C) (ws : va_W) (tys : List (ClassId × FieldType)) (U : State) : Prop := xw D cl ws tys U ∧ xt_S U
theorem xt_blind {D : va_G} {cl : List vw_C} {ws : va_W} {tys : List (ClassId × FieldType)} {av : List Value} : FrameBlind (va_Pc av (xt_B D cl ws tys)) := fun a U g mk q => by
  obtain ⟨q0, ⟨qP, qK⟩, qS⟩ := q
  exact ⟨q0, ⟨qP, va_K.moved (u := U) (U := U.calling g mk a) (Vm.Alike.refl U.vm) qK⟩, qS.blind a g mk⟩
def xt_F : Array Value → State → Outcome → State → Prop := fun _ _ _ _ => False
def xt_X (X : String) : String → State → State → Prop := fun E st t => E = X ∧ va_F (fun _ => False) st t
def MetT (l : Launch) (y : MethodName) (ws : List Cond) (rm : Room) (Pc : Array Value → State → Prop) (X : String) : Prop := vx_Met l y ws rm Pc xt_F (xt_X X) 1 6 (fun _ => False)
theorem xt_bI : ∀ w ∈ (vx_atS R_N 97 xt_IAE xt_nm).filter (fun w => !goodWord w), w ∈ xt_bad := by decide +kernel
theorem xt_bS : ∀ w ∈ (vx_atS R_N 104 xt_ISE xt_nm).filter (fun w => !goodWord w), w ∈ xt_bad := by decide +kernel
theorem xt_aI : ∀ w ∈ (vx_atS R_N 97 xt_IAE xt_nm).filter goodWord, w ∈ WD := by decide +kernel
theorem xt_aS : ∀ w ∈ (vx_atS R_N 104 xt_ISE xt_nm).filter goodWord, w ∈ WD := by decide +kernel
theorem xt_tb : ∀ w ∈ xt_bad, w ∈ lw_tbl := by decide +kernel
theorem xt_gI : ∀ w ∈ Cond.classLink R_N 93 xt_IAE :: Cond.initialized xt_IAE :: vx_atS R_N 97 xt_IAE xt_nm, vx_ot w = true := by decide +kernel
theorem xt_gS : ∀ w ∈ Cond.classLink R_N 100 xt_ISE :: Cond.initialized xt_ISE :: vx_atS R_N 104 xt_ISE xt_nm, vx_ot w = true := by decide +kernel
theorem xt_nf : ∀ n ∈ xt_nm, Bundle.fit n = true := by decide +kernel
section XT
variable {p : Program} {l : Launch} {e : Env} {R : Room} {s : State} {m : MethodId} {args : Array Value} {below : List Frame} {meth : Method} {c : Code} {H : Heap} {Q : State → Prop}
variable {cc : ByteArray} {pc : Nat} {ls : Array Slot} {rest st0 : List Value} {D : va_G} {cl : List vw_C} {tys tc : List (ClassId × FieldType)} {wl wc : va_W}
theorem xt_I (hx : p.tables.exec = Jvm.exec) (hb : c.code = cc) (hlt : l.stackTraces = false) (hown : s.vm.findClass R_N = some m.cls) (hts : ∀ w ∈ WD, w.before args s = true) (hSt : xt_S s) {is : Nat} {text : String} (hin : (is, text) ∈ xt_strs) (hsize : ls.size = c.maxLocals)
    (d0 : decode cc pc = .ok (.new 93, 3)) (d3 : decode cc (pc + 3) = .ok (.dup, 1)) (d4 : decode cc (pc + 4) = .ok (.ldc is, 2)) (d6 : decode cc (pc + 6) = .ok (.invokespecial 97, 3)) (d9 : decode cc (pc + 9) = .ok (.athrow, 1))
    (hout : ∀ x ∈ c.exceptionTable.toList, False) (hRf : 6 ≤ R.frames) (hRl : (rest.map fun v => v.category).sum + 82 ≤ R.locals) (hRc : 1 ≤ R.cells) (hRs : 6 ≤ R.slots) (hlocks : meth.locks = false) :
    W p l e R s m args below meth c s.heap [] 0 0 (vx_MQ below xt_F (xt_X xt_IAE) args s 1 6 (fun _ => False)) (F0 m pc ls rest) := by
  obtain ⟨h1, h2, h3, h4⟩ := hSt
  obtain ⟨sa, hsa⟩ := h3 _ hin
  exact vx_throwS (names := xt_nm) (cls := xt_IAE) (text := text) hx hb hlt hown (by decide +kernel) xt_nf (hts _ clN93) (hts _ iniIAE) hsa
    (vx_hat (fun w hw => hts w (xt_aI w hw)) xt_bI (fun w hw => xt_arg w hw (h4 w hw))) xt_gI h1 h2 va_S.rf hsize d0 d3 d4 d6 d9 (fun x hx => (hout x hx).elim) (by show 2 + 3 < R.frames; omega) (by show _ + (13 * (2 + 1) + 43) ≤ _; omega) (by omega) (by omega) hlocks
    (fun t _ a b => ⟨rfl, a, fun q hq _ => b q hq⟩) (fun _ h => absurd h List.not_mem_nil) (by omega) (by omega)
theorem xt_St (hx : p.tables.exec = Jvm.exec) (hb : c.code = cc) (hlt : l.stackTraces = false) (hown : s.vm.findClass R_N = some m.cls) (hts : ∀ w ∈ WD, w.before args s = true) (hSt : xt_S s) {is : Nat} {text : String} (hin : (is, text) ∈ xt_strs) (hsize : ls.size = c.maxLocals)
    (d0 : decode cc pc = .ok (.new 100, 3)) (d3 : decode cc (pc + 3) = .ok (.dup, 1)) (d4 : decode cc (pc + 4) = .ok (.ldc is, 2)) (d6 : decode cc (pc + 6) = .ok (.invokespecial 104, 3)) (d9 : decode cc (pc + 9) = .ok (.athrow, 1))
    (hout : ∀ x ∈ c.exceptionTable.toList, False) (hRf : 6 ≤ R.frames) (hRl : (rest.map fun v => v.category).sum + 82 ≤ R.locals) (hRc : 1 ≤ R.cells) (hRs : 6 ≤ R.slots) (hlocks : meth.locks = false) :
    W p l e R s m args below meth c s.heap [] 0 0 (vx_MQ below xt_F (xt_X xt_ISE) args s 1 6 (fun _ => False)) (F0 m pc ls rest) := by
  obtain ⟨h1, h2, h3, h4⟩ := hSt
  obtain ⟨sa, hsa⟩ := h3 _ hin
  exact vx_throwS (names := xt_nm) (cls := xt_ISE) (text := text) hx hb hlt hown (by decide +kernel) xt_nf (hts _ clN100) (hts _ iniISE) hsa
    (vx_hat (fun w hw => hts w (xt_aS w hw)) xt_bS (fun w hw => xt_arg w hw (h4 w hw))) xt_gS h1 h2 va_S.rf hsize d0 d3 d4 d6 d9 (fun x hx => (hout x hx).elim) (by show 2 + 3 < R.frames; omega) (by show _ + (13 * (2 + 1) + 43) ≤ _; omega) (by omega) (by omega) hlocks
    (fun t _ a b => ⟨rfl, a, fun q hq _ => b q hq⟩) (fun _ h => absurd h List.not_mem_nil) (by omega) (by omega)
variable {y : MethodName} {bytes : ByteArray} {maxL nL n index : Nat} {ret : Option FieldType} {ws : List Cond} {rm : Room} {Ts : List Cond} {own C X : String} {b : Addr} {As : List Value}
theorem xt_nil {L : List Loc} (h : ∀ q ∈ L, (fun _ : Addr => False) q.base) : L = [] := by
  cases L with
  | nil => rfl
  | cons q L => exact absurd (h q List.mem_cons_self) (fun x => x)
/-- the callee throws, and so does this method -/
theorem xt_V (S : CallFix p m c cc nL s args Ts own) (hM : MetT l y ws rm (va_Pc (.ref b :: As) (xt_B D cl wc tc)) X) (cw : CallW R s args own C index y bytes maxL ret ws rm 1 6 n) (hSt : xt_S s)
    (hK : va_K D cl tys s) (hP : va_P D cl wl s.heap) (iw it : List Nat) (hiw : iw.filterMap (fun i => wl[i]?) = wc) (hit : it.filterMap (fun i => tys[i]?) = tc) (ci q0 : Nat) {q : vw_C} {fs : List Value} (hc : cl[ci]? = some q) (he : wl[q0]? = some (b, .inr (ci, fs))) (hq : q.1 = C)
    (hn : As.length = n) (hsize : ls.size = nL) (hstack : st0 = As.reverse ++ .ref b :: rest) (hW : (rest.map fun v => v.category).sum ≤ 8) (hdg : decode cc pc = .ok (.invokevirtual index, 3)) (hf : 1 ≤ R.cells ∧ 6 ≤ R.slots) (hout : ∀ x ∈ c.exceptionTable.toList, False) (hlocks : meth.locks = false) :
    W p l e R s m args below meth c s.heap [] 0 0 (vx_MQ below xt_F (xt_X X) args s 1 6 (fun _ => False)) (F0 m pc ls st0) := by
  have hr := vx_runV (p := p) (e := e) (below := below) (meth := meth) (locs := []) (cells := 0) (slots := 0) (g := F0 m pc ls st0) (As := As) (rest := rest) S hM cw ⟨xt_blind, by rw [← hq]; exact va_recv hK hP hc he, fun U hU hW => ⟨rfl, xw_at (hK.sub it hit) (hP.sub iw hiw) U hU hW, hSt.same hU hW⟩⟩ rfl hn hsize hstack (lv_room hW) hdg ⟨by omega, by omega⟩
  intro T hT XS
  rcases hr T hT XS with ⟨_, _, _, _, _, _, _, _, _, _, hF, _⟩ | ⟨q, st₀, t, T', L, E, ce, h0, X', hL, e1, e2, ⟨rfl, hF⟩, hce, hcv, hcl, st⟩
  · exact hF.elim
  · cases xt_nil hL
    have hh : ∀ t2 : State, t2.heap = T'.heap → s.vm.Alike t2.vm → xt_X E E s t2 := fun t2 h9 _ => ⟨rfl, by rw [h9, e1, ← h0]; exact hF.1, fun z hz _ => by rw [h9, e1, ← h0]; exact hF.2 z (by rw [h0]; exact hz) (fun x => x)⟩
    obtain ⟨t3, a1, a2⟩ := vx_out (p := p) (l := l) (e := e) (R := R) (below := below) (meth := meth) (pc := pc) (ls := ls) (rest := rest) (Qc := xt_F) (XC := xt_X E) (free := fun _ => False) (mc := 1) (ms := 6) (fun x hx => (hout x hx).elim) hlocks (H := T'.heap) (by rw [e1]; exact hce) hcv hcl hh (locs := []) (fun _ h => absurd h List.not_mem_nil) (cells := 0 + 1) (slots := 0 + 6) (by omega) (by omega) T' rfl X'
    exact ⟨t3, st.trans a1, a2⟩
end XT
