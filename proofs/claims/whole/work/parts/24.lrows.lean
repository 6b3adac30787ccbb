def R_law : String := "SprinkleNetsLaw"
def lw_P (b : Addr) (xs : List Int32) (args : Array Value) (s : State) : Prop := args = #[.ref b] ∧ s.IntsAt b xs ∧ xs.length ≤ 2562 ∧ (Jvm.Cond.and given_1 narrow_1).before args s = true
def lw_Q (_ : Array Value) (s : State) (o : Outcome) (t : State) : Prop := o = .returned (some (.int 1)) ∧ Framed s o t [] 1059 9523
def lw_Z (below : List Frame) (a : Array Value) (s : State) : State → Prop := fun t => ∃ o, t.status = .running ∧ Ended t below o ∧ lw_Q a s o t
theorem lw_ret {p : Program} {l : Launch} {e : Env} {s : State} {m : MethodId} {below : List Frame} {meth : Method} {c : Code} {b : Nat} (hx : p.tables.exec = Jvm.exec) (hb : c.code = code) (hr : meth.sig.returnType = ret) (hlocks : meth.locks = false) {pc : Nat} {H : Heap} {ls : Array Slot} (hdg : decode code pc = .ok (.ireturn, 1)) : W p l e room_1 s m #[Value.ref b] below meth c H [] 1059 9523 (lw_Z below #[Value.ref b] s) (F0 m pc ls [.int 1]) := by
  intro T hT X
  obtain ⟨fs, hret, hrun, hended, hW, hframe⟩ := X.leave (v := some (.int 1)) (hlocks := hlocks) (fun h => by rw [hr] at h; cases h)
  have hmeth' : T.vm.method? m = some meth := X.method'
  refine ⟨T.setFrames fs, ?_, .returned (some (.int 1)), hrun, hended, rfl, ⟨_, rfl⟩, hW, hframe⟩
  jvm_step X.here [X.here.top, hx, hb, hdg, hmeth', hr, ret, narrow_b1]
  (try refine ⟨rfl, ?_⟩); (try refine ⟨rfl, ?_⟩)
  first | (intro acts; rw [hret _ acts rfl rfl rfl]) | rw [hret _ _ rfl rfl rfl]
  exact Steps.refl _
def lw_At (p : Program) (s : State) (m : MethodId) (meth : Method) (c : Code) (b L : Nat) (xs : Nat → Int32) : Prop :=
  p.tables.exec = Jvm.exec ∧ c.code = code ∧ meth.sig.returnType = ret ∧ c.maxLocals = 7 ∧ s.vm.findClass R_law = some m.cls ∧ (∀ w ∈ lw_tbl, w.before #[Value.ref b] s = true) ∧ va_X b L xs s s.heap ∧ b < s.heap.size ∧ meth.locks = false ∧ (Jvm.Cond.and given_1 narrow_1).before #[Value.ref b] s = true
theorem lg_self (x : Int64) : lg_cmp x x = 0 := by simp [lg_cmp]
section XLL
variable {p : Program} {l : Launch} {e : Env} {R : Room} {s : State} {m : MethodId} {args : Array Value} {below : List Frame} {meth : Method} {c : Code} {H : Heap} {locs : List Loc} {cells slots : Nat} {Q : State → Prop}
variable {cc : ByteArray} {pc : Nat} {ls : Array Slot} {rest st0 : List Value} {D : va_G} {cl : List vw_C} {tys tc : List (ClassId × FieldType)} {wl wc : va_W} {A0 : Nat → Prop} {H0 : Heap}
variable {y : MethodName} {bytes : ByteArray} {maxL nL n index : Nat} {ret : Option FieldType} {ws : List Cond} {rm : Room} {Ts : List Cond} {own : String} {As : List Value} {hh : List (Nat × Nat × Nat × Nat)}
theorem xa_sld (hexec : p.tables.exec = Jvm.exec) (hb : c.code = cc) {b L : Nat} {xs : Nat → Int32} (hX : va_X b L xs s H0) (hbl : b < H0.size) (hbA : ¬ A0 b) (hS : va_S A0 H0 H locs) {i : Nat} (hi : i < L) (hL : L < 2 ^ 31) (hdg : decode cc pc = .ok (.iaload, 1))
    (kk : W p l e R s m args below meth c H locs cells slots Q (F0 m (pc + 1) ls (.int (xs i) :: rest))) : W p l e R s m args below meth c H locs cells slots Q (F0 m pc ls (.int (nI i) :: .ref b :: rest)) :=
  va_sld hexec hb hX hbl hbA hS (vp_in_nI hi hL) hdg (by rw [nI_clamp (by omega)]; exact kk)
theorem xm_SWi {S : Type} {post : Int32 → S → Prop} {w1 wz : S → va_W} {wr : va_W} (Sx : CallFix p m c cc nL s args Ts own) (hM : Met l y ws rm (va_Pc As (xm D cl wc tc H.size)) (va_Qi post (fun u => xo D cl (w1 u) tc (va_A wc H.size)) (va_A wc H.size)) 0 0 (va_A wc H.size)) (cw : vx_CSW R s args own index y bytes maxL ret hh ws rm 0 0 n)
    (hK : va_K D cl tys s) (hP : va_P D cl wl H) (hD : va_D A0 wl) (hS : va_S A0 H0 H locs) (hA : ∀ q, H0.size ≤ q → A0 q) (iw ir od it : List Nat) (hiw : iw.map (fun i => wl[i]?) = wc.map some) (hir : ir.map (fun i => wl[i]?) = wr.map some) (hod : ∀ u, od.map (fun i => (wr ++ w1 u)[i]?) = (wz u).map some) (hn1 : va_nd iw = true) (hn2 : va_nd ir = true) (hn3 : va_nd od = true) (hdis : ∀ i ∈ ir, i ∉ iw)
    (hit : it.filterMap (fun i => tys[i]?) = tc)
    (hn : As.length = n) (hsize : ls.size = nL) (hstack : st0 = As.reverse ++ rest) (hW : (rest.map fun v => v.category).sum ≤ 8) (hdg : decode cc pc = .ok (.invokestatic index, 3)) (hf : cells ≤ R.cells ∧ slots ≤ R.slots)
    (kk : ∀ (r : Int32) (u : S) (H1 : Heap) (locs1 : List Loc), post r u → va_P D cl (wz u) H1 → va_D A0 (wz u) → va_S A0 H0 H1 locs1 → W p l e R s m args below meth c H1 locs1 cells slots Q (F0 m (pc + 3) ls (.int r :: rest))) : W p l e R s m args below meth c H locs cells slots Q (F0 m pc ls st0) := by
  have hPc := hP.sub iw (xm_iw hiw)
  have hDc := hD.sub iw hn1 hiw
  have hKc := hK.sub it hit
  have hFc := va_free (wc := wc) hD hS hA iw hiw
  refine va_calli (vx_runSW (As := As) (rest := rest) Sx hM cw ⟨xm_blind, fun U hU hW => ⟨rfl, xm_at hKc hPc hDc rfl U hU hW⟩⟩ rfl hn hsize hstack (lv_room hW) hdg hf) hS (fun q _ h => hFc q h) hFc (fun r u t H1 locs ht hvm hw hB hz1 hk1 hS => ?_)
  obtain ⟨hP1, hK1, hD1⟩ := hB
  rw [ht] at hP1
  obtain ⟨hP, hD⟩ := va_join (wr := wr) (w1 := w1 u) hP hD iw ir hiw hir hn2 hdis hk1 hFc hP1 hD1
  exact kk r u H1 locs hw (hP.sub od (xm_iw (hod u))) (hD.sub od hn3 (hod u)) hS
theorem xl_T {k : Int32} {B : State → Prop} (S : CallFix p m c cc nL s args Ts own) (hM : Met l y ws rm (va_Pc As B) (xt_R k) 1 6 (fun _ => False)) (cw : vx_CSW R s args own index y bytes maxL ret hh ws rm 1 6 n)
    (hbl : FrameBlind (va_Pc As B)) (hB : ∀ U : State, U.heap = H → s.WarmedH U.vm → B U) (hP : va_P D cl wl H) (hS : va_S A0 H0 H locs)
    (hn : As.length = n) (hsize : ls.size = nL) (hstack : st0 = As.reverse ++ rest) (hW : (rest.map fun v => v.category).sum ≤ 8) (hdg : decode cc pc = .ok (.invokestatic index, 3)) (hf : cells + 1 ≤ R.cells ∧ slots + 6 ≤ R.slots)
    (kk : ∀ H1 : Heap, va_P D cl wl H1 → va_S A0 H0 H1 locs → W p l e R s m args below meth c H1 locs (cells + 1) (slots + 6) Q (F0 m (pc + 3) ls (.int k :: rest))) : W p l e R s m args below meth c H locs cells slots Q (F0 m pc ls st0) := by
  have hr := vx_runSW (p := p) (e := e) (below := below) (meth := meth) (locs := locs) (cells := cells) (slots := slots) (g := F0 m pc ls st0) (As := As) (rest := rest) S hM cw ⟨hbl, fun U hU hW => ⟨rfl, hB U hU hW⟩⟩ rfl hn hsize hstack (lv_room hW) hdg hf
  intro T hT X
  obtain ⟨v, st₀, t, T', L, h0, X', hL, e1, e2, ⟨hv, hF⟩, go⟩ := hr T hT X
  cases xt_nil hL
  cases hv
  rw [List.append_nil] at X'
  have h1 : H.size ≤ T'.heap.size := by rw [e1, ← h0]; exact hF.1
  have h2 : ∀ z, z < H.size → T'.heap[z]? = H[z]? := fun z hz => by rw [e1, ← h0]; exact hF.2 z (by rw [h0]; exact hz) (fun x => x)
  obtain ⟨t2, a1, b1⟩ := kk T'.heap (hP.kept (fun k q hk => h2 q.1 ((hP k q hk).lt))) ⟨Nat.le_trans hS.1 h1, fun q g1 g2 => (h2 q (Nat.lt_of_lt_of_le g1 hS.1)).trans (hS.2.1 q g1 g2), hS.2.2⟩ T' rfl X'
  exact ⟨t2, go t2 a1, b1⟩
end XLL
def xl_S (A : Nat → Prop) (s : State) : Prop := vx_Zq Bundle.tN "UNASSIGNED_STACK" Bundle.steD A s s.heap ∧ vx_Zq Bundle.tN "SUPPRESSED_SENTINEL" Bundle.listD A s s.heap ∧ (∀ x ∈ xt_strs, ∃ a, vk_R R_N x.1 x.2 a s) ∧ (∀ w ∈ xt_bad, w.before #[] s = true) ∧ va_Nc xt_ISE xt_IAE s
theorem xl_S.at {A : Nat → Prop} {s U : State} {H : Heap} {locs : List Loc} (h : xl_S A s) (hS : va_S A s.heap H locs) (hA : ∀ q, s.heap.size ≤ q → A q) (hU : U.heap = H) (hW : s.WarmedH U.vm) : xt_S U := by
  obtain ⟨h1, h2, h3, h4, -⟩ := h
  have hn : ∀ q : Nat, U.heap.size ≤ q → A q := fun q hq => hA q (Nat.le_trans hS.1 (by rw [← hU]; exact hq))
  refine ⟨vx_Zq.narrow (vx_Zq.moved hW.alike (vx_Zq.kept h1 (fun a g1 g2 => by rw [hU]; exact hS.2.1 a g1 g2))) hn, vx_Zq.narrow (vx_Zq.moved hW.alike (vx_Zq.kept h2 (fun a g1 g2 => by rw [hU]; exact hS.2.1 a g1 g2))) hn, fun x hx => ?_, fun w hw => xt_ride hW w hw (h4 w hw)⟩
  obtain ⟨a, ha⟩ := h3 x hx
  exact ⟨a, vk_R.warm hW ha⟩
theorem xl_blind {D : va_G} {cl : List vw_C} {ws : va_W} {tys : List (ClassId × FieldType)} {av : List Value} : FrameBlind (va_Pc av (fun U => xt_B D cl ws tys U ∧ va_Nc xt_ISE xt_IAE U)) := fun a U g mk q => by
  obtain ⟨q0, ⟨⟨qP, qK⟩, qS⟩, qN⟩ := q
  exact ⟨q0, ⟨⟨qP, va_K.moved (u := U) (U := U.calling g mk a) (Vm.Alike.refl U.vm) qK⟩, qS.blind a g mk⟩, va_Nc.moved (u := U) (U := U.calling g mk a) (Vm.Alike.refl U.vm) qN⟩
theorem xl_blind1 {D : va_G} {cl : List vw_C} {ws : va_W} {tys : List (ClassId × FieldType)} {av : List Value} : FrameBlind (va_Pc av (fun U => xt_B D cl ws tys U)) := xt_blind
