

def xw (D : va_G) (cl : List vw_C) (ws : va_W) (tys : List (ClassId × FieldType)) (U : State) : Prop := va_P D cl ws U.heap ∧ va_K D cl tys U
theorem xw_blind {D : va_G} {cl : List vw_C} {ws : va_W} {tys : List (ClassId × FieldType)} {av : List Value} : FrameBlind (va_Pc av (xw D cl ws tys)) := fun a U g mk q => by
  obtain ⟨q0, qP, qK⟩ := q
  exact ⟨q0, qP, va_K.moved (u := U) (U := U.calling g mk a) (Vm.Alike.refl U.vm) qK⟩

def xr_Q (post : Int32 → Prop) : Array Value → State → Outcome → State → Prop := fun _ st oc t => (∃ r : Int32, oc = .returned (some (.int r)) ∧ post r) ∧ t.heap = st.heap
def xr_Qv : Array Value → State → Outcome → State → Prop := fun _ st oc t => oc = .returned none ∧ t.heap = st.heap
section XR
variable {p : Program} {l : Launch} {e : Env} {R : Room} {s : State} {m : MethodId} {args : Array Value} {below : List Frame} {meth : Method} {c : Code} {H : Heap} {locs : List Loc} {cells slots : Nat} {Q : State → Prop}
variable {cc : ByteArray} {pc : Nat} {ls : Array Slot} {rest st0 : List Value} {a : Array Value}
theorem xr_go {post : Int32 → Prop} (hr : va_Run p l e R s m args below meth c H locs cells slots 0 0 (F0 m pc ls st0) rest (xr_Q post a) (fun _ => False))
    (kk : ∀ r : Int32, post r → W p l e R s m args below meth c H locs cells slots Q (F0 m (pc + 3) ls (.int r :: rest))) : W p l e R s m args below meth c H locs cells slots Q (F0 m pc ls st0) := by
  intro T hT X
  obtain ⟨v, st₀, t, T', L, h0, X', hL, e1, e2, ⟨⟨r, hv, hp⟩, hh⟩, go⟩ := hr T hT X
  have hL0 : L = [] := by
    cases L with
    | nil => rfl
    | cons q L => exact absurd (hL q List.mem_cons_self) (fun x => x)
  subst hL0
  cases hv
  rw [List.append_nil] at X'
  obtain ⟨t2, a1, b1⟩ := kk r hp T' (by rw [e1, hh, h0]) X'
  exact ⟨t2, go t2 a1, b1⟩
theorem xr_gov (hr : va_Run p l e R s m args below meth c H locs cells slots 0 0 (F0 m pc ls st0) rest (xr_Qv a) (fun _ => False))
    (kk : W p l e R s m args below meth c H locs cells slots Q (F0 m (pc + 3) ls rest)) : W p l e R s m args below meth c H locs cells slots Q (F0 m pc ls st0) := by
  intro T hT X
  obtain ⟨v, st₀, t, T', L, h0, X', hL, e1, e2, ⟨hv, hh⟩, go⟩ := hr T hT X
  have hL0 : L = [] := by
    cases L with
    | nil => rfl
    | cons q L => exact absurd (hL q List.mem_cons_self) (fun x => x)
  subst hL0
  cases hv
  rw [List.append_nil] at X'
  obtain ⟨t2, a1, b1⟩ := kk T' (by rw [e1, hh, h0]) X'
  exact ⟨t2, go t2 a1, b1⟩
end XR
section XA
variable {p : Program} {l : Launch} {e : Env} {R : Room} {s : State} {m : MethodId} {args : Array Value} {below : List Frame} {meth : Method} {c : Code} {H : Heap} {locs : List Loc} {cells slots : Nat} {Q : State → Prop}
variable {cc : ByteArray} {pc : Nat} {ls : Array Slot} {rest : List Value} {D : va_G} {cl : List vw_C} {A : Nat → Prop} {a : Nat} {tys : List (ClassId × FieldType)} {ws : va_W} {H0 : Heap}
theorem xa_iald (hexec : p.tables.exec = Jvm.exec) (hb : c.code = cc) (hK : va_K D cl tys s) (hP : va_P D cl ws H) (q0 t0 : Nat) {cA : ClassId} {n : Nat} {f : Nat → Int32} (ha : ws[q0]? = some (a, .inl (cA, n, .inl f))) (ht : tys[t0]? = some (cA, .int)) {i : Nat} (hi : i < n) (hn : n < 2 ^ 31) (hdg : decode cc pc = .ok (.iaload, 1))
    (kk : W p l e R s m args below meth c H locs cells slots Q (F0 m (pc + 1) ls (.int (f i) :: rest))) : W p l e R s m args below meth c H locs cells slots Q (F0 m pc ls (.int (nI i) :: .ref a :: rest)) :=
  va_iald hexec hb hK hP q0 t0 ha ht (vp_in_nI hi hn) hdg (by rw [nI_clamp (by omega)]; exact kk)
theorem xa_zald (hexec : p.tables.exec = Jvm.exec) (hb : c.code = cc) (hK : va_K D cl tys s) (hP : va_P D cl ws H) (q0 t0 : Nat) {cA : ClassId} {n : Nat} {f : Nat → Int32} (ha : ws[q0]? = some (a, .inl (cA, n, .inl f))) (ht : tys[t0]? = some (cA, .boolean)) {i : Nat} (hi : i < n) (hn : n < 2 ^ 31) (hdg : decode cc pc = .ok (.baload, 1))
    (kk : W p l e R s m args below meth c H locs cells slots Q (F0 m (pc + 1) ls (.int (f i) :: rest))) : W p l e R s m args below meth c H locs cells slots Q (F0 m pc ls (.int (nI i) :: .ref a :: rest)) :=
  va_zald hexec hb hK hP q0 t0 ha ht (vp_in_nI hi hn) hdg (by rw [nI_clamp (by omega)]; exact kk)
theorem xa_iast (hexec : p.tables.exec = Jvm.exec) (hb : c.code = cc) (hK : va_K D cl tys s) (hP : va_P D cl ws H) (hD : va_D A ws) (hS : va_S A H0 H locs) (q0 t0 : Nat) {cA : ClassId} {n : Nat} {f : Nat → Int32} (ha : ws[q0]? = some (a, .inl (cA, n, .inl f))) (ht : tys[t0]? = some (cA, .int)) {i : Nat} {x : Int32} (hi : i < n) (hn : n < 2 ^ 31) (hdg : decode cc pc = .ok (.iastore, 1))
    (kk : ∀ (H1 : Heap) (locs1 : List Loc), va_P D cl (ws.set q0 (a, .inl (cA, n, .inl (upd f i x)))) H1 → va_D A (ws.set q0 (a, .inl (cA, n, .inl (upd f i x)))) → va_S A H0 H1 locs1 → W p l e R s m args below meth c H1 locs1 cells slots Q (F0 m (pc + 1) ls rest)) : W p l e R s m args below meth c H locs cells slots Q (F0 m pc ls (.int x :: .int (nI i) :: .ref a :: rest)) :=
  va_iast hexec hb hK hP hD hS q0 t0 ha ht (vp_in_nI hi hn) hdg (by rw [nI_clamp (by omega)]; exact kk)
theorem xa_zast (hexec : p.tables.exec = Jvm.exec) (hb : c.code = cc) (hK : va_K D cl tys s) (hP : va_P D cl ws H) (hD : va_D A ws) (hS : va_S A H0 H locs) (q0 t0 : Nat) {cA : ClassId} {n : Nat} {f : Nat → Int32} (ha : ws[q0]? = some (a, .inl (cA, n, .inl f))) (ht : tys[t0]? = some (cA, .boolean)) {i : Nat} {x : Int32} (hx : x = 0 ∨ x = 1) (hi : i < n) (hn : n < 2 ^ 31) (hdg : decode cc pc = .ok (.bastore, 1))
    (kk : ∀ (H1 : Heap) (locs1 : List Loc), va_P D cl (ws.set q0 (a, .inl (cA, n, .inl (upd f i x)))) H1 → va_D A (ws.set q0 (a, .inl (cA, n, .inl (upd f i x)))) → va_S A H0 H1 locs1 → W p l e R s m args below meth c H1 locs1 cells slots Q (F0 m (pc + 1) ls rest)) : W p l e R s m args below meth c H locs cells slots Q (F0 m pc ls (.int x :: .int (nI i) :: .ref a :: rest)) :=
  va_zast hexec hb hK hP hD hS q0 t0 ha ht (vp_in_nI hi hn) hdg (by
    have e1 : vp_nar .boolean x = x := by rcases hx with rfl | rfl <;> decide
    rw [nI_clamp (by omega), e1]; exact kk)
end XA
theorem xw_at {D : va_G} {cl : List vw_C} {ws : va_W} {tys : List (ClassId × FieldType)} {s : State} {H : Heap} (hK : va_K D cl tys s) (hP : va_P D cl ws H) : ∀ U : State, U.heap = H → s.WarmedH U.vm → xw D cl ws tys U := fun U hU hW => ⟨by rw [hU]; exact hP, va_K.moved hW.alike hK⟩

def xm (D : va_G) (cl : List vw_C) (ws : va_W) (tys : List (ClassId × FieldType)) (sz : Nat) (U : State) : Prop := U.heap.size = sz ∧ va_P D cl ws U.heap ∧ va_K D cl tys U ∧ va_D (fun _ => True) ws

def xo (D : va_G) (cl : List vw_C) (ws : va_W) (tys : List (ClassId × FieldType)) (A : Nat → Prop) (t : State) : Prop := va_P D cl ws t.heap ∧ va_K D cl tys t ∧ va_D A ws
theorem xm_blind {D : va_G} {cl : List vw_C} {ws : va_W} {tys : List (ClassId × FieldType)} {sz : Nat} {av : List Value} : FrameBlind (va_Pc av (xm D cl ws tys sz)) := fun a U g mk q => by
  obtain ⟨q0, q1, qP, qK, qD⟩ := q
  exact ⟨q0, q1, qP, va_K.moved (u := U) (U := U.calling g mk a) (Vm.Alike.refl U.vm) qK, qD⟩
section XC
variable {p : Program} {l : Launch} {e : Env} {R : Room} {s : State} {m : MethodId} {args : Array Value} {below : List Frame} {meth : Method} {c : Code} {H : Heap} {locs : List Loc} {cells slots : Nat} {Q : State → Prop}
variable {cc : ByteArray} {pc : Nat} {ls : Array Slot} {rest st0 : List Value} {D : va_G} {cl : List vw_C} {tys tc : List (ClassId × FieldType)} {wl wc : va_W}
variable {y : MethodName} {bytes : ByteArray} {maxL nL n index : Nat} {ret : Option FieldType} {ws : List Cond} {rm : Room} {Ts : List Cond} {own C : String} {b : Addr} {As : List Value}
theorem xr_V {post : Int32 → Prop} (S : CallFix p m c cc nL s args Ts own) (hM : Met l y ws rm (va_Pc (.ref b :: As) (xw D cl wc tc)) (xr_Q post) 0 0 (fun _ => False)) (cw : CallW R s args own C index y bytes maxL ret ws rm 0 0 n)
    (hK : va_K D cl tys s) (hP : va_P D cl wl H) (iw it : List Nat) (hiw : iw.filterMap (fun i => wl[i]?) = wc) (hit : it.filterMap (fun i => tys[i]?) = tc) (ci q0 : Nat) {q : vw_C} {fs : List Value} (hc : cl[ci]? = some q) (he : wl[q0]? = some (b, .inr (ci, fs))) (hq : q.1 = C)
    (hn : As.length = n) (hsize : ls.size = nL) (hstack : st0 = As.reverse ++ .ref b :: rest) (hW : (rest.map fun v => v.category).sum ≤ 8) (hdg : decode cc pc = .ok (.invokevirtual index, 3)) (hf : cells ≤ R.cells ∧ slots ≤ R.slots)
    (kk : ∀ r : Int32, post r → W p l e R s m args below meth c H locs cells slots Q (F0 m (pc + 3) ls (.int r :: rest))) : W p l e R s m args below meth c H locs cells slots Q (F0 m pc ls st0) :=
  xr_go (va_runV (As := As) (rest := rest) S hM cw ⟨xw_blind, by rw [← hq]; exact va_recv hK hP hc he, fun U hU hW => ⟨rfl, xw_at (hK.sub it hit) (hP.sub iw hiw) U hU hW⟩⟩ rfl hn hsize hstack (lv_room hW) hdg hf) kk
theorem xr_Vv (S : CallFix p m c cc nL s args Ts own) (hM : Met l y ws rm (va_Pc (.ref b :: As) (xw D cl wc tc)) xr_Qv 0 0 (fun _ => False)) (cw : CallW R s args own C index y bytes maxL ret ws rm 0 0 n)
    (hK : va_K D cl tys s) (hP : va_P D cl wl H) (iw it : List Nat) (hiw : iw.filterMap (fun i => wl[i]?) = wc) (hit : it.filterMap (fun i => tys[i]?) = tc) (ci q0 : Nat) {q : vw_C} {fs : List Value} (hc : cl[ci]? = some q) (he : wl[q0]? = some (b, .inr (ci, fs))) (hq : q.1 = C)
    (hn : As.length = n) (hsize : ls.size = nL) (hstack : st0 = As.reverse ++ .ref b :: rest) (hW : (rest.map fun v => v.category).sum ≤ 8) (hdg : decode cc pc = .ok (.invokevirtual index, 3)) (hf : cells ≤ R.cells ∧ slots ≤ R.slots)
    (kk : W p l e R s m args below meth c H locs cells slots Q (F0 m (pc + 3) ls rest)) : W p l e R s m args below meth c H locs cells slots Q (F0 m pc ls st0) :=
  xr_gov (va_runV (As := As) (rest := rest) S hM cw ⟨xw_blind, by rw [← hq]; exact va_recv hK hP hc he, fun U hU hW => ⟨rfl, xw_at (hK.sub it hit) (hP.sub iw hiw) U hU hW⟩⟩ rfl hn hsize hstack (lv_room hW) hdg hf) kk
theorem xr_S {post : Int32 → Prop} (S : CallFix p m c cc nL s args Ts own) (hM : Met l y ws rm (va_Pc As (xw D cl wc tc)) (xr_Q post) 0 0 (fun _ => False)) (cw : CallB R s args own index y bytes maxL ret ws rm 0 0 n ∧ (Cond.static y).before args s = true)
    (hK : va_K D cl tys s) (hP : va_P D cl wl H) (iw it : List Nat) (hiw : iw.filterMap (fun i => wl[i]?) = wc) (hit : it.filterMap (fun i => tys[i]?) = tc)
    (hn : As.length = n) (hsize : ls.size = nL) (hstack : st0 = As.reverse ++ rest) (hW : (rest.map fun v => v.category).sum ≤ 8) (hdg : decode cc pc = .ok (.invokestatic index, 3)) (hf : cells ≤ R.cells ∧ slots ≤ R.slots)
    (kk : ∀ r : Int32, post r → W p l e R s m args below meth c H locs cells slots Q (F0 m (pc + 3) ls (.int r :: rest))) : W p l e R s m args below meth c H locs cells slots Q (F0 m pc ls st0) :=
  xr_go (va_runS (As := As) (rest := rest) S hM cw ⟨xw_blind, fun U hU hW => ⟨rfl, xw_at (hK.sub it hit) (hP.sub iw hiw) U hU hW⟩⟩ rfl hn hsize hstack (lv_room hW) hdg hf) kk
theorem xm_at {sz : Nat} {A0 : Nat → Prop} (hK : va_K D cl tc s) (hP : va_P D cl wc H) (hD : va_D A0 wc) (hz : H.size = sz) : ∀ U : State, U.heap = H → s.WarmedH U.vm → xm D cl wc tc sz U := fun U hU hW => ⟨by rw [hU]; exact hz, by rw [hU]; exact hP, va_K.moved hW.alike hK, hD.weaken (fun _ _ _ _ => trivial)⟩
theorem xm_iw {iw : List Nat} (h : iw.map (fun i => wl[i]?) = wc.map some) : iw.filterMap (fun i => wl[i]?) = wc := by
  have e1 : iw.filterMap (fun i => wl[i]?) = (iw.map (fun i => wl[i]?)).filterMap id := by rw [List.filterMap_map]; rfl
  rw [e1, h, List.filterMap_map]
  have e2 : (id ∘ (some : (Nat × va_E) → Option (Nat × va_E))) = some := rfl
  rw [e2, List.filterMap_some]

theorem xm_Vv {S : Type} {post : S → Prop} {w1 wz : S → va_W} {wr : va_W} {A0 : Nat → Prop} {H0 : Heap} (Sx : CallFix p m c cc nL s args Ts own) (hM : Met l y ws rm (va_Pc (.ref b :: As) (xm D cl wc tc H.size)) (va_Qv post (fun u => xo D cl (w1 u) tc (va_A wc H.size)) (va_A wc H.size)) 0 0 (va_A wc H.size)) (cw : CallW R s args own C index y bytes maxL ret ws rm 0 0 n)
    (hK : va_K D cl tys s) (hP : va_P D cl wl H) (hD : va_D A0 wl) (hS : va_S A0 H0 H locs) (hA : ∀ q, H0.size ≤ q → A0 q) (iw ir od it : List Nat) (hiw : iw.map (fun i => wl[i]?) = wc.map some) (hir : ir.map (fun i => wl[i]?) = wr.map some) (hod : ∀ u, od.map (fun i => (wr ++ w1 u)[i]?) = (wz u).map some) (hn1 : va_nd iw = true) (hn2 : va_nd ir = true) (hn3 : va_nd od = true) (hdis : ∀ i ∈ ir, i ∉ iw)
    (hit : it.filterMap (fun i => tys[i]?) = tc) (ci q0 : Nat) {q : vw_C} {fs : List Value} (hc : cl[ci]? = some q) (he : wl[q0]? = some (b, .inr (ci, fs))) (hq : q.1 = C)
    (hn : As.length = n) (hsize : ls.size = nL) (hstack : st0 = As.reverse ++ .ref b :: rest) (hW : (rest.map fun v => v.category).sum ≤ 8) (hdg : decode cc pc = .ok (.invokevirtual index, 3)) (hf : cells ≤ R.cells ∧ slots ≤ R.slots)
    (kk : ∀ (u : S) (H1 : Heap) (locs1 : List Loc), post u → va_P D cl (wz u) H1 → va_D A0 (wz u) → va_S A0 H0 H1 locs1 → W p l e R s m args below meth c H1 locs1 cells slots Q (F0 m (pc + 3) ls rest)) : W p l e R s m args below meth c H locs cells slots Q (F0 m pc ls st0) := by
  have hPc := hP.sub iw (xm_iw hiw)
  have hDc := hD.sub iw hn1 hiw
  have hKc := hK.sub it hit
  have hFc := va_free (wc := wc) hD hS hA iw hiw
  refine va_callv (va_runV (As := As) (rest := rest) Sx hM cw ⟨xm_blind, by rw [← hq]; exact va_recv hK hP hc he, fun U hU hW => ⟨rfl, xm_at hKc hPc hDc rfl U hU hW⟩⟩ rfl hn hsize hstack (lv_room hW) hdg hf) hS (fun q _ h => hFc q h) hFc (fun u t H1 locs ht hvm hw hB hz1 hk1 hS => ?_)
  obtain ⟨hP1, hK1, hD1⟩ := hB
  rw [ht] at hP1
  obtain ⟨hP, hD⟩ := va_join (wr := wr) (w1 := w1 u) hP hD iw ir hiw hir hn2 hdis hk1 hFc hP1 hD1
  exact kk u H1 locs hw (hP.sub od (xm_iw (hod u))) (hD.sub od hn3 (hod u)) hS
theorem xm_Vi {S : Type} {post : Int32 → S → Prop} {w1 wz : S → va_W} {wr : va_W} {A0 : Nat → Prop} {H0 : Heap} (Sx : CallFix p m c cc nL s args Ts own) (hM : Met l y ws rm (va_Pc (.ref b :: As) (xm D cl wc tc H.size)) (va_Qi post (fun u => xo D cl (w1 u) tc (va_A wc H.size)) (va_A wc H.size)) 0 0 (va_A wc H.size)) (cw : CallW R s args own C index y bytes maxL ret ws rm 0 0 n)
    (hK : va_K D cl tys s) (hP : va_P D cl wl H) (hD : va_D A0 wl) (hS : va_S A0 H0 H locs) (hA : ∀ q, H0.size ≤ q → A0 q) (iw ir od it : List Nat) (hiw : iw.map (fun i => wl[i]?) = wc.map some) (hir : ir.map (fun i => wl[i]?) = wr.map some) (hod : ∀ u, od.map (fun i => (wr ++ w1 u)[i]?) = (wz u).map some) (hn1 : va_nd iw = true) (hn2 : va_nd ir = true) (hn3 : va_nd od = true) (hdis : ∀ i ∈ ir, i ∉ iw)
    (hit : it.filterMap (fun i => tys[i]?) = tc) (ci q0 : Nat) {q : vw_C} {fs : List Value} (hc : cl[ci]? = some q) (he : wl[q0]? = some (b, .inr (ci, fs))) (hq : q.1 = C)
    (hn : As.length = n) (hsize : ls.size = nL) (hstack : st0 = As.reverse ++ .ref b :: rest) (hW : (rest.map fun v => v.category).sum ≤ 8) (hdg : decode cc pc = .ok (.invokevirtual index, 3)) (hf : cells ≤ R.cells ∧ slots ≤ R.slots)
    (kk : ∀ (r : Int32) (u : S) (H1 : Heap) (locs1 : List Loc), post r u → va_P D cl (wz u) H1 → va_D A0 (wz u) → va_S A0 H0 H1 locs1 → W p l e R s m args below meth c H1 locs1 cells slots Q (F0 m (pc + 3) ls (.int r :: rest))) : W p l e R s m args below meth c H locs cells slots Q (F0 m pc ls st0) := by
  have hPc := hP.sub iw (xm_iw hiw)
  have hDc := hD.sub iw hn1 hiw
  have hKc := hK.sub it hit
  have hFc := va_free (wc := wc) hD hS hA iw hiw
  refine va_calli (va_runV (As := As) (rest := rest) Sx hM cw ⟨xm_blind, by rw [← hq]; exact va_recv hK hP hc he, fun U hU hW => ⟨rfl, xm_at hKc hPc hDc rfl U hU hW⟩⟩ rfl hn hsize hstack (lv_room hW) hdg hf) hS (fun q _ h => hFc q h) hFc (fun r u t H1 locs ht hvm hw hB hz1 hk1 hS => ?_)
  obtain ⟨hP1, hK1, hD1⟩ := hB
  rw [ht] at hP1
  obtain ⟨hP, hD⟩ := va_join (wr := wr) (w1 := w1 u) hP hD iw ir hiw hir hn2 hdis hk1 hFc hP1 hD1
  exact kk r u H1 locs hw (hP.sub od (xm_iw (hod u))) (hD.sub od hn3 (hod u)) hS
theorem xm_Sv {S : Type} {post : S → Prop} {w1 wz : S → va_W} {wr : va_W} {A0 : Nat → Prop} {H0 : Heap} (Sx : CallFix p m c cc nL s args Ts own) (hM : Met l y ws rm (va_Pc As (xm D cl wc tc H.size)) (va_Qv post (fun u => xo D cl (w1 u) tc (va_A wc H.size)) (va_A wc H.size)) 0 0 (va_A wc H.size)) (cw : CallB R s args own index y bytes maxL ret ws rm 0 0 n ∧ (Cond.static y).before args s = true)
    (hK : va_K D cl tys s) (hP : va_P D cl wl H) (hD : va_D A0 wl) (hS : va_S A0 H0 H locs) (hA : ∀ q, H0.size ≤ q → A0 q) (iw ir od it : List Nat) (hiw : iw.map (fun i => wl[i]?) = wc.map some) (hir : ir.map (fun i => wl[i]?) = wr.map some) (hod : ∀ u, od.map (fun i => (wr ++ w1 u)[i]?) = (wz u).map some) (hn1 : va_nd iw = true) (hn2 : va_nd ir = true) (hn3 : va_nd od = true) (hdis : ∀ i ∈ ir, i ∉ iw)
    (hit : it.filterMap (fun i => tys[i]?) = tc)
    (hn : As.length = n) (hsize : ls.size = nL) (hstack : st0 = As.reverse ++ rest) (hW : (rest.map fun v => v.category).sum ≤ 8) (hdg : decode cc pc = .ok (.invokestatic index, 3)) (hf : cells ≤ R.cells ∧ slots ≤ R.slots)
    (kk : ∀ (u : S) (H1 : Heap) (locs1 : List Loc), post u → va_P D cl (wz u) H1 → va_D A0 (wz u) → va_S A0 H0 H1 locs1 → W p l e R s m args below meth c H1 locs1 cells slots Q (F0 m (pc + 3) ls rest)) : W p l e R s m args below meth c H locs cells slots Q (F0 m pc ls st0) := by
  have hPc := hP.sub iw (xm_iw hiw)
  have hDc := hD.sub iw hn1 hiw
  have hKc := hK.sub it hit
  have hFc := va_free (wc := wc) hD hS hA iw hiw
  refine va_callv (va_runS (As := As) (rest := rest) Sx hM cw ⟨xm_blind, fun U hU hW => ⟨rfl, xm_at hKc hPc hDc rfl U hU hW⟩⟩ rfl hn hsize hstack (lv_room hW) hdg hf) hS (fun q _ h => hFc q h) hFc (fun u t H1 locs ht hvm hw hB hz1 hk1 hS => ?_)
  obtain ⟨hP1, hK1, hD1⟩ := hB
  rw [ht] at hP1
  obtain ⟨hP, hD⟩ := va_join (wr := wr) (w1 := w1 u) hP hD iw ir hiw hir hn2 hdis hk1 hFc hP1 hD1
  exact kk u H1 locs hw (hP.sub od (xm_iw (hod u))) (hD.sub od hn3 (hod u)) hS
end XC
