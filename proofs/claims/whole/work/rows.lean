section
def lw_okq (q : MethodName × Nat) : Prop := (q.1.cls ≠ "java/lang/invoke/MethodHandle" ∧ q.1.cls ≠ "java/lang/invoke/VarHandle") ∧ Cond.instantiable q.1.cls q.2 ∈ tables_1 ∧ Cond.privateMethod q.1 ∈ tables_1 ∧ Cond.instanceMethod q.1 ∈ tables_1
theorem lw_p0 : lw_okq (⟨"SprinkleNets", "findReachers", "()V"⟩, 18) := ⟨⟨by decide +kernel, by decide +kernel⟩, List.mem_of_getElem? (i := 12) (by decide +kernel), List.mem_of_getElem? (i := 90) (by decide +kernel), List.mem_of_getElem? (i := 91) (by decide +kernel)⟩
theorem lw_p1 : lw_okq (⟨"SprinkleNets", "addReacher", "(III)V"⟩, 18) := ⟨⟨by decide +kernel, by decide +kernel⟩, List.mem_of_getElem? (i := 12) (by decide +kernel), List.mem_of_getElem? (i := 94) (by decide +kernel), List.mem_of_getElem? (i := 95) (by decide +kernel)⟩
theorem lw_p2 : lw_okq (⟨"SprinkleNets", "isNear", "(IIII)Z"⟩, 18) := ⟨⟨by decide +kernel, by decide +kernel⟩, List.mem_of_getElem? (i := 12) (by decide +kernel), List.mem_of_getElem? (i := 98) (by decide +kernel), List.mem_of_getElem? (i := 99) (by decide +kernel)⟩
theorem lw_p3 : lw_okq (⟨"SprinkleNets", "lineIsFree", "(IIII)Z"⟩, 18) := ⟨⟨by decide +kernel, by decide +kernel⟩, List.mem_of_getElem? (i := 12) (by decide +kernel), List.mem_of_getElem? (i := 102) (by decide +kernel), List.mem_of_getElem? (i := 103) (by decide +kernel)⟩
theorem lw_p4 : lw_okq (⟨"SprinkleNets", "isWall", "(II)Z"⟩, 18) := ⟨⟨by decide +kernel, by decide +kernel⟩, List.mem_of_getElem? (i := 12) (by decide +kernel), List.mem_of_getElem? (i := 109) (by decide +kernel), List.mem_of_getElem? (i := 110) (by decide +kernel)⟩
theorem lw_p5 : lw_okq (⟨"SprinkleNets", "inPlan", "(II)Z"⟩, 18) := ⟨⟨by decide +kernel, by decide +kernel⟩, List.mem_of_getElem? (i := 12) (by decide +kernel), List.mem_of_getElem? (i := 113) (by decide +kernel), List.mem_of_getElem? (i := 114) (by decide +kernel)⟩
theorem lw_p6 : lw_okq (⟨"SprinkleNets", "allPlaces", "()I"⟩, 18) := ⟨⟨by decide +kernel, by decide +kernel⟩, List.mem_of_getElem? (i := 12) (by decide +kernel), List.mem_of_getElem? (i := 120) (by decide +kernel), List.mem_of_getElem? (i := 121) (by decide +kernel)⟩
theorem lw_p7 : lw_okq (⟨"SprinkleNets", "dryCell", "(II)I"⟩, 18) := ⟨⟨by decide +kernel, by decide +kernel⟩, List.mem_of_getElem? (i := 12) (by decide +kernel), List.mem_of_getElem? (i := 124) (by decide +kernel), List.mem_of_getElem? (i := 125) (by decide +kernel)⟩
theorem lw_p8 : lw_okq (⟨"SprinkleNets", "isDry", "(II)Z"⟩, 18) := ⟨⟨by decide +kernel, by decide +kernel⟩, List.mem_of_getElem? (i := 12) (by decide +kernel), List.mem_of_getElem? (i := 128) (by decide +kernel), List.mem_of_getElem? (i := 129) (by decide +kernel)⟩
theorem lw_p9 : lw_okq (⟨"SprinkleNets", "needCell", "(II)V"⟩, 18) := ⟨⟨by decide +kernel, by decide +kernel⟩, List.mem_of_getElem? (i := 12) (by decide +kernel), List.mem_of_getElem? (i := 149) (by decide +kernel), List.mem_of_getElem? (i := 150) (by decide +kernel)⟩
theorem lw_p10 : lw_okq (⟨"java/lang/Throwable", "fillInStackTrace", "(I)Ljava/lang/Throwable;"⟩, 6) := ⟨⟨by decide +kernel, by decide +kernel⟩, List.mem_of_getElem? (i := 190) (by decide +kernel), List.mem_of_getElem? (i := 188) (by decide +kernel), List.mem_of_getElem? (i := 189) (by decide +kernel)⟩
theorem lw_p11 : lw_okq (⟨"SprinkleNets", "isPlace", "(II)Z"⟩, 18) := ⟨⟨by decide +kernel, by decide +kernel⟩, List.mem_of_getElem? (i := 12) (by decide +kernel), List.mem_of_getElem? (i := 252) (by decide +kernel), List.mem_of_getElem? (i := 253) (by decide +kernel)⟩
theorem lw_p12 : lw_okq (⟨"SprinkleNets", "needPlace", "(I)V"⟩, 18) := ⟨⟨by decide +kernel, by decide +kernel⟩, List.mem_of_getElem? (i := 12) (by decide +kernel), List.mem_of_getElem? (i := 272) (by decide +kernel), List.mem_of_getElem? (i := 273) (by decide +kernel)⟩
theorem lw_p13 : lw_okq (⟨"SprinkleNets", "needSet", "(I)V"⟩, 18) := ⟨⟨by decide +kernel, by decide +kernel⟩, List.mem_of_getElem? (i := 12) (by decide +kernel), List.mem_of_getElem? (i := 287) (by decide +kernel), List.mem_of_getElem? (i := 288) (by decide +kernel)⟩
theorem lw_p14 : lw_okq (⟨"SprinkleNets", "layPipes", "(I)V"⟩, 18) := ⟨⟨by decide +kernel, by decide +kernel⟩, List.mem_of_getElem? (i := 12) (by decide +kernel), List.mem_of_getElem? (i := 316) (by decide +kernel), List.mem_of_getElem? (i := 317) (by decide +kernel)⟩
theorem lw_p15 : lw_okq (⟨"SprinkleNets", "joinPlaces", "(I)V"⟩, 18) := ⟨⟨by decide +kernel, by decide +kernel⟩, List.mem_of_getElem? (i := 12) (by decide +kernel), List.mem_of_getElem? (i := 320) (by decide +kernel), List.mem_of_getElem? (i := 321) (by decide +kernel)⟩
def lw_privs_1 : List (MethodName × Nat) := [(⟨"SprinkleNets", "findReachers", "()V"⟩, 18), (⟨"SprinkleNets", "addReacher", "(III)V"⟩, 18), (⟨"SprinkleNets", "isNear", "(IIII)Z"⟩, 18), (⟨"SprinkleNets", "lineIsFree", "(IIII)Z"⟩, 18), (⟨"SprinkleNets", "isWall", "(II)Z"⟩, 18), (⟨"SprinkleNets", "inPlan", "(II)Z"⟩, 18), (⟨"SprinkleNets", "allPlaces", "()I"⟩, 18), (⟨"SprinkleNets", "dryCell", "(II)I"⟩, 18), (⟨"SprinkleNets", "isDry", "(II)Z"⟩, 18), (⟨"SprinkleNets", "needCell", "(II)V"⟩, 18), (⟨"java/lang/Throwable", "fillInStackTrace", "(I)Ljava/lang/Throwable;"⟩, 6), (⟨"SprinkleNets", "isPlace", "(II)Z"⟩, 18), (⟨"SprinkleNets", "needPlace", "(I)V"⟩, 18), (⟨"SprinkleNets", "needSet", "(I)V"⟩, 18), (⟨"SprinkleNets", "layPipes", "(I)V"⟩, 18), (⟨"SprinkleNets", "joinPlaces", "(I)V"⟩, 18)]
theorem lw_r1 : ∀ q ∈ lw_privs_1, lw_okq q := List.forall_mem_cons.mpr ⟨lw_p0, List.forall_mem_cons.mpr ⟨lw_p1, List.forall_mem_cons.mpr ⟨lw_p2, List.forall_mem_cons.mpr ⟨lw_p3, List.forall_mem_cons.mpr ⟨lw_p4, List.forall_mem_cons.mpr ⟨lw_p5, List.forall_mem_cons.mpr ⟨lw_p6, List.forall_mem_cons.mpr ⟨lw_p7, List.forall_mem_cons.mpr ⟨lw_p8, List.forall_mem_cons.mpr ⟨lw_p9, List.forall_mem_cons.mpr ⟨lw_p10, List.forall_mem_cons.mpr ⟨lw_p11, List.forall_mem_cons.mpr ⟨lw_p12, List.forall_mem_cons.mpr ⟨lw_p13, List.forall_mem_cons.mpr ⟨lw_p14, List.forall_mem_cons.mpr ⟨lw_p15, fun _ h => absurd h List.not_mem_nil⟩⟩⟩⟩⟩⟩⟩⟩⟩⟩⟩⟩⟩⟩⟩⟩
theorem lw_p16 : lw_okq (⟨"SprinkleNets", "nearestOf", "(I)I"⟩, 18) := ⟨⟨by decide +kernel, by decide +kernel⟩, List.mem_of_getElem? (i := 12) (by decide +kernel), List.mem_of_getElem? (i := 324) (by decide +kernel), List.mem_of_getElem? (i := 325) (by decide +kernel)⟩
theorem lw_p17 : lw_okq (⟨"SprinkleNets", "offerUpper", "(II)V"⟩, 18) := ⟨⟨by decide +kernel, by decide +kernel⟩, List.mem_of_getElem? (i := 12) (by decide +kernel), List.mem_of_getElem? (i := 328) (by decide +kernel), List.mem_of_getElem? (i := 329) (by decide +kernel)⟩
theorem lw_p18 : lw_okq (⟨"SprinkleNets", "countHeads", "()V"⟩, 18) := ⟨⟨by decide +kernel, by decide +kernel⟩, List.mem_of_getElem? (i := 12) (by decide +kernel), List.mem_of_getElem? (i := 332) (by decide +kernel), List.mem_of_getElem? (i := 333) (by decide +kernel)⟩
theorem lw_p19 : lw_okq (⟨"SprinkleNets", "addLacks", "()V"⟩, 18) := ⟨⟨by decide +kernel, by decide +kernel⟩, List.mem_of_getElem? (i := 12) (by decide +kernel), List.mem_of_getElem? (i := 336) (by decide +kernel), List.mem_of_getElem? (i := 337) (by decide +kernel)⟩
theorem lw_p20 : lw_okq (⟨"SprinkleNets", "lossFor", "(I)I"⟩, 18) := ⟨⟨by decide +kernel, by decide +kernel⟩, List.mem_of_getElem? (i := 12) (by decide +kernel), List.mem_of_getElem? (i := 340) (by decide +kernel), List.mem_of_getElem? (i := 341) (by decide +kernel)⟩
theorem lw_p21 : lw_okq (⟨"SprinkleNetsModel", "isCell", "(II)Z"⟩, 16) := ⟨⟨by decide +kernel, by decide +kernel⟩, List.mem_of_getElem? (i := 366) (by decide +kernel), List.mem_of_getElem? (i := 429) (by decide +kernel), List.mem_of_getElem? (i := 430) (by decide +kernel)⟩
theorem lw_p22 : lw_okq (⟨"SprinkleNetsModel", "isFree", "(II)Z"⟩, 16) := ⟨⟨by decide +kernel, by decide +kernel⟩, List.mem_of_getElem? (i := 366) (by decide +kernel), List.mem_of_getElem? (i := 441) (by decide +kernel), List.mem_of_getElem? (i := 442) (by decide +kernel)⟩
theorem lw_p23 : lw_okq (⟨"SprinkleNetsModel", "sees", "(IIII)Z"⟩, 16) := ⟨⟨by decide +kernel, by decide +kernel⟩, List.mem_of_getElem? (i := 366) (by decide +kernel), List.mem_of_getElem? (i := 449) (by decide +kernel), List.mem_of_getElem? (i := 450) (by decide +kernel)⟩
theorem lw_p24 : lw_okq (⟨"SprinkleNetsModel", "isPlace", "(I)Z"⟩, 16) := ⟨⟨by decide +kernel, by decide +kernel⟩, List.mem_of_getElem? (i := 366) (by decide +kernel), List.mem_of_getElem? (i := 469) (by decide +kernel), List.mem_of_getElem? (i := 470) (by decide +kernel)⟩
theorem lw_p25 : lw_okq (⟨"SprinkleNetsModel", "isReached", "(III)Z"⟩, 16) := ⟨⟨by decide +kernel, by decide +kernel⟩, List.mem_of_getElem? (i := 366) (by decide +kernel), List.mem_of_getElem? (i := 473) (by decide +kernel), List.mem_of_getElem? (i := 474) (by decide +kernel)⟩
theorem lw_p26 : lw_okq (⟨"SprinkleNetsModel", "isSet", "(I)Z"⟩, 16) := ⟨⟨by decide +kernel, by decide +kernel⟩, List.mem_of_getElem? (i := 366) (by decide +kernel), List.mem_of_getElem? (i := 481) (by decide +kernel), List.mem_of_getElem? (i := 482) (by decide +kernel)⟩
theorem lw_p27 : lw_okq (⟨"SprinkleNetsModel", "findReached", "()V"⟩, 16) := ⟨⟨by decide +kernel, by decide +kernel⟩, List.mem_of_getElem? (i := 366) (by decide +kernel), List.mem_of_getElem? (i := 485) (by decide +kernel), List.mem_of_getElem? (i := 486) (by decide +kernel)⟩
theorem lw_p28 : lw_okq (⟨"SprinkleNetsModel", "dryCells", "(I)I"⟩, 16) := ⟨⟨by decide +kernel, by decide +kernel⟩, List.mem_of_getElem? (i := 366) (by decide +kernel), List.mem_of_getElem? (i := 489) (by decide +kernel), List.mem_of_getElem? (i := 490) (by decide +kernel)⟩
theorem lw_p29 : lw_okq (⟨"SprinkleNetsModel", "join", "(I)V"⟩, 16) := ⟨⟨by decide +kernel, by decide +kernel⟩, List.mem_of_getElem? (i := 366) (by decide +kernel), List.mem_of_getElem? (i := 512) (by decide +kernel), List.mem_of_getElem? (i := 513) (by decide +kernel)⟩
theorem lw_p30 : lw_okq (⟨"SprinkleNetsModel", "far", "(II)I"⟩, 16) := ⟨⟨by decide +kernel, by decide +kernel⟩, List.mem_of_getElem? (i := 366) (by decide +kernel), List.mem_of_getElem? (i := 516) (by decide +kernel), List.mem_of_getElem? (i := 517) (by decide +kernel)⟩
theorem lw_p31 : lw_okq (⟨"SprinkleNetsModel", "isIn", "(II)Z"⟩, 16) := ⟨⟨by decide +kernel, by decide +kernel⟩, List.mem_of_getElem? (i := 366) (by decide +kernel), List.mem_of_getElem? (i := 527) (by decide +kernel), List.mem_of_getElem? (i := 528) (by decide +kernel)⟩
def lw_privs_2 : List (MethodName × Nat) := [(⟨"SprinkleNets", "nearestOf", "(I)I"⟩, 18), (⟨"SprinkleNets", "offerUpper", "(II)V"⟩, 18), (⟨"SprinkleNets", "countHeads", "()V"⟩, 18), (⟨"SprinkleNets", "addLacks", "()V"⟩, 18), (⟨"SprinkleNets", "lossFor", "(I)I"⟩, 18), (⟨"SprinkleNetsModel", "isCell", "(II)Z"⟩, 16), (⟨"SprinkleNetsModel", "isFree", "(II)Z"⟩, 16), (⟨"SprinkleNetsModel", "sees", "(IIII)Z"⟩, 16), (⟨"SprinkleNetsModel", "isPlace", "(I)Z"⟩, 16), (⟨"SprinkleNetsModel", "isReached", "(III)Z"⟩, 16), (⟨"SprinkleNetsModel", "isSet", "(I)Z"⟩, 16), (⟨"SprinkleNetsModel", "findReached", "()V"⟩, 16), (⟨"SprinkleNetsModel", "dryCells", "(I)I"⟩, 16), (⟨"SprinkleNetsModel", "join", "(I)V"⟩, 16), (⟨"SprinkleNetsModel", "far", "(II)I"⟩, 16), (⟨"SprinkleNetsModel", "isIn", "(II)Z"⟩, 16)]
theorem lw_r2 : ∀ q ∈ lw_privs_2, lw_okq q := List.forall_mem_cons.mpr ⟨lw_p16, List.forall_mem_cons.mpr ⟨lw_p17, List.forall_mem_cons.mpr ⟨lw_p18, List.forall_mem_cons.mpr ⟨lw_p19, List.forall_mem_cons.mpr ⟨lw_p20, List.forall_mem_cons.mpr ⟨lw_p21, List.forall_mem_cons.mpr ⟨lw_p22, List.forall_mem_cons.mpr ⟨lw_p23, List.forall_mem_cons.mpr ⟨lw_p24, List.forall_mem_cons.mpr ⟨lw_p25, List.forall_mem_cons.mpr ⟨lw_p26, List.forall_mem_cons.mpr ⟨lw_p27, List.forall_mem_cons.mpr ⟨lw_p28, List.forall_mem_cons.mpr ⟨lw_p29, List.forall_mem_cons.mpr ⟨lw_p30, List.forall_mem_cons.mpr ⟨lw_p31, fun _ h => absurd h List.not_mem_nil⟩⟩⟩⟩⟩⟩⟩⟩⟩⟩⟩⟩⟩⟩⟩⟩
theorem lw_p32 : lw_okq (⟨"SprinkleNetsModel", "lossOf", "(I)I"⟩, 16) := ⟨⟨by decide +kernel, by decide +kernel⟩, List.mem_of_getElem? (i := 366) (by decide +kernel), List.mem_of_getElem? (i := 531) (by decide +kernel), List.mem_of_getElem? (i := 532) (by decide +kernel)⟩
theorem lw_p33 : lw_okq (⟨"SprinkleNetsModel", "lost", "(I)I"⟩, 16) := ⟨⟨by decide +kernel, by decide +kernel⟩, List.mem_of_getElem? (i := 366) (by decide +kernel), List.mem_of_getElem? (i := 539) (by decide +kernel), List.mem_of_getElem? (i := 540) (by decide +kernel)⟩
def lw_privs_3 : List (MethodName × Nat) := [(⟨"SprinkleNetsModel", "lossOf", "(I)I"⟩, 16), (⟨"SprinkleNetsModel", "lost", "(I)I"⟩, 16)]
theorem lw_r3 : ∀ q ∈ lw_privs_3, lw_okq q := List.forall_mem_cons.mpr ⟨lw_p32, List.forall_mem_cons.mpr ⟨lw_p33, fun _ h => absurd h List.not_mem_nil⟩⟩
def lw_privs : List (MethodName × Nat) := lw_privs_1 ++ (lw_privs_2 ++ (lw_privs_3))
def lw_tbl : List Cond := k2_sels lw_privs ++ tables_1
theorem lw_privs_ok : ∀ q ∈ lw_privs, lw_okq q := by
  show ∀ q ∈ lw_privs_1 ++ (lw_privs_2 ++ (lw_privs_3)), lw_okq q
  exact List.forall_mem_append.mpr ⟨lw_r1, List.forall_mem_append.mpr ⟨lw_r2, lw_r3⟩⟩
end
section
theorem goodIn_r {big : List Cond} (ws : List Cond) (ps : List Nat) (hp : ws = ps.filterMap (fun i => big[i]?)) (h : ws.all goodWord = true) : GoodIn big ws := by
  intro w hw
  have h1 := List.all_eq_true.mp h w hw
  rw [hp] at hw
  obtain ⟨i, -, hi⟩ := List.mem_filterMap.mp hw
  have hm : w ∈ big := by first | exact List.mem_of_getElem? hi | exact List.getElem?_mem hi
  exact ⟨hm, good_of_word h1⟩
theorem goodIn_app {big a b : List Cond} (ha : GoodIn big a) (hb : GoodIn big b) : GoodIn big (a ++ b) := fun w h => (List.mem_append.mp h).elim (ha w) (hb w)
theorem goodIn_ca {big a b : List Cond} {c : Cond} (ha : GoodIn big (c :: a)) (hb : GoodIn big b) : GoodIn big (c :: (a ++ b)) := fun w h => (List.mem_cons.mp h).elim (fun e => ha w (List.mem_cons.mpr (Or.inl e))) (fun h => (List.mem_append.mp h).elim (fun h => ha w (List.mem_cons.mpr (Or.inr h))) (hb w))
theorem goodIn_sub {big ws : List Cond} (hm : ∀ w ∈ ws, w ∈ big) (h : ws.all goodWord = true) : GoodIn big ws := fun w hw => ⟨hm w hw, good_of_word (List.all_eq_true.mp h w hw)⟩

section VXA
def vx_T (XC : String → State → State → Prop) (st : State) (q : Addr) (t : State) (mc ms : Nat) (free : Addr → Prop) : Prop :=
  ∃ (E : String) (ce : Cell) (L : List Loc), XC E st t ∧ t.heap[q]? = some ce ∧ ce.vm = .none ∧ st.vm.findClass E = some ce.cls ∧ st.WarmedH t.vm ∧ st.sameButNew ({ t with vm := st.vm } : State) L mc ms ∧ ∀ z ∈ L, free z.base
def vx_Q (Qc : Array Value → State → Outcome → State → Prop) (XC : String → State → State → Prop) (mc ms : Nat) (free : Addr → Prop) : Array Value → State → Outcome → State → Prop := fun a st o t =>
  (Qc a st o t ∧ ∃ L, FrameEnd st o t L mc ms ∧ ∀ q ∈ L, free q.base) ∨ ∃ q, o = .threw q ∧ vx_T XC st q t mc ms free
def vx_Met (l : Launch) (y : MethodName) (ws : List Cond) (rm : Room) (Pc : Array Value → State → Prop) (Qc : Array Value → State → Outcome → State → Prop) (XC : String → State → State → Prop) (mc ms : Nat) (free : Addr → Prop) : Prop :=
  MetFree l y (headSpec ws rm) Pc (fun _ _ _ _ _ => True) (vx_Q Qc XC mc ms free)
def vx_Post (XC : String → State → State → Prop) (mc ms : Nat) (free : Addr → Prop) : Pt → Array Value → Addr → Pt → Prop := fun A a q B =>
  ∃ (g : JFrame) (mk : MethodId) (t : State) (L : List Loc) (E : String) (ce : Cell), B.U.heap = t.heap ∧ B.U.vm = t.vm ∧ XC E (A.U.calling g mk a) t ∧ t.heap[q]? = some ce ∧ ce.vm = .none ∧ A.U.vm.findClass E = some ce.cls ∧ B.locs = A.locs ++ L ∧ (∀ z ∈ L, free z.base) ∧ B.cells = A.cells + mc ∧ B.slots = A.slots + ms
def vx_Back (l : Launch) (R : Room) (p : Program) (e : Env) (below : List Frame) (s : State) (sargs : Array Value) (y : MethodName) (len W9 : Nat)
    (Pre : Pt → Array Value → Prop) (Post : Pt → Array Value → Option Value → Pt → Prop) (PostX : Pt → Array Value → Addr → Pt → Prop) : Prop :=
  ∀ (m : MethodId) (meth : Method) (c : Code) (A : Pt) (g : JFrame) (ig : Instr) (mk : MethodId) (a : Array Value),
    Stand p l e R s m sargs below meth c A.U A.locs A.cells A.slots → g.method = m → g.locals.size = c.maxLocals → decode c.code g.pc = .ok (ig, len) →
    2 * g.monitorRoom + (g.stack.map fun v => v.category).sum ≤ W9 → A.U.methodNamed? y = some mk → Pre A a →
    (∃ (v : Option Value) (B : Pt), Stand p l e R s m sargs below meth c B.U B.locs B.cells B.slots ∧ Post A a v B ∧
      Steps p.tables e below (doInvoke e (A.U.setTop g) [] mk a).1 (B.U.setTop { g with pc := g.pc + len, stack := v.toList ++ g.stack })) ∨
    (∃ (q : Addr) (B : Pt), Stand p l e R s m sargs below meth c B.U B.locs B.cells B.slots ∧ PostX A a q B ∧
      Steps p.tables e below (doInvoke e (A.U.setTop g) [] mk a).1 ((B.U.setTop g).pushFrame (.throwing q)))
section Payer
variable {l : Launch} {R : Room} {p : Program} {e : Env} {below : List Frame} {s : State} {sargs : Array Value} {y : MethodName} {len W9 : Nat}
theorem vx_back {ws : List Cond} {rm : Room} {Pc : Array Value → State → Prop} {Qc : Array Value → State → Outcome → State → Prop} {XC : String → State → State → Prop} {mc ms : Nat} {free : Addr → Prop} {bytes : ByteArray} {maxL : Nat} {ret : Option FieldType}
    (hM : vx_Met l y ws rm Pc Qc XC mc ms free) (hblind : FrameBlind Pc) (hrc : rm.cells = mc) (hrs : rm.slots = ms)
    (hframes : rm.frames + 1 ≤ R.frames) (hlocals : W9 + (maxL + 11) + rm.locals ≤ R.locals)
    (hws : ∀ w ∈ ws, ∀ a' U, s.WarmedH U.vm → w.before a' U = true) (hcode : Cond.code y bytes maxL ret ∈ ws) (hinit : ∀ a' U, s.WarmedH U.vm → (Cond.initialized y.cls).before a' U = true) :
    vx_Back l R p e below s sargs y len W9 (PreOf R mc ms Pc) (PostOf Qc mc ms free) (vx_Post XC mc ms free) := by
  intro m meth c A g ig mk a X hg hsize hdg hW hn hp
  have h1 : (headSpec ws rm).pre.before a A.U = true := atoms_intro fun w hw => hws w hw _ _ X.warmed
  have h2 : (Cond.code y bytes maxL ret).before a A.U = true := hws _ hcode _ _ X.warmed
  have h3 : (Cond.initialized y.cls).before a A.U = true := hinit _ _ X.warmed
  have h4 : A.cells + (headSpec ws rm).room.cells ≤ R.cells := by rw [show (headSpec ws rm).room.cells = mc from hrc]; exact hp.1
  have h5 : A.slots + (headSpec ws rm).room.slots ≤ R.slots := by rw [show (headSpec ws rm).room.slots = ms from hrs]; exact hp.2.1
  have hPc : Pc a (A.U.calling g mk a) := hblind _ _ _ _ hp.2.2
  obtain ⟨U, Ls, c0, s0⟩ := A
  dsimp only [Pt.U, Pt.locs, Pt.cells, Pt.slots] at h1 h2 h3 h4 h5 X hn hPc ⊢
  obtain ⟨methY, cY, hmY, hcY, -, hlY, -, -, -, -⟩ := Cond.code_spec hn h2
  obtain ⟨kY, hkY, -⟩ := className_of_methodNamed hn
  have hinitY : kY.init = .initialized := Cond.initialized_spec (findClass_of_methodNamed hn) hkY h3
  have h : At U g.method c below := by rw [hg]; exact X.here
  have hlocals9 : W9 + (maxL + 11) + (headSpec ws rm).room.locals ≤ R.locals := hlocals
  have happ : (headSpec ws rm).appliesLoose y e.platform (U.calling g mk a) = true :=
    Spec.appliesLoose_calling (g := g) h hdg hn hkY hinitY
      (X.room_calling (g := g) (R' := (headSpec ws rm).room) hsize hmY hcY hframes (by rw [hlY]; omega) h4 h5) h1
  obtain ⟨mid, hmid⟩ := h.above
  have hfr : (U.setTop g).frames = (.java g :: mid) ++ below := by rw [State.frames_setTop' g h.top, hmid]; rfl
  obtain ⟨o, s₂, hsteps, -, hend, hq⟩ := Steps.callFree hM p X.admits X.cas X.clock (acts := []) hfr happ hPc trivial
  have hq' : vx_Q Qc XC mc ms free a (U.calling g mk a) o s₂ := hq
  rw [State.frames_setTop' g h.top] at hend
  obtain ⟨g₀, hg0⟩ := Option.isSome_iff_exists.mp h.top
  obtain ⟨r, hr⟩ := State.topJava?_eq_some.mp hg0
  have hr' : (({ U with heap := s₂.heap, slotsUsed := s₂.slotsUsed } : State).setVm s₂.vm).frames = .java g₀ :: r := hr
  rcases hq' with ⟨hqc, L, hfe, hL⟩ | ⟨q, rfl, E, ce, L, hx, hce, hcv, hcl, hW₂, hsm, hL⟩
  · obtain ⟨⟨v, rfl⟩, hW₂, e2, q2, q3, q4, q5, q6⟩ := id hfe
    have e3 : s₂ = ({ (U.calling g mk a).setFrames s₂.frames with heap := s₂.heap, slotsUsed := s₂.slotsUsed } : State).setVm s₂.vm := by
      have : s₂ = ({ s₂ with vm := (U.calling g mk a).vm } : State).setVm s₂.vm := rfl
      rw [e2] at this
      exact this
    obtain ⟨c₂, i₂, len₂, hc₂, hd₂, hf₂⟩ := hend
    have hW' : U.WarmedH s₂.vm := hW₂
    have hcc : c₂ = c := by
      have h1 : s₂.code? g.method = U.code? g.method := by
        rw [State.code?_eq, State.code?_eq, hW'.alike.method?]
      exact Option.some.inj (hc₂.symm.trans (h1.trans h.code))
    subst hcc
    have hlen : len₂ = len := by rw [hdg] at hd₂; cases hd₂; rfl
    subst hlen
    have hs₂ : s₂ = (({ U with heap := s₂.heap, slotsUsed := s₂.slotsUsed } : State).setVm s₂.vm).setTop { g with pc := g.pc + len₂, stack := v.toList ++ g.stack } := by
      refine e3.trans ?_
      rw [hf₂, State.calling_eq h.top, State.setFrames_setFrames, State.setTop_of_frames _ hr', hr]
      rfl
    have hsame : U.sameButNew ({ U with heap := s₂.heap, slotsUsed := s₂.slotsUsed } : State) L mc ms := by
      refine ⟨?_, q2, q3, q4, q5, q6⟩
      obtain ⟨t, ht, -⟩ := State.frames_cons hr
      show ({ U with heap := s₂.heap, slotsUsed := s₂.slotsUsed } : State) = { U.setFrames U.frames with heap := s₂.heap, slotsUsed := s₂.slotsUsed }
      rw [State.setFrames_self ht]
    subst hg
    refine Or.inl ⟨v, ⟨(({ U with heap := s₂.heap, slotsUsed := s₂.slotsUsed } : State).setVm s₂.vm), Ls ++ L, c0 + mc, s0 + ms⟩,
      ⟨X.admits, X.cas, X.clock, X.frames, X.room, X.hears, X.method, X.code, (X.here.setHeapUsed s₂.heap s₂.slotsUsed).setVm hW'.alike, X.tail, State.WarmedH.trans X.warmed hW', X.limits, X.bytes, X.same.trans (hsame.setVm s.vm)⟩,
      ⟨g, mk, s₂, L, rfl, rfl, hqc, rfl, hL, rfl, rfl⟩, ?_⟩
    show Steps p.tables e below _ ((({ U with heap := s₂.heap, slotsUsed := s₂.slotsUsed } : State).setVm s₂.vm).setTop { g with pc := g.pc + len₂, stack := v.toList ++ g.stack })
    rw [← hs₂]
    exact hsteps
  · obtain ⟨e2, q2, q3, q4, q5, q6⟩ := id hsm
    have e3 : s₂ = ({ (U.calling g mk a).setFrames s₂.frames with heap := s₂.heap, slotsUsed := s₂.slotsUsed } : State).setVm s₂.vm := by
      have : s₂ = ({ s₂ with vm := (U.calling g mk a).vm } : State).setVm s₂.vm := rfl
      rw [e2] at this
      exact this
    have hf₂ : s₂.frames = .throwing q :: .java g :: U.frames.tail := hend
    have hW' : U.WarmedH s₂.vm := hW₂
    have hs₂ : s₂ = ((({ U with heap := s₂.heap, slotsUsed := s₂.slotsUsed } : State).setVm s₂.vm).setTop g).pushFrame (.throwing q) := by
      refine e3.trans ?_
      rw [hf₂, State.calling_eq h.top, State.setFrames_setFrames, State.pushFrame, State.frames_setTop _ hr', State.setTop_of_frames _ hr', State.setFrames_setFrames, hr]
      rfl
    have hsame : U.sameButNew ({ U with heap := s₂.heap, slotsUsed := s₂.slotsUsed } : State) L mc ms := by
      refine ⟨?_, q2, q3, q4, q5, q6⟩
      obtain ⟨t, ht, -⟩ := State.frames_cons hr
      show ({ U with heap := s₂.heap, slotsUsed := s₂.slotsUsed } : State) = { U.setFrames U.frames with heap := s₂.heap, slotsUsed := s₂.slotsUsed }
      rw [State.setFrames_self ht]
    subst hg
    refine Or.inr ⟨q, ⟨(({ U with heap := s₂.heap, slotsUsed := s₂.slotsUsed } : State).setVm s₂.vm), Ls ++ L, c0 + mc, s0 + ms⟩,
      ⟨X.admits, X.cas, X.clock, X.frames, X.room, X.hears, X.method, X.code, (X.here.setHeapUsed s₂.heap s₂.slotsUsed).setVm hW'.alike, X.tail, State.WarmedH.trans X.warmed hW', X.limits, X.bytes, X.same.trans (hsame.setVm s.vm)⟩,
      ⟨g, mk, s₂, L, E, ce, rfl, rfl, hx, hce, hcv, hcl, rfl, hL, rfl, rfl⟩, ?_⟩
    show Steps p.tables e below _ (((({ U with heap := s₂.heap, slotsUsed := s₂.slotsUsed } : State).setVm s₂.vm).setTop g).pushFrame (.throwing q))
    rw [← hs₂]
    exact hsteps
end Payer
section Calls
variable {p : Program} {l : Launch} {e : Env} {R : Room} {s : State} {m : MethodId} {args : Array Value} {below : List Frame} {meth : Method} {c : Code} {T : State} {locs : List Loc} {cells slots : Nat}
theorem vx_callV (X : Stand p l e R s m args below meth c T locs cells slots) (hexec : p.tables.exec = Jvm.exec) {own C : String} {index : Nat} {y : MethodName} {bytes : ByteArray} {maxL : Nat} {ret : Option FieldType}
    (hown : s.vm.findClass own = some m.cls) (hlink : (Cond.methodLink own index y).before args s = true) (hinst : (Cond.instanceMethod y).before args s = true) (hsel : (Cond.selects C y y).before args s = true)
    (hcode : (Cond.code y bytes maxL ret).before args s = true) (hy : y.cls ≠ "java/lang/invoke/MethodHandle" ∧ y.cls ≠ "java/lang/invoke/VarHandle")
    {W9 : Nat} {Pre : Pt → Array Value → Prop} {Post : Pt → Array Value → Option Value → Pt → Prop} {PostX : Pt → Array Value → Addr → Pt → Prop} (hK : vx_Back l R p e below s args y 3 W9 Pre Post PostX)
    {b : Addr} {cellB : Cell} (hcell : T.heap[b]? = some cellB) (hobj : cellB.vm.isStatics = false) (hcls : s.vm.findClass C = some cellB.cls)
    {g : JFrame} (hg : g.method = m) (hsize : g.locals.size = c.maxLocals) {argsL rest : List Value} (hlen : ∀ sig, parseMethodDescriptor y.desc = some sig → argsL.length = sig.parameters.length)
    (hstack : g.stack = argsL.reverse ++ .ref b :: rest) (hW : 2 * g.monitorRoom + (rest.map fun v => v.category).sum ≤ W9) (hdg : decode c.code g.pc = .ok (.invokevirtual index, 3))
    (hpre : ∀ vm₁, s.WarmedH vm₁ → Pre ⟨T.setVm vm₁, locs, cells, slots⟩ (Value.ref b :: argsL).toArray) :
    (∃ (v : Option Value) (vm₁ : Vm) (B : Pt), s.WarmedH vm₁ ∧ Stand p l e R s m args below meth c B.U B.locs B.cells B.slots ∧ Post ⟨T.setVm vm₁, locs, cells, slots⟩ (Value.ref b :: argsL).toArray v B ∧
      ∀ target, Steps p.tables e below (B.U.setTop { g with pc := g.pc + 3, stack := v.toList ++ rest }) target → Steps p.tables e below (T.setTop g) target) ∨
    (∃ (q : Addr) (vm₁ : Vm) (B : Pt), s.WarmedH vm₁ ∧ Stand p l e R s m args below meth c B.U B.locs B.cells B.slots ∧ PostX ⟨T.setVm vm₁, locs, cells, slots⟩ (Value.ref b :: argsL).toArray q B ∧
      Steps p.tables e below (T.setTop g) ((B.U.setTop { g with stack := rest }).pushFrame (.throwing q))) := by
  obtain ⟨mk, methM, hnamed, hmethM, hstM, habM⟩ := Cond.instanceMethod_spec hinst
  obtain ⟨methM', cM, hmethM', -, -, -, -, -, -, hsigM⟩ := Cond.code_spec hnamed hcode
  cases hmethM.symm.trans hmethM'
  obtain ⟨c2, r2, m2, q1, q2, q3, q4, kP, hkP, hkPi⟩ := Cond.selects_spec hsel
  cases hcls.symm.trans q1
  cases (State.methodFound?_of_named hnamed hy).symm.trans q2
  cases hnamed.symm.trans q3
  have hselP : selectMethod e.platform s.vm cellB.cls mk = .method mk := by rw [Launch.admits_selectMethod X.admits]; exact q4
  obtain ⟨vm₁, X₁, hstep₁⟩ := X.invokevirtual hexec hown hlink hnamed hmethM hstM hkP hkPi hy (a := b) (cell := cellB) hcell
    (fun z h => by rw [h] at hobj; cases hobj) hselP hmethM habM hkP hkPi (g := g) hg (argsL := argsL) (rest := rest) (hlen _ hsigM) hstack hdg
  rcases hK m meth c ⟨T.setVm vm₁, locs, cells, slots⟩ { g with stack := rest } (.invokevirtual index) mk (Value.ref b :: argsL).toArray X₁ hg hsize hdg hW (X₁.named hnamed) (hpre vm₁ X₁.warmed) with ⟨v, B, X', hpost, hsteps⟩ | ⟨q, B, X', hpost, hsteps⟩
  · exact Or.inl ⟨v, vm₁, B, X₁.warmed, X', hpost, fun target h => hstep₁ _ fun acts => by rw [doInvoke_state]; exact hsteps.trans h⟩
  · exact Or.inr ⟨q, vm₁, B, X₁.warmed, X', hpost, hstep₁ _ fun acts => by rw [doInvoke_state]; exact hsteps⟩
theorem vx_callS (X : Stand p l e R s m args below meth c T locs cells slots) (hexec : p.tables.exec = Jvm.exec) {own : String} {index : Nat} {y : MethodName} {bytes : ByteArray} {maxL : Nat} {ret : Option FieldType}
    (hown : s.vm.findClass own = some m.cls) (hlink : (Cond.methodLink own index y).before args s = true) (hstat : (Cond.static y).before args s = true) (hinit : (Cond.initialized y.cls).before args s = true)
    (hcode : (Cond.code y bytes maxL ret).before args s = true) (hy : y.cls ≠ "java/lang/invoke/MethodHandle" ∧ y.cls ≠ "java/lang/invoke/VarHandle")
    {W9 : Nat} {Pre : Pt → Array Value → Prop} {Post : Pt → Array Value → Option Value → Pt → Prop} {PostX : Pt → Array Value → Addr → Pt → Prop} (hK : vx_Back l R p e below s args y 3 W9 Pre Post PostX)
    {g : JFrame} (hg : g.method = m) (hsize : g.locals.size = c.maxLocals) {argsL rest : List Value} (hlen : ∀ sig, parseMethodDescriptor y.desc = some sig → argsL.length = sig.parameters.length)
    (hstack : g.stack = argsL.reverse ++ rest) (hW : 2 * g.monitorRoom + (rest.map fun v => v.category).sum ≤ W9) (hdg : decode c.code g.pc = .ok (.invokestatic index, 3))
    (hpre : ∀ vm₁, s.WarmedH vm₁ → Pre ⟨T.setVm vm₁, locs, cells, slots⟩ argsL.toArray) :
    (∃ (v : Option Value) (vm₁ : Vm) (B : Pt), s.WarmedH vm₁ ∧ Stand p l e R s m args below meth c B.U B.locs B.cells B.slots ∧ Post ⟨T.setVm vm₁, locs, cells, slots⟩ argsL.toArray v B ∧
      ∀ target, Steps p.tables e below (B.U.setTop { g with pc := g.pc + 3, stack := v.toList ++ rest }) target → Steps p.tables e below (T.setTop g) target) ∨
    (∃ (q : Addr) (vm₁ : Vm) (B : Pt), s.WarmedH vm₁ ∧ Stand p l e R s m args below meth c B.U B.locs B.cells B.slots ∧ PostX ⟨T.setVm vm₁, locs, cells, slots⟩ argsL.toArray q B ∧
      Steps p.tables e below (T.setTop g) ((B.U.setTop { g with stack := rest }).pushFrame (.throwing q))) := by
  obtain ⟨mk, hnamed⟩ := Cond.code_named hcode
  obtain ⟨methM, cM, hmethM, -, -, -, -, -, -, hsigM⟩ := Cond.code_spec hnamed hcode
  have hstatic : methM.isStatic = true := Cond.static_spec hnamed hmethM hstat
  obtain ⟨kP, hkP, -⟩ := className_of_methodNamed hnamed
  have hinitP : kP.init = .initialized := Cond.initialized_spec (findClass_of_methodNamed hnamed) hkP hinit
  obtain ⟨vm₁, X₁, hstep₁⟩ := X.invokestatic hexec hown hlink hnamed hmethM hstatic hkP hinitP hy (g := g) hg (argsL := argsL) (rest := rest) (hlen _ hsigM) hstack hdg
  rcases hK m meth c ⟨T.setVm vm₁, locs, cells, slots⟩ { g with stack := rest } (.invokestatic index) mk argsL.toArray X₁ hg hsize hdg hW (X₁.named hnamed) (hpre vm₁ X₁.warmed) with ⟨v, B, X', hpost, hsteps⟩ | ⟨q, B, X', hpost, hsteps⟩
  · exact Or.inl ⟨v, vm₁, B, X₁.warmed, X', hpost, fun target h => hstep₁ _ fun acts => by rw [doInvoke_state]; exact hsteps.trans h⟩
  · exact Or.inr ⟨q, vm₁, B, X₁.warmed, X', hpost, hstep₁ _ fun acts => by rw [doInvoke_state]; exact hsteps⟩
end Calls
theorem vx_cls {s : State} {T : State} {vm₁ : Vm} {E : String} {k : ClassId} (hW : s.WarmedH vm₁) (h : (T.setVm vm₁).vm.findClass E = some k) : s.vm.findClass E = some k := by
  have h1 : vm₁.findClass E = some k := h
  rw [hW.alike.findClass] at h1
  exact h1
def vx_W (p : Program) (l : Launch) (e : Env) (R : Room) (s : State) (m : MethodId) (args : Array Value) (below : List Frame) (meth : Method) (c : Code) (H : Heap) (locs : List Loc) (cells slots : Nat) (Q : State → Prop) (g : JFrame) (q : Addr) : Prop :=
  ∀ T : State, T.heap = H → Stand p l e R s m args below meth c T locs cells slots → ∃ t, Steps p.tables e below ((T.setTop g).pushFrame (.throwing q)) t ∧ Q t
def vx_Run (p : Program) (l : Launch) (e : Env) (R : Room) (s : State) (m : MethodId) (args : Array Value) (below : List Frame) (meth : Method) (c : Code) (H : Heap) (locs : List Loc) (cells slots mc ms : Nat) (g : JFrame) (rest : List Value) (Qa : State → Outcome → State → Prop) (XC : String → State → State → Prop) (free : Addr → Prop) : Prop :=
  ∀ T : State, T.heap = H → Stand p l e R s m args below meth c T locs cells slots →
    (∃ (v : Option Value) (st₀ t T' : State) (L : List Loc), st₀.heap = H ∧ Stand p l e R s m args below meth c T' (locs ++ L) (cells + mc) (slots + ms) ∧ (∀ q ∈ L, free q.base) ∧ T'.heap = t.heap ∧ T'.vm = t.vm ∧ Qa st₀ (.returned v) t ∧
      Goes p e below T g T' { g with pc := g.pc + 3, stack := v.toList ++ rest }) ∨
    (∃ (q : Addr) (st₀ t T' : State) (L : List Loc) (E : String) (ce : Cell), st₀.heap = H ∧ Stand p l e R s m args below meth c T' (locs ++ L) (cells + mc) (slots + ms) ∧ (∀ z ∈ L, free z.base) ∧ T'.heap = t.heap ∧ T'.vm = t.vm ∧ XC E st₀ t ∧ t.heap[q]? = some ce ∧ ce.vm = .none ∧ s.vm.findClass E = some ce.cls ∧
      Steps p.tables e below (T.setTop g) ((T'.setTop { g with stack := rest }).pushFrame (.throwing q)))
def vx_X {S : Type} (px : S → Prop) (B : String → S → State → Prop) (A : Nat → Prop) : String → State → State → Prop := fun E st t => ∃ u : S, px u ∧ B E u t ∧ va_F A st t
section Runs
variable {p : Program} {l : Launch} {e : Env} {R : Room} {s : State} {m : MethodId} {args : Array Value} {below : List Frame} {meth : Method} {c : Code} {H : Heap} {locs : List Loc} {cells slots : Nat}
variable {y : MethodName} {bytes cc : ByteArray} {maxL nL mc ms n index : Nat} {ret : Option FieldType} {ws : List Cond} {rm : Room} {Pc : Array Value → State → Prop} {Qc : Array Value → State → Outcome → State → Prop} {XC : String → State → State → Prop} {free : Addr → Prop} {Ts : List Cond} {own C : String} {b : Addr} {As rest : List Value} {g : JFrame}
theorem vx_callBack (cb : CallB R s args own index y bytes maxL ret ws rm mc ms n) (hM : vx_Met l y ws rm Pc Qc XC mc ms free) (hbl : FrameBlind Pc) : vx_Back l R p e below s args y 3 8 (PreOf R mc ms Pc) (PostOf Qc mc ms free) (vx_Post XC mc ms free) := by
  obtain ⟨hrc, hrs, hfr, hlo, hws, hcw, -, hini, -⟩ := cb
  exact vx_back (bytes := bytes) (maxL := maxL) (ret := ret) hM hbl hrc hrs hfr hlo hws hcw (fun a' U hW => word_at hW (Or.inl (by first | rfl | simp [Cond.onTables, Cond.keeps, Cond.steady])) hini)
theorem vx_runV (S : CallFix p m c cc nL s args Ts own) (hM : vx_Met l y ws rm Pc Qc XC mc ms free) (cw : CallW R s args own C index y bytes maxL ret ws rm mc ms n) (hp : PreV s H C b Pc As)
    (hg : g.method = m) (hn : As.length = n) (hsize : g.locals.size = nL) (hstack : g.stack = As.reverse ++ .ref b :: rest) (hW : 2 * g.monitorRoom + (rest.map fun v => v.category).sum ≤ 8) (hdg : decode cc g.pc = .ok (.invokevirtual index, 3)) (hf : cells + mc ≤ R.cells ∧ slots + ms ≤ R.slots) :
    vx_Run p l e R s m args below meth c H locs cells slots mc ms g rest (Qc (Value.ref b :: As).toArray) XC free := by
  have hK : vx_Back l R p e below s args y 3 8 (PreOf R mc ms Pc) (PostOf Qc mc ms free) (vx_Post XC mc ms free) := vx_callBack cw.1 hM hp.1
  obtain ⟨⟨-, -, -, -, -, -, hcode, -, hy, hlen, hl⟩, hin, hse⟩ := cw
  obtain ⟨hx, hb, hml, ho, -⟩ := S
  obtain ⟨-, ⟨cellB, hcB, hoB, hclB⟩, hPc⟩ := hp
  intro T hT X
  rcases vx_callV X hx (C := C) (bytes := bytes) (maxL := maxL) (ret := ret) ho hl hin hse hcode hy hK (by rw [hT]; exact hcB) hoB hclB hg (hsize.trans hml.symm) (argsL := As) (rest := rest) (fun sig h => hn.trans (hlen sig h)) hstack hW (by rw [hb]; exact hdg)
    (fun vm₁ hW₁ => ⟨hf.1, hf.2, hPc (T.setVm vm₁) hT hW₁⟩) with ⟨v, vm₁, ⟨U', l2, c2, s2⟩, hW₁, X', ⟨g', mk, t, L, e1, e2, hq, h1, hL, h2, h3⟩, st⟩ | ⟨q, vm₁, ⟨U', l2, c2, s2⟩, hW₁, X', ⟨g', mk, t, L, E, ce, e1, e2, hq, hce, hcv, hcl, h1, hL, h2, h3⟩, st⟩
  · dsimp only [Pt.U, Pt.locs, Pt.cells, Pt.slots] at X' e1 e2 h1 h2 h3 st
    subst h1; subst h2; subst h3
    exact Or.inl ⟨v, (T.setVm vm₁).calling g' mk (Value.ref b :: As).toArray, t, U', L, hT, X', hL, e1, e2, hq, st⟩
  · dsimp only [Pt.U, Pt.locs, Pt.cells, Pt.slots] at X' e1 e2 h1 h2 h3 st hcl
    subst h1; subst h2; subst h3
    exact Or.inr ⟨q, (T.setVm vm₁).calling g' mk (Value.ref b :: As).toArray, t, U', L, E, ce, hT, X', hL, e1, e2, hq, hce, hcv, vx_cls hW₁ hcl, st⟩
theorem vx_runS (S : CallFix p m c cc nL s args Ts own) (hM : vx_Met l y ws rm Pc Qc XC mc ms free) (cw : CallB R s args own index y bytes maxL ret ws rm mc ms n ∧ (Cond.static y).before args s = true) (hp : PreS s H Pc As)
    (hg : g.method = m) (hn : As.length = n) (hsize : g.locals.size = nL) (hstack : g.stack = As.reverse ++ rest) (hW : 2 * g.monitorRoom + (rest.map fun v => v.category).sum ≤ 8) (hdg : decode cc g.pc = .ok (.invokestatic index, 3)) (hf : cells + mc ≤ R.cells ∧ slots + ms ≤ R.slots) :
    vx_Run p l e R s m args below meth c H locs cells slots mc ms g rest (Qc As.toArray) XC free := by
  have hK : vx_Back l R p e below s args y 3 8 (PreOf R mc ms Pc) (PostOf Qc mc ms free) (vx_Post XC mc ms free) := vx_callBack cw.1 hM hp.1
  obtain ⟨⟨-, -, -, -, -, -, hcode, hini, hy, hlen, hl⟩, hstt⟩ := cw
  obtain ⟨hx, hb, hml, ho, -⟩ := S
  intro T hT X
  rcases vx_callS X hx (bytes := bytes) (maxL := maxL) (ret := ret) ho hl hstt hini hcode hy hK hg (hsize.trans hml.symm) (argsL := As) (rest := rest) (fun sig h => hn.trans (hlen sig h)) hstack hW (by rw [hb]; exact hdg)
    (fun vm₁ hW₁ => ⟨hf.1, hf.2, hp.2 (T.setVm vm₁) hT hW₁⟩) with ⟨v, vm₁, ⟨U', l2, c2, s2⟩, hW₁, X', ⟨g', mk, t, L, e1, e2, hq, h1, hL, h2, h3⟩, st⟩ | ⟨q, vm₁, ⟨U', l2, c2, s2⟩, hW₁, X', ⟨g', mk, t, L, E, ce, e1, e2, hq, hce, hcv, hcl, h1, hL, h2, h3⟩, st⟩
  · dsimp only [Pt.U, Pt.locs, Pt.cells, Pt.slots] at X' e1 e2 h1 h2 h3 st
    subst h1; subst h2; subst h3
    exact Or.inl ⟨v, (T.setVm vm₁).calling g' mk As.toArray, t, U', L, hT, X', hL, e1, e2, hq, st⟩
  · dsimp only [Pt.U, Pt.locs, Pt.cells, Pt.slots] at X' e1 e2 h1 h2 h3 st hcl
    subst h1; subst h2; subst h3
    exact Or.inr ⟨q, (T.setVm vm₁).calling g' mk As.toArray, t, U', L, E, ce, hT, X', hL, e1, e2, hq, hce, hcv, vx_cls hW₁ hcl, st⟩
end Runs
section Rows
variable {p : Program} {l : Launch} {e : Env} {R : Room} {s : State} {m : MethodId} {args : Array Value} {below : List Frame} {meth : Method} {c : Code} {H : Heap} {locs : List Loc} {cells slots : Nat} {Q : State → Prop}
variable {mc ms : Nat} {free : Addr → Prop} {A0 A1 : Nat → Prop} {H0 : Heap} {a : Array Value} {pc : Nat} {ls : Array Slot} {st0 rest : List Value}
theorem vx_keep {st₀ t T' : State} {L : List Loc} (h0 : st₀.heap = H) (e1 : T'.heap = t.heap) (hS : va_S A0 H0 H locs) (hA : ∀ q, q < H.size → A1 q → A0 q) (hf : ∀ q, free q → A0 q) (hL : ∀ q ∈ L, free q.base) (hF : va_F A1 st₀ t) :
    H.size ≤ T'.heap.size ∧ (∀ q : Nat, q < H.size → ¬ A1 q → T'.heap[q]? = H[q]?) ∧ va_S A0 H0 T'.heap (locs ++ L) := by
  obtain ⟨hz, hk⟩ := hF
  rw [h0] at hz hk
  exact ⟨by rw [e1]; exact hz, fun q h1 h2 => by rw [e1]; exact hk q h1 h2,
    ⟨Nat.le_trans hS.1 (by rw [e1]; exact hz), fun q h1 h2 => by rw [e1, hk q (Nat.lt_of_lt_of_le h1 hS.1) (fun z => h2 (hA q (Nat.lt_of_lt_of_le h1 hS.1) z))]; exact hS.2.1 q h1 h2, fun q hq => by
      rcases List.mem_append.mp hq with h | h
      · exact hS.2.2 q h
      · exact hf _ (hL q h)⟩⟩
theorem vx_calli {S SX : Type} {post : Int32 → S → Prop} {px : SX → Prop} {B : S → State → Prop} {BX : String → SX → State → Prop} {AX : Nat → Prop} (hr : vx_Run p l e R s m args below meth c H locs cells slots mc ms (F0 m pc ls st0) rest (va_Qi post B A1 a) (vx_X px BX AX) free) (hS : va_S A0 H0 H locs) (hA : ∀ q, q < H.size → A1 q → A0 q) (hf : ∀ q, free q → A0 q) (hAX : ∀ q, q < H.size → AX q → A0 q)
    (kx : ∀ (E : String) (ce : Cell) (q9 : Addr) (u : SX) (t : State) (H1 : Heap) (locs1 : List Loc), t.heap = H1 → s.vm.Alike t.vm → px u → BX E u t → H.size ≤ H1.size → (∀ q : Nat, q < H.size → ¬ AX q → H1[q]? = H[q]?) → va_S A0 H0 H1 locs1 → H1[q9]? = some ce → ce.vm = .none → s.vm.findClass E = some ce.cls → vx_W p l e R s m args below meth c H1 locs1 (cells + mc) (slots + ms) Q (F0 m pc ls rest) q9)
    (kk : ∀ (r : Int32) (u : S) (t : State) (H1 : Heap) (locs1 : List Loc), t.heap = H1 → s.vm.Alike t.vm → post r u → B u t → H.size ≤ H1.size → (∀ q : Nat, q < H.size → ¬ A1 q → H1[q]? = H[q]?) → va_S A0 H0 H1 locs1 → W p l e R s m args below meth c H1 locs1 (cells + mc) (slots + ms) Q (F0 m (pc + 3) ls (.int r :: rest))) : W p l e R s m args below meth c H locs cells slots Q (F0 m pc ls st0) := by
  intro T hT X
  rcases hr T hT X with ⟨v, st₀, t, T', L, h0, X', hL, e1, e2, ⟨⟨r, u, hv, hp, hb⟩, hF⟩, st⟩ | ⟨q, st₀, t, T', L, E, ce, h0, X', hL, e1, e2, ⟨u, hp, hb, hF⟩, hce, hcv, hcl, st⟩
  · cases hv
    obtain ⟨k1, k2, k3⟩ := vx_keep h0 e1 hS hA hf hL hF
    obtain ⟨t2, a1, b1⟩ := kk r u t T'.heap (locs ++ L) e1.symm (by rw [← e2]; exact X'.warmed.alike) hp hb k1 k2 k3 T' rfl X'
    exact ⟨t2, st t2 a1, b1⟩
  · obtain ⟨k1, k2, k3⟩ := vx_keep h0 e1 hS hAX hf hL hF
    obtain ⟨t2, a1, b1⟩ := kx E ce q u t T'.heap (locs ++ L) e1.symm (by rw [← e2]; exact X'.warmed.alike) hp hb k1 k2 k3 (by rw [e1]; exact hce) hcv hcl T' rfl X'
    exact ⟨t2, st.trans a1, b1⟩
theorem vx_calll {S SX : Type} {post : Int64 → S → Prop} {px : SX → Prop} {B : S → State → Prop} {BX : String → SX → State → Prop} {AX : Nat → Prop} (hr : vx_Run p l e R s m args below meth c H locs cells slots mc ms (F0 m pc ls st0) rest (va_Ql post B A1 a) (vx_X px BX AX) free) (hS : va_S A0 H0 H locs) (hA : ∀ q, q < H.size → A1 q → A0 q) (hf : ∀ q, free q → A0 q) (hAX : ∀ q, q < H.size → AX q → A0 q)
    (kx : ∀ (E : String) (ce : Cell) (q9 : Addr) (u : SX) (t : State) (H1 : Heap) (locs1 : List Loc), t.heap = H1 → s.vm.Alike t.vm → px u → BX E u t → H.size ≤ H1.size → (∀ q : Nat, q < H.size → ¬ AX q → H1[q]? = H[q]?) → va_S A0 H0 H1 locs1 → H1[q9]? = some ce → ce.vm = .none → s.vm.findClass E = some ce.cls → vx_W p l e R s m args below meth c H1 locs1 (cells + mc) (slots + ms) Q (F0 m pc ls rest) q9)
    (kk : ∀ (r : Int64) (u : S) (t : State) (H1 : Heap) (locs1 : List Loc), t.heap = H1 → s.vm.Alike t.vm → post r u → B u t → H.size ≤ H1.size → (∀ q : Nat, q < H.size → ¬ A1 q → H1[q]? = H[q]?) → va_S A0 H0 H1 locs1 → W p l e R s m args below meth c H1 locs1 (cells + mc) (slots + ms) Q (F0 m (pc + 3) ls (.long r :: rest))) : W p l e R s m args below meth c H locs cells slots Q (F0 m pc ls st0) := by
  intro T hT X
  rcases hr T hT X with ⟨v, st₀, t, T', L, h0, X', hL, e1, e2, ⟨⟨r, u, hv, hp, hb⟩, hF⟩, st⟩ | ⟨q, st₀, t, T', L, E, ce, h0, X', hL, e1, e2, ⟨u, hp, hb, hF⟩, hce, hcv, hcl, st⟩
  · cases hv
    obtain ⟨k1, k2, k3⟩ := vx_keep h0 e1 hS hA hf hL hF
    obtain ⟨t2, a1, b1⟩ := kk r u t T'.heap (locs ++ L) e1.symm (by rw [← e2]; exact X'.warmed.alike) hp hb k1 k2 k3 T' rfl X'
    exact ⟨t2, st t2 a1, b1⟩
  · obtain ⟨k1, k2, k3⟩ := vx_keep h0 e1 hS hAX hf hL hF
    obtain ⟨t2, a1, b1⟩ := kx E ce q u t T'.heap (locs ++ L) e1.symm (by rw [← e2]; exact X'.warmed.alike) hp hb k1 k2 k3 (by rw [e1]; exact hce) hcv hcl T' rfl X'
    exact ⟨t2, st.trans a1, b1⟩
theorem vx_callf {S SX : Type} {post : UInt32 → S → Prop} {px : SX → Prop} {B : S → State → Prop} {BX : String → SX → State → Prop} {AX : Nat → Prop} (hr : vx_Run p l e R s m args below meth c H locs cells slots mc ms (F0 m pc ls st0) rest (va_Qf post B A1 a) (vx_X px BX AX) free) (hS : va_S A0 H0 H locs) (hA : ∀ q, q < H.size → A1 q → A0 q) (hf : ∀ q, free q → A0 q) (hAX : ∀ q, q < H.size → AX q → A0 q)
    (kx : ∀ (E : String) (ce : Cell) (q9 : Addr) (u : SX) (t : State) (H1 : Heap) (locs1 : List Loc), t.heap = H1 → s.vm.Alike t.vm → px u → BX E u t → H.size ≤ H1.size → (∀ q : Nat, q < H.size → ¬ AX q → H1[q]? = H[q]?) → va_S A0 H0 H1 locs1 → H1[q9]? = some ce → ce.vm = .none → s.vm.findClass E = some ce.cls → vx_W p l e R s m args below meth c H1 locs1 (cells + mc) (slots + ms) Q (F0 m pc ls rest) q9)
    (kk : ∀ (r : UInt32) (u : S) (t : State) (H1 : Heap) (locs1 : List Loc), t.heap = H1 → s.vm.Alike t.vm → post r u → B u t → H.size ≤ H1.size → (∀ q : Nat, q < H.size → ¬ A1 q → H1[q]? = H[q]?) → va_S A0 H0 H1 locs1 → W p l e R s m args below meth c H1 locs1 (cells + mc) (slots + ms) Q (F0 m (pc + 3) ls (.float r :: rest))) : W p l e R s m args below meth c H locs cells slots Q (F0 m pc ls st0) := by
  intro T hT X
  rcases hr T hT X with ⟨v, st₀, t, T', L, h0, X', hL, e1, e2, ⟨⟨r, u, hv, hp, hb⟩, hF⟩, st⟩ | ⟨q, st₀, t, T', L, E, ce, h0, X', hL, e1, e2, ⟨u, hp, hb, hF⟩, hce, hcv, hcl, st⟩
  · cases hv
    obtain ⟨k1, k2, k3⟩ := vx_keep h0 e1 hS hA hf hL hF
    obtain ⟨t2, a1, b1⟩ := kk r u t T'.heap (locs ++ L) e1.symm (by rw [← e2]; exact X'.warmed.alike) hp hb k1 k2 k3 T' rfl X'
    exact ⟨t2, st t2 a1, b1⟩
  · obtain ⟨k1, k2, k3⟩ := vx_keep h0 e1 hS hAX hf hL hF
    obtain ⟨t2, a1, b1⟩ := kx E ce q u t T'.heap (locs ++ L) e1.symm (by rw [← e2]; exact X'.warmed.alike) hp hb k1 k2 k3 (by rw [e1]; exact hce) hcv hcl T' rfl X'
    exact ⟨t2, st.trans a1, b1⟩
theorem vx_calld {S SX : Type} {post : UInt64 → S → Prop} {px : SX → Prop} {B : S → State → Prop} {BX : String → SX → State → Prop} {AX : Nat → Prop} (hr : vx_Run p l e R s m args below meth c H locs cells slots mc ms (F0 m pc ls st0) rest (va_Qd post B A1 a) (vx_X px BX AX) free) (hS : va_S A0 H0 H locs) (hA : ∀ q, q < H.size → A1 q → A0 q) (hf : ∀ q, free q → A0 q) (hAX : ∀ q, q < H.size → AX q → A0 q)
    (kx : ∀ (E : String) (ce : Cell) (q9 : Addr) (u : SX) (t : State) (H1 : Heap) (locs1 : List Loc), t.heap = H1 → s.vm.Alike t.vm → px u → BX E u t → H.size ≤ H1.size → (∀ q : Nat, q < H.size → ¬ AX q → H1[q]? = H[q]?) → va_S A0 H0 H1 locs1 → H1[q9]? = some ce → ce.vm = .none → s.vm.findClass E = some ce.cls → vx_W p l e R s m args below meth c H1 locs1 (cells + mc) (slots + ms) Q (F0 m pc ls rest) q9)
    (kk : ∀ (r : UInt64) (u : S) (t : State) (H1 : Heap) (locs1 : List Loc), t.heap = H1 → s.vm.Alike t.vm → post r u → B u t → H.size ≤ H1.size → (∀ q : Nat, q < H.size → ¬ A1 q → H1[q]? = H[q]?) → va_S A0 H0 H1 locs1 → W p l e R s m args below meth c H1 locs1 (cells + mc) (slots + ms) Q (F0 m (pc + 3) ls (.double r :: rest))) : W p l e R s m args below meth c H locs cells slots Q (F0 m pc ls st0) := by
  intro T hT X
  rcases hr T hT X with ⟨v, st₀, t, T', L, h0, X', hL, e1, e2, ⟨⟨r, u, hv, hp, hb⟩, hF⟩, st⟩ | ⟨q, st₀, t, T', L, E, ce, h0, X', hL, e1, e2, ⟨u, hp, hb, hF⟩, hce, hcv, hcl, st⟩
  · cases hv
    obtain ⟨k1, k2, k3⟩ := vx_keep h0 e1 hS hA hf hL hF
    obtain ⟨t2, a1, b1⟩ := kk r u t T'.heap (locs ++ L) e1.symm (by rw [← e2]; exact X'.warmed.alike) hp hb k1 k2 k3 T' rfl X'
    exact ⟨t2, st t2 a1, b1⟩
  · obtain ⟨k1, k2, k3⟩ := vx_keep h0 e1 hS hAX hf hL hF
    obtain ⟨t2, a1, b1⟩ := kx E ce q u t T'.heap (locs ++ L) e1.symm (by rw [← e2]; exact X'.warmed.alike) hp hb k1 k2 k3 (by rw [e1]; exact hce) hcv hcl T' rfl X'
    exact ⟨t2, st.trans a1, b1⟩
theorem vx_callv {S SX : Type} {post : S → Prop} {px : SX → Prop} {B : S → State → Prop} {BX : String → SX → State → Prop} {AX : Nat → Prop} (hr : vx_Run p l e R s m args below meth c H locs cells slots mc ms (F0 m pc ls st0) rest (va_Qv post B A1 a) (vx_X px BX AX) free) (hS : va_S A0 H0 H locs) (hA : ∀ q, q < H.size → A1 q → A0 q) (hf : ∀ q, free q → A0 q) (hAX : ∀ q, q < H.size → AX q → A0 q)
    (kx : ∀ (E : String) (ce : Cell) (q9 : Addr) (u : SX) (t : State) (H1 : Heap) (locs1 : List Loc), t.heap = H1 → s.vm.Alike t.vm → px u → BX E u t → H.size ≤ H1.size → (∀ q : Nat, q < H.size → ¬ AX q → H1[q]? = H[q]?) → va_S A0 H0 H1 locs1 → H1[q9]? = some ce → ce.vm = .none → s.vm.findClass E = some ce.cls → vx_W p l e R s m args below meth c H1 locs1 (cells + mc) (slots + ms) Q (F0 m pc ls rest) q9)
    (kk : ∀ (u : S) (t : State) (H1 : Heap) (locs1 : List Loc), t.heap = H1 → s.vm.Alike t.vm → post u → B u t → H.size ≤ H1.size → (∀ q : Nat, q < H.size → ¬ A1 q → H1[q]? = H[q]?) → va_S A0 H0 H1 locs1 → W p l e R s m args below meth c H1 locs1 (cells + mc) (slots + ms) Q (F0 m (pc + 3) ls (rest))) : W p l e R s m args below meth c H locs cells slots Q (F0 m pc ls st0) := by
  intro T hT X
  rcases hr T hT X with ⟨v, st₀, t, T', L, h0, X', hL, e1, e2, ⟨⟨u, hv, hp, hb⟩, hF⟩, st⟩ | ⟨q, st₀, t, T', L, E, ce, h0, X', hL, e1, e2, ⟨u, hp, hb, hF⟩, hce, hcv, hcl, st⟩
  · cases hv
    obtain ⟨k1, k2, k3⟩ := vx_keep h0 e1 hS hA hf hL hF
    obtain ⟨t2, a1, b1⟩ := kk u t T'.heap (locs ++ L) e1.symm (by rw [← e2]; exact X'.warmed.alike) hp hb k1 k2 k3 T' rfl X'
    exact ⟨t2, st t2 a1, b1⟩
  · obtain ⟨k1, k2, k3⟩ := vx_keep h0 e1 hS hAX hf hL hF
    obtain ⟨t2, a1, b1⟩ := kx E ce q u t T'.heap (locs ++ L) e1.symm (by rw [← e2]; exact X'.warmed.alike) hp hb k1 k2 k3 (by rw [e1]; exact hce) hcv hcl T' rfl X'
    exact ⟨t2, st.trans a1, b1⟩
theorem vx_catch {own name : String} {E : String} {ce : Cell} {q : Addr} (hown : s.vm.findClass own = some m.cls) (pre : List ExceptionTableEntry) (x : ExceptionTableEntry) (suf : List ExceptionTableEntry) (hsplit : c.exceptionTable.toList = pre ++ x :: suf)
    (hpass : ∀ z ∈ pre, covers z pc = false ∨ (z.catchType ≠ 0 ∧ ∃ nm : String, (Cond.classLink own z.catchType nm).before args s = true ∧ va_Nc E nm s)) (hx : covers x pc = true) (h0 : x.catchType ≠ 0)
    (hlink : (Cond.classLink own x.catchType name).before args s = true) (hcast : (Cond.castable E name).before args s = true) (hcell : H[q]? = some ce) (hv : ce.vm = .none) (hcl : s.vm.findClass E = some ce.cls)
    (kk : W p l e R s m args below meth c H locs cells slots Q (F0 m x.handlerPc ls [.ref q])) : vx_W p l e R s m args below meth c H locs cells slots Q (F0 m pc ls rest) q := by
  intro T hT X
  have hpl : e.platform.magicAccessors = ({} : Platform).magicAccessors := by rw [X.admits.platform]
  obtain ⟨c3, c4, hc3, hc4, hasg⟩ := Cond.castable_spec hcast
  cases Option.some.inj (hc3.symm.trans hcl)
  obtain ⟨c5, hc5, hcl5⟩ := Cond.classLink_spec hown hlink e.platform hpl
  cases Option.some.inj (hc4.symm.trans hc5)
  obtain ⟨vm', X', st⟩ := X.thenCaughtThrough q (g := F0 m pc ls rest) rfl (Steps.refl _) (by rw [hT]; exact hcell) (by rw [hv]; rfl) (by obtain ⟨k9, h9, -⟩ := Vm.findClass_spec hcl; exact ⟨k9, h9⟩) pre x suf hsplit
    (fun z hz => by
      rcases hpass z hz with h | ⟨hz0, nm, hl1, hn1⟩
      · exact Or.inl h
      · obtain ⟨c6, hc6, hcl6⟩ := Cond.classLink_spec hown hl1 e.platform hpl
        obtain ⟨a8, b8, h1, h2, h3⟩ := hn1
        cases Option.some.inj (h1.symm.trans hcl)
        cases Option.some.inj (h2.symm.trans hc6)
        exact Or.inr ⟨hz0, _, hcl6, h3⟩) hx (Or.inr ⟨h0, c4, hcl5, hasg⟩)
  obtain ⟨t, a1, b1⟩ := kk (T.setVm vm') hT X'
  exact ⟨t, st.trans a1, b1⟩
end Rows
section Ends
variable {p : Program} {l : Launch} {e : Env} {R : Room} {s : State} {m : MethodId} {args : Array Value} {below : List Frame} {meth : Method} {c : Code} {H : Heap} {locs : List Loc} {cells slots : Nat} {Q : State → Prop}
variable {mc ms : Nat} {free : Addr → Prop} {A0 A1 : Nat → Prop} {H0 : Heap} {a : Array Value} {ls : Array Slot} {st0 rest : List Value}
variable {Qc : Array Value → State → Outcome → State → Prop} {XC : String → State → State → Prop}
def vx_MQ (below : List Frame) (Qc : Array Value → State → Outcome → State → Prop) (XC : String → State → State → Prop) (a : Array Value) (s : State) (mc ms : Nat) (free : Addr → Prop) : State → Prop := fun t =>
  ∃ o, t.status = .running ∧ Ended t below o ∧ vx_Q Qc XC mc ms free a s o t
theorem vx_ret {g : JFrame} {mc ms : Nat} (k : W p l e R s m args below meth c H locs cells slots (MQ below Qc args s mc ms free) g) : W p l e R s m args below meth c H locs cells slots (vx_MQ below Qc XC args s mc ms free) g := by
  intro T hT X
  obtain ⟨t, a1, o, b1, b2, b3, b4⟩ := k T hT X
  exact ⟨t, a1, o, b1, b2, Or.inl ⟨b3, b4⟩⟩
theorem vx_widen {g : JFrame} {q : Addr} {k n : Nat} (h1 : cells ≤ k) (h2 : slots ≤ n) (kk : vx_W p l e R s m args below meth c H locs k n Q g q) : vx_W p l e R s m args below meth c H locs cells slots Q g q := fun T hT X => kk T hT (stand_widen X h1 h2)
theorem vx_out {pc : Nat} {E : String} {ce : Cell} {q : Addr} {mc ms : Nat} (hout : ∀ x ∈ c.exceptionTable.toList, covers x pc = false) (hlocks : meth.locks = false) (hcell : H[q]? = some ce) (hv : ce.vm = .none) (hcl : s.vm.findClass E = some ce.cls)
    (hx : ∀ t : State, t.heap = H → s.vm.Alike t.vm → XC E s t) (hf : ∀ z ∈ locs, free z.base) (hc : cells ≤ mc) (hs : slots ≤ ms) :
    vx_W p l e R s m args below meth c H locs cells slots (vx_MQ below Qc XC args s mc ms free) (F0 m pc ls rest) q := by
  intro T hT X
  obtain ⟨st1, hrun, hend, hW, hsm⟩ := X.leaveThrown q (g := F0 m pc ls rest) rfl rfl rfl hout hlocks
  have hcell9 : (T.setFrames (.throwing q :: below)).heap[q]? = some ce := by
    show T.heap[q]? = some ce
    rw [hT]; exact hcell
  exact ⟨_, st1, .threw q, hrun, hend, Or.inr ⟨q, rfl, E, ce, locs, hx _ hT hW.alike, hcell9, hv, hcl, hW, hsm.mono hc hs, hf⟩⟩
theorem vx_frame {U : State} {k n : Nat} (h : s.sameButNew ({ U with vm := s.vm } : State) locs k n) : s.heap.size ≤ U.heap.size ∧ ∀ q : Nat, q < s.heap.size → (∀ z ∈ locs, z.base ≠ q) → U.heap[q]? = s.heap[q]? := by
  obtain ⟨-, h2, -, -, -, h6⟩ := h
  refine ⟨h2, fun q hq hz => ?_⟩
  obtain ⟨c9, e1, e2, e3, e4⟩ := h6 q _ (Array.getElem?_eq_getElem hq)
  have hs : c9.slots = (s.heap[q]).slots := Array.ext_getElem? fun i => e4 i fun hm => hz _ hm rfl
  have h9 : c9 = s.heap[q] := by
    rw [hs] at e2
    exact e2
  have e5 : U.heap[q]? = some c9 := e1
  rw [e5, h9, Array.getElem?_eq_getElem hq]
def vx_no (w : Cond) : Bool := decide (w ≠ .isRef (.static Bundle.tN "UNASSIGNED_STACK" Bundle.steD)) && decide (w ≠ .isRef (.static Bundle.tN "SUPPRESSED_SENTINEL" Bundle.listD)) && decide (w ≠ .laysStatic Bundle.tN "UNASSIGNED_STACK" Bundle.steD) && decide (w ≠ .laysStatic Bundle.tN "SUPPRESSED_SENTINEL" Bundle.listD)
def vx_at0 (own : String) (ic : Nat) (X : String) (names : List String) : List Cond := (Bundle.ownAtoms0 own ic X names).filter vx_no
def vx_atS (own : String) (ic : Nat) (X : String) (names : List String) : List Cond := (Bundle.ownAtoms own ic X names).filter vx_no
def vx_ot (w : Cond) : Bool := w.onTables || goodWord w
theorem vx_ot_at {args a' : Array Value} {s U : State} {w : Cond} (hW : s.WarmedH U.vm) (hvm : s.vm = U.vm) (hg : vx_ot w = true) (h : w.before args s = true) : w.before a' U = true := by
  simp only [vx_ot, Bool.or_eq_true] at hg
  rcases hg with hg | hg
  · exact va_tabs hg hvm h
  · exact word_at hW (good_of_word hg) h
theorem vx_hat {args : Array Value} {s : State} {L B : List Cond} (h1 : ∀ w ∈ L.filter goodWord, w.before args s = true) (h2 : ∀ w ∈ L.filter (fun w => !goodWord w), w ∈ B) (h3 : ∀ w ∈ B, w.before args s = true) : ∀ w ∈ L, w.before args s = true := by
  intro w hw
  by_cases g : goodWord w = true
  · exact h1 w (List.mem_filter.mpr ⟨hw, g⟩)
  · refine h3 w (h2 w (List.mem_filter.mpr ⟨hw, ?_⟩))
    show (!goodWord w) = true
    cases hgw : goodWord w
    · rfl
    · exact absurd hgw g
theorem vx_c {args : Array Value} {s : State} {w : Cond} {B : List Cond} (h : w.before args s = true) (t : ∀ w ∈ B, w.before args s = true) : ∀ w' ∈ w :: B, w'.before args s = true := fun w' h' => (List.mem_cons.mp h').elim (fun e => by rw [e]; exact h) (t w')
theorem vx_n {args : Array Value} {s : State} : ∀ w ∈ ([] : List Cond), w.before args s = true := fun _ h => nomatch h
theorem vx_own {args : Array Value} {s : State} {L : List Cond} (h1 : ∀ w ∈ L.filter vx_no, w.before args s = true)
    (hU : (Cond.isRef (.static Bundle.tN "UNASSIGNED_STACK" Bundle.steD)).before args s = true) (hN : (Cond.isRef (.static Bundle.tN "SUPPRESSED_SENTINEL" Bundle.listD)).before args s = true)
    (lU : (Cond.laysStatic Bundle.tN "UNASSIGNED_STACK" Bundle.steD).before args s = true) (lN : (Cond.laysStatic Bundle.tN "SUPPRESSED_SENTINEL" Bundle.listD).before args s = true) : ∀ w ∈ L, w.before args s = true := by
  intro w hw
  by_cases e1 : w = .isRef (.static Bundle.tN "UNASSIGNED_STACK" Bundle.steD)
  · rw [e1]; exact hU
  · by_cases e2 : w = .isRef (.static Bundle.tN "SUPPRESSED_SENTINEL" Bundle.listD)
    · rw [e2]; exact hN
    · by_cases e3 : w = .laysStatic Bundle.tN "UNASSIGNED_STACK" Bundle.steD
      · rw [e3]; exact lU
      · by_cases e4 : w = .laysStatic Bundle.tN "SUPPRESSED_SENTINEL" Bundle.listD
        · rw [e4]; exact lN
        · exact h1 w (List.mem_filter.mpr ⟨hw, by unfold vx_no; rw [decide_eq_true e1, decide_eq_true e2, decide_eq_true e3, decide_eq_true e4]; rfl⟩)
def vx_L (C n d : String) (A : Nat → Prop) (U : State) (H : Heap) : Prop := ∃ (c : ClassId) (k : Class) (i : Nat) (f : Field) (a : Nat) (cell : Cell), U.vm.findClass C = some c ∧ U.fieldFound? C n d = some (c, k, i, f) ∧ f.isStatic = true ∧ k.statics = some a ∧ H[a]? = some cell ∧ cell.vm.isStatics = true ∧ cell.cls = c ∧ f.slot < cell.slots.size ∧ k.staticTypes[f.slot]? = some f.type ∧ ¬ A a
theorem vx_L.moved {C n d : String} {A : Nat → Prop} {u U : State} {H : Heap} (hvm : u.vm.Alike U.vm) (h : vx_L C n d A u H) : vx_L C n d A U H := by
  obtain ⟨c, k, i, f, a, cell, h1, h2, h3, h4, h5, h6, h7, h8, h9, h10⟩ := h
  obtain ⟨k', hi', he⟩ := State.fieldFound?_setVm hvm h2
  exact ⟨c, k', i, f, a, cell, by rw [hvm.findClass]; exact h1, hi', h3, by rw [he]; exact h4, h5, h6, h7, h8, by rw [he]; exact h9, h10⟩
theorem vx_L.kept {C n d : String} {A : Nat → Prop} {U : State} {H H1 : Heap} (h : vx_L C n d A U H) (hq : ∀ a : Nat, a < H.size → ¬ A a → H1[a]? = H[a]?) : vx_L C n d A U H1 := by
  obtain ⟨c, k, i, f, a, cell, h1, h2, h3, h4, h5, h6, h7, h8, h9, h10⟩ := h
  exact ⟨c, k, i, f, a, cell, h1, h2, h3, h4, by rw [hq a (Array.getElem?_eq_some_iff.mp h5).1 h10]; exact h5, h6, h7, h8, h9, h10⟩
theorem vx_L.narrow {C n d : String} {A B : Nat → Prop} {U : State} {H : Heap} (h : vx_L C n d A U H) (hAB : ∀ q, B q → A q) : vx_L C n d B U H := by
  obtain ⟨c, k, i, f, a, cell, h1, h2, h3, h4, h5, h6, h7, h8, h9, h10⟩ := h
  exact ⟨c, k, i, f, a, cell, h1, h2, h3, h4, h5, h6, h7, h8, h9, fun z => h10 (hAB _ z)⟩
theorem vx_L.word {C n d : String} {A : Nat → Prop} {s : State} {args : Array Value} (h : vx_L C n d A s s.heap) : (Cond.laysStatic C n d).before args s = true := by
  obtain ⟨c, k, i, f, a, cell, h1, h2, h3, h4, h5, h6, h7, h8, h9, -⟩ := h
  show (Cond.laysStatic C n d).holds args s none s [] = true
  exact Cond.laysStatic_of h1 h2 h3 h4 h5 h6 h7 h8 h9
def vx_Zq (C n d : String) (A : Nat → Prop) (U : State) (H : Heap) : Prop := va_Zq C n d A U H ∧ vx_L C n d A U H
theorem vx_Zq.moved {C n d : String} {A : Nat → Prop} {u U : State} {H : Heap} (hvm : u.vm.Alike U.vm) (h : vx_Zq C n d A u H) : vx_Zq C n d A U H := ⟨va_Zq.moved hvm h.1, vx_L.moved hvm h.2⟩
theorem vx_Zq.kept {C n d : String} {A : Nat → Prop} {U : State} {H H1 : Heap} (h : vx_Zq C n d A U H) (hq : ∀ a : Nat, a < H.size → ¬ A a → H1[a]? = H[a]?) : vx_Zq C n d A U H1 := ⟨va_Zq.kept h.1 hq, vx_L.kept h.2 hq⟩
theorem vx_Zq.narrow {C n d : String} {A B : Nat → Prop} {U : State} {H : Heap} (h : vx_Zq C n d A U H) (hAB : ∀ q, B q → A q) : vx_Zq C n d B U H := ⟨va_Zq.narrow h.1 hAB, vx_L.narrow h.2 hAB⟩
theorem vx_Zqof {args : Array Value} {s : State} {C n d : String} {A : Nat → Prop} (hl : (Cond.laysStatic C n d).before args s = true) (hini : (Cond.initialized C).before args s = true) (h : (Cond.isRef (.static C n d)).before args s = true) (hA : ∀ a : Nat, a < s.heap.size → ¬ A a) : vx_Zq C n d A s s.heap := by
  refine ⟨va_Zqof hl hini h hA, ?_⟩
  obtain ⟨c, k, i, f, a, cell, h1, h2, h3, h4, h5, h6, h7, h8, h9⟩ := Cond.laysStatic_spec hl
  exact ⟨c, k, i, f, a, cell, h1, h2, h3, h4, h5, h6, h7, h8, h9, hA a (Array.getElem?_eq_some_iff.mp h5).1⟩
theorem vx_isRef {C n d : String} {v : Value} {A : Nat → Prop} {s : State} {args : Array Value} (h : va_Z C n d v A s s.heap) (hv : v.isRef = true) : (Cond.isRef (.static C n d)).before args s = true := by
  obtain ⟨cf, kf, fi, f, a, cell, h1, h2, h3, h4, h5, h6, h7, -⟩ := h
  have he : (Term.static C n d).eval args s none [] s = some v := by
    simp [Term.eval, State.fieldNamed?, h1, h2, h4, h5, h6, h7]
  simp only [Cond.before, Cond.holds, Cond.value, he]
  cases v <;> simp_all [Value.isRef]
theorem vx_isRefq {C n d : String} {A : Nat → Prop} {s : State} {args : Array Value} (h : va_Zq C n d A s s.heap) : (Cond.isRef (.static C n d)).before args s = true := by
  rcases h with h | ⟨t, h⟩
  · exact vx_isRef h rfl
  · exact vx_isRef h rfl
theorem vx_rebase {T : State} (X : Stand p l e R s m args below meth c T locs cells slots) {R' : Room} (hf : R'.frames ≤ R.frames) (hl : R'.locals ≤ R.locals) (hc : cells + R'.cells ≤ R.cells) (hs : slots + R'.slots ≤ R.slots) :
    Stand p l e R' ((T.setVm s.vm).setFrames (.invoking m args :: below)) m args below meth c T [] 0 0 := by
  have htop : (T.setVm s.vm).topJava?.isSome := X.here.top
  have hF : ((T.setVm s.vm).setFrames (.invoking m args :: below)).frames = .invoking m args :: below := State.frames_setFrames _ (State.cur_lt_of_top htop)
  obtain ⟨g₀, hg0⟩ := Option.isSome_iff_exists.mp htop
  obtain ⟨r, hr⟩ := State.topJava?_eq_some.mp hg0
  have hl9 : e.platform.stackLimits (T.setVm s.vm).me = e.platform.stackLimits s.me := X.limits
  have hb9 : (T.setVm s.vm).me.stackBytes = s.me.stackBytes := X.bytes
  refine ⟨X.admits, X.cas, X.clock, hF, ?_, X.hears, X.method, X.code, X.here, X.tail, X.warmed, ?_, ?_, ?_⟩
  · have h := X.room
    have hU : ((T.setVm s.vm).setFrames (.invoking m args :: below)).localsInUse = s.localsInUse := by
      rw [State.localsInUse_invoking hF (meth := meth) (c := c) X.method X.code, State.localsInUse_invoking X.frames X.method X.code]
    simp only [State.hasRoom, Bool.and_eq_true, decide_eq_true_eq] at h ⊢
    obtain ⟨⟨⟨⟨h1, h2, h3, h4, h5, h6⟩, h7⟩, h8⟩, h9⟩ := h
    rw [X.frames, List.length_cons] at h2 h3
    have q1 := X.heapSize
    have q2 := X.used
    simp only [hF, hU, List.length_cons, State.stackLimits_setFrames, State.stackBytes_setFrames, hl9, hb9]
    refine ⟨⟨⟨⟨by omega, by omega, by omega, by omega, by omega, h6⟩, ?_⟩, ?_⟩, X.book⟩
    · show T.heap.size + R'.cells ≤ e.platform.maxCells
      omega
    · show T.slotsUsed + R'.slots ≤ e.platform.maxSlots
      omega
  · rw [State.stackLimits_setFrames]; rfl
  · rw [State.stackBytes_setFrames]; rfl
  · refine ⟨?_, Nat.le_refl _, Nat.le_refl _, ?_, ?_, fun a c9 h9 => ⟨c9, h9, rfl, rfl, fun _ _ => rfl⟩⟩
    · obtain ⟨t, ht, -⟩ := State.frames_cons hr
      show T.setVm s.vm = { ((T.setVm s.vm).setFrames (.invoking m args :: below)).setFrames (T.setVm s.vm).frames with heap := T.heap, slotsUsed := T.slotsUsed }
      rw [State.setFrames_setFrames, State.setFrames_self ht]
      rfl
    · show T.slotsUsed = T.slotsUsed + ((T.heap.toList.drop T.heap.size).map (·.slots.size)).sum
      rw [List.drop_eq_nil_of_le (Nat.le_of_eq Array.length_toList)]
      rfl
    · show ((T.heap.toList.drop T.heap.size).map (·.slots.size)).sum ≤ 0
      rw [List.drop_eq_nil_of_le (Nat.le_of_eq Array.length_toList)]
      exact Nat.le_refl _
theorem vx_throw0 {cc : ByteArray} {pc : Nat} (hexec : p.tables.exec = Jvm.exec) (hb : c.code = cc) (hl : l.stackTraces = false) {own cls : String} {names : List String} {ik ic mc ms : Nat} {A : Nat → Prop}
    (hown : s.vm.findClass own = some m.cls) (hcls : Bundle.fit cls = true) (hnames : ∀ n ∈ names, Bundle.fit n = true)
    (hk : (Cond.classLink own ik cls).before args s = true) (hini : (Cond.initialized cls).before args s = true) (hat : ∀ w ∈ vx_at0 own ic cls names, w.before args s = true)
    (hgood : ∀ w ∈ Cond.classLink own ik cls :: Cond.initialized cls :: vx_at0 own ic cls names, vx_ot w = true)
    (hU : vx_Zq Bundle.tN "UNASSIGNED_STACK" Bundle.steD A s s.heap) (hN : vx_Zq Bundle.tN "SUPPRESSED_SENTINEL" Bundle.listD A s s.heap) (hS : va_S A s.heap H locs) (hsize : ls.size = c.maxLocals)
    (d0 : decode cc pc = .ok (.new ik, 3)) (d3 : decode cc (pc + 3) = .ok (.dup, 1)) (d4 : decode cc (pc + 4) = .ok (.invokespecial ic, 3)) (d7 : decode cc (pc + 7) = .ok (.athrow, 1))
    (hout : ∀ x ∈ c.exceptionTable.toList, covers x (pc + 7) = false)
    (hRframes : names.length + 3 < R.frames) (hRlocals : (rest.map fun v => v.category).sum + (13 * (names.length + 1) + 42) ≤ R.locals) (hRcells : cells + 1 ≤ R.cells) (hRslots : slots + 6 ≤ R.slots) (hlocks : meth.locks = false)
    (hx : ∀ t : State, s.vm.Alike t.vm → H.size ≤ t.heap.size → (∀ q : Nat, q < H.size → t.heap[q]? = H[q]?) → XC cls s t)
    (hf : ∀ z ∈ locs, free z.base) (hc : cells + 1 ≤ mc) (hs : slots + 6 ≤ ms) :
    W p l e R s m args below meth c H locs cells slots (vx_MQ below Qc XC args s mc ms free) (F0 m pc ls rest) := by
  intro T hT X
  have htr : e.platform.stackTraces = false := (show e.platform.stackTraces = l.stackTraces by rw [X.admits.platform]).trans hl
  have Y := vx_rebase X (R' := { frames := R.frames, locals := R.locals, cells := 1, slots := 6 }) (Nat.le_refl _) (Nat.le_refl _) hRcells hRslots
  obtain ⟨s', hA⟩ : ∃ z, z = (T.setVm s.vm).setFrames (.invoking m args :: below) := ⟨_, rfl⟩
  rw [← hA] at Y
  have hvm : s'.vm = s.vm := by rw [hA]; rfl
  have hhp : s'.heap = H := by rw [hA]; exact hT
  have hW0 : s.WarmedH s'.vm := by rw [hvm]; exact State.WarmedH.refl s
  have hat' : ∀ w ∈ vx_at0 own ic cls names, w.before args s' = true := fun w hw => vx_ot_at hW0 hvm.symm (hgood w (List.mem_cons_of_mem _ (List.mem_cons_of_mem _ hw))) (hat w hw)
  have hk' : (Cond.classLink own ik cls).before args s' = true := vx_ot_at hW0 hvm.symm (hgood _ List.mem_cons_self) hk
  have hini' : (Cond.initialized cls).before args s' = true := vx_ot_at hW0 hvm.symm (hgood _ (List.mem_cons_of_mem _ List.mem_cons_self)) hini
  have hU' : vx_Zq Bundle.tN "UNASSIGNED_STACK" Bundle.steD A s' s'.heap := by rw [hhp]; exact vx_Zq.moved hW0.alike (hU.kept hS.2.1)
  have hN' : vx_Zq Bundle.tN "SUPPRESSED_SENTINEL" Bundle.listD A s' s'.heap := by rw [hhp]; exact vx_Zq.moved hW0.alike (hN.kept hS.2.1)
  have h : ∀ w ∈ Bundle.ownAtoms0 own ic cls names, w.before args s' = true := vx_own hat' (vx_isRefq hU'.1) (vx_isRefq hN'.1) hU'.2.word hN'.2.word
  have hown' : s'.vm.findClass own = some m.cls := by rw [hvm]; exact hown
  have hins : (Cond.instantiable cls 6).before args s' = true := h _ (by simp [Bundle.ownAtoms0])
  obtain ⟨vm₁, cX, kX, hfX, hkX, -, -, X₁, st1⟩ := Y.newCold hexec (own := own) (C := cls) (index := ik) (n := 6) hown' hk' hins hini'
    (g := F0 m pc ls rest) rfl (by rw [hb]; exact d0) (Nat.le_refl _) (Nat.le_refl _)
  generalize hT1 : (T.setVm vm₁).pushCell { cls := cX, slots := kX.instanceTypes.map defaultValue, vm := .none } = T1 at X₁ st1
  have hcat : (Value.ref T.heap.size).category = 1 := rfl
  have hcellA : T1.heap[T.heap.size]? = some (freshCell cX kX) := by rw [← hT1]; exact State.heap_pushCell_size _ _
  have d3' : decode c.code (pc + 3) = .ok (.dup, 1) := by rw [hb]; exact d3
  obtain ⟨U, hsteps, hrun, hend, hW, hsame, ce, hce, hO⟩ := X₁.ctorThrow0 hexec htr (own := own) (cls := cls) (names := names) (ic := ic) hown' hcls hnames h (fun x hx => nomatch hx) hfX hkX hcellA (by rw [hhp, hT]; exact Nat.le_refl _)
    (g := { method := m, pc := pc + 4, locals := ls, stack := .ref T.heap.size :: .ref T.heap.size :: rest, locked := none }) rfl hsize rfl rfl (rest := rest) rfl
    (by rw [hb]; exact d4) (by rw [hb]; exact d7) hout hRframes (by simp only [List.map_cons, List.sum_cons, hcat]; omega) hlocks
  obtain ⟨f1, f2⟩ := vx_frame hsame
  rw [hhp] at f1 f2
  have hWs : s.WarmedH U.vm := State.WarmedH.trans hW0 hW
  have hcl : s.vm.findClass cls = some ce.cls := by
    have h9 := hO.cls
    rw [hvm] at h9
    exact h9
  have hall : s.sameButNew ({ U with vm := s.vm } : State) locs mc ms := by
    subst hA
    obtain ⟨e1, e2⟩ := hsame
    rw [State.setFrames_setFrames] at e1
    have h2 : (T.setVm s.vm).sameButNew ({ U with vm := s.vm } : State) [] (0 + 1) (0 + 6) := ⟨e1, e2⟩
    have h3 := X.same.trans h2
    rw [List.append_nil] at h3
    exact h3.mono hc hs
  refine ⟨U, ?_, .threw T.heap.size, hrun, hend, Or.inr ⟨T.heap.size, rfl, cls, ce, locs, hx U hWs.alike f1 (fun q hq => f2 q hq (fun z hz => nomatch hz)), hce, hO.vm, hcl, hWs, hall, hf⟩⟩
  refine st1 _ ?_
  show Steps p.tables e below (T1.setTop { method := m, pc := pc + 3, locals := ls, stack := .ref T.heap.size :: rest, locked := none }) _
  jvm_step X₁.here [X₁.here.top, hexec, d3', Value.category]
  exact hsteps
theorem vx_throwS {cc : ByteArray} {pc : Nat} (hexec : p.tables.exec = Jvm.exec) (hb : c.code = cc) (hl : l.stackTraces = false) {own cls text : String} {names : List String} {ik is ic mc ms sa : Nat} {A : Nat → Prop}
    (hown : s.vm.findClass own = some m.cls) (hcls : Bundle.fit cls = true) (hnames : ∀ n ∈ names, Bundle.fit n = true)
    (hk : (Cond.classLink own ik cls).before args s = true) (hini : (Cond.initialized cls).before args s = true) (hstr : vk_R own is text sa s) (hat : ∀ w ∈ vx_atS own ic cls names, w.before args s = true)
    (hgood : ∀ w ∈ Cond.classLink own ik cls :: Cond.initialized cls :: vx_atS own ic cls names, vx_ot w = true)
    (hU : vx_Zq Bundle.tN "UNASSIGNED_STACK" Bundle.steD A s s.heap) (hN : vx_Zq Bundle.tN "SUPPRESSED_SENTINEL" Bundle.listD A s s.heap) (hS : va_S A s.heap H locs) (hsize : ls.size = c.maxLocals)
    (d0 : decode cc pc = .ok (.new ik, 3)) (d3 : decode cc (pc + 3) = .ok (.dup, 1)) (d4 : decode cc (pc + 4) = .ok (.ldc is, 2)) (d6 : decode cc (pc + 6) = .ok (.invokespecial ic, 3)) (d9 : decode cc (pc + 9) = .ok (.athrow, 1))
    (hout : ∀ x ∈ c.exceptionTable.toList, covers x (pc + 9) = false)
    (hRframes : names.length + 3 < R.frames) (hRlocals : (rest.map fun v => v.category).sum + (13 * (names.length + 1) + 43) ≤ R.locals) (hRcells : cells + 1 ≤ R.cells) (hRslots : slots + 6 ≤ R.slots) (hlocks : meth.locks = false)
    (hx : ∀ t : State, s.vm.Alike t.vm → H.size ≤ t.heap.size → (∀ q : Nat, q < H.size → t.heap[q]? = H[q]?) → XC cls s t)
    (hf : ∀ z ∈ locs, free z.base) (hc : cells + 1 ≤ mc) (hs : slots + 6 ≤ ms) :
    W p l e R s m args below meth c H locs cells slots (vx_MQ below Qc XC args s mc ms free) (F0 m pc ls rest) := by
  intro T hT X
  have htr : e.platform.stackTraces = false := (show e.platform.stackTraces = l.stackTraces by rw [X.admits.platform]).trans hl
  have Y := vx_rebase X (R' := { frames := R.frames, locals := R.locals, cells := 1, slots := 6 }) (Nat.le_refl _) (Nat.le_refl _) hRcells hRslots
  obtain ⟨s', hA⟩ : ∃ z, z = (T.setVm s.vm).setFrames (.invoking m args :: below) := ⟨_, rfl⟩
  rw [← hA] at Y
  have hvm : s'.vm = s.vm := by rw [hA]; rfl
  have hhp : s'.heap = H := by rw [hA]; exact hT
  have hW0 : s.WarmedH s'.vm := by rw [hvm]; exact State.WarmedH.refl s
  have hat' : ∀ w ∈ vx_atS own ic cls names, w.before args s' = true := fun w hw => vx_ot_at hW0 hvm.symm (hgood w (List.mem_cons_of_mem _ (List.mem_cons_of_mem _ hw))) (hat w hw)
  have hk' : (Cond.classLink own ik cls).before args s' = true := vx_ot_at hW0 hvm.symm (hgood _ List.mem_cons_self) hk
  have hini' : (Cond.initialized cls).before args s' = true := vx_ot_at hW0 hvm.symm (hgood _ (List.mem_cons_of_mem _ List.mem_cons_self)) hini
  have hU' : vx_Zq Bundle.tN "UNASSIGNED_STACK" Bundle.steD A s' s'.heap := by rw [hhp]; exact vx_Zq.moved hW0.alike (hU.kept hS.2.1)
  have hN' : vx_Zq Bundle.tN "SUPPRESSED_SENTINEL" Bundle.listD A s' s'.heap := by rw [hhp]; exact vx_Zq.moved hW0.alike (hN.kept hS.2.1)
  have h : ∀ w ∈ Bundle.ownAtoms own ic cls names, w.before args s' = true := vx_own hat' (vx_isRefq hU'.1) (vx_isRefq hN'.1) hU'.2.word hN'.2.word
  have hown' : s'.vm.findClass own = some m.cls := by rw [hvm]; exact hown
  have hins : (Cond.instantiable cls 6).before args s' = true := h _ (by simp [Bundle.ownAtoms])
  obtain ⟨vm₁, cX, kX, hfX, hkX, -, -, X₁, st1⟩ := Y.newCold hexec (own := own) (C := cls) (index := ik) (n := 6) hown' hk' hins hini'
    (g := F0 m pc ls rest) rfl (by rw [hb]; exact d0) (Nat.le_refl _) (Nat.le_refl _)
  generalize hT1 : (T.setVm vm₁).pushCell { cls := cX, slots := kX.instanceTypes.map defaultValue, vm := .none } = T1 at X₁ st1
  have hcat : (Value.ref T.heap.size).category = 1 := rfl
  have hcellA : T1.heap[T.heap.size]? = some (freshCell cX kX) := by rw [← hT1]; exact State.heap_pushCell_size _ _
  have d3' : decode c.code (pc + 3) = .ok (.dup, 1) := by rw [hb]; exact d3
  have d4' : decode c.code (pc + 4) = .ok (.ldc is, 2) := by rw [hb]; exact d4
  have hstr' : vk_R own is text sa s' := vk_R.warm hW0 hstr
  obtain ⟨U, hsteps, hrun, hend, hW, hsame, ce, hce, hO⟩ := X₁.ctorThrowS hexec htr (own := own) (cls := cls) (names := names) (ic := ic) hown' hcls hnames h (fun x hx => nomatch hx) hfX hkX hcellA (by rw [hhp, hT]; exact Nat.le_refl _) (msg := .ref sa) rfl
    (g := { method := m, pc := pc + 6, locals := ls, stack := .ref sa :: .ref T.heap.size :: .ref T.heap.size :: rest, locked := none }) rfl hsize rfl rfl (rest := rest) rfl
    (by rw [hb]; exact d6) (by rw [hb]; exact d9) hout hRframes (by simp only [List.map_cons, List.sum_cons, hcat]; omega) hlocks
  obtain ⟨f1, f2⟩ := vx_frame hsame
  rw [hhp] at f1 f2
  have hWs : s.WarmedH U.vm := State.WarmedH.trans hW0 hW
  have hcl : s.vm.findClass cls = some ce.cls := by
    have h9 := hO.cls
    rw [hvm] at h9
    exact h9
  have hall : s.sameButNew ({ U with vm := s.vm } : State) locs mc ms := by
    subst hA
    obtain ⟨e1, e2⟩ := hsame
    rw [State.setFrames_setFrames] at e1
    have h2 : (T.setVm s.vm).sameButNew ({ U with vm := s.vm } : State) [] (0 + 1) (0 + 6) := ⟨e1, e2⟩
    have h3 := X.same.trans h2
    rw [List.append_nil] at h3
    exact h3.mono hc hs
  refine ⟨U, ?_, .threw T.heap.size, hrun, hend, Or.inr ⟨T.heap.size, rfl, cls, ce, locs, hx U hWs.alike f1 (fun q hq => f2 q hq (fun z hz => nomatch hz)), hce, hO.vm, hcl, hWs, hall, hf⟩⟩
  refine st1 _ ?_
  show Steps p.tables e below (T1.setTop { method := m, pc := pc + 3, locals := ls, stack := .ref T.heap.size :: rest, locked := none }) _
  jvm_step X₁.here [X₁.here.top, hexec, d3', Value.category]
  exact X₁.ldcString hexec (own := own) (text := text) (index := is) (a := sa) hown' hstr'.1 hstr'.2
    (g := { method := m, pc := pc + 4, locals := ls, stack := .ref T.heap.size :: .ref T.heap.size :: rest, locked := none }) rfl d4' _ hsteps
theorem vx_throwSW {cc : ByteArray} {pc : Nat} (hexec : p.tables.exec = Jvm.exec) (hb : c.code = cc) (hl : l.stackTraces = false) {own cls text : String} {names : List String} {ik is ic mc ms sa : Nat} {A : Nat → Prop}
    (hown : s.vm.findClass own = some m.cls) (hcls : Bundle.fit cls = true) (hnames : ∀ n ∈ names, Bundle.fit n = true)
    (hk : (Cond.classLink own ik cls).before args s = true) (hini : (Cond.initialized cls).before args s = true) (hstr : vk_R own is text sa s) (hat : ∀ w ∈ vx_atS own ic cls names, w.before args s = true)
    (hgood : ∀ w ∈ Cond.classLink own ik cls :: Cond.initialized cls :: vx_atS own ic cls names, vx_ot w = true)
    (hU : vx_Zq Bundle.tN "UNASSIGNED_STACK" Bundle.steD A s s.heap) (hN : vx_Zq Bundle.tN "SUPPRESSED_SENTINEL" Bundle.listD A s s.heap) (hS : va_S A s.heap H locs) (hsize : ls.size = c.maxLocals)
    (d0 : decode cc pc = .ok (.new ik, 3)) (d3 : decode cc (pc + 3) = .ok (.dup, 1)) (d4 : decode cc (pc + 4) = .ok (.ldc_w is, 3)) (d7 : decode cc (pc + 7) = .ok (.invokespecial ic, 3)) (d10 : decode cc (pc + 10) = .ok (.athrow, 1))
    (hout : ∀ x ∈ c.exceptionTable.toList, covers x (pc + 10) = false)
    (hRframes : names.length + 3 < R.frames) (hRlocals : (rest.map fun v => v.category).sum + (13 * (names.length + 1) + 43) ≤ R.locals) (hRcells : cells + 1 ≤ R.cells) (hRslots : slots + 6 ≤ R.slots) (hlocks : meth.locks = false)
    (hx : ∀ t : State, s.vm.Alike t.vm → H.size ≤ t.heap.size → (∀ q : Nat, q < H.size → t.heap[q]? = H[q]?) → XC cls s t)
    (hf : ∀ z ∈ locs, free z.base) (hc : cells + 1 ≤ mc) (hs : slots + 6 ≤ ms) :
    W p l e R s m args below meth c H locs cells slots (vx_MQ below Qc XC args s mc ms free) (F0 m pc ls rest) := by
  intro T hT X
  have htr : e.platform.stackTraces = false := (show e.platform.stackTraces = l.stackTraces by rw [X.admits.platform]).trans hl
  have Y := vx_rebase X (R' := { frames := R.frames, locals := R.locals, cells := 1, slots := 6 }) (Nat.le_refl _) (Nat.le_refl _) hRcells hRslots
  obtain ⟨s', hA⟩ : ∃ z, z = (T.setVm s.vm).setFrames (.invoking m args :: below) := ⟨_, rfl⟩
  rw [← hA] at Y
  have hvm : s'.vm = s.vm := by rw [hA]; rfl
  have hhp : s'.heap = H := by rw [hA]; exact hT
  have hW0 : s.WarmedH s'.vm := by rw [hvm]; exact State.WarmedH.refl s
  have hat' : ∀ w ∈ vx_atS own ic cls names, w.before args s' = true := fun w hw => vx_ot_at hW0 hvm.symm (hgood w (List.mem_cons_of_mem _ (List.mem_cons_of_mem _ hw))) (hat w hw)
  have hk' : (Cond.classLink own ik cls).before args s' = true := vx_ot_at hW0 hvm.symm (hgood _ List.mem_cons_self) hk
  have hini' : (Cond.initialized cls).before args s' = true := vx_ot_at hW0 hvm.symm (hgood _ (List.mem_cons_of_mem _ List.mem_cons_self)) hini
  have hU' : vx_Zq Bundle.tN "UNASSIGNED_STACK" Bundle.steD A s' s'.heap := by rw [hhp]; exact vx_Zq.moved hW0.alike (hU.kept hS.2.1)
  have hN' : vx_Zq Bundle.tN "SUPPRESSED_SENTINEL" Bundle.listD A s' s'.heap := by rw [hhp]; exact vx_Zq.moved hW0.alike (hN.kept hS.2.1)
  have h : ∀ w ∈ Bundle.ownAtoms own ic cls names, w.before args s' = true := vx_own hat' (vx_isRefq hU'.1) (vx_isRefq hN'.1) hU'.2.word hN'.2.word
  have hown' : s'.vm.findClass own = some m.cls := by rw [hvm]; exact hown
  have hins : (Cond.instantiable cls 6).before args s' = true := h _ (by simp [Bundle.ownAtoms])
  obtain ⟨vm₁, cX, kX, hfX, hkX, -, -, X₁, st1⟩ := Y.newCold hexec (own := own) (C := cls) (index := ik) (n := 6) hown' hk' hins hini'
    (g := F0 m pc ls rest) rfl (by rw [hb]; exact d0) (Nat.le_refl _) (Nat.le_refl _)
  generalize hT1 : (T.setVm vm₁).pushCell { cls := cX, slots := kX.instanceTypes.map defaultValue, vm := .none } = T1 at X₁ st1
  have hcat : (Value.ref T.heap.size).category = 1 := rfl
  have hcellA : T1.heap[T.heap.size]? = some (freshCell cX kX) := by rw [← hT1]; exact State.heap_pushCell_size _ _
  have d3' : decode c.code (pc + 3) = .ok (.dup, 1) := by rw [hb]; exact d3
  have d4' : decode c.code (pc + 4) = .ok (.ldc_w is, 3) := by rw [hb]; exact d4
  have hstr' : vk_R own is text sa s' := vk_R.warm hW0 hstr
  obtain ⟨U, hsteps, hrun, hend, hW, hsame, ce, hce, hO⟩ := X₁.ctorThrowS hexec htr (own := own) (cls := cls) (names := names) (ic := ic) hown' hcls hnames h (fun x hx => nomatch hx) hfX hkX hcellA (by rw [hhp, hT]; exact Nat.le_refl _) (msg := .ref sa) rfl
    (g := { method := m, pc := pc + 7, locals := ls, stack := .ref sa :: .ref T.heap.size :: .ref T.heap.size :: rest, locked := none }) rfl hsize rfl rfl (rest := rest) rfl
    (by rw [hb]; exact d7) (by rw [hb]; exact d10) hout hRframes (by simp only [List.map_cons, List.sum_cons, hcat]; omega) hlocks
  obtain ⟨f1, f2⟩ := vx_frame hsame
  rw [hhp] at f1 f2
  have hWs : s.WarmedH U.vm := State.WarmedH.trans hW0 hW
  have hcl : s.vm.findClass cls = some ce.cls := by
    have h9 := hO.cls
    rw [hvm] at h9
    exact h9
  have hall : s.sameButNew ({ U with vm := s.vm } : State) locs mc ms := by
    subst hA
    obtain ⟨e1, e2⟩ := hsame
    rw [State.setFrames_setFrames] at e1
    have h2 : (T.setVm s.vm).sameButNew ({ U with vm := s.vm } : State) [] (0 + 1) (0 + 6) := ⟨e1, e2⟩
    have h3 := X.same.trans h2
    rw [List.append_nil] at h3
    exact h3.mono hc hs
  refine ⟨U, ?_, .threw T.heap.size, hrun, hend, Or.inr ⟨T.heap.size, rfl, cls, ce, locs, hx U hWs.alike f1 (fun q hq => f2 q hq (fun z hz => nomatch hz)), hce, hO.vm, hcl, hWs, hall, hf⟩⟩
  refine st1 _ ?_
  show Steps p.tables e below (T1.setTop { method := m, pc := pc + 3, locals := ls, stack := .ref T.heap.size :: rest, locked := none }) _
  jvm_step X₁.here [X₁.here.top, hexec, d3', Value.category]
  exact X₁.ldcStringW hexec (own := own) (text := text) (index := is) (a := sa) hown' hstr'.1 hstr'.2
    (g := { method := m, pc := pc + 4, locals := ls, stack := .ref T.heap.size :: .ref T.heap.size :: rest, locked := none }) rfl d4' _ hsteps
end Ends
section Bodies
variable {l : Launch}
theorem vx_ofW {y : MethodName} {ws ws' : List Cond} {rm : Room} {Pc : Array Value → State → Prop} {Qc : Array Value → State → Outcome → State → Prop} {XC : String → State → State → Prop} {mc ms : Nat} {free : Addr → Prop} {cc : ByteArray} {maxL : Nat} {ret : Option FieldType}
    (hy : plainName y.cls = true) (hw : ws = Cond.code y cc maxL ret :: ws')
    (body : ∀ p e s m args below meth c s₁, BodyLoose p l y (headSpec ws rm) cc maxL ret e s m args below meth c s₁ → c.maxLocals = maxL → (∀ x ∈ c.exceptionTable.toList, False) → Pc args s →
      W p l e (headSpec ws rm).room s m args below meth c s.heap [] 0 0 (vx_MQ below Qc XC args s mc ms free) (entryFrame m args maxL)) : vx_Met l y ws rm Pc Qc XC mc ms free := by
  refine MetFree.of_bodyS (code := cc) (maxLocals := maxL) (ret := ret) hy ?_ ?_
  · intro args s m h hn
    obtain ⟨meth, c, h1, h2, h3, h4, h5, h6, -, -⟩ := Cond.code_spec hn (atoms_spec (ws := ws) h _ (by rw [hw]; exact List.mem_cons_self))
    exact ⟨meth, c, h1, h2, h3, h4, h5, h6⟩
  · intro p e s m args below meth c s₁ B hml hP _
    have hh0 : s₁.heap = s.heap := by rw [B.state]; rfl
    have ht : ∀ x ∈ c.exceptionTable.toList, False := by
      obtain ⟨meth9, c9, h1, h2, -, -, -, -, h7, -⟩ := Cond.code_spec B.named (atoms_spec (ws := ws) B.pre _ (by rw [hw]; exact List.mem_cons_self))
      cases Option.some.inj (h1.symm.trans B.method)
      cases Option.some.inj (h2.symm.trans (Stand.of_body B).code)
      intro x hx
      rw [Array.isEmpty_iff.mp h7] at hx
      cases hx
    obtain ⟨t, a1, o, b1, b2, b3⟩ := body p e s m args below meth c s₁ B hml ht hP s₁ hh0 (Stand.of_body B)
    exact ⟨t, o, a1, b1, b2, b3⟩
theorem vx_table {p : Program} {x y : MethodName} {S : Spec} {cc bytes : ByteArray} {maxL maxL' : Nat} {ret ret' : Option FieldType} {e : Env} {s s₁ : State} {m : MethodId} {args : Array Value} {below : List Frame} {meth : Method} {c : Code} {hh : List (Nat × Nat × Nat × Nat)}
    (B : BodyLoose p l y S cc maxL ret e s m args below meth c s₁) (h : (Cond.codeWith y bytes maxL' ret' hh).before args s = true) : c.exceptionTable.toList = tableOf hh := by
  obtain ⟨m9, meth9, c9, hn9, h1, h2, -, -, h6, -⟩ := Cond.codeWith_spec h
  cases Option.some.inj (hn9.symm.trans B.named)
  cases Option.some.inj (h1.symm.trans B.method)
  cases Option.some.inj (h2.symm.trans (Stand.of_body B).code)
  rw [← h6, table_eq]
end Bodies
end VXA
section VXS
variable {p : Program} {l : Launch} {e : Env} {R : Room} {s : State} {m : MethodId} {args : Array Value} {below : List Frame} {meth : Method} {c : Code} {T : State} {H : Heap} {locs : List Loc} {cells slots : Nat}
abbrev vx_CSW (R : Room) (s : State) (args : Array Value) (own : String) (index : Nat) (y : MethodName) (bytes : ByteArray) (maxL : Nat) (ret : Option FieldType) (hh : List (Nat × Nat × Nat × Nat)) (ws : List Cond) (rm : Room) (mc ms n : Nat) : Prop :=
  (rm.cells = mc ∧ rm.slots = ms ∧ rm.frames + 1 ≤ R.frames ∧ 8 + (maxL + 11) + rm.locals ≤ R.locals ∧ (∀ w ∈ ws, ∀ (a' : Array Value) (U : State), s.WarmedH U.vm → w.before a' U = true) ∧ Cond.codeWith y bytes maxL ret hh ∈ ws) ∧
  (Cond.codeWith y bytes maxL ret hh).before args s = true ∧ (Cond.initialized y.cls).before args s = true ∧ (y.cls ≠ "java/lang/invoke/MethodHandle" ∧ y.cls ≠ "java/lang/invoke/VarHandle") ∧
  (∀ sig, parseMethodDescriptor y.desc = some sig → n = sig.parameters.length) ∧ (Cond.methodLink own index y).before args s = true ∧ (Cond.static y).before args s = true
theorem vx_cwSW {own : String} {index maxL mc ms : Nat} {y : MethodName} {bytes : ByteArray} {ret : Option FieldType} {hh : List (Nat × Nat × Nat × Nat)} {Ts ws ws' : List Cond} {rm : Room} (n : Nat) (ht : ∀ w ∈ Ts, w.before args s = true) (hT : GoodIn Ts (va_wsS own index y ws)) (hw : ws = Cond.codeWith y bytes maxL ret hh :: ws') (hrc : rm.cells = mc) (hrs : rm.slots = ms)
    (hd : y.cls ≠ "java/lang/invoke/MethodHandle" ∧ y.cls ≠ "java/lang/invoke/VarHandle" ∧ (parseMethodDescriptor y.desc).map (fun d => d.parameters.length) = some n) (hR : rm.frames + 1 ≤ R.frames ∧ 8 + (maxL + 11) + rm.locals ≤ R.locals) :
    vx_CSW R s args own index y bytes maxL ret hh ws rm mc ms n := by
  have ok : ∀ w ∈ va_wsS own index y ws, w.before args s = true := fun w h => ht w (hT w h).1
  have hG : GoodIn Ts ws := fun w h => hT w (by unfold va_wsS; exact List.mem_append_right _ h)
  have hc : Cond.codeWith y bytes maxL ret hh ∈ ws := by rw [hw]; exact List.mem_cons_self
  refine ⟨⟨hrc, hrs, hR.1, hR.2, pay_in ht hG, hc⟩, ht _ (hG _ hc).1, ok _ (by simp [va_wsS]), ⟨hd.1, hd.2.1⟩, fun sig h => ?_, ok _ (by simp [va_wsS]), ok _ (by simp [va_wsS])⟩
  have h2 := hd.2.2
  rw [h] at h2
  exact (Option.some.inj h2).symm
theorem vx_callSW (X : Stand p l e R s m args below meth c T locs cells slots) (hexec : p.tables.exec = Jvm.exec) {own : String} {index : Nat} {y : MethodName} {bytes : ByteArray} {maxL : Nat} {ret : Option FieldType} {hh : List (Nat × Nat × Nat × Nat)}
    (hown : s.vm.findClass own = some m.cls) (hlink : (Cond.methodLink own index y).before args s = true) (hstat : (Cond.static y).before args s = true) (hinit : (Cond.initialized y.cls).before args s = true)
    (hcode : (Cond.codeWith y bytes maxL ret hh).before args s = true) (hy : y.cls ≠ "java/lang/invoke/MethodHandle" ∧ y.cls ≠ "java/lang/invoke/VarHandle")
    {W9 : Nat} {Pre : Pt → Array Value → Prop} {Post : Pt → Array Value → Option Value → Pt → Prop} (hK : Back l R p e below s args y 3 W9 Pre Post)
    {g : JFrame} (hg : g.method = m) (hsize : g.locals.size = c.maxLocals) {argsL rest : List Value} (hlen : ∀ sig, parseMethodDescriptor y.desc = some sig → argsL.length = sig.parameters.length)
    (hstack : g.stack = argsL.reverse ++ rest) (hW : 2 * g.monitorRoom + (rest.map fun v => v.category).sum ≤ W9) (hdg : decode c.code g.pc = .ok (.invokestatic index, 3))
    (hpre : ∀ vm₁, s.WarmedH vm₁ → Pre ⟨T.setVm vm₁, locs, cells, slots⟩ argsL.toArray) :
    ∃ (v : Option Value) (vm₁ : Vm) (B : Pt), s.WarmedH vm₁ ∧ Stand p l e R s m args below meth c B.U B.locs B.cells B.slots ∧ Post ⟨T.setVm vm₁, locs, cells, slots⟩ argsL.toArray v B ∧
      ∀ target, Steps p.tables e below (B.U.setTop { g with pc := g.pc + 3, stack := v.toList ++ rest }) target → Steps p.tables e below (T.setTop g) target := by
  obtain ⟨mk, methM, cM, hnamed, hmethM, -, -, -, -, -, -, hsigM⟩ := Cond.codeWith_spec hcode
  have hstatic : methM.isStatic = true := Cond.static_spec hnamed hmethM hstat
  obtain ⟨kP, hkP, -⟩ := className_of_methodNamed hnamed
  have hinitP : kP.init = .initialized := Cond.initialized_spec (findClass_of_methodNamed hnamed) hkP hinit
  obtain ⟨vm₁, X₁, hstep₁⟩ := X.invokestatic hexec hown hlink hnamed hmethM hstatic hkP hinitP hy (g := g) hg (argsL := argsL) (rest := rest) (hlen _ hsigM) hstack hdg
  obtain ⟨v, B, X', hpost, hsteps⟩ := hK m meth c ⟨T.setVm vm₁, locs, cells, slots⟩ { g with stack := rest } (.invokestatic index) mk argsL.toArray X₁ hg hsize hdg hW (X₁.named hnamed) (hpre vm₁ X₁.warmed)
  exact ⟨v, vm₁, B, X₁.warmed, X', hpost, fun target h => hstep₁ _ fun acts => by rw [doInvoke_state]; exact hsteps.trans h⟩
theorem vx_runSW {y : MethodName} {bytes cc : ByteArray} {maxL nL mc ms n index : Nat} {ret : Option FieldType} {hh : List (Nat × Nat × Nat × Nat)} {ws : List Cond} {rm : Room} {Pc : Array Value → State → Prop} {Qc : Array Value → State → Outcome → State → Prop} {free : Addr → Prop} {Ts : List Cond} {own : String} {As rest : List Value} {g : JFrame}
    (S : CallFix p m c cc nL s args Ts own) (hM : Met l y ws rm Pc Qc mc ms free) (cw : vx_CSW R s args own index y bytes maxL ret hh ws rm mc ms n) (hp : PreS s H Pc As)
    (hg : g.method = m) (hn : As.length = n) (hsize : g.locals.size = nL) (hstack : g.stack = As.reverse ++ rest) (hW : 2 * g.monitorRoom + (rest.map fun v => v.category).sum ≤ 8) (hdg : decode cc g.pc = .ok (.invokestatic index, 3)) (hf : cells + mc ≤ R.cells ∧ slots + ms ≤ R.slots) :
    va_Run p l e R s m args below meth c H locs cells slots mc ms g rest (Qc As.toArray) (free) := by
  obtain ⟨⟨hrc, hrs, hfr, hlo, hws, hcw⟩, hcode, hini, hy, hlen, hl, hstt⟩ := cw
  have hK : Back l R p e below s args y 3 8 (PreOf R mc ms Pc) (PostOf Qc mc ms free) := va_backW (hh := hh) (bytes := bytes) (maxL := maxL) (ret := ret) hM hp.1 hrc hrs hfr hlo hws hcw (fun a' U hW => word_at hW (Or.inl (by first | rfl | simp [Cond.onTables, Cond.keeps, Cond.steady])) hini)
  obtain ⟨hx, hb, hml, ho, -⟩ := S
  intro T hT X
  obtain ⟨v, vm₁, ⟨U', l2, c2, s2⟩, hW₁, X', ⟨g', mk, t, L, e1, e2, hq, h1, hL, h2, h3⟩, st⟩ := vx_callSW X hx (hh := hh) (bytes := bytes) (maxL := maxL) (ret := ret) ho hl hstt hini hcode hy hK hg (hsize.trans hml.symm) (argsL := As) (rest := rest) (fun sig h => hn.trans (hlen sig h)) hstack hW (by rw [hb]; exact hdg)
    (fun vm₁ hW₁ => ⟨hf.1, hf.2, hp.2 (T.setVm vm₁) hT hW₁⟩)
  dsimp only [Pt.U, Pt.locs, Pt.cells, Pt.slots] at X' e1 e2 h1 h2 h3 st
  subst h1; subst h2; subst h3
  exact ⟨v, (T.setVm vm₁).calling g' mk As.toArray, t, U', L, hT, X', hL, e1, e2, hq, st⟩
theorem vx_outP {p : Program} {l : Launch} {e : Env} {R : Room} {s : State} {m : MethodId} {args : Array Value} {below : List Frame} {meth : Method} {c : Code} {H : Heap} {locs : List Loc} {cells slots : Nat} {free : Addr → Prop} {ls : Array Slot} {rest : List Value} {Qc : Array Value → State → Outcome → State → Prop} {XC : String → State → State → Prop}
    {pc : Nat} {own E : String} {ce : Cell} {q : Addr} {mc ms : Nat} (hown : s.vm.findClass own = some m.cls) (hlocks : meth.locks = false)
    (hpass : ∀ z ∈ c.exceptionTable.toList, covers z pc = false ∨ (z.catchType ≠ 0 ∧ ∃ nm : String, (Cond.classLink own z.catchType nm).before args s = true ∧ va_Nc E nm s)) (hcell : H[q]? = some ce) (hv : ce.vm = .none) (hcl : s.vm.findClass E = some ce.cls)
    (hx : ∀ t : State, t.heap = H → s.vm.Alike t.vm → XC E s t) (hf : ∀ z ∈ locs, free z.base) (hc : cells ≤ mc) (hs : slots ≤ ms) :
    vx_W p l e R s m args below meth c H locs cells slots (vx_MQ below Qc XC args s mc ms free) (F0 m pc ls rest) q := by
  intro T hT X
  have hpl : e.platform.magicAccessors = ({} : Platform).magicAccessors := by rw [X.admits.platform]
  obtain ⟨vm', hW', X', st⟩ := X.outThrough hlocks q (g := F0 m pc ls rest) rfl rfl rfl (cell := ce) (by rw [hT]; exact hcell) (by rw [hv]; rfl)
    (by obtain ⟨k9, h9, -⟩ := Vm.findClass_spec hcl; exact ⟨k9, h9⟩) (fun z hz => by
      rcases hpass z hz with h | ⟨hz0, nm, hl1, hn1⟩
      · exact Or.inl h
      · obtain ⟨c6, hc6, hcl6⟩ := Cond.classLink_spec hown hl1 e.platform hpl
        obtain ⟨a8, b8, h1, h2, h3⟩ := hn1
        cases Option.some.inj (h1.symm.trans hcl)
        cases Option.some.inj (h2.symm.trans hc6)
        exact Or.inr ⟨hz0, _, hcl6, h3⟩)
  obtain ⟨g₀, hfr⟩ := X'.frames_eq
  have hcell9 : ((T.setVm vm').setFrames (.throwing q :: below)).heap[q]? = some ce := by
    show T.heap[q]? = some ce
    rw [hT]; exact hcell
  have hend : Ended ((T.setVm vm').setFrames (.throwing q :: below)) below (.threw q) := State.frames_setFrames _ (State.cur_lt_of_frames hfr)
  refine ⟨(T.setVm vm').setFrames (.throwing q :: below), ?_, .threw q, X'.here.running, hend, Or.inr ⟨q, rfl, E, ce, locs, hx _ hT (X'.ends _).1.alike, hcell9, hv, hcl, (X'.ends _).1, (X'.ends _).2.mono hc hs, hf⟩⟩
  rw [X.pushThrowing_eq]
  exact st
theorem vx_lt {D : va_G} {cl : List vw_C} {ws : va_W} {H1 : Heap} (h : va_P D cl ws H1) {k : Nat} {q : Nat × va_E} (hk : ws[k]? = some q) : q.1 < H1.size := (h k q hk).lt
end VXS
section VXH
section
variable {l : Launch} {R : Room} {p : Program} {e : Env} {below : List Frame} {s : State} {sargs : Array Value} {y : MethodName} {len W9 : Nat}
theorem vx_backW {ws : List Cond} {rm : Room} {Pc : Array Value → State → Prop} {Qc : Array Value → State → Outcome → State → Prop} {XC : String → State → State → Prop} {mc ms : Nat} {free : Addr → Prop} {bytes : ByteArray} {maxL : Nat} {ret : Option FieldType} {hh : List (Nat × Nat × Nat × Nat)}
    (hM : vx_Met l y ws rm Pc Qc XC mc ms free) (hblind : FrameBlind Pc) (hrc : rm.cells = mc) (hrs : rm.slots = ms)
    (hframes : rm.frames + 1 ≤ R.frames) (hlocals : W9 + (maxL + 11) + rm.locals ≤ R.locals)
    (hws : ∀ w ∈ ws, ∀ a' U, s.WarmedH U.vm → w.before a' U = true) (hcode : Cond.codeWith y bytes maxL ret hh ∈ ws) (hinit : ∀ a' U, s.WarmedH U.vm → (Cond.initialized y.cls).before a' U = true) :
    vx_Back l R p e below s sargs y len W9 (PreOf R mc ms Pc) (PostOf Qc mc ms free) (vx_Post XC mc ms free) := by
  intro m meth c A g ig mk a X hg hsize hdg hW hn hp
  have h1 : (headSpec ws rm).pre.before a A.U = true := atoms_intro fun w hw => hws w hw _ _ X.warmed
  have h2 : (Cond.codeWith y bytes maxL ret hh).before a A.U = true := hws _ hcode _ _ X.warmed
  have h3 : (Cond.initialized y.cls).before a A.U = true := hinit _ _ X.warmed
  have h4 : A.cells + (headSpec ws rm).room.cells ≤ R.cells := by rw [show (headSpec ws rm).room.cells = mc from hrc]; exact hp.1
  have h5 : A.slots + (headSpec ws rm).room.slots ≤ R.slots := by rw [show (headSpec ws rm).room.slots = ms from hrs]; exact hp.2.1
  have hPc : Pc a (A.U.calling g mk a) := hblind _ _ _ _ hp.2.2
  obtain ⟨U, Ls, c0, s0⟩ := A
  dsimp only [Pt.U, Pt.locs, Pt.cells, Pt.slots] at h1 h2 h3 h4 h5 X hn hPc ⊢
  obtain ⟨m9, methY, cY, hn9, hmY, hcY, -, hlY, -⟩ := Cond.codeWith_spec h2
  cases Option.some.inj (hn9.symm.trans hn)
  obtain ⟨kY, hkY, -⟩ := className_of_methodNamed hn
  have hinitY : kY.init = .initialized := Cond.initialized_spec (findClass_of_methodNamed hn) hkY h3
  have h : At U g.method c below := by rw [hg]; exact X.here
  have hlocals9 : W9 + (maxL + 11) + (headSpec ws rm).room.locals ≤ R.locals := hlocals
  have happ : (headSpec ws rm).appliesLoose y e.platform (U.calling g mk a) = true :=
    Spec.appliesLoose_calling (g := g) h hdg hn hkY hinitY
      (X.room_calling (g := g) (R' := (headSpec ws rm).room) hsize hmY hcY hframes (by rw [hlY]; omega) h4 h5) h1
  obtain ⟨mid, hmid⟩ := h.above
  have hfr : (U.setTop g).frames = (.java g :: mid) ++ below := by rw [State.frames_setTop' g h.top, hmid]; rfl
  obtain ⟨o, s₂, hsteps, -, hend, hq⟩ := Steps.callFree hM p X.admits X.cas X.clock (acts := []) hfr happ hPc trivial
  have hq' : vx_Q Qc XC mc ms free a (U.calling g mk a) o s₂ := hq
  rw [State.frames_setTop' g h.top] at hend
  obtain ⟨g₀, hg0⟩ := Option.isSome_iff_exists.mp h.top
  obtain ⟨r, hr⟩ := State.topJava?_eq_some.mp hg0
  have hr' : (({ U with heap := s₂.heap, slotsUsed := s₂.slotsUsed } : State).setVm s₂.vm).frames = .java g₀ :: r := hr
  rcases hq' with ⟨hqc, L, hfe, hL⟩ | ⟨q, rfl, E, ce, L, hx, hce, hcv, hcl, hW₂, hsm, hL⟩
  · obtain ⟨⟨v, rfl⟩, hW₂, e2, q2, q3, q4, q5, q6⟩ := id hfe
    have e3 : s₂ = ({ (U.calling g mk a).setFrames s₂.frames with heap := s₂.heap, slotsUsed := s₂.slotsUsed } : State).setVm s₂.vm := by
      have : s₂ = ({ s₂ with vm := (U.calling g mk a).vm } : State).setVm s₂.vm := rfl
      rw [e2] at this
      exact this
    obtain ⟨c₂, i₂, len₂, hc₂, hd₂, hf₂⟩ := hend
    have hW' : U.WarmedH s₂.vm := hW₂
    have hcc : c₂ = c := by
      have h1 : s₂.code? g.method = U.code? g.method := by
        rw [State.code?_eq, State.code?_eq, hW'.alike.method?]
      exact Option.some.inj (hc₂.symm.trans (h1.trans h.code))
    subst hcc
    have hlen : len₂ = len := by rw [hdg] at hd₂; cases hd₂; rfl
    subst hlen
    have hs₂ : s₂ = (({ U with heap := s₂.heap, slotsUsed := s₂.slotsUsed } : State).setVm s₂.vm).setTop { g with pc := g.pc + len₂, stack := v.toList ++ g.stack } := by
      refine e3.trans ?_
      rw [hf₂, State.calling_eq h.top, State.setFrames_setFrames, State.setTop_of_frames _ hr', hr]
      rfl
    have hsame : U.sameButNew ({ U with heap := s₂.heap, slotsUsed := s₂.slotsUsed } : State) L mc ms := by
      refine ⟨?_, q2, q3, q4, q5, q6⟩
      obtain ⟨t, ht, -⟩ := State.frames_cons hr
      show ({ U with heap := s₂.heap, slotsUsed := s₂.slotsUsed } : State) = { U.setFrames U.frames with heap := s₂.heap, slotsUsed := s₂.slotsUsed }
      rw [State.setFrames_self ht]
    subst hg
    refine Or.inl ⟨v, ⟨(({ U with heap := s₂.heap, slotsUsed := s₂.slotsUsed } : State).setVm s₂.vm), Ls ++ L, c0 + mc, s0 + ms⟩,
      ⟨X.admits, X.cas, X.clock, X.frames, X.room, X.hears, X.method, X.code, (X.here.setHeapUsed s₂.heap s₂.slotsUsed).setVm hW'.alike, X.tail, State.WarmedH.trans X.warmed hW', X.limits, X.bytes, X.same.trans (hsame.setVm s.vm)⟩,
      ⟨g, mk, s₂, L, rfl, rfl, hqc, rfl, hL, rfl, rfl⟩, ?_⟩
    show Steps p.tables e below _ ((({ U with heap := s₂.heap, slotsUsed := s₂.slotsUsed } : State).setVm s₂.vm).setTop { g with pc := g.pc + len₂, stack := v.toList ++ g.stack })
    rw [← hs₂]
    exact hsteps
  · obtain ⟨e2, q2, q3, q4, q5, q6⟩ := id hsm
    have e3 : s₂ = ({ (U.calling g mk a).setFrames s₂.frames with heap := s₂.heap, slotsUsed := s₂.slotsUsed } : State).setVm s₂.vm := by
      have : s₂ = ({ s₂ with vm := (U.calling g mk a).vm } : State).setVm s₂.vm := rfl
      rw [e2] at this
      exact this
    have hf₂ : s₂.frames = .throwing q :: .java g :: U.frames.tail := hend
    have hW' : U.WarmedH s₂.vm := hW₂
    have hs₂ : s₂ = ((({ U with heap := s₂.heap, slotsUsed := s₂.slotsUsed } : State).setVm s₂.vm).setTop g).pushFrame (.throwing q) := by
      refine e3.trans ?_
      rw [hf₂, State.calling_eq h.top, State.setFrames_setFrames, State.pushFrame, State.frames_setTop _ hr', State.setTop_of_frames _ hr', State.setFrames_setFrames, hr]
      rfl
    have hsame : U.sameButNew ({ U with heap := s₂.heap, slotsUsed := s₂.slotsUsed } : State) L mc ms := by
      refine ⟨?_, q2, q3, q4, q5, q6⟩
      obtain ⟨t, ht, -⟩ := State.frames_cons hr
      show ({ U with heap := s₂.heap, slotsUsed := s₂.slotsUsed } : State) = { U.setFrames U.frames with heap := s₂.heap, slotsUsed := s₂.slotsUsed }
      rw [State.setFrames_self ht]
    subst hg
    refine Or.inr ⟨q, ⟨(({ U with heap := s₂.heap, slotsUsed := s₂.slotsUsed } : State).setVm s₂.vm), Ls ++ L, c0 + mc, s0 + ms⟩,
      ⟨X.admits, X.cas, X.clock, X.frames, X.room, X.hears, X.method, X.code, (X.here.setHeapUsed s₂.heap s₂.slotsUsed).setVm hW'.alike, X.tail, State.WarmedH.trans X.warmed hW', X.limits, X.bytes, X.same.trans (hsame.setVm s.vm)⟩,
      ⟨g, mk, s₂, L, E, ce, rfl, rfl, hx, hce, hcv, hcl, rfl, hL, rfl, rfl⟩, ?_⟩
    show Steps p.tables e below _ (((({ U with heap := s₂.heap, slotsUsed := s₂.slotsUsed } : State).setVm s₂.vm).setTop g).pushFrame (.throwing q))
    rw [← hs₂]
    exact hsteps
end
variable {p : Program} {l : Launch} {e : Env} {R : Room} {s : State} {m : MethodId} {args : Array Value} {below : List Frame} {meth : Method} {c : Code} {T : State} {H : Heap} {locs : List Loc} {cells slots : Nat}
theorem vx_callVX (X : Stand p l e R s m args below meth c T locs cells slots) (hexec : p.tables.exec = Jvm.exec) {own C : String} {index : Nat} {y : MethodName} {bytes : ByteArray} {maxL : Nat} {ret : Option FieldType} {hh : List (Nat × Nat × Nat × Nat)}
    (hown : s.vm.findClass own = some m.cls) (hlink : (Cond.methodLink own index y).before args s = true) (hinst : (Cond.instanceMethod y).before args s = true) (hsel : (Cond.selects C y y).before args s = true)
    (hcode : (Cond.codeWith y bytes maxL ret hh).before args s = true) (hy : y.cls ≠ "java/lang/invoke/MethodHandle" ∧ y.cls ≠ "java/lang/invoke/VarHandle")
    {W9 : Nat} {Pre : Pt → Array Value → Prop} {Post : Pt → Array Value → Option Value → Pt → Prop} {PostX : Pt → Array Value → Addr → Pt → Prop} (hK : vx_Back l R p e below s args y 3 W9 Pre Post PostX)
    {b : Addr} {cellB : Cell} (hcell : T.heap[b]? = some cellB) (hobj : cellB.vm.isStatics = false) (hcls : s.vm.findClass C = some cellB.cls)
    {g : JFrame} (hg : g.method = m) (hsize : g.locals.size = c.maxLocals) {argsL rest : List Value} (hlen : ∀ sig, parseMethodDescriptor y.desc = some sig → argsL.length = sig.parameters.length)
    (hstack : g.stack = argsL.reverse ++ .ref b :: rest) (hW : 2 * g.monitorRoom + (rest.map fun v => v.category).sum ≤ W9) (hdg : decode c.code g.pc = .ok (.invokevirtual index, 3))
    (hpre : ∀ vm₁, s.WarmedH vm₁ → Pre ⟨T.setVm vm₁, locs, cells, slots⟩ (Value.ref b :: argsL).toArray) :
    (∃ (v : Option Value) (vm₁ : Vm) (B : Pt), s.WarmedH vm₁ ∧ Stand p l e R s m args below meth c B.U B.locs B.cells B.slots ∧ Post ⟨T.setVm vm₁, locs, cells, slots⟩ (Value.ref b :: argsL).toArray v B ∧
      ∀ target, Steps p.tables e below (B.U.setTop { g with pc := g.pc + 3, stack := v.toList ++ rest }) target → Steps p.tables e below (T.setTop g) target) ∨
    (∃ (q : Addr) (vm₁ : Vm) (B : Pt), s.WarmedH vm₁ ∧ Stand p l e R s m args below meth c B.U B.locs B.cells B.slots ∧ PostX ⟨T.setVm vm₁, locs, cells, slots⟩ (Value.ref b :: argsL).toArray q B ∧
      Steps p.tables e below (T.setTop g) ((B.U.setTop { g with stack := rest }).pushFrame (.throwing q))) := by
  obtain ⟨mk, methM, hnamed, hmethM, hstM, habM⟩ := Cond.instanceMethod_spec hinst
  obtain ⟨m8, methM', cM, hn8, hmethM', -, -, -, -, -, -, hsigM⟩ := Cond.codeWith_spec hcode
  cases Option.some.inj (hn8.symm.trans hnamed)
  cases hmethM.symm.trans hmethM'
  obtain ⟨c2, r2, m2, q1, q2, q3, q4, kP, hkP, hkPi⟩ := Cond.selects_spec hsel
  cases hcls.symm.trans q1
  cases (State.methodFound?_of_named hnamed hy).symm.trans q2
  cases hnamed.symm.trans q3
  have hselP : selectMethod e.platform s.vm cellB.cls mk = .method mk := by rw [Launch.admits_selectMethod X.admits]; exact q4
  obtain ⟨vm₁, X₁, hstep₁⟩ := X.invokevirtual hexec hown hlink hnamed hmethM hstM hkP hkPi hy (a := b) (cell := cellB) hcell
    (fun z h => by rw [h] at hobj; cases hobj) hselP hmethM habM hkP hkPi (g := g) hg (argsL := argsL) (rest := rest) (hlen _ hsigM) hstack hdg
  rcases hK m meth c ⟨T.setVm vm₁, locs, cells, slots⟩ { g with stack := rest } (.invokevirtual index) mk (Value.ref b :: argsL).toArray X₁ hg hsize hdg hW (X₁.named hnamed) (hpre vm₁ X₁.warmed) with ⟨v, B, X', hpost, hsteps⟩ | ⟨q, B, X', hpost, hsteps⟩
  · exact Or.inl ⟨v, vm₁, B, X₁.warmed, X', hpost, fun target h => hstep₁ _ fun acts => by rw [doInvoke_state]; exact hsteps.trans h⟩
  · exact Or.inr ⟨q, vm₁, B, X₁.warmed, X', hpost, hstep₁ _ fun acts => by rw [doInvoke_state]; exact hsteps⟩
theorem vx_callSX (X : Stand p l e R s m args below meth c T locs cells slots) (hexec : p.tables.exec = Jvm.exec) {own : String} {index : Nat} {y : MethodName} {bytes : ByteArray} {maxL : Nat} {ret : Option FieldType} {hh : List (Nat × Nat × Nat × Nat)}
    (hown : s.vm.findClass own = some m.cls) (hlink : (Cond.methodLink own index y).before args s = true) (hstat : (Cond.static y).before args s = true) (hinit : (Cond.initialized y.cls).before args s = true)
    (hcode : (Cond.codeWith y bytes maxL ret hh).before args s = true) (hy : y.cls ≠ "java/lang/invoke/MethodHandle" ∧ y.cls ≠ "java/lang/invoke/VarHandle")
    {W9 : Nat} {Pre : Pt → Array Value → Prop} {Post : Pt → Array Value → Option Value → Pt → Prop} {PostX : Pt → Array Value → Addr → Pt → Prop} (hK : vx_Back l R p e below s args y 3 W9 Pre Post PostX)
    {g : JFrame} (hg : g.method = m) (hsize : g.locals.size = c.maxLocals) {argsL rest : List Value} (hlen : ∀ sig, parseMethodDescriptor y.desc = some sig → argsL.length = sig.parameters.length)
    (hstack : g.stack = argsL.reverse ++ rest) (hW : 2 * g.monitorRoom + (rest.map fun v => v.category).sum ≤ W9) (hdg : decode c.code g.pc = .ok (.invokestatic index, 3))
    (hpre : ∀ vm₁, s.WarmedH vm₁ → Pre ⟨T.setVm vm₁, locs, cells, slots⟩ argsL.toArray) :
    (∃ (v : Option Value) (vm₁ : Vm) (B : Pt), s.WarmedH vm₁ ∧ Stand p l e R s m args below meth c B.U B.locs B.cells B.slots ∧ Post ⟨T.setVm vm₁, locs, cells, slots⟩ argsL.toArray v B ∧
      ∀ target, Steps p.tables e below (B.U.setTop { g with pc := g.pc + 3, stack := v.toList ++ rest }) target → Steps p.tables e below (T.setTop g) target) ∨
    (∃ (q : Addr) (vm₁ : Vm) (B : Pt), s.WarmedH vm₁ ∧ Stand p l e R s m args below meth c B.U B.locs B.cells B.slots ∧ PostX ⟨T.setVm vm₁, locs, cells, slots⟩ argsL.toArray q B ∧
      Steps p.tables e below (T.setTop g) ((B.U.setTop { g with stack := rest }).pushFrame (.throwing q))) := by
  obtain ⟨mk, methM, cM, hnamed, hmethM, -, -, -, -, -, -, hsigM⟩ := Cond.codeWith_spec hcode
  have hstatic : methM.isStatic = true := Cond.static_spec hnamed hmethM hstat
  obtain ⟨kP, hkP, -⟩ := className_of_methodNamed hnamed
  have hinitP : kP.init = .initialized := Cond.initialized_spec (findClass_of_methodNamed hnamed) hkP hinit
  obtain ⟨vm₁, X₁, hstep₁⟩ := X.invokestatic hexec hown hlink hnamed hmethM hstatic hkP hinitP hy (g := g) hg (argsL := argsL) (rest := rest) (hlen _ hsigM) hstack hdg
  rcases hK m meth c ⟨T.setVm vm₁, locs, cells, slots⟩ { g with stack := rest } (.invokestatic index) mk argsL.toArray X₁ hg hsize hdg hW (X₁.named hnamed) (hpre vm₁ X₁.warmed) with ⟨v, B, X', hpost, hsteps⟩ | ⟨q, B, X', hpost, hsteps⟩
  · exact Or.inl ⟨v, vm₁, B, X₁.warmed, X', hpost, fun target h => hstep₁ _ fun acts => by rw [doInvoke_state]; exact hsteps.trans h⟩
  · exact Or.inr ⟨q, vm₁, B, X₁.warmed, X', hpost, hstep₁ _ fun acts => by rw [doInvoke_state]; exact hsteps⟩
theorem vx_callVW (X : Stand p l e R s m args below meth c T locs cells slots) (hexec : p.tables.exec = Jvm.exec) {own C : String} {index : Nat} {y : MethodName} {bytes : ByteArray} {maxL : Nat} {ret : Option FieldType} {hh : List (Nat × Nat × Nat × Nat)}
    (hown : s.vm.findClass own = some m.cls) (hlink : (Cond.methodLink own index y).before args s = true) (hinst : (Cond.instanceMethod y).before args s = true) (hsel : (Cond.selects C y y).before args s = true)
    (hcode : (Cond.codeWith y bytes maxL ret hh).before args s = true) (hy : y.cls ≠ "java/lang/invoke/MethodHandle" ∧ y.cls ≠ "java/lang/invoke/VarHandle")
    {W9 : Nat} {Pre : Pt → Array Value → Prop} {Post : Pt → Array Value → Option Value → Pt → Prop} (hK : Back l R p e below s args y 3 W9 Pre Post)
    {b : Addr} {cellB : Cell} (hcell : T.heap[b]? = some cellB) (hobj : cellB.vm.isStatics = false) (hcls : s.vm.findClass C = some cellB.cls)
    {g : JFrame} (hg : g.method = m) (hsize : g.locals.size = c.maxLocals) {argsL rest : List Value} (hlen : ∀ sig, parseMethodDescriptor y.desc = some sig → argsL.length = sig.parameters.length)
    (hstack : g.stack = argsL.reverse ++ .ref b :: rest) (hW : 2 * g.monitorRoom + (rest.map fun v => v.category).sum ≤ W9) (hdg : decode c.code g.pc = .ok (.invokevirtual index, 3))
    (hpre : ∀ vm₁, s.WarmedH vm₁ → Pre ⟨T.setVm vm₁, locs, cells, slots⟩ (Value.ref b :: argsL).toArray) :
    ∃ (v : Option Value) (vm₁ : Vm) (B : Pt), s.WarmedH vm₁ ∧ Stand p l e R s m args below meth c B.U B.locs B.cells B.slots ∧ Post ⟨T.setVm vm₁, locs, cells, slots⟩ (Value.ref b :: argsL).toArray v B ∧
      ∀ target, Steps p.tables e below (B.U.setTop { g with pc := g.pc + 3, stack := v.toList ++ rest }) target → Steps p.tables e below (T.setTop g) target := by
  obtain ⟨mk, methM, hnamed, hmethM, hstM, habM⟩ := Cond.instanceMethod_spec hinst
  obtain ⟨m8, methM', cM, hn8, hmethM', -, -, -, -, -, -, hsigM⟩ := Cond.codeWith_spec hcode
  cases Option.some.inj (hn8.symm.trans hnamed)
  cases hmethM.symm.trans hmethM'
  obtain ⟨c2, r2, m2, q1, q2, q3, q4, kP, hkP, hkPi⟩ := Cond.selects_spec hsel
  cases hcls.symm.trans q1
  cases (State.methodFound?_of_named hnamed hy).symm.trans q2
  cases hnamed.symm.trans q3
  have hselP : selectMethod e.platform s.vm cellB.cls mk = .method mk := by rw [Launch.admits_selectMethod X.admits]; exact q4
  obtain ⟨vm₁, X₁, hstep₁⟩ := X.invokevirtual hexec hown hlink hnamed hmethM hstM hkP hkPi hy (a := b) (cell := cellB) hcell
    (fun z h => by rw [h] at hobj; cases hobj) hselP hmethM habM hkP hkPi (g := g) hg (argsL := argsL) (rest := rest) (hlen _ hsigM) hstack hdg
  obtain ⟨v, B, X', hpost, hsteps⟩ := hK m meth c ⟨T.setVm vm₁, locs, cells, slots⟩ { g with stack := rest } (.invokevirtual index) mk (Value.ref b :: argsL).toArray X₁ hg hsize hdg hW (X₁.named hnamed) (hpre vm₁ X₁.warmed)
  exact ⟨v, vm₁, B, X₁.warmed, X', hpost, fun target h => hstep₁ _ fun acts => by rw [doInvoke_state]; exact hsteps.trans h⟩
abbrev vx_CVW (R : Room) (s : State) (args : Array Value) (own C : String) (index : Nat) (y : MethodName) (bytes : ByteArray) (maxL : Nat) (ret : Option FieldType) (hh : List (Nat × Nat × Nat × Nat)) (ws : List Cond) (rm : Room) (mc ms n : Nat) : Prop :=
  (rm.cells = mc ∧ rm.slots = ms ∧ rm.frames + 1 ≤ R.frames ∧ 8 + (maxL + 11) + rm.locals ≤ R.locals ∧ (∀ w ∈ ws, ∀ (a' : Array Value) (U : State), s.WarmedH U.vm → w.before a' U = true) ∧ Cond.codeWith y bytes maxL ret hh ∈ ws) ∧
  (Cond.codeWith y bytes maxL ret hh).before args s = true ∧ (Cond.initialized y.cls).before args s = true ∧ (y.cls ≠ "java/lang/invoke/MethodHandle" ∧ y.cls ≠ "java/lang/invoke/VarHandle") ∧
  (∀ sig, parseMethodDescriptor y.desc = some sig → n = sig.parameters.length) ∧ (Cond.methodLink own index y).before args s = true ∧ (Cond.instanceMethod y).before args s = true ∧ (Cond.selects C y y).before args s = true
theorem vx_cwVW {own C : String} {index maxL mc ms : Nat} {y : MethodName} {bytes : ByteArray} {ret : Option FieldType} {hh : List (Nat × Nat × Nat × Nat)} {Ts ws ws' : List Cond} {rm : Room} (n : Nat) (ht : ∀ w ∈ Ts, w.before args s = true) (hT : GoodIn Ts (wsV own index C y ws)) (hw : ws = Cond.codeWith y bytes maxL ret hh :: ws') (hrc : rm.cells = mc) (hrs : rm.slots = ms)
    (hd : y.cls = C ∧ y.cls ≠ "java/lang/invoke/MethodHandle" ∧ y.cls ≠ "java/lang/invoke/VarHandle" ∧ (parseMethodDescriptor y.desc).map (fun d => d.parameters.length) = some n) (hR : rm.frames + 1 ≤ R.frames ∧ 8 + (maxL + 11) + rm.locals ≤ R.locals) :
    vx_CVW R s args own C index y bytes maxL ret hh ws rm mc ms n := by
  obtain ⟨hC, hd⟩ := hd
  subst hC
  have ok : ∀ w ∈ wsV own index y.cls y ws, w.before args s = true := fun w h => ht w (hT w h).1
  have hG : GoodIn Ts ws := fun w h => hT w (by unfold wsV; exact List.mem_append_right _ h)
  have hc : Cond.codeWith y bytes maxL ret hh ∈ ws := by rw [hw]; exact List.mem_cons_self
  refine ⟨⟨hrc, hrs, hR.1, hR.2, pay_in ht hG, hc⟩, ht _ (hG _ hc).1, ok _ (by simp [wsV]), ⟨hd.1, hd.2.1⟩, fun sig h => ?_, ok _ (by simp [wsV]), ok _ (by simp [wsV]), ok _ (by simp [wsV])⟩
  have h2 := hd.2.2
  rw [h] at h2
  exact (Option.some.inj h2).symm
theorem vx_runVW {y : MethodName} {bytes cc : ByteArray} {maxL nL mc ms n index : Nat} {ret : Option FieldType} {hh : List (Nat × Nat × Nat × Nat)} {ws : List Cond} {rm : Room} {Pc : Array Value → State → Prop} {Qc : Array Value → State → Outcome → State → Prop} {free : Addr → Prop} {Ts : List Cond} {own C : String} {b : Addr} {As rest : List Value} {g : JFrame}
    (S : CallFix p m c cc nL s args Ts own) (hM : Met l y ws rm Pc Qc mc ms free) (cw : vx_CVW R s args own C index y bytes maxL ret hh ws rm mc ms n) (hp : PreV s H C b Pc As)
    (hg : g.method = m) (hn : As.length = n) (hsize : g.locals.size = nL) (hstack : g.stack = As.reverse ++ .ref b :: rest) (hW : 2 * g.monitorRoom + (rest.map fun v => v.category).sum ≤ 8) (hdg : decode cc g.pc = .ok (.invokevirtual index, 3)) (hf : cells + mc ≤ R.cells ∧ slots + ms ≤ R.slots) :
    va_Run p l e R s m args below meth c H locs cells slots mc ms g rest (Qc (Value.ref b :: As).toArray) free := by
  obtain ⟨⟨hrc, hrs, hfr, hlo, hws, hcw⟩, hcode, hini, hy, hlen, hl, hin, hse⟩ := cw
  have hK : Back l R p e below s args y 3 8 (PreOf R mc ms Pc) (PostOf Qc mc ms free) := va_backW (hh := hh) (bytes := bytes) (maxL := maxL) (ret := ret) hM hp.1 hrc hrs hfr hlo hws hcw (fun a' U hW => word_at hW (Or.inl (by first | rfl | simp [Cond.onTables, Cond.keeps, Cond.steady])) hini)
  obtain ⟨hx, hb, hml, ho, -⟩ := S
  obtain ⟨-, ⟨cellB, hcB, hoB, hclB⟩, hPc⟩ := hp
  intro T hT X
  obtain ⟨v, vm₁, ⟨U', l2, c2, s2⟩, hW₁, X', ⟨g', mk, t, L, e1, e2, hq, h1, hL, h2, h3⟩, st⟩ := vx_callVW X hx (C := C) (hh := hh) (bytes := bytes) (maxL := maxL) (ret := ret) ho hl hin hse hcode hy hK (by rw [hT]; exact hcB) hoB hclB hg (hsize.trans hml.symm) (argsL := As) (rest := rest) (fun sig h => hn.trans (hlen sig h)) hstack hW (by rw [hb]; exact hdg)
    (fun vm₁ hW₁ => ⟨hf.1, hf.2, hPc (T.setVm vm₁) hT hW₁⟩)
  dsimp only [Pt.U, Pt.locs, Pt.cells, Pt.slots] at X' e1 e2 h1 h2 h3 st
  subst h1; subst h2; subst h3
  exact ⟨v, (T.setVm vm₁).calling g' mk (Value.ref b :: As).toArray, t, U', L, hT, X', hL, e1, e2, hq, st⟩
section
variable {y : MethodName} {bytes cc : ByteArray} {maxL nL mc ms n index : Nat} {ret : Option FieldType} {ws : List Cond} {rm : Room} {Pc : Array Value → State → Prop} {Qc : Array Value → State → Outcome → State → Prop} {XC : String → State → State → Prop} {free : Addr → Prop} {Ts : List Cond} {own C : String} {b : Addr} {As rest : List Value} {g : JFrame}
theorem vx_runVX {hh : List (Nat × Nat × Nat × Nat)} (S : CallFix p m c cc nL s args Ts own) (hM : vx_Met l y ws rm Pc Qc XC mc ms free) (cw : vx_CVW R s args own C index y bytes maxL ret hh ws rm mc ms n) (hp : PreV s H C b Pc As)
    (hg : g.method = m) (hn : As.length = n) (hsize : g.locals.size = nL) (hstack : g.stack = As.reverse ++ .ref b :: rest) (hW : 2 * g.monitorRoom + (rest.map fun v => v.category).sum ≤ 8) (hdg : decode cc g.pc = .ok (.invokevirtual index, 3)) (hf : cells + mc ≤ R.cells ∧ slots + ms ≤ R.slots) :
    vx_Run p l e R s m args below meth c H locs cells slots mc ms g rest (Qc (Value.ref b :: As).toArray) XC free := by
  obtain ⟨⟨hrc, hrs, hfr, hlo, hws, hcw⟩, hcode, hini, hy, hlen, hl, hin, hse⟩ := cw
  have hK : vx_Back l R p e below s args y 3 8 (PreOf R mc ms Pc) (PostOf Qc mc ms free) (vx_Post XC mc ms free) := vx_backW (hh := hh) (bytes := bytes) (maxL := maxL) (ret := ret) hM hp.1 hrc hrs hfr hlo hws hcw (fun a' U hW => word_at hW (Or.inl (by first | rfl | simp [Cond.onTables, Cond.keeps, Cond.steady])) hini)
  obtain ⟨hx, hb, hml, ho, -⟩ := S
  obtain ⟨-, ⟨cellB, hcB, hoB, hclB⟩, hPc⟩ := hp
  intro T hT X
  rcases vx_callVX X hx (C := C) (hh := hh) (bytes := bytes) (maxL := maxL) (ret := ret) ho hl hin hse hcode hy hK (by rw [hT]; exact hcB) hoB hclB hg (hsize.trans hml.symm) (argsL := As) (rest := rest) (fun sig h => hn.trans (hlen sig h)) hstack hW (by rw [hb]; exact hdg)
    (fun vm₁ hW₁ => ⟨hf.1, hf.2, hPc (T.setVm vm₁) hT hW₁⟩) with ⟨v, vm₁, ⟨U', l2, c2, s2⟩, hW₁, X', ⟨g', mk, t, L, e1, e2, hq, h1, hL, h2, h3⟩, st⟩ | ⟨q, vm₁, ⟨U', l2, c2, s2⟩, hW₁, X', ⟨g', mk, t, L, E, ce, e1, e2, hq, hce, hcv, hcl, h1, hL, h2, h3⟩, st⟩
  · dsimp only [Pt.U, Pt.locs, Pt.cells, Pt.slots] at X' e1 e2 h1 h2 h3 st
    subst h1; subst h2; subst h3
    exact Or.inl ⟨v, (T.setVm vm₁).calling g' mk (Value.ref b :: As).toArray, t, U', L, hT, X', hL, e1, e2, hq, st⟩
  · dsimp only [Pt.U, Pt.locs, Pt.cells, Pt.slots] at X' e1 e2 h1 h2 h3 st hcl
    subst h1; subst h2; subst h3
    exact Or.inr ⟨q, (T.setVm vm₁).calling g' mk (Value.ref b :: As).toArray, t, U', L, E, ce, hT, X', hL, e1, e2, hq, hce, hcv, vx_cls hW₁ hcl, st⟩
theorem vx_runSX {hh : List (Nat × Nat × Nat × Nat)} (S : CallFix p m c cc nL s args Ts own) (hM : vx_Met l y ws rm Pc Qc XC mc ms free) (cw : vx_CSW R s args own index y bytes maxL ret hh ws rm mc ms n) (hp : PreS s H Pc As)
    (hg : g.method = m) (hn : As.length = n) (hsize : g.locals.size = nL) (hstack : g.stack = As.reverse ++ rest) (hW : 2 * g.monitorRoom + (rest.map fun v => v.category).sum ≤ 8) (hdg : decode cc g.pc = .ok (.invokestatic index, 3)) (hf : cells + mc ≤ R.cells ∧ slots + ms ≤ R.slots) :
    vx_Run p l e R s m args below meth c H locs cells slots mc ms g rest (Qc As.toArray) XC free := by
  obtain ⟨⟨hrc, hrs, hfr, hlo, hws, hcw⟩, hcode, hini, hy, hlen, hl, hstt⟩ := cw
  have hK : vx_Back l R p e below s args y 3 8 (PreOf R mc ms Pc) (PostOf Qc mc ms free) (vx_Post XC mc ms free) := vx_backW (hh := hh) (bytes := bytes) (maxL := maxL) (ret := ret) hM hp.1 hrc hrs hfr hlo hws hcw (fun a' U hW => word_at hW (Or.inl (by first | rfl | simp [Cond.onTables, Cond.keeps, Cond.steady])) hini)
  obtain ⟨hx, hb, hml, ho, -⟩ := S
  intro T hT X
  rcases vx_callSX X hx (hh := hh) (bytes := bytes) (maxL := maxL) (ret := ret) ho hl hstt hini hcode hy hK hg (hsize.trans hml.symm) (argsL := As) (rest := rest) (fun sig h => hn.trans (hlen sig h)) hstack hW (by rw [hb]; exact hdg)
    (fun vm₁ hW₁ => ⟨hf.1, hf.2, hp.2 (T.setVm vm₁) hT hW₁⟩) with ⟨v, vm₁, ⟨U', l2, c2, s2⟩, hW₁, X', ⟨g', mk, t, L, e1, e2, hq, h1, hL, h2, h3⟩, st⟩ | ⟨q, vm₁, ⟨U', l2, c2, s2⟩, hW₁, X', ⟨g', mk, t, L, E, ce, e1, e2, hq, hce, hcv, hcl, h1, hL, h2, h3⟩, st⟩
  · dsimp only [Pt.U, Pt.locs, Pt.cells, Pt.slots] at X' e1 e2 h1 h2 h3 st
    subst h1; subst h2; subst h3
    exact Or.inl ⟨v, (T.setVm vm₁).calling g' mk As.toArray, t, U', L, hT, X', hL, e1, e2, hq, st⟩
  · dsimp only [Pt.U, Pt.locs, Pt.cells, Pt.slots] at X' e1 e2 h1 h2 h3 st hcl
    subst h1; subst h2; subst h3
    exact Or.inr ⟨q, (T.setVm vm₁).calling g' mk As.toArray, t, U', L, E, ce, hT, X', hL, e1, e2, hq, hce, hcv, vx_cls hW₁ hcl, st⟩
end
end VXH
theorem vx_ofWH {l : Launch} {y : MethodName} {ws ws' : List Cond} {rm : Room} {Pc : Array Value → State → Prop} {Qc : Array Value → State → Outcome → State → Prop} {XC : String → State → State → Prop} {mc ms : Nat} {free : Addr → Prop} {cc : ByteArray} {maxL : Nat} {ret : Option FieldType} {hh : List (Nat × Nat × Nat × Nat)}
    (hy : plainName y.cls = true) (hw : ws = Cond.codeWith y cc maxL ret hh :: ws')
    (body : ∀ p e s m args below meth c s₁, BodyLoose p l y (headSpec ws rm) cc maxL ret e s m args below meth c s₁ → c.maxLocals = maxL → Pc args s →
      W p l e (headSpec ws rm).room s m args below meth c s.heap [] 0 0 (vx_MQ below Qc XC args s mc ms free) (entryFrame m args maxL)) : vx_Met l y ws rm Pc Qc XC mc ms free := by
  refine MetFree.of_bodyS (code := cc) (maxLocals := maxL) (ret := ret) hy ?_ ?_
  · intro args s m h hn
    obtain ⟨m9, meth, c, hn9, h1, h2, h3, h4, -, h5, h6, -⟩ := Cond.codeWith_spec (atoms_spec (ws := ws) h _ (by rw [hw]; exact List.mem_cons_self))
    cases hn.symm.trans hn9
    exact ⟨meth, c, h1, h2, h3, h4, h5, h6⟩
  · intro p e s m args below meth c s₁ B hml hP _
    have hh0 : s₁.heap = s.heap := by rw [B.state]; rfl
    obtain ⟨t, a1, o, b1, b2, b3⟩ := body p e s m args below meth c s₁ B hml hP s₁ hh0 (Stand.of_body B)
    exact ⟨t, o, a1, b1, b2, b3⟩
end
section
def R_N : String := "SprinkleNets"
def R_M : String := "SprinkleNetsModel"
def R_L : String := "SprinkleNetsLaw"
def R_I : String := "java/lang/Integer"
def R_A : String := "java/util/Arrays"
abbrev bN_init : ByteArray := prog_1_method_1_code
def yN_init : MethodName := ⟨R_N, "<init>", "(II)V"⟩
abbrev kN_init : Cond := .code yN_init bN_init 4 none
abbrev bA_fill : ByteArray := prog_12_method_103_code
def yA_fill : MethodName := ⟨R_A, "fill", "([II)V"⟩
abbrev kA_fill : Cond := .code yA_fill bA_fill 4 none
abbrev bN_best : ByteArray := prog_1_method_9_code
def yN_best : MethodName := ⟨R_N, "best", "()I"⟩
abbrev kN_best : Cond := .code yN_best bN_best 8 (some .int)
abbrev bN_findReachers : ByteArray := prog_1_method_26_code
def yN_findReachers : MethodName := ⟨R_N, "findReachers", "()V"⟩
abbrev kN_findReachers : Cond := .code yN_findReachers bN_findReachers 2 none
abbrev bN_addReacher : ByteArray := prog_1_method_27_code
def yN_addReacher : MethodName := ⟨R_N, "addReacher", "(III)V"⟩
abbrev kN_addReacher : Cond := .code yN_addReacher bN_addReacher 6 none
abbrev bN_isNear : ByteArray := prog_1_method_25_code
def yN_isNear : MethodName := ⟨R_N, "isNear", "(IIII)Z"⟩
abbrev kN_isNear : Cond := .code yN_isNear bN_isNear 5 (some .boolean)
abbrev bN_lineIsFree : ByteArray := prog_1_method_24_code
def yN_lineIsFree : MethodName := ⟨R_N, "lineIsFree", "(IIII)Z"⟩
abbrev kN_lineIsFree : Cond := .code yN_lineIsFree bN_lineIsFree 13 (some .boolean)
abbrev bN_isWall : ByteArray := prog_1_method_20_code
def yN_isWall : MethodName := ⟨R_N, "isWall", "(II)Z"⟩
abbrev kN_isWall : Cond := .code yN_isWall bN_isWall 3 (some .boolean)
abbrev bN_inPlan : ByteArray := prog_1_method_18_code
def yN_inPlan : MethodName := ⟨R_N, "inPlan", "(II)Z"⟩
abbrev kN_inPlan : Cond := .code yN_inPlan bN_inPlan 3 (some .boolean)
abbrev bN_cellAt : ByteArray := prog_1_method_19_code
def yN_cellAt : MethodName := ⟨R_N, "cellAt", "(II)I"⟩
abbrev kN_cellAt : Cond := .code yN_cellAt bN_cellAt 2 (some .int)
abbrev bN_allPlaces : ByteArray := prog_1_method_22_code
def yN_allPlaces : MethodName := ⟨R_N, "allPlaces", "()I"⟩
abbrev kN_allPlaces : Cond := .code yN_allPlaces bN_allPlaces 1 (some .int)
abbrev bN_dryCell : ByteArray := prog_1_method_29_code
def yN_dryCell : MethodName := ⟨R_N, "dryCell", "(II)I"⟩
abbrev kN_dryCell : Cond := .code yN_dryCell bN_dryCell 5 (some .int)
abbrev bN_isDry : ByteArray := prog_1_method_28_code
def yN_isDry : MethodName := ⟨R_N, "isDry", "(II)Z"⟩
abbrev kN_isDry : Cond := .code yN_isDry bN_isDry 3 (some .boolean)
abbrev bI_bitCount : ByteArray := prog_7_method_49_code
def yI_bitCount : MethodName := ⟨R_I, "bitCount", "(I)I"⟩
abbrev kI_bitCount : Cond := .code yI_bitCount bI_bitCount 1 (some .int)
abbrev bL_cell : ByteArray := method_2_code
def yL_cell : MethodName := ⟨R_L, "cell", "([II)I"⟩
abbrev kL_cell : Cond := .code yL_cell bL_cell 2 (some .int)
abbrev bL_wall : ByteArray := method_3_code
def yL_wall : MethodName := ⟨R_L, "wall", "(LSprinkleNets;IIZ[J)I"⟩
abbrev kL_wall : Cond := .codeWith yL_wall bL_wall 6 (some .int) [(0, 19, 22, 13)]
abbrev bN_wall : ByteArray := prog_1_method_2_code
def yN_wall : MethodName := ⟨R_N, "wall", "(IIZ)Z"⟩
abbrev kN_wall : Cond := .code yN_wall bN_wall 5 (some .boolean)
abbrev bN_needCell : ByteArray := prog_1_method_15_code
def yN_needCell : MethodName := ⟨R_N, "needCell", "(II)V"⟩
abbrev kN_needCell : Cond := .code yN_needCell bN_needCell 3 none
abbrev bL_reach : ByteArray := method_4_code
def yL_reach : MethodName := ⟨R_L, "reach", "(LSprinkleNets;I[J)I"⟩
abbrev kL_reach : Cond := .codeWith yL_reach bL_reach 4 (some .int) [(0, 9, 12, 13)]
abbrev bN_reach : ByteArray := prog_1_method_3_code
def yN_reach : MethodName := ⟨R_N, "reach", "(I)I"⟩
abbrev kN_reach : Cond := .code yN_reach bN_reach 3 (some .int)
abbrev bL_place : ByteArray := method_5_code
def yL_place : MethodName := ⟨R_L, "place", "(LSprinkleNets;II[J)I"⟩
abbrev kL_place : Cond := .codeWith yL_place bL_place 5 (some .int) [(0, 10, 13, 13), (0, 10, 17, 23)]
abbrev bN_place : ByteArray := prog_1_method_4_code
def yN_place : MethodName := ⟨R_N, "place", "(II)I"⟩
abbrev kN_place : Cond := .code yN_place bN_place 4 (some .int)
abbrev bN_isPlace : ByteArray := prog_1_method_21_code
def yN_isPlace : MethodName := ⟨R_N, "isPlace", "(II)Z"⟩
abbrev kN_isPlace : Cond := .code yN_isPlace bN_isPlace 4 (some .boolean)
abbrev bL_seen : ByteArray := method_6_code
def yL_seen : MethodName := ⟨R_L, "seen", "(LSprinkleNets;IIII[J)I"⟩
abbrev kL_seen : Cond := .codeWith yL_seen bL_seen 7 (some .int) [(0, 21, 24, 13)]
abbrev bN_seen : ByteArray := prog_1_method_5_code
def yN_seen : MethodName := ⟨R_N, "seen", "(IIII)Z"⟩
abbrev kN_seen : Cond := .code yN_seen bN_seen 5 (some .boolean)
abbrev bL_reached : ByteArray := method_7_code
def yL_reached : MethodName := ⟨R_L, "reached", "(LSprinkleNets;I[J)I"⟩
abbrev kL_reached : Cond := .codeWith yL_reached bL_reached 4 (some .int) [(0, 9, 12, 13)]
abbrev bN_reached : ByteArray := prog_1_method_6_code
def yN_reached : MethodName := ⟨R_N, "reached", "(I)I"⟩
abbrev kN_reached : Cond := .code yN_reached bN_reached 4 (some .int)
abbrev bN_needPlace : ByteArray := prog_1_method_16_code
def yN_needPlace : MethodName := ⟨R_N, "needPlace", "(I)V"⟩
abbrev kN_needPlace : Cond := .code yN_needPlace bN_needPlace 2 none
abbrev bN_holds : ByteArray := prog_1_method_23_code
def yN_holds : MethodName := ⟨R_N, "holds", "(II)Z"⟩
abbrev kN_holds : Cond := .code yN_holds bN_holds 2 (some .boolean)
abbrev bL_left : ByteArray := method_8_code
def yL_left : MethodName := ⟨R_L, "left", "(LSprinkleNets;I[J)I"⟩
abbrev kL_left : Cond := .codeWith yL_left bL_left 4 (some .int) [(0, 9, 12, 13)]
abbrev bN_left : ByteArray := prog_1_method_7_code
def yN_left : MethodName := ⟨R_N, "left", "(I)I"⟩
abbrev kN_left : Cond := .code yN_left bN_left 4 (some .int)
abbrev bN_needSet : ByteArray := prog_1_method_17_code
def yN_needSet : MethodName := ⟨R_N, "needSet", "(I)V"⟩
abbrev kN_needSet : Cond := .code yN_needSet bN_needSet 2 none
abbrev bL_dry : ByteArray := method_9_code
def yL_dry : MethodName := ⟨R_L, "dry", "(LSprinkleNets;II[J)I"⟩
abbrev kL_dry : Cond := .codeWith yL_dry bL_dry 5 (some .int) [(0, 10, 13, 13)]
abbrev bN_dry : ByteArray := prog_1_method_8_code
def yN_dry : MethodName := ⟨R_N, "dry", "(II)I"⟩
abbrev kN_dry : Cond := .code yN_dry bN_dry 4 (some .int)
abbrev bL_size : ByteArray := method_10_code
def yL_size : MethodName := ⟨R_L, "size", "(LSprinkleNets;II[J)I"⟩
abbrev kL_size : Cond := .codeWith yL_size bL_size 5 (some .int) [(0, 10, 13, 13)]
abbrev bN_size : ByteArray := prog_1_method_10_code
def yN_size : MethodName := ⟨R_N, "size", "(II)I"⟩
abbrev kN_size : Cond := .code yN_size bN_size 3 (some .int)
abbrev bL_pipes : ByteArray := method_11_code
def yL_pipes : MethodName := ⟨R_L, "pipes", "(LSprinkleNets;I[J)I"⟩
abbrev kL_pipes : Cond := .codeWith yL_pipes bL_pipes 4 (some .int) [(0, 9, 12, 13)]
abbrev bN_pipes : ByteArray := prog_1_method_11_code
def yN_pipes : MethodName := ⟨R_N, "pipes", "(I)I"⟩
abbrev kN_pipes : Cond := .code yN_pipes bN_pipes 4 (some .int)
abbrev bN_layPipes : ByteArray := prog_1_method_30_code
def yN_layPipes : MethodName := ⟨R_N, "layPipes", "(I)V"⟩
abbrev kN_layPipes : Cond := .code yN_layPipes bN_layPipes 2 none
abbrev bN_joinPlaces : ByteArray := prog_1_method_31_code
def yN_joinPlaces : MethodName := ⟨R_N, "joinPlaces", "(I)V"⟩
abbrev kN_joinPlaces : Cond := .code yN_joinPlaces bN_joinPlaces 5 none
abbrev bN_nearestOf : ByteArray := prog_1_method_32_code
def yN_nearestOf : MethodName := ⟨R_N, "nearestOf", "(I)I"⟩
abbrev kN_nearestOf : Cond := .code yN_nearestOf bN_nearestOf 5 (some .int)
abbrev bN_offerUpper : ByteArray := prog_1_method_33_code
def yN_offerUpper : MethodName := ⟨R_N, "offerUpper", "(II)V"⟩
abbrev kN_offerUpper : Cond := .code yN_offerUpper bN_offerUpper 5 none
abbrev bN_countHeads : ByteArray := prog_1_method_34_code
def yN_countHeads : MethodName := ⟨R_N, "countHeads", "()V"⟩
abbrev kN_countHeads : Cond := .code yN_countHeads bN_countHeads 4 none
abbrev bN_addLacks : ByteArray := prog_1_method_35_code
def yN_addLacks : MethodName := ⟨R_N, "addLacks", "()V"⟩
abbrev kN_addLacks : Cond := .code yN_addLacks bN_addLacks 5 none
abbrev bN_lossFor : ByteArray := prog_1_method_36_code
def yN_lossFor : MethodName := ⟨R_N, "lossFor", "(I)I"⟩
abbrev kN_lossFor : Cond := .code yN_lossFor bN_lossFor 4 (some .int)
abbrev bL_pipe : ByteArray := method_12_code
def yL_pipe : MethodName := ⟨R_L, "pipe", "(LSprinkleNets;III[J)I"⟩
abbrev kL_pipe : Cond := .codeWith yL_pipe bL_pipe 6 (some .int) [(0, 12, 15, 13)]
abbrev bN_pipe : ByteArray := prog_1_method_12_code
def yN_pipe : MethodName := ⟨R_N, "pipe", "(III)I"⟩
abbrev kN_pipe : Cond := .code yN_pipe bN_pipe 4 (some .int)
abbrev bL_lacks : ByteArray := method_13_code
def yL_lacks : MethodName := ⟨R_L, "lacks", "(LSprinkleNets;II[J)I"⟩
abbrev kL_lacks : Cond := .codeWith yL_lacks bL_lacks 5 (some .int) [(0, 10, 13, 13)]
abbrev bN_lacks : ByteArray := prog_1_method_13_code
def yN_lacks : MethodName := ⟨R_N, "lacks", "(II)I"⟩
abbrev kN_lacks : Cond := .code yN_lacks bN_lacks 3 (some .int)
abbrev bL_worst : ByteArray := method_14_code
def yL_worst : MethodName := ⟨R_L, "worst", "(LSprinkleNets;I[J)I"⟩
abbrev kL_worst : Cond := .codeWith yL_worst bL_worst 4 (some .int) [(0, 9, 12, 13)]
abbrev bN_worst : ByteArray := prog_1_method_14_code
def yN_worst : MethodName := ⟨R_N, "worst", "(I)I"⟩
abbrev kN_worst : Cond := .code yN_worst bN_worst 5 (some .int)
abbrev bM_init : ByteArray := prog_3_method_1_code
def yM_init : MethodName := ⟨R_M, "<init>", "(II)V"⟩
abbrev kM_init : Cond := .code yM_init bM_init 4 none
abbrev bM_thrown : ByteArray := prog_3_method_2_code
def yM_thrown : MethodName := ⟨R_M, "thrown", "()I"⟩
abbrev kM_thrown : Cond := .code yM_thrown bM_thrown 1 (some .int)
abbrev bM_wall : ByteArray := prog_3_method_7_code
def yM_wall : MethodName := ⟨R_M, "wall", "(IIZ)Z"⟩
abbrev kM_wall : Cond := .code yM_wall bM_wall 5 (some .boolean)
abbrev bM_isCell : ByteArray := prog_3_method_3_code
def yM_isCell : MethodName := ⟨R_M, "isCell", "(II)Z"⟩
abbrev kM_isCell : Cond := .code yM_isCell bM_isCell 3 (some .boolean)
abbrev bM_reach : ByteArray := prog_3_method_8_code
def yM_reach : MethodName := ⟨R_M, "reach", "(I)I"⟩
abbrev kM_reach : Cond := .code yM_reach bM_reach 3 (some .int)
abbrev bM_place : ByteArray := prog_3_method_9_code
def yM_place : MethodName := ⟨R_M, "place", "(II)I"⟩
abbrev kM_place : Cond := .code yM_place bM_place 5 (some .int)
abbrev bM_isFree : ByteArray := prog_3_method_6_code
def yM_isFree : MethodName := ⟨R_M, "isFree", "(II)Z"⟩
abbrev kM_isFree : Cond := .code yM_isFree bM_isFree 3 (some .boolean)
abbrev bM_seen : ByteArray := prog_3_method_15_code
def yM_seen : MethodName := ⟨R_M, "seen", "(IIII)Z"⟩
abbrev kM_seen : Cond := .code yM_seen bM_seen 5 (some .boolean)
abbrev bM_sees : ByteArray := prog_3_method_14_code
def yM_sees : MethodName := ⟨R_M, "sees", "(IIII)Z"⟩
abbrev kM_sees : Cond := .code yM_sees bM_sees 8 (some .boolean)
abbrev bM_least : ByteArray := prog_3_method_10_code
def yM_least : MethodName := ⟨R_M, "least", "(II)I"⟩
abbrev kM_least : Cond := .code yM_least bM_least 2 (some .int)
abbrev bM_most : ByteArray := prog_3_method_11_code
def yM_most : MethodName := ⟨R_M, "most", "(II)I"⟩
abbrev kM_most : Cond := .code yM_most bM_most 2 (some .int)
abbrev bM_crosses : ByteArray := prog_3_method_13_code
def yM_crosses : MethodName := ⟨R_M, "crosses", "(IIIIII)Z"⟩
abbrev kM_crosses : Cond := .code yM_crosses bM_crosses 18 (some .boolean)
abbrev bM_side : ByteArray := prog_3_method_12_code
def yM_side : MethodName := ⟨R_M, "side", "(IIIIII)I"⟩
abbrev kM_side : Cond := .code yM_side bM_side 6 (some .int)
abbrev bM_reached : ByteArray := prog_3_method_18_code
def yM_reached : MethodName := ⟨R_M, "reached", "(I)I"⟩
abbrev kM_reached : Cond := .code yM_reached bM_reached 5 (some .int)
abbrev bM_isPlace : ByteArray := prog_3_method_4_code
def yM_isPlace : MethodName := ⟨R_M, "isPlace", "(I)Z"⟩
abbrev kM_isPlace : Cond := .code yM_isPlace bM_isPlace 2 (some .boolean)
abbrev bM_isReached : ByteArray := prog_3_method_16_code
def yM_isReached : MethodName := ⟨R_M, "isReached", "(III)Z"⟩
abbrev kM_isReached : Cond := .code yM_isReached bM_isReached 6 (some .boolean)
abbrev bM_left : ByteArray := prog_3_method_20_code
def yM_left : MethodName := ⟨R_M, "left", "(I)I"⟩
abbrev kM_left : Cond := .code yM_left bM_left 2 (some .int)
abbrev bM_isSet : ByteArray := prog_3_method_5_code
def yM_isSet : MethodName := ⟨R_M, "isSet", "(I)Z"⟩
abbrev kM_isSet : Cond := .code yM_isSet bM_isSet 2 (some .boolean)
abbrev bM_findReached : ByteArray := prog_3_method_17_code
def yM_findReached : MethodName := ⟨R_M, "findReached", "()V"⟩
abbrev kM_findReached : Cond := .code yM_findReached bM_findReached 5 none
abbrev bM_dryCells : ByteArray := prog_3_method_19_code
def yM_dryCells : MethodName := ⟨R_M, "dryCells", "(I)I"⟩
abbrev kM_dryCells : Cond := .code yM_dryCells bM_dryCells 5 (some .int)
abbrev bM_dry : ByteArray := prog_3_method_21_code
def yM_dry : MethodName := ⟨R_M, "dry", "(II)I"⟩
abbrev kM_dry : Cond := .code yM_dry bM_dry 6 (some .int)
abbrev bM_best : ByteArray := prog_3_method_23_code
def yM_best : MethodName := ⟨R_M, "best", "()I"⟩
abbrev kM_best : Cond := .code yM_best bM_best 4 (some .int)
abbrev bM_ones : ByteArray := prog_3_method_22_code
def yM_ones : MethodName := ⟨R_M, "ones", "(I)I"⟩
abbrev kM_ones : Cond := .code yM_ones bM_ones 3 (some .int)
abbrev bM_size : ByteArray := prog_3_method_24_code
def yM_size : MethodName := ⟨R_M, "size", "(II)I"⟩
abbrev kM_size : Cond := .code yM_size bM_size 5 (some .int)
abbrev bM_pipes : ByteArray := prog_3_method_29_code
def yM_pipes : MethodName := ⟨R_M, "pipes", "(I)I"⟩
abbrev kM_pipes : Cond := .code yM_pipes bM_pipes 4 (some .int)
abbrev bM_join : ByteArray := prog_3_method_27_code
def yM_join : MethodName := ⟨R_M, "join", "(I)V"⟩
abbrev kM_join : Cond := .code yM_join bM_join 7 none
abbrev bM_far : ByteArray := prog_3_method_26_code
def yM_far : MethodName := ⟨R_M, "far", "(II)I"⟩
abbrev kM_far : Cond := .code yM_far bM_far 5 (some .int)
abbrev bM_plain : ByteArray := prog_3_method_25_code
def yM_plain : MethodName := ⟨R_M, "plain", "(I)I"⟩
abbrev kM_plain : Cond := .code yM_plain bM_plain 1 (some .int)
abbrev bM_pipe : ByteArray := prog_3_method_31_code
def yM_pipe : MethodName := ⟨R_M, "pipe", "(III)I"⟩
abbrev kM_pipe : Cond := .code yM_pipe bM_pipe 4 (some .int)
abbrev bM_isIn : ByteArray := prog_3_method_30_code
def yM_isIn : MethodName := ⟨R_M, "isIn", "(II)Z"⟩
abbrev kM_isIn : Cond := .code yM_isIn bM_isIn 3 (some .boolean)
abbrev bM_lossOf : ByteArray := prog_3_method_28_code
def yM_lossOf : MethodName := ⟨R_M, "lossOf", "(I)I"⟩
abbrev kM_lossOf : Cond := .code yM_lossOf bM_lossOf 6 (some .int)
abbrev bM_lacks : ByteArray := prog_3_method_33_code
def yM_lacks : MethodName := ⟨R_M, "lacks", "(II)I"⟩
abbrev kM_lacks : Cond := .code yM_lacks bM_lacks 3 (some .int)
abbrev bM_lost : ByteArray := prog_3_method_32_code
def yM_lost : MethodName := ⟨R_M, "lost", "(I)I"⟩
abbrev kM_lost : Cond := .code yM_lost bM_lost 4 (some .int)
abbrev bM_worst : ByteArray := prog_3_method_34_code
def yM_worst : MethodName := ⟨R_M, "worst", "(I)I"⟩
abbrev kM_worst : Cond := .code yM_worst bM_worst 4 (some .int)
abbrev bL_law : ByteArray := code
def T_N : u_T := fun k => match k with
  | 0 => ("SprinkleNets", "width", "I", true)
  | 1 => ("SprinkleNets", "height", "I", true)
  | 2 => ("SprinkleNets", "walls", "[Z", true)
  | 3 => ("SprinkleNets", "reachSquare", "I", false)
  | 4 => ("SprinkleNets", "placeX", "[I", true)
  | 5 => ("SprinkleNets", "placeY", "[I", true)
  | 6 => ("SprinkleNets", "placeCount", "I", false)
  | 7 => ("SprinkleNets", "reachers", "[I", true)
  | 8 => ("SprinkleNets", "reachersAreOld", "Z", false)
  | 9 => ("SprinkleNets", "lossOf", "[I", true)
  | 10 => ("SprinkleNets", "sizeCount", "I", false)
  | 11 => ("SprinkleNets", "upper", "[I", true)
  | 12 => ("SprinkleNets", "length", "[I", true)
  | 13 => ("SprinkleNets", "headsOn", "[I", true)
  | 14 => ("SprinkleNets", "turn", "[I", true)
  | 15 => ("SprinkleNets", "lack", "[I", true)
  | 16 => ("SprinkleNets", "joined", "[I", true)
  | _ => ("SprinkleNets", "joinedCount", "I", false)
def t_N : Nat → FieldType := fun k => match k with
  | 0 => .int
  | 1 => .int
  | 2 => .array .boolean
  | 3 => .int
  | 4 => .array .int
  | 5 => .array .int
  | 6 => .int
  | 7 => .array .int
  | 8 => .boolean
  | 9 => .array .int
  | 10 => .int
  | 11 => .array .int
  | 12 => .array .int
  | 13 => .array .int
  | 14 => .array .int
  | 15 => .array .int
  | 16 => .array .int
  | _ => .int
theorem n_N : ∀ a, a < 18 → ∀ b, b < 18 → a ≠ b → (T_N a).2.1 ≠ (T_N b).2.1 := by decide +kernel
theorem tok_N : ∀ k, k < 18 → parseFieldDescriptor (T_N k).2.2.1 = some (t_N k) := by decide +kernel
def T_M : u_T := fun k => match k with
  | 0 => ("SprinkleNetsModel", "code", "I", false)
  | 1 => ("SprinkleNetsModel", "wide", "I", true)
  | 2 => ("SprinkleNetsModel", "tall", "I", true)
  | 3 => ("SprinkleNetsModel", "wall", "[Z", true)
  | 4 => ("SprinkleNetsModel", "reach", "I", false)
  | 5 => ("SprinkleNetsModel", "places", "I", false)
  | 6 => ("SprinkleNetsModel", "px", "[I", true)
  | 7 => ("SprinkleNetsModel", "py", "[I", true)
  | 8 => ("SprinkleNetsModel", "loss", "[I", true)
  | 9 => ("SprinkleNetsModel", "reached", "[I", true)
  | 10 => ("SprinkleNetsModel", "joined", "I", false)
  | 11 => ("SprinkleNetsModel", "order", "[I", true)
  | 12 => ("SprinkleNetsModel", "upper", "[I", true)
  | 13 => ("SprinkleNetsModel", "length", "[I", true)
  | 14 => ("SprinkleNetsModel", "heads", "[I", true)
  | _ => ("SprinkleNetsModel", "turn", "[I", true)
def t_M : Nat → FieldType := fun k => match k with
  | 0 => .int
  | 1 => .int
  | 2 => .int
  | 3 => .array .boolean
  | 4 => .int
  | 5 => .int
  | 6 => .array .int
  | 7 => .array .int
  | 8 => .array .int
  | 9 => .array .int
  | 10 => .int
  | 11 => .array .int
  | 12 => .array .int
  | 13 => .array .int
  | 14 => .array .int
  | _ => .array .int
theorem n_M : ∀ a, a < 16 → ∀ b, b < 16 → a ≠ b → (T_M a).2.1 ≠ (T_M b).2.1 := by decide +kernel
theorem tok_M : ∀ k, k < 16 → parseFieldDescriptor (T_M k).2.2.1 = some (t_M k) := by decide +kernel
abbrev snC : List vw_C := [(R_N, T_N, 18), (R_M, T_M, 16)]
def WD : List Cond := lw_tbl.filter goodWord
theorem wd_mem {w : Cond} {k : Nat} (h : lw_tbl[k]? = some w) (hg : goodWord w = true) : w ∈ WD := List.mem_filter.mpr ⟨List.mem_of_getElem? h, hg⟩
theorem wd_good {w : Cond} (h : w ∈ WD) : (w.onTables && w.keeps) = true ∨ ∃ ty, w = .arrayClass ty := good_of_word (List.mem_filter.mp h).2
theorem wd_tbl {w : Cond} (h : w ∈ WD) : w ∈ lw_tbl := (List.mem_filter.mp h).1
theorem wd_call {y : Cond} {ms : List Cond} (hy : y ∈ WD) (hm : ∀ w ∈ ms, w ∈ WD) : GoodIn WD (ms ++ (y :: WD)) := fun w hw => by
  have h : w ∈ WD := (List.mem_append.mp hw).elim (hm w) (fun h => (List.mem_cons.mp h).elim (fun e => e ▸ hy) id)
  exact ⟨h, wd_good h⟩
theorem wd_self {y : Cond} (hy : y ∈ WD) : GoodIn WD (y :: WD) := wd_call (ms := []) hy (fun _ h => absurd h List.not_mem_nil)
theorem wd_c {w : Cond} {ms : List Cond} (h : w ∈ WD) (t : ∀ z ∈ ms, z ∈ WD) : ∀ z ∈ w :: ms, z ∈ WD := fun z hz => (List.mem_cons.mp hz).elim (fun e => e ▸ h) (t z)
theorem wd_n : ∀ z ∈ ([] : List Cond), z ∈ WD := fun _ h => absurd h List.not_mem_nil
theorem in_N : ∀ w ∈ u_ws R_N T_N 18, w ∈ WD := by decide +kernel
theorem in_M : ∀ w ∈ u_ws R_M T_M 16, w ∈ WD := by decide +kernel
theorem selN_findReachers : Cond.selects R_N yN_findReachers yN_findReachers ∈ WD := wd_mem (k := 0) (by decide +kernel) rfl
theorem selN_addReacher : Cond.selects R_N yN_addReacher yN_addReacher ∈ WD := wd_mem (k := 1) (by decide +kernel) rfl
theorem selN_isNear : Cond.selects R_N yN_isNear yN_isNear ∈ WD := wd_mem (k := 2) (by decide +kernel) rfl
theorem selN_lineIsFree : Cond.selects R_N yN_lineIsFree yN_lineIsFree ∈ WD := wd_mem (k := 3) (by decide +kernel) rfl
theorem selN_isWall : Cond.selects R_N yN_isWall yN_isWall ∈ WD := wd_mem (k := 4) (by decide +kernel) rfl
theorem selN_inPlan : Cond.selects R_N yN_inPlan yN_inPlan ∈ WD := wd_mem (k := 5) (by decide +kernel) rfl
theorem selN_allPlaces : Cond.selects R_N yN_allPlaces yN_allPlaces ∈ WD := wd_mem (k := 6) (by decide +kernel) rfl
theorem selN_dryCell : Cond.selects R_N yN_dryCell yN_dryCell ∈ WD := wd_mem (k := 7) (by decide +kernel) rfl
theorem selN_isDry : Cond.selects R_N yN_isDry yN_isDry ∈ WD := wd_mem (k := 8) (by decide +kernel) rfl
theorem selN_needCell : Cond.selects R_N yN_needCell yN_needCell ∈ WD := wd_mem (k := 9) (by decide +kernel) rfl
theorem selN_isPlace : Cond.selects R_N yN_isPlace yN_isPlace ∈ WD := wd_mem (k := 11) (by decide +kernel) rfl
theorem selN_needPlace : Cond.selects R_N yN_needPlace yN_needPlace ∈ WD := wd_mem (k := 12) (by decide +kernel) rfl
theorem selN_needSet : Cond.selects R_N yN_needSet yN_needSet ∈ WD := wd_mem (k := 13) (by decide +kernel) rfl
theorem selN_layPipes : Cond.selects R_N yN_layPipes yN_layPipes ∈ WD := wd_mem (k := 14) (by decide +kernel) rfl
theorem selN_joinPlaces : Cond.selects R_N yN_joinPlaces yN_joinPlaces ∈ WD := wd_mem (k := 15) (by decide +kernel) rfl
theorem selN_nearestOf : Cond.selects R_N yN_nearestOf yN_nearestOf ∈ WD := wd_mem (k := 16) (by decide +kernel) rfl
theorem selN_offerUpper : Cond.selects R_N yN_offerUpper yN_offerUpper ∈ WD := wd_mem (k := 17) (by decide +kernel) rfl
theorem selN_countHeads : Cond.selects R_N yN_countHeads yN_countHeads ∈ WD := wd_mem (k := 18) (by decide +kernel) rfl
theorem selN_addLacks : Cond.selects R_N yN_addLacks yN_addLacks ∈ WD := wd_mem (k := 19) (by decide +kernel) rfl
theorem selN_lossFor : Cond.selects R_N yN_lossFor yN_lossFor ∈ WD := wd_mem (k := 20) (by decide +kernel) rfl
theorem selM_isCell : Cond.selects R_M yM_isCell yM_isCell ∈ WD := wd_mem (k := 21) (by decide +kernel) rfl
theorem selM_isFree : Cond.selects R_M yM_isFree yM_isFree ∈ WD := wd_mem (k := 22) (by decide +kernel) rfl
theorem selM_sees : Cond.selects R_M yM_sees yM_sees ∈ WD := wd_mem (k := 23) (by decide +kernel) rfl
theorem selM_isPlace : Cond.selects R_M yM_isPlace yM_isPlace ∈ WD := wd_mem (k := 24) (by decide +kernel) rfl
theorem selM_isReached : Cond.selects R_M yM_isReached yM_isReached ∈ WD := wd_mem (k := 25) (by decide +kernel) rfl
theorem selM_isSet : Cond.selects R_M yM_isSet yM_isSet ∈ WD := wd_mem (k := 26) (by decide +kernel) rfl
theorem selM_findReached : Cond.selects R_M yM_findReached yM_findReached ∈ WD := wd_mem (k := 27) (by decide +kernel) rfl
theorem selM_dryCells : Cond.selects R_M yM_dryCells yM_dryCells ∈ WD := wd_mem (k := 28) (by decide +kernel) rfl
theorem selM_join : Cond.selects R_M yM_join yM_join ∈ WD := wd_mem (k := 29) (by decide +kernel) rfl
theorem selM_far : Cond.selects R_M yM_far yM_far ∈ WD := wd_mem (k := 30) (by decide +kernel) rfl
theorem selM_isIn : Cond.selects R_M yM_isIn yM_isIn ∈ WD := wd_mem (k := 31) (by decide +kernel) rfl
theorem selM_lossOf : Cond.selects R_M yM_lossOf yM_lossOf ∈ WD := wd_mem (k := 32) (by decide +kernel) rfl
theorem selM_lost : Cond.selects R_M yM_lost yM_lost ∈ WD := wd_mem (k := 33) (by decide +kernel) rfl
theorem iniL : Cond.initialized R_L ∈ WD := wd_mem (k := 34) (by decide +kernel) rfl
theorem iniN : Cond.initialized R_N ∈ WD := wd_mem (k := 35) (by decide +kernel) rfl
theorem iniH : Cond.initialized "java/lang/Math" ∈ WD := wd_mem (k := 36) (by decide +kernel) rfl
theorem iniA : Cond.initialized R_A ∈ WD := wd_mem (k := 37) (by decide +kernel) rfl
theorem iniM : Cond.initialized R_M ∈ WD := wd_mem (k := 38) (by decide +kernel) rfl
theorem iniThrowable : Cond.initialized "java/lang/Throwable" ∈ WD := wd_mem (k := 39) (by decide +kernel) rfl
theorem iniException : Cond.initialized "java/lang/Exception" ∈ WD := wd_mem (k := 40) (by decide +kernel) rfl
theorem iniRuntimeException : Cond.initialized "java/lang/RuntimeException" ∈ WD := wd_mem (k := 41) (by decide +kernel) rfl
theorem iniIAE : Cond.initialized "java/lang/IllegalArgumentException" ∈ WD := wd_mem (k := 42) (by decide +kernel) rfl
theorem iniISE : Cond.initialized "java/lang/IllegalStateException" ∈ WD := wd_mem (k := 43) (by decide +kernel) rfl
theorem iniI : Cond.initialized R_I ∈ WD := wd_mem (k := 44) (by decide +kernel) rfl
theorem clL8 : Cond.classLink R_L 8 R_N ∈ WD := wd_mem (k := 45) (by decide +kernel) rfl
theorem insN : Cond.instantiable R_N 18 ∈ WD := wd_mem (k := 46) (by decide +kernel) rfl
theorem mlL60 : Cond.methodLink R_L 60 yN_init ∈ WD := wd_mem (k := 47) (by decide +kernel) rfl
theorem imN_init : Cond.instanceMethod yN_init ∈ WD := wd_mem (k := 48) (by decide +kernel) rfl
set_option maxRecDepth 20000 in
theorem kwN_init : kN_init ∈ WD := wd_mem (k := 49) (rfl) rfl
theorem mlN1 : Cond.methodLink R_N 1 objectInit ∈ WD := wd_mem (k := 50) (by decide +kernel) rfl
theorem imO_init : Cond.instanceMethod objectInit ∈ WD := wd_mem (k := 51) (by decide +kernel) rfl
theorem kwO_init : Cond.code objectInit ⟨#[0xb1]⟩ 1 none ∈ WD := wd_mem (k := 52) (by decide +kernel) rfl
theorem mlN9 : Cond.methodLink R_N 9 Lib.Math.min.name ∈ WD := wd_mem (k := 53) (by decide +kernel) rfl
theorem smH_min : Cond.static Lib.Math.min.name ∈ WD := wd_mem (k := 54) (by decide +kernel) rfl
theorem kwH_min : Cond.code Lib.Math.min.name Lib.Math.min.code 2 (some .int) ∈ WD := wd_mem (k := 55) (by decide +kernel) rfl
theorem mlN15 : Cond.methodLink R_N 15 Lib.Math.max.name ∈ WD := wd_mem (k := 56) (by decide +kernel) rfl
theorem smH_max : Cond.static Lib.Math.max.name ∈ WD := wd_mem (k := 57) (by decide +kernel) rfl
theorem kwH_max : Cond.code Lib.Math.max.name Lib.Math.max.code 2 (some .int) ∈ WD := wd_mem (k := 58) (by decide +kernel) rfl
theorem mlN52 : Cond.methodLink R_N 52 yA_fill ∈ WD := wd_mem (k := 59) (by decide +kernel) rfl
theorem smA_fill : Cond.static yA_fill ∈ WD := wd_mem (k := 60) (by decide +kernel) rfl
set_option maxRecDepth 20000 in
theorem kwA_fill : kA_fill ∈ WD := wd_mem (k := 61) (rfl) rfl
theorem flN18 : Cond.fieldLink R_N 18 "SprinkleNets" "width" "I" ∈ WD := wd_mem (k := 62) (by decide +kernel) rfl
theorem flN22 : Cond.fieldLink R_N 22 "SprinkleNets" "height" "I" ∈ WD := wd_mem (k := 63) (by decide +kernel) rfl
theorem flN25 : Cond.fieldLink R_N 25 "SprinkleNets" "walls" "[Z" ∈ WD := wd_mem (k := 64) (by decide +kernel) rfl
theorem flN29 : Cond.fieldLink R_N 29 "SprinkleNets" "reachSquare" "I" ∈ WD := wd_mem (k := 65) (by decide +kernel) rfl
theorem flN32 : Cond.fieldLink R_N 32 "SprinkleNets" "placeX" "[I" ∈ WD := wd_mem (k := 66) (by decide +kernel) rfl
theorem flN36 : Cond.fieldLink R_N 36 "SprinkleNets" "placeY" "[I" ∈ WD := wd_mem (k := 67) (by decide +kernel) rfl
theorem flN39 : Cond.fieldLink R_N 39 "SprinkleNets" "placeCount" "I" ∈ WD := wd_mem (k := 68) (by decide +kernel) rfl
theorem flN42 : Cond.fieldLink R_N 42 "SprinkleNets" "reachers" "[I" ∈ WD := wd_mem (k := 69) (by decide +kernel) rfl
theorem flN45 : Cond.fieldLink R_N 45 "SprinkleNets" "reachersAreOld" "Z" ∈ WD := wd_mem (k := 70) (by decide +kernel) rfl
theorem flN49 : Cond.fieldLink R_N 49 "SprinkleNets" "lossOf" "[I" ∈ WD := wd_mem (k := 71) (by decide +kernel) rfl
theorem flN58 : Cond.fieldLink R_N 58 "SprinkleNets" "sizeCount" "I" ∈ WD := wd_mem (k := 72) (by decide +kernel) rfl
theorem flN61 : Cond.fieldLink R_N 61 "SprinkleNets" "upper" "[I" ∈ WD := wd_mem (k := 73) (by decide +kernel) rfl
theorem flN64 : Cond.fieldLink R_N 64 "SprinkleNets" "length" "[I" ∈ WD := wd_mem (k := 74) (by decide +kernel) rfl
theorem flN67 : Cond.fieldLink R_N 67 "SprinkleNets" "headsOn" "[I" ∈ WD := wd_mem (k := 75) (by decide +kernel) rfl
theorem flN70 : Cond.fieldLink R_N 70 "SprinkleNets" "turn" "[I" ∈ WD := wd_mem (k := 76) (by decide +kernel) rfl
theorem flN73 : Cond.fieldLink R_N 73 "SprinkleNets" "lack" "[I" ∈ WD := wd_mem (k := 77) (by decide +kernel) rfl
theorem flN76 : Cond.fieldLink R_N 76 "SprinkleNets" "joined" "[I" ∈ WD := wd_mem (k := 78) (by decide +kernel) rfl
theorem flN79 : Cond.fieldLink R_N 79 "SprinkleNets" "joinedCount" "I" ∈ WD := wd_mem (k := 79) (by decide +kernel) rfl
theorem ac_boolean : Cond.arrayClass .boolean ∈ WD := wd_mem (k := 117) (by decide +kernel) rfl
theorem ac_int : Cond.arrayClass .int ∈ WD := wd_mem (k := 118) (by decide +kernel) rfl
theorem mlL95 : Cond.methodLink R_L 95 yN_best ∈ WD := wd_mem (k := 119) (by decide +kernel) rfl
theorem imN_best : Cond.instanceMethod yN_best ∈ WD := wd_mem (k := 120) (by decide +kernel) rfl
theorem selN_best : Cond.selects R_N yN_best yN_best ∈ WD := wd_mem (k := 121) (by decide +kernel) rfl
set_option maxRecDepth 20000 in
theorem kwN_best : kN_best ∈ WD := wd_mem (k := 122) (rfl) rfl
theorem mlN120 : Cond.methodLink R_N 120 yN_findReachers ∈ WD := wd_mem (k := 123) (by decide +kernel) rfl
theorem imN_findReachers : Cond.instanceMethod yN_findReachers ∈ WD := wd_mem (k := 125) (by decide +kernel) rfl
set_option maxRecDepth 20000 in
theorem kwN_findReachers : kN_findReachers ∈ WD := wd_mem (k := 126) (rfl) rfl
theorem mlN171 : Cond.methodLink R_N 171 yN_addReacher ∈ WD := wd_mem (k := 127) (by decide +kernel) rfl
theorem imN_addReacher : Cond.instanceMethod yN_addReacher ∈ WD := wd_mem (k := 129) (by decide +kernel) rfl
set_option maxRecDepth 20000 in
theorem kwN_addReacher : kN_addReacher ∈ WD := wd_mem (k := 130) (rfl) rfl
theorem mlN175 : Cond.methodLink R_N 175 yN_isNear ∈ WD := wd_mem (k := 131) (by decide +kernel) rfl
theorem imN_isNear : Cond.instanceMethod yN_isNear ∈ WD := wd_mem (k := 133) (by decide +kernel) rfl
set_option maxRecDepth 20000 in
theorem kwN_isNear : kN_isNear ∈ WD := wd_mem (k := 134) (rfl) rfl
theorem mlN112 : Cond.methodLink R_N 112 yN_lineIsFree ∈ WD := wd_mem (k := 135) (by decide +kernel) rfl
theorem imN_lineIsFree : Cond.instanceMethod yN_lineIsFree ∈ WD := wd_mem (k := 137) (by decide +kernel) rfl
set_option maxRecDepth 20000 in
theorem kwN_lineIsFree : kN_lineIsFree ∈ WD := wd_mem (k := 138) (rfl) rfl
theorem mlN168 : Cond.methodLink R_N 168 Lib.Math.abs.name ∈ WD := wd_mem (k := 139) (by decide +kernel) rfl
theorem smH_abs : Cond.static Lib.Math.abs.name ∈ WD := wd_mem (k := 140) (by decide +kernel) rfl
theorem kwH_abs : Cond.code Lib.Math.abs.name Lib.Math.abs.code 1 (some .int) ∈ WD := wd_mem (k := 141) (by decide +kernel) rfl
theorem mlN86 : Cond.methodLink R_N 86 yN_isWall ∈ WD := wd_mem (k := 142) (by decide +kernel) rfl
theorem imN_isWall : Cond.instanceMethod yN_isWall ∈ WD := wd_mem (k := 144) (by decide +kernel) rfl
set_option maxRecDepth 20000 in
theorem kwN_isWall : kN_isWall ∈ WD := wd_mem (k := 145) (rfl) rfl
theorem mlN159 : Cond.methodLink R_N 159 yN_inPlan ∈ WD := wd_mem (k := 146) (by decide +kernel) rfl
theorem imN_inPlan : Cond.instanceMethod yN_inPlan ∈ WD := wd_mem (k := 148) (by decide +kernel) rfl
set_option maxRecDepth 20000 in
theorem kwN_inPlan : kN_inPlan ∈ WD := wd_mem (k := 149) (rfl) rfl
theorem mlN90 : Cond.methodLink R_N 90 yN_cellAt ∈ WD := wd_mem (k := 150) (by decide +kernel) rfl
theorem smN_cellAt : Cond.static yN_cellAt ∈ WD := wd_mem (k := 151) (by decide +kernel) rfl
set_option maxRecDepth 20000 in
theorem kwN_cellAt : kN_cellAt ∈ WD := wd_mem (k := 152) (rfl) rfl
theorem mlN137 : Cond.methodLink R_N 137 yN_allPlaces ∈ WD := wd_mem (k := 153) (by decide +kernel) rfl
theorem imN_allPlaces : Cond.instanceMethod yN_allPlaces ∈ WD := wd_mem (k := 155) (by decide +kernel) rfl
set_option maxRecDepth 20000 in
theorem kwN_allPlaces : kN_allPlaces ∈ WD := wd_mem (k := 156) (rfl) rfl
theorem mlN134 : Cond.methodLink R_N 134 yN_dryCell ∈ WD := wd_mem (k := 157) (by decide +kernel) rfl
theorem imN_dryCell : Cond.instanceMethod yN_dryCell ∈ WD := wd_mem (k := 159) (by decide +kernel) rfl
set_option maxRecDepth 20000 in
theorem kwN_dryCell : kN_dryCell ∈ WD := wd_mem (k := 160) (rfl) rfl
theorem mlN129 : Cond.methodLink R_N 129 yN_isDry ∈ WD := wd_mem (k := 161) (by decide +kernel) rfl
theorem imN_isDry : Cond.instanceMethod yN_isDry ∈ WD := wd_mem (k := 163) (by decide +kernel) rfl
set_option maxRecDepth 20000 in
theorem kwN_isDry : kN_isDry ∈ WD := wd_mem (k := 164) (rfl) rfl
theorem mlN141 : Cond.methodLink R_N 141 yI_bitCount ∈ WD := wd_mem (k := 165) (by decide +kernel) rfl
theorem smI_bitCount : Cond.static yI_bitCount ∈ WD := wd_mem (k := 166) (by decide +kernel) rfl
set_option maxRecDepth 20000 in
theorem kwI_bitCount : kI_bitCount ∈ WD := wd_mem (k := 167) (rfl) rfl
theorem con265 : Cond.constant R_I 265 (1431655765) ∈ WD := wd_mem (k := 168) (by decide +kernel) rfl
theorem con266 : Cond.constant R_I 266 (858993459) ∈ WD := wd_mem (k := 169) (by decide +kernel) rfl
theorem con267 : Cond.constant R_I 267 (252645135) ∈ WD := wd_mem (k := 170) (by decide +kernel) rfl
theorem mlL54 : Cond.methodLink R_L 54 yL_cell ∈ WD := wd_mem (k := 171) (by decide +kernel) rfl
theorem smL_cell : Cond.static yL_cell ∈ WD := wd_mem (k := 172) (by decide +kernel) rfl
set_option maxRecDepth 20000 in
theorem kwL_cell : kL_cell ∈ WD := wd_mem (k := 173) (rfl) rfl
theorem mlL66 : Cond.methodLink R_L 66 yL_wall ∈ WD := wd_mem (k := 174) (by decide +kernel) rfl
theorem smL_wall : Cond.static yL_wall ∈ WD := wd_mem (k := 175) (by decide +kernel) rfl
set_option maxRecDepth 20000 in
theorem kwL_wall : kL_wall ∈ WD := wd_mem (k := 176) (rfl) rfl
theorem clL13 : Cond.classLink R_L 13 "java/lang/IllegalArgumentException" ∈ WD := wd_mem (k := 177) (by decide +kernel) rfl
theorem mlL7 : Cond.methodLink R_L 7 yN_wall ∈ WD := wd_mem (k := 178) (by decide +kernel) rfl
theorem imN_wall : Cond.instanceMethod yN_wall ∈ WD := wd_mem (k := 179) (by decide +kernel) rfl
theorem selN_wall : Cond.selects R_N yN_wall yN_wall ∈ WD := wd_mem (k := 180) (by decide +kernel) rfl
set_option maxRecDepth 20000 in
theorem kwN_wall : kN_wall ∈ WD := wd_mem (k := 181) (rfl) rfl
theorem mlN82 : Cond.methodLink R_N 82 yN_needCell ∈ WD := wd_mem (k := 182) (by decide +kernel) rfl
theorem imN_needCell : Cond.instanceMethod yN_needCell ∈ WD := wd_mem (k := 184) (by decide +kernel) rfl
set_option maxRecDepth 20000 in
theorem kwN_needCell : kN_needCell ∈ WD := wd_mem (k := 185) (rfl) rfl
theorem clN93 : Cond.classLink R_N 93 "java/lang/IllegalArgumentException" ∈ WD := wd_mem (k := 186) (by decide +kernel) rfl
theorem mlL74 : Cond.methodLink R_L 74 yL_reach ∈ WD := wd_mem (k := 253) (by decide +kernel) rfl
theorem smL_reach : Cond.static yL_reach ∈ WD := wd_mem (k := 254) (by decide +kernel) rfl
set_option maxRecDepth 20000 in
theorem kwL_reach : kL_reach ∈ WD := wd_mem (k := 255) (rfl) rfl
theorem mlL15 : Cond.methodLink R_L 15 yN_reach ∈ WD := wd_mem (k := 256) (by decide +kernel) rfl
theorem imN_reach : Cond.instanceMethod yN_reach ∈ WD := wd_mem (k := 257) (by decide +kernel) rfl
theorem selN_reach : Cond.selects R_N yN_reach yN_reach ∈ WD := wd_mem (k := 258) (by decide +kernel) rfl
set_option maxRecDepth 20000 in
theorem kwN_reach : kN_reach ∈ WD := wd_mem (k := 259) (rfl) rfl
theorem mlL78 : Cond.methodLink R_L 78 yL_place ∈ WD := wd_mem (k := 261) (by decide +kernel) rfl
theorem smL_place : Cond.static yL_place ∈ WD := wd_mem (k := 262) (by decide +kernel) rfl
set_option maxRecDepth 20000 in
theorem kwL_place : kL_place ∈ WD := wd_mem (k := 263) (rfl) rfl
theorem clL23 : Cond.classLink R_L 23 "java/lang/IllegalStateException" ∈ WD := wd_mem (k := 264) (by decide +kernel) rfl
theorem mlL19 : Cond.methodLink R_L 19 yN_place ∈ WD := wd_mem (k := 265) (by decide +kernel) rfl
theorem imN_place : Cond.instanceMethod yN_place ∈ WD := wd_mem (k := 266) (by decide +kernel) rfl
theorem selN_place : Cond.selects R_N yN_place yN_place ∈ WD := wd_mem (k := 267) (by decide +kernel) rfl
set_option maxRecDepth 20000 in
theorem kwN_place : kN_place ∈ WD := wd_mem (k := 268) (rfl) rfl
theorem clN100 : Cond.classLink R_N 100 "java/lang/IllegalStateException" ∈ WD := wd_mem (k := 269) (by decide +kernel) rfl
theorem mlN105 : Cond.methodLink R_N 105 yN_isPlace ∈ WD := wd_mem (k := 285) (by decide +kernel) rfl
theorem imN_isPlace : Cond.instanceMethod yN_isPlace ∈ WD := wd_mem (k := 287) (by decide +kernel) rfl
set_option maxRecDepth 20000 in
theorem kwN_isPlace : kN_isPlace ∈ WD := wd_mem (k := 288) (rfl) rfl
theorem mlL82 : Cond.methodLink R_L 82 yL_seen ∈ WD := wd_mem (k := 291) (by decide +kernel) rfl
theorem smL_seen : Cond.static yL_seen ∈ WD := wd_mem (k := 292) (by decide +kernel) rfl
set_option maxRecDepth 20000 in
theorem kwL_seen : kL_seen ∈ WD := wd_mem (k := 293) (rfl) rfl
theorem mlL25 : Cond.methodLink R_L 25 yN_seen ∈ WD := wd_mem (k := 294) (by decide +kernel) rfl
theorem imN_seen : Cond.instanceMethod yN_seen ∈ WD := wd_mem (k := 295) (by decide +kernel) rfl
theorem selN_seen : Cond.selects R_N yN_seen yN_seen ∈ WD := wd_mem (k := 296) (by decide +kernel) rfl
set_option maxRecDepth 20000 in
theorem kwN_seen : kN_seen ∈ WD := wd_mem (k := 297) (rfl) rfl
theorem mlL86 : Cond.methodLink R_L 86 yL_reached ∈ WD := wd_mem (k := 298) (by decide +kernel) rfl
theorem smL_reached : Cond.static yL_reached ∈ WD := wd_mem (k := 299) (by decide +kernel) rfl
set_option maxRecDepth 20000 in
theorem kwL_reached : kL_reached ∈ WD := wd_mem (k := 300) (rfl) rfl
theorem mlL29 : Cond.methodLink R_L 29 yN_reached ∈ WD := wd_mem (k := 301) (by decide +kernel) rfl
theorem imN_reached : Cond.instanceMethod yN_reached ∈ WD := wd_mem (k := 302) (by decide +kernel) rfl
theorem selN_reached : Cond.selects R_N yN_reached yN_reached ∈ WD := wd_mem (k := 303) (by decide +kernel) rfl
set_option maxRecDepth 20000 in
theorem kwN_reached : kN_reached ∈ WD := wd_mem (k := 304) (rfl) rfl
theorem mlN116 : Cond.methodLink R_N 116 yN_needPlace ∈ WD := wd_mem (k := 305) (by decide +kernel) rfl
theorem imN_needPlace : Cond.instanceMethod yN_needPlace ∈ WD := wd_mem (k := 307) (by decide +kernel) rfl
set_option maxRecDepth 20000 in
theorem kwN_needPlace : kN_needPlace ∈ WD := wd_mem (k := 308) (rfl) rfl
theorem mlN123 : Cond.methodLink R_N 123 yN_holds ∈ WD := wd_mem (k := 310) (by decide +kernel) rfl
theorem smN_holds : Cond.static yN_holds ∈ WD := wd_mem (k := 311) (by decide +kernel) rfl
set_option maxRecDepth 20000 in
theorem kwN_holds : kN_holds ∈ WD := wd_mem (k := 312) (rfl) rfl
theorem mlL89 : Cond.methodLink R_L 89 yL_left ∈ WD := wd_mem (k := 313) (by decide +kernel) rfl
theorem smL_left : Cond.static yL_left ∈ WD := wd_mem (k := 314) (by decide +kernel) rfl
set_option maxRecDepth 20000 in
theorem kwL_left : kL_left ∈ WD := wd_mem (k := 315) (rfl) rfl
theorem mlL32 : Cond.methodLink R_L 32 yN_left ∈ WD := wd_mem (k := 316) (by decide +kernel) rfl
theorem imN_left : Cond.instanceMethod yN_left ∈ WD := wd_mem (k := 317) (by decide +kernel) rfl
theorem selN_left : Cond.selects R_N yN_left yN_left ∈ WD := wd_mem (k := 318) (by decide +kernel) rfl
set_option maxRecDepth 20000 in
theorem kwN_left : kN_left ∈ WD := wd_mem (k := 319) (rfl) rfl
theorem mlN126 : Cond.methodLink R_N 126 yN_needSet ∈ WD := wd_mem (k := 320) (by decide +kernel) rfl
theorem imN_needSet : Cond.instanceMethod yN_needSet ∈ WD := wd_mem (k := 322) (by decide +kernel) rfl
set_option maxRecDepth 20000 in
theorem kwN_needSet : kN_needSet ∈ WD := wd_mem (k := 323) (rfl) rfl
theorem mlL92 : Cond.methodLink R_L 92 yL_dry ∈ WD := wd_mem (k := 325) (by decide +kernel) rfl
theorem smL_dry : Cond.static yL_dry ∈ WD := wd_mem (k := 326) (by decide +kernel) rfl
set_option maxRecDepth 20000 in
theorem kwL_dry : kL_dry ∈ WD := wd_mem (k := 327) (rfl) rfl
theorem mlL35 : Cond.methodLink R_L 35 yN_dry ∈ WD := wd_mem (k := 328) (by decide +kernel) rfl
theorem imN_dry : Cond.instanceMethod yN_dry ∈ WD := wd_mem (k := 329) (by decide +kernel) rfl
theorem selN_dry : Cond.selects R_N yN_dry yN_dry ∈ WD := wd_mem (k := 330) (by decide +kernel) rfl
set_option maxRecDepth 20000 in
theorem kwN_dry : kN_dry ∈ WD := wd_mem (k := 331) (rfl) rfl
theorem mlL99 : Cond.methodLink R_L 99 yL_size ∈ WD := wd_mem (k := 333) (by decide +kernel) rfl
theorem smL_size : Cond.static yL_size ∈ WD := wd_mem (k := 334) (by decide +kernel) rfl
set_option maxRecDepth 20000 in
theorem kwL_size : kL_size ∈ WD := wd_mem (k := 335) (rfl) rfl
theorem mlL38 : Cond.methodLink R_L 38 yN_size ∈ WD := wd_mem (k := 336) (by decide +kernel) rfl
theorem imN_size : Cond.instanceMethod yN_size ∈ WD := wd_mem (k := 337) (by decide +kernel) rfl
theorem selN_size : Cond.selects R_N yN_size yN_size ∈ WD := wd_mem (k := 338) (by decide +kernel) rfl
set_option maxRecDepth 20000 in
theorem kwN_size : kN_size ∈ WD := wd_mem (k := 339) (rfl) rfl
theorem mlL102 : Cond.methodLink R_L 102 yL_pipes ∈ WD := wd_mem (k := 342) (by decide +kernel) rfl
theorem smL_pipes : Cond.static yL_pipes ∈ WD := wd_mem (k := 343) (by decide +kernel) rfl
set_option maxRecDepth 20000 in
theorem kwL_pipes : kL_pipes ∈ WD := wd_mem (k := 344) (rfl) rfl
theorem mlL41 : Cond.methodLink R_L 41 yN_pipes ∈ WD := wd_mem (k := 345) (by decide +kernel) rfl
theorem imN_pipes : Cond.instanceMethod yN_pipes ∈ WD := wd_mem (k := 346) (by decide +kernel) rfl
theorem selN_pipes : Cond.selects R_N yN_pipes yN_pipes ∈ WD := wd_mem (k := 347) (by decide +kernel) rfl
set_option maxRecDepth 20000 in
theorem kwN_pipes : kN_pipes ∈ WD := wd_mem (k := 348) (rfl) rfl
theorem mlN151 : Cond.methodLink R_N 151 yN_layPipes ∈ WD := wd_mem (k := 349) (by decide +kernel) rfl
theorem imN_layPipes : Cond.instanceMethod yN_layPipes ∈ WD := wd_mem (k := 351) (by decide +kernel) rfl
set_option maxRecDepth 20000 in
theorem kwN_layPipes : kN_layPipes ∈ WD := wd_mem (k := 352) (rfl) rfl
theorem mlN178 : Cond.methodLink R_N 178 yN_joinPlaces ∈ WD := wd_mem (k := 353) (by decide +kernel) rfl
theorem imN_joinPlaces : Cond.instanceMethod yN_joinPlaces ∈ WD := wd_mem (k := 355) (by decide +kernel) rfl
set_option maxRecDepth 20000 in
theorem kwN_joinPlaces : kN_joinPlaces ∈ WD := wd_mem (k := 356) (rfl) rfl
theorem mlN187 : Cond.methodLink R_N 187 yN_nearestOf ∈ WD := wd_mem (k := 357) (by decide +kernel) rfl
theorem imN_nearestOf : Cond.instanceMethod yN_nearestOf ∈ WD := wd_mem (k := 359) (by decide +kernel) rfl
set_option maxRecDepth 20000 in
theorem kwN_nearestOf : kN_nearestOf ∈ WD := wd_mem (k := 360) (rfl) rfl
theorem mlN190 : Cond.methodLink R_N 190 yN_offerUpper ∈ WD := wd_mem (k := 361) (by decide +kernel) rfl
theorem imN_offerUpper : Cond.instanceMethod yN_offerUpper ∈ WD := wd_mem (k := 363) (by decide +kernel) rfl
set_option maxRecDepth 20000 in
theorem kwN_offerUpper : kN_offerUpper ∈ WD := wd_mem (k := 364) (rfl) rfl
theorem mlN181 : Cond.methodLink R_N 181 yN_countHeads ∈ WD := wd_mem (k := 365) (by decide +kernel) rfl
theorem imN_countHeads : Cond.instanceMethod yN_countHeads ∈ WD := wd_mem (k := 367) (by decide +kernel) rfl
set_option maxRecDepth 20000 in
theorem kwN_countHeads : kN_countHeads ∈ WD := wd_mem (k := 368) (rfl) rfl
theorem mlN184 : Cond.methodLink R_N 184 yN_addLacks ∈ WD := wd_mem (k := 369) (by decide +kernel) rfl
theorem imN_addLacks : Cond.instanceMethod yN_addLacks ∈ WD := wd_mem (k := 371) (by decide +kernel) rfl
set_option maxRecDepth 20000 in
theorem kwN_addLacks : kN_addLacks ∈ WD := wd_mem (k := 372) (rfl) rfl
theorem mlN156 : Cond.methodLink R_N 156 yN_lossFor ∈ WD := wd_mem (k := 373) (by decide +kernel) rfl
theorem imN_lossFor : Cond.instanceMethod yN_lossFor ∈ WD := wd_mem (k := 375) (by decide +kernel) rfl
set_option maxRecDepth 20000 in
theorem kwN_lossFor : kN_lossFor ∈ WD := wd_mem (k := 376) (rfl) rfl
theorem mlL105 : Cond.methodLink R_L 105 yL_pipe ∈ WD := wd_mem (k := 377) (by decide +kernel) rfl
theorem smL_pipe : Cond.static yL_pipe ∈ WD := wd_mem (k := 378) (by decide +kernel) rfl
set_option maxRecDepth 20000 in
theorem kwL_pipe : kL_pipe ∈ WD := wd_mem (k := 379) (rfl) rfl
theorem mlL44 : Cond.methodLink R_L 44 yN_pipe ∈ WD := wd_mem (k := 380) (by decide +kernel) rfl
theorem imN_pipe : Cond.instanceMethod yN_pipe ∈ WD := wd_mem (k := 381) (by decide +kernel) rfl
theorem selN_pipe : Cond.selects R_N yN_pipe yN_pipe ∈ WD := wd_mem (k := 382) (by decide +kernel) rfl
set_option maxRecDepth 20000 in
theorem kwN_pipe : kN_pipe ∈ WD := wd_mem (k := 383) (rfl) rfl
theorem mlL109 : Cond.methodLink R_L 109 yL_lacks ∈ WD := wd_mem (k := 385) (by decide +kernel) rfl
theorem smL_lacks : Cond.static yL_lacks ∈ WD := wd_mem (k := 386) (by decide +kernel) rfl
set_option maxRecDepth 20000 in
theorem kwL_lacks : kL_lacks ∈ WD := wd_mem (k := 387) (rfl) rfl
theorem mlL48 : Cond.methodLink R_L 48 yN_lacks ∈ WD := wd_mem (k := 388) (by decide +kernel) rfl
theorem imN_lacks : Cond.instanceMethod yN_lacks ∈ WD := wd_mem (k := 389) (by decide +kernel) rfl
theorem selN_lacks : Cond.selects R_N yN_lacks yN_lacks ∈ WD := wd_mem (k := 390) (by decide +kernel) rfl
set_option maxRecDepth 20000 in
theorem kwN_lacks : kN_lacks ∈ WD := wd_mem (k := 391) (rfl) rfl
theorem mlL112 : Cond.methodLink R_L 112 yL_worst ∈ WD := wd_mem (k := 392) (by decide +kernel) rfl
theorem smL_worst : Cond.static yL_worst ∈ WD := wd_mem (k := 393) (by decide +kernel) rfl
set_option maxRecDepth 20000 in
theorem kwL_worst : kL_worst ∈ WD := wd_mem (k := 394) (rfl) rfl
theorem mlL51 : Cond.methodLink R_L 51 yN_worst ∈ WD := wd_mem (k := 395) (by decide +kernel) rfl
theorem imN_worst : Cond.instanceMethod yN_worst ∈ WD := wd_mem (k := 396) (by decide +kernel) rfl
theorem selN_worst : Cond.selects R_N yN_worst yN_worst ∈ WD := wd_mem (k := 397) (by decide +kernel) rfl
set_option maxRecDepth 20000 in
theorem kwN_worst : kN_worst ∈ WD := wd_mem (k := 398) (rfl) rfl
theorem clL63 : Cond.classLink R_L 63 R_M ∈ WD := wd_mem (k := 399) (by decide +kernel) rfl
theorem insM : Cond.instantiable R_M 16 ∈ WD := wd_mem (k := 400) (by decide +kernel) rfl
theorem mlL65 : Cond.methodLink R_L 65 yM_init ∈ WD := wd_mem (k := 401) (by decide +kernel) rfl
theorem imM_init : Cond.instanceMethod yM_init ∈ WD := wd_mem (k := 402) (by decide +kernel) rfl
set_option maxRecDepth 20000 in
theorem kwM_init : kM_init ∈ WD := wd_mem (k := 403) (rfl) rfl
theorem mlM1 : Cond.methodLink R_M 1 objectInit ∈ WD := wd_mem (k := 404) (by decide +kernel) rfl
theorem flM51 : Cond.fieldLink R_M 51 "SprinkleNetsModel" "code" "I" ∈ WD := wd_mem (k := 405) (by decide +kernel) rfl
theorem flM45 : Cond.fieldLink R_M 45 "SprinkleNetsModel" "wide" "I" ∈ WD := wd_mem (k := 406) (by decide +kernel) rfl
theorem flM48 : Cond.fieldLink R_M 48 "SprinkleNetsModel" "tall" "I" ∈ WD := wd_mem (k := 407) (by decide +kernel) rfl
theorem flM7 : Cond.fieldLink R_M 7 "SprinkleNetsModel" "wall" "[Z" ∈ WD := wd_mem (k := 408) (by decide +kernel) rfl
theorem flM13 : Cond.fieldLink R_M 13 "SprinkleNetsModel" "reach" "I" ∈ WD := wd_mem (k := 409) (by decide +kernel) rfl
theorem flM54 : Cond.fieldLink R_M 54 "SprinkleNetsModel" "places" "I" ∈ WD := wd_mem (k := 410) (by decide +kernel) rfl
theorem flM17 : Cond.fieldLink R_M 17 "SprinkleNetsModel" "px" "[I" ∈ WD := wd_mem (k := 411) (by decide +kernel) rfl
theorem flM21 : Cond.fieldLink R_M 21 "SprinkleNetsModel" "py" "[I" ∈ WD := wd_mem (k := 412) (by decide +kernel) rfl
theorem flM24 : Cond.fieldLink R_M 24 "SprinkleNetsModel" "loss" "[I" ∈ WD := wd_mem (k := 413) (by decide +kernel) rfl
theorem flM27 : Cond.fieldLink R_M 27 "SprinkleNetsModel" "reached" "[I" ∈ WD := wd_mem (k := 414) (by decide +kernel) rfl
theorem flM107 : Cond.fieldLink R_M 107 "SprinkleNetsModel" "joined" "I" ∈ WD := wd_mem (k := 415) (by decide +kernel) rfl
theorem flM30 : Cond.fieldLink R_M 30 "SprinkleNetsModel" "order" "[I" ∈ WD := wd_mem (k := 416) (by decide +kernel) rfl
theorem flM33 : Cond.fieldLink R_M 33 "SprinkleNetsModel" "upper" "[I" ∈ WD := wd_mem (k := 417) (by decide +kernel) rfl
theorem flM36 : Cond.fieldLink R_M 36 "SprinkleNetsModel" "length" "[I" ∈ WD := wd_mem (k := 418) (by decide +kernel) rfl
theorem flM39 : Cond.fieldLink R_M 39 "SprinkleNetsModel" "heads" "[I" ∈ WD := wd_mem (k := 419) (by decide +kernel) rfl
theorem flM42 : Cond.fieldLink R_M 42 "SprinkleNetsModel" "turn" "[I" ∈ WD := wd_mem (k := 420) (by decide +kernel) rfl
theorem mlL70 : Cond.methodLink R_L 70 yM_thrown ∈ WD := wd_mem (k := 454) (by decide +kernel) rfl
theorem imM_thrown : Cond.instanceMethod yM_thrown ∈ WD := wd_mem (k := 455) (by decide +kernel) rfl
theorem selM_thrown : Cond.selects R_M yM_thrown yM_thrown ∈ WD := wd_mem (k := 456) (by decide +kernel) rfl
set_option maxRecDepth 20000 in
theorem kwM_thrown : kM_thrown ∈ WD := wd_mem (k := 457) (rfl) rfl
theorem mlL69 : Cond.methodLink R_L 69 yM_wall ∈ WD := wd_mem (k := 458) (by decide +kernel) rfl
theorem imM_wall : Cond.instanceMethod yM_wall ∈ WD := wd_mem (k := 459) (by decide +kernel) rfl
theorem selM_wall : Cond.selects R_M yM_wall yM_wall ∈ WD := wd_mem (k := 460) (by decide +kernel) rfl
set_option maxRecDepth 20000 in
theorem kwM_wall : kM_wall ∈ WD := wd_mem (k := 461) (rfl) rfl
theorem mlM57 : Cond.methodLink R_M 57 yM_isCell ∈ WD := wd_mem (k := 462) (by decide +kernel) rfl
theorem imM_isCell : Cond.instanceMethod yM_isCell ∈ WD := wd_mem (k := 464) (by decide +kernel) rfl
set_option maxRecDepth 20000 in
theorem kwM_isCell : kM_isCell ∈ WD := wd_mem (k := 465) (rfl) rfl
theorem mlL77 : Cond.methodLink R_L 77 yM_reach ∈ WD := wd_mem (k := 466) (by decide +kernel) rfl
theorem imM_reach : Cond.instanceMethod yM_reach ∈ WD := wd_mem (k := 467) (by decide +kernel) rfl
theorem selM_reach : Cond.selects R_M yM_reach yM_reach ∈ WD := wd_mem (k := 468) (by decide +kernel) rfl
set_option maxRecDepth 20000 in
theorem kwM_reach : kM_reach ∈ WD := wd_mem (k := 469) (rfl) rfl
theorem mlL81 : Cond.methodLink R_L 81 yM_place ∈ WD := wd_mem (k := 470) (by decide +kernel) rfl
theorem imM_place : Cond.instanceMethod yM_place ∈ WD := wd_mem (k := 471) (by decide +kernel) rfl
theorem selM_place : Cond.selects R_M yM_place yM_place ∈ WD := wd_mem (k := 472) (by decide +kernel) rfl
set_option maxRecDepth 20000 in
theorem kwM_place : kM_place ∈ WD := wd_mem (k := 473) (rfl) rfl
theorem mlM61 : Cond.methodLink R_M 61 yM_isFree ∈ WD := wd_mem (k := 474) (by decide +kernel) rfl
theorem imM_isFree : Cond.instanceMethod yM_isFree ∈ WD := wd_mem (k := 476) (by decide +kernel) rfl
set_option maxRecDepth 20000 in
theorem kwM_isFree : kM_isFree ∈ WD := wd_mem (k := 477) (rfl) rfl
theorem mlL85 : Cond.methodLink R_L 85 yM_seen ∈ WD := wd_mem (k := 478) (by decide +kernel) rfl
theorem imM_seen : Cond.instanceMethod yM_seen ∈ WD := wd_mem (k := 479) (by decide +kernel) rfl
theorem selM_seen : Cond.selects R_M yM_seen yM_seen ∈ WD := wd_mem (k := 480) (by decide +kernel) rfl
set_option maxRecDepth 20000 in
theorem kwM_seen : kM_seen ∈ WD := wd_mem (k := 481) (rfl) rfl
theorem mlM79 : Cond.methodLink R_M 79 yM_sees ∈ WD := wd_mem (k := 482) (by decide +kernel) rfl
theorem imM_sees : Cond.instanceMethod yM_sees ∈ WD := wd_mem (k := 484) (by decide +kernel) rfl
set_option maxRecDepth 20000 in
theorem kwM_sees : kM_sees ∈ WD := wd_mem (k := 485) (rfl) rfl
theorem mlM68 : Cond.methodLink R_M 68 yM_least ∈ WD := wd_mem (k := 486) (by decide +kernel) rfl
theorem smM_least : Cond.static yM_least ∈ WD := wd_mem (k := 487) (by decide +kernel) rfl
set_option maxRecDepth 20000 in
theorem kwM_least : kM_least ∈ WD := wd_mem (k := 488) (rfl) rfl
theorem mlM64 : Cond.methodLink R_M 64 yM_most ∈ WD := wd_mem (k := 489) (by decide +kernel) rfl
theorem smM_most : Cond.static yM_most ∈ WD := wd_mem (k := 490) (by decide +kernel) rfl
set_option maxRecDepth 20000 in
theorem kwM_most : kM_most ∈ WD := wd_mem (k := 491) (rfl) rfl
theorem mlM75 : Cond.methodLink R_M 75 yM_crosses ∈ WD := wd_mem (k := 492) (by decide +kernel) rfl
theorem smM_crosses : Cond.static yM_crosses ∈ WD := wd_mem (k := 493) (by decide +kernel) rfl
set_option maxRecDepth 20000 in
theorem kwM_crosses : kM_crosses ∈ WD := wd_mem (k := 494) (rfl) rfl
theorem mlM71 : Cond.methodLink R_M 71 yM_side ∈ WD := wd_mem (k := 495) (by decide +kernel) rfl
theorem smM_side : Cond.static yM_side ∈ WD := wd_mem (k := 496) (by decide +kernel) rfl
set_option maxRecDepth 20000 in
theorem kwM_side : kM_side ∈ WD := wd_mem (k := 497) (rfl) rfl
theorem mlL88 : Cond.methodLink R_L 88 yM_reached ∈ WD := wd_mem (k := 498) (by decide +kernel) rfl
theorem imM_reached : Cond.instanceMethod yM_reached ∈ WD := wd_mem (k := 499) (by decide +kernel) rfl
theorem selM_reached : Cond.selects R_M yM_reached yM_reached ∈ WD := wd_mem (k := 500) (by decide +kernel) rfl
set_option maxRecDepth 20000 in
theorem kwM_reached : kM_reached ∈ WD := wd_mem (k := 501) (rfl) rfl
theorem mlM87 : Cond.methodLink R_M 87 yM_isPlace ∈ WD := wd_mem (k := 502) (by decide +kernel) rfl
theorem imM_isPlace : Cond.instanceMethod yM_isPlace ∈ WD := wd_mem (k := 504) (by decide +kernel) rfl
set_option maxRecDepth 20000 in
theorem kwM_isPlace : kM_isPlace ∈ WD := wd_mem (k := 505) (rfl) rfl
theorem mlM83 : Cond.methodLink R_M 83 yM_isReached ∈ WD := wd_mem (k := 506) (by decide +kernel) rfl
theorem imM_isReached : Cond.instanceMethod yM_isReached ∈ WD := wd_mem (k := 508) (by decide +kernel) rfl
set_option maxRecDepth 20000 in
theorem kwM_isReached : kM_isReached ∈ WD := wd_mem (k := 509) (rfl) rfl
theorem mlL91 : Cond.methodLink R_L 91 yM_left ∈ WD := wd_mem (k := 510) (by decide +kernel) rfl
theorem imM_left : Cond.instanceMethod yM_left ∈ WD := wd_mem (k := 511) (by decide +kernel) rfl
theorem selM_left : Cond.selects R_M yM_left yM_left ∈ WD := wd_mem (k := 512) (by decide +kernel) rfl
set_option maxRecDepth 20000 in
theorem kwM_left : kM_left ∈ WD := wd_mem (k := 513) (rfl) rfl
theorem mlM91 : Cond.methodLink R_M 91 yM_isSet ∈ WD := wd_mem (k := 514) (by decide +kernel) rfl
theorem imM_isSet : Cond.instanceMethod yM_isSet ∈ WD := wd_mem (k := 516) (by decide +kernel) rfl
set_option maxRecDepth 20000 in
theorem kwM_isSet : kM_isSet ∈ WD := wd_mem (k := 517) (rfl) rfl
theorem mlM94 : Cond.methodLink R_M 94 yM_findReached ∈ WD := wd_mem (k := 518) (by decide +kernel) rfl
theorem imM_findReached : Cond.instanceMethod yM_findReached ∈ WD := wd_mem (k := 520) (by decide +kernel) rfl
set_option maxRecDepth 20000 in
theorem kwM_findReached : kM_findReached ∈ WD := wd_mem (k := 521) (rfl) rfl
theorem mlM97 : Cond.methodLink R_M 97 yM_dryCells ∈ WD := wd_mem (k := 522) (by decide +kernel) rfl
theorem imM_dryCells : Cond.instanceMethod yM_dryCells ∈ WD := wd_mem (k := 524) (by decide +kernel) rfl
set_option maxRecDepth 20000 in
theorem kwM_dryCells : kM_dryCells ∈ WD := wd_mem (k := 525) (rfl) rfl
theorem mlL94 : Cond.methodLink R_L 94 yM_dry ∈ WD := wd_mem (k := 526) (by decide +kernel) rfl
theorem imM_dry : Cond.instanceMethod yM_dry ∈ WD := wd_mem (k := 527) (by decide +kernel) rfl
theorem selM_dry : Cond.selects R_M yM_dry yM_dry ∈ WD := wd_mem (k := 528) (by decide +kernel) rfl
set_option maxRecDepth 20000 in
theorem kwM_dry : kM_dry ∈ WD := wd_mem (k := 529) (rfl) rfl
theorem mlL98 : Cond.methodLink R_L 98 yM_best ∈ WD := wd_mem (k := 530) (by decide +kernel) rfl
theorem imM_best : Cond.instanceMethod yM_best ∈ WD := wd_mem (k := 531) (by decide +kernel) rfl
theorem selM_best : Cond.selects R_M yM_best yM_best ∈ WD := wd_mem (k := 532) (by decide +kernel) rfl
set_option maxRecDepth 20000 in
theorem kwM_best : kM_best ∈ WD := wd_mem (k := 533) (rfl) rfl
theorem mlM101 : Cond.methodLink R_M 101 yM_ones ∈ WD := wd_mem (k := 534) (by decide +kernel) rfl
theorem smM_ones : Cond.static yM_ones ∈ WD := wd_mem (k := 535) (by decide +kernel) rfl
set_option maxRecDepth 20000 in
theorem kwM_ones : kM_ones ∈ WD := wd_mem (k := 536) (rfl) rfl
theorem mlL101 : Cond.methodLink R_L 101 yM_size ∈ WD := wd_mem (k := 537) (by decide +kernel) rfl
theorem imM_size : Cond.instanceMethod yM_size ∈ WD := wd_mem (k := 538) (by decide +kernel) rfl
theorem selM_size : Cond.selects R_M yM_size yM_size ∈ WD := wd_mem (k := 539) (by decide +kernel) rfl
set_option maxRecDepth 20000 in
theorem kwM_size : kM_size ∈ WD := wd_mem (k := 540) (rfl) rfl
theorem mlL104 : Cond.methodLink R_L 104 yM_pipes ∈ WD := wd_mem (k := 541) (by decide +kernel) rfl
theorem imM_pipes : Cond.instanceMethod yM_pipes ∈ WD := wd_mem (k := 542) (by decide +kernel) rfl
theorem selM_pipes : Cond.selects R_M yM_pipes yM_pipes ∈ WD := wd_mem (k := 543) (by decide +kernel) rfl
set_option maxRecDepth 20000 in
theorem kwM_pipes : kM_pipes ∈ WD := wd_mem (k := 544) (rfl) rfl
theorem mlM113 : Cond.methodLink R_M 113 yM_join ∈ WD := wd_mem (k := 545) (by decide +kernel) rfl
theorem imM_join : Cond.instanceMethod yM_join ∈ WD := wd_mem (k := 547) (by decide +kernel) rfl
set_option maxRecDepth 20000 in
theorem kwM_join : kM_join ∈ WD := wd_mem (k := 548) (rfl) rfl
theorem mlM110 : Cond.methodLink R_M 110 yM_far ∈ WD := wd_mem (k := 549) (by decide +kernel) rfl
theorem imM_far : Cond.instanceMethod yM_far ∈ WD := wd_mem (k := 551) (by decide +kernel) rfl
set_option maxRecDepth 20000 in
theorem kwM_far : kM_far ∈ WD := wd_mem (k := 552) (rfl) rfl
theorem mlM104 : Cond.methodLink R_M 104 yM_plain ∈ WD := wd_mem (k := 553) (by decide +kernel) rfl
theorem smM_plain : Cond.static yM_plain ∈ WD := wd_mem (k := 554) (by decide +kernel) rfl
set_option maxRecDepth 20000 in
theorem kwM_plain : kM_plain ∈ WD := wd_mem (k := 555) (rfl) rfl
theorem mlL108 : Cond.methodLink R_L 108 yM_pipe ∈ WD := wd_mem (k := 556) (by decide +kernel) rfl
theorem imM_pipe : Cond.instanceMethod yM_pipe ∈ WD := wd_mem (k := 557) (by decide +kernel) rfl
theorem selM_pipe : Cond.selects R_M yM_pipe yM_pipe ∈ WD := wd_mem (k := 558) (by decide +kernel) rfl
set_option maxRecDepth 20000 in
theorem kwM_pipe : kM_pipe ∈ WD := wd_mem (k := 559) (rfl) rfl
theorem mlM117 : Cond.methodLink R_M 117 yM_isIn ∈ WD := wd_mem (k := 560) (by decide +kernel) rfl
theorem imM_isIn : Cond.instanceMethod yM_isIn ∈ WD := wd_mem (k := 562) (by decide +kernel) rfl
set_option maxRecDepth 20000 in
theorem kwM_isIn : kM_isIn ∈ WD := wd_mem (k := 563) (rfl) rfl
theorem mlM120 : Cond.methodLink R_M 120 yM_lossOf ∈ WD := wd_mem (k := 564) (by decide +kernel) rfl
theorem imM_lossOf : Cond.instanceMethod yM_lossOf ∈ WD := wd_mem (k := 566) (by decide +kernel) rfl
set_option maxRecDepth 20000 in
theorem kwM_lossOf : kM_lossOf ∈ WD := wd_mem (k := 567) (rfl) rfl
theorem mlL111 : Cond.methodLink R_L 111 yM_lacks ∈ WD := wd_mem (k := 568) (by decide +kernel) rfl
theorem imM_lacks : Cond.instanceMethod yM_lacks ∈ WD := wd_mem (k := 569) (by decide +kernel) rfl
theorem selM_lacks : Cond.selects R_M yM_lacks yM_lacks ∈ WD := wd_mem (k := 570) (by decide +kernel) rfl
set_option maxRecDepth 20000 in
theorem kwM_lacks : kM_lacks ∈ WD := wd_mem (k := 571) (rfl) rfl
theorem mlM123 : Cond.methodLink R_M 123 yM_lost ∈ WD := wd_mem (k := 572) (by decide +kernel) rfl
theorem imM_lost : Cond.instanceMethod yM_lost ∈ WD := wd_mem (k := 574) (by decide +kernel) rfl
set_option maxRecDepth 20000 in
theorem kwM_lost : kM_lost ∈ WD := wd_mem (k := 575) (rfl) rfl
theorem mlL114 : Cond.methodLink R_L 114 yM_worst ∈ WD := wd_mem (k := 576) (by decide +kernel) rfl
theorem imM_worst : Cond.instanceMethod yM_worst ∈ WD := wd_mem (k := 577) (by decide +kernel) rfl
theorem selM_worst : Cond.selects R_M yM_worst yM_worst ∈ WD := wd_mem (k := 578) (by decide +kernel) rfl
set_option maxRecDepth 20000 in
theorem kwM_worst : kM_worst ∈ WD := wd_mem (k := 579) (rfl) rfl
theorem ac_long : Cond.arrayClass .long ∈ WD := wd_mem (k := 580) (by decide +kernel) rfl
theorem gN52 : GoodIn WD (va_wsS R_N 52 yA_fill (kA_fill :: WD)) := wd_call kwA_fill (wd_c mlN52 (wd_c smA_fill (wd_c iniA wd_n)))
theorem gN82 : GoodIn WD (wsV R_N 82 R_N yN_needCell (kN_needCell :: WD)) := wd_call kwN_needCell (wd_c mlN82 (wd_c imN_needCell (wd_c selN_needCell (wd_c iniN wd_n))))
theorem gN86 : GoodIn WD (wsV R_N 86 R_N yN_isWall (kN_isWall :: WD)) := wd_call kwN_isWall (wd_c mlN86 (wd_c imN_isWall (wd_c selN_isWall (wd_c iniN wd_n))))
theorem gN90 : GoodIn WD (va_wsS R_N 90 yN_cellAt (kN_cellAt :: WD)) := wd_call kwN_cellAt (wd_c mlN90 (wd_c smN_cellAt (wd_c iniN wd_n)))
theorem gN105 : GoodIn WD (wsV R_N 105 R_N yN_isPlace (kN_isPlace :: WD)) := wd_call kwN_isPlace (wd_c mlN105 (wd_c imN_isPlace (wd_c selN_isPlace (wd_c iniN wd_n))))
theorem gN112 : GoodIn WD (wsV R_N 112 R_N yN_lineIsFree (kN_lineIsFree :: WD)) := wd_call kwN_lineIsFree (wd_c mlN112 (wd_c imN_lineIsFree (wd_c selN_lineIsFree (wd_c iniN wd_n))))
theorem gN116 : GoodIn WD (wsV R_N 116 R_N yN_needPlace (kN_needPlace :: WD)) := wd_call kwN_needPlace (wd_c mlN116 (wd_c imN_needPlace (wd_c selN_needPlace (wd_c iniN wd_n))))
theorem gN120 : GoodIn WD (wsV R_N 120 R_N yN_findReachers (kN_findReachers :: WD)) := wd_call kwN_findReachers (wd_c mlN120 (wd_c imN_findReachers (wd_c selN_findReachers (wd_c iniN wd_n))))
theorem gN123 : GoodIn WD (va_wsS R_N 123 yN_holds (kN_holds :: WD)) := wd_call kwN_holds (wd_c mlN123 (wd_c smN_holds (wd_c iniN wd_n)))
theorem gN126 : GoodIn WD (wsV R_N 126 R_N yN_needSet (kN_needSet :: WD)) := wd_call kwN_needSet (wd_c mlN126 (wd_c imN_needSet (wd_c selN_needSet (wd_c iniN wd_n))))
theorem gN129 : GoodIn WD (wsV R_N 129 R_N yN_isDry (kN_isDry :: WD)) := wd_call kwN_isDry (wd_c mlN129 (wd_c imN_isDry (wd_c selN_isDry (wd_c iniN wd_n))))
theorem gN134 : GoodIn WD (wsV R_N 134 R_N yN_dryCell (kN_dryCell :: WD)) := wd_call kwN_dryCell (wd_c mlN134 (wd_c imN_dryCell (wd_c selN_dryCell (wd_c iniN wd_n))))
theorem gN137 : GoodIn WD (wsV R_N 137 R_N yN_allPlaces (kN_allPlaces :: WD)) := wd_call kwN_allPlaces (wd_c mlN137 (wd_c imN_allPlaces (wd_c selN_allPlaces (wd_c iniN wd_n))))
theorem gN141 : GoodIn WD (va_wsS R_N 141 yI_bitCount (kI_bitCount :: WD)) := wd_call kwI_bitCount (wd_c mlN141 (wd_c smI_bitCount (wd_c iniI wd_n)))
theorem gN151 : GoodIn WD (wsV R_N 151 R_N yN_layPipes (kN_layPipes :: WD)) := wd_call kwN_layPipes (wd_c mlN151 (wd_c imN_layPipes (wd_c selN_layPipes (wd_c iniN wd_n))))
theorem gN156 : GoodIn WD (wsV R_N 156 R_N yN_lossFor (kN_lossFor :: WD)) := wd_call kwN_lossFor (wd_c mlN156 (wd_c imN_lossFor (wd_c selN_lossFor (wd_c iniN wd_n))))
theorem gN159 : GoodIn WD (wsV R_N 159 R_N yN_inPlan (kN_inPlan :: WD)) := wd_call kwN_inPlan (wd_c mlN159 (wd_c imN_inPlan (wd_c selN_inPlan (wd_c iniN wd_n))))
theorem gN171 : GoodIn WD (wsV R_N 171 R_N yN_addReacher (kN_addReacher :: WD)) := wd_call kwN_addReacher (wd_c mlN171 (wd_c imN_addReacher (wd_c selN_addReacher (wd_c iniN wd_n))))
theorem gN175 : GoodIn WD (wsV R_N 175 R_N yN_isNear (kN_isNear :: WD)) := wd_call kwN_isNear (wd_c mlN175 (wd_c imN_isNear (wd_c selN_isNear (wd_c iniN wd_n))))
theorem gN178 : GoodIn WD (wsV R_N 178 R_N yN_joinPlaces (kN_joinPlaces :: WD)) := wd_call kwN_joinPlaces (wd_c mlN178 (wd_c imN_joinPlaces (wd_c selN_joinPlaces (wd_c iniN wd_n))))
theorem gN181 : GoodIn WD (wsV R_N 181 R_N yN_countHeads (kN_countHeads :: WD)) := wd_call kwN_countHeads (wd_c mlN181 (wd_c imN_countHeads (wd_c selN_countHeads (wd_c iniN wd_n))))
theorem gN184 : GoodIn WD (wsV R_N 184 R_N yN_addLacks (kN_addLacks :: WD)) := wd_call kwN_addLacks (wd_c mlN184 (wd_c imN_addLacks (wd_c selN_addLacks (wd_c iniN wd_n))))
theorem gN187 : GoodIn WD (wsV R_N 187 R_N yN_nearestOf (kN_nearestOf :: WD)) := wd_call kwN_nearestOf (wd_c mlN187 (wd_c imN_nearestOf (wd_c selN_nearestOf (wd_c iniN wd_n))))
theorem gN190 : GoodIn WD (wsV R_N 190 R_N yN_offerUpper (kN_offerUpper :: WD)) := wd_call kwN_offerUpper (wd_c mlN190 (wd_c imN_offerUpper (wd_c selN_offerUpper (wd_c iniN wd_n))))
theorem gL7 : GoodIn WD (wsV R_L 7 R_N yN_wall (kN_wall :: WD)) := wd_call kwN_wall (wd_c mlL7 (wd_c imN_wall (wd_c selN_wall (wd_c iniN wd_n))))
theorem gL15 : GoodIn WD (wsV R_L 15 R_N yN_reach (kN_reach :: WD)) := wd_call kwN_reach (wd_c mlL15 (wd_c imN_reach (wd_c selN_reach (wd_c iniN wd_n))))
theorem gL19 : GoodIn WD (wsV R_L 19 R_N yN_place (kN_place :: WD)) := wd_call kwN_place (wd_c mlL19 (wd_c imN_place (wd_c selN_place (wd_c iniN wd_n))))
theorem gL25 : GoodIn WD (wsV R_L 25 R_N yN_seen (kN_seen :: WD)) := wd_call kwN_seen (wd_c mlL25 (wd_c imN_seen (wd_c selN_seen (wd_c iniN wd_n))))
theorem gL29 : GoodIn WD (wsV R_L 29 R_N yN_reached (kN_reached :: WD)) := wd_call kwN_reached (wd_c mlL29 (wd_c imN_reached (wd_c selN_reached (wd_c iniN wd_n))))
theorem gL32 : GoodIn WD (wsV R_L 32 R_N yN_left (kN_left :: WD)) := wd_call kwN_left (wd_c mlL32 (wd_c imN_left (wd_c selN_left (wd_c iniN wd_n))))
theorem gL35 : GoodIn WD (wsV R_L 35 R_N yN_dry (kN_dry :: WD)) := wd_call kwN_dry (wd_c mlL35 (wd_c imN_dry (wd_c selN_dry (wd_c iniN wd_n))))
theorem gL38 : GoodIn WD (wsV R_L 38 R_N yN_size (kN_size :: WD)) := wd_call kwN_size (wd_c mlL38 (wd_c imN_size (wd_c selN_size (wd_c iniN wd_n))))
theorem gL41 : GoodIn WD (wsV R_L 41 R_N yN_pipes (kN_pipes :: WD)) := wd_call kwN_pipes (wd_c mlL41 (wd_c imN_pipes (wd_c selN_pipes (wd_c iniN wd_n))))
theorem gL44 : GoodIn WD (wsV R_L 44 R_N yN_pipe (kN_pipe :: WD)) := wd_call kwN_pipe (wd_c mlL44 (wd_c imN_pipe (wd_c selN_pipe (wd_c iniN wd_n))))
theorem gL48 : GoodIn WD (wsV R_L 48 R_N yN_lacks (kN_lacks :: WD)) := wd_call kwN_lacks (wd_c mlL48 (wd_c imN_lacks (wd_c selN_lacks (wd_c iniN wd_n))))
theorem gL51 : GoodIn WD (wsV R_L 51 R_N yN_worst (kN_worst :: WD)) := wd_call kwN_worst (wd_c mlL51 (wd_c imN_worst (wd_c selN_worst (wd_c iniN wd_n))))
theorem gL54 : GoodIn WD (va_wsS R_L 54 yL_cell (kL_cell :: WD)) := wd_call kwL_cell (wd_c mlL54 (wd_c smL_cell (wd_c iniL wd_n)))
theorem gL60 : GoodIn WD (kN_init :: WD) := wd_self kwN_init
theorem gL65 : GoodIn WD (kM_init :: WD) := wd_self kwM_init
theorem gL66 : GoodIn WD (va_wsS R_L 66 yL_wall (kL_wall :: WD)) := wd_call kwL_wall (wd_c mlL66 (wd_c smL_wall (wd_c iniL wd_n)))
theorem gL69 : GoodIn WD (wsV R_L 69 R_M yM_wall (kM_wall :: WD)) := wd_call kwM_wall (wd_c mlL69 (wd_c imM_wall (wd_c selM_wall (wd_c iniM wd_n))))
theorem gL70 : GoodIn WD (wsV R_L 70 R_M yM_thrown (kM_thrown :: WD)) := wd_call kwM_thrown (wd_c mlL70 (wd_c imM_thrown (wd_c selM_thrown (wd_c iniM wd_n))))
theorem gL74 : GoodIn WD (va_wsS R_L 74 yL_reach (kL_reach :: WD)) := wd_call kwL_reach (wd_c mlL74 (wd_c smL_reach (wd_c iniL wd_n)))
theorem gL77 : GoodIn WD (wsV R_L 77 R_M yM_reach (kM_reach :: WD)) := wd_call kwM_reach (wd_c mlL77 (wd_c imM_reach (wd_c selM_reach (wd_c iniM wd_n))))
theorem gL78 : GoodIn WD (va_wsS R_L 78 yL_place (kL_place :: WD)) := wd_call kwL_place (wd_c mlL78 (wd_c smL_place (wd_c iniL wd_n)))
theorem gL81 : GoodIn WD (wsV R_L 81 R_M yM_place (kM_place :: WD)) := wd_call kwM_place (wd_c mlL81 (wd_c imM_place (wd_c selM_place (wd_c iniM wd_n))))
theorem gL82 : GoodIn WD (va_wsS R_L 82 yL_seen (kL_seen :: WD)) := wd_call kwL_seen (wd_c mlL82 (wd_c smL_seen (wd_c iniL wd_n)))
theorem gL85 : GoodIn WD (wsV R_L 85 R_M yM_seen (kM_seen :: WD)) := wd_call kwM_seen (wd_c mlL85 (wd_c imM_seen (wd_c selM_seen (wd_c iniM wd_n))))
theorem gL86 : GoodIn WD (va_wsS R_L 86 yL_reached (kL_reached :: WD)) := wd_call kwL_reached (wd_c mlL86 (wd_c smL_reached (wd_c iniL wd_n)))
theorem gL88 : GoodIn WD (wsV R_L 88 R_M yM_reached (kM_reached :: WD)) := wd_call kwM_reached (wd_c mlL88 (wd_c imM_reached (wd_c selM_reached (wd_c iniM wd_n))))
theorem gL89 : GoodIn WD (va_wsS R_L 89 yL_left (kL_left :: WD)) := wd_call kwL_left (wd_c mlL89 (wd_c smL_left (wd_c iniL wd_n)))
theorem gL91 : GoodIn WD (wsV R_L 91 R_M yM_left (kM_left :: WD)) := wd_call kwM_left (wd_c mlL91 (wd_c imM_left (wd_c selM_left (wd_c iniM wd_n))))
theorem gL92 : GoodIn WD (va_wsS R_L 92 yL_dry (kL_dry :: WD)) := wd_call kwL_dry (wd_c mlL92 (wd_c smL_dry (wd_c iniL wd_n)))
theorem gL94 : GoodIn WD (wsV R_L 94 R_M yM_dry (kM_dry :: WD)) := wd_call kwM_dry (wd_c mlL94 (wd_c imM_dry (wd_c selM_dry (wd_c iniM wd_n))))
theorem gL95 : GoodIn WD (wsV R_L 95 R_N yN_best (kN_best :: WD)) := wd_call kwN_best (wd_c mlL95 (wd_c imN_best (wd_c selN_best (wd_c iniN wd_n))))
theorem gL98 : GoodIn WD (wsV R_L 98 R_M yM_best (kM_best :: WD)) := wd_call kwM_best (wd_c mlL98 (wd_c imM_best (wd_c selM_best (wd_c iniM wd_n))))
theorem gL99 : GoodIn WD (va_wsS R_L 99 yL_size (kL_size :: WD)) := wd_call kwL_size (wd_c mlL99 (wd_c smL_size (wd_c iniL wd_n)))
theorem gL101 : GoodIn WD (wsV R_L 101 R_M yM_size (kM_size :: WD)) := wd_call kwM_size (wd_c mlL101 (wd_c imM_size (wd_c selM_size (wd_c iniM wd_n))))
theorem gL102 : GoodIn WD (va_wsS R_L 102 yL_pipes (kL_pipes :: WD)) := wd_call kwL_pipes (wd_c mlL102 (wd_c smL_pipes (wd_c iniL wd_n)))
theorem gL104 : GoodIn WD (wsV R_L 104 R_M yM_pipes (kM_pipes :: WD)) := wd_call kwM_pipes (wd_c mlL104 (wd_c imM_pipes (wd_c selM_pipes (wd_c iniM wd_n))))
theorem gL105 : GoodIn WD (va_wsS R_L 105 yL_pipe (kL_pipe :: WD)) := wd_call kwL_pipe (wd_c mlL105 (wd_c smL_pipe (wd_c iniL wd_n)))
theorem gL108 : GoodIn WD (wsV R_L 108 R_M yM_pipe (kM_pipe :: WD)) := wd_call kwM_pipe (wd_c mlL108 (wd_c imM_pipe (wd_c selM_pipe (wd_c iniM wd_n))))
theorem gL109 : GoodIn WD (va_wsS R_L 109 yL_lacks (kL_lacks :: WD)) := wd_call kwL_lacks (wd_c mlL109 (wd_c smL_lacks (wd_c iniL wd_n)))
theorem gL111 : GoodIn WD (wsV R_L 111 R_M yM_lacks (kM_lacks :: WD)) := wd_call kwM_lacks (wd_c mlL111 (wd_c imM_lacks (wd_c selM_lacks (wd_c iniM wd_n))))
theorem gL112 : GoodIn WD (va_wsS R_L 112 yL_worst (kL_worst :: WD)) := wd_call kwL_worst (wd_c mlL112 (wd_c smL_worst (wd_c iniL wd_n)))
theorem gL114 : GoodIn WD (wsV R_L 114 R_M yM_worst (kM_worst :: WD)) := wd_call kwM_worst (wd_c mlL114 (wd_c imM_worst (wd_c selM_worst (wd_c iniM wd_n))))
theorem gM57 : GoodIn WD (wsV R_M 57 R_M yM_isCell (kM_isCell :: WD)) := wd_call kwM_isCell (wd_c mlM57 (wd_c imM_isCell (wd_c selM_isCell (wd_c iniM wd_n))))
theorem gM61 : GoodIn WD (wsV R_M 61 R_M yM_isFree (kM_isFree :: WD)) := wd_call kwM_isFree (wd_c mlM61 (wd_c imM_isFree (wd_c selM_isFree (wd_c iniM wd_n))))
theorem gM64 : GoodIn WD (va_wsS R_M 64 yM_most (kM_most :: WD)) := wd_call kwM_most (wd_c mlM64 (wd_c smM_most (wd_c iniM wd_n)))
theorem gM68 : GoodIn WD (va_wsS R_M 68 yM_least (kM_least :: WD)) := wd_call kwM_least (wd_c mlM68 (wd_c smM_least (wd_c iniM wd_n)))
theorem gM71 : GoodIn WD (va_wsS R_M 71 yM_side (kM_side :: WD)) := wd_call kwM_side (wd_c mlM71 (wd_c smM_side (wd_c iniM wd_n)))
theorem gM75 : GoodIn WD (va_wsS R_M 75 yM_crosses (kM_crosses :: WD)) := wd_call kwM_crosses (wd_c mlM75 (wd_c smM_crosses (wd_c iniM wd_n)))
theorem gM79 : GoodIn WD (wsV R_M 79 R_M yM_sees (kM_sees :: WD)) := wd_call kwM_sees (wd_c mlM79 (wd_c imM_sees (wd_c selM_sees (wd_c iniM wd_n))))
theorem gM83 : GoodIn WD (wsV R_M 83 R_M yM_isReached (kM_isReached :: WD)) := wd_call kwM_isReached (wd_c mlM83 (wd_c imM_isReached (wd_c selM_isReached (wd_c iniM wd_n))))
theorem gM87 : GoodIn WD (wsV R_M 87 R_M yM_isPlace (kM_isPlace :: WD)) := wd_call kwM_isPlace (wd_c mlM87 (wd_c imM_isPlace (wd_c selM_isPlace (wd_c iniM wd_n))))
theorem gM91 : GoodIn WD (wsV R_M 91 R_M yM_isSet (kM_isSet :: WD)) := wd_call kwM_isSet (wd_c mlM91 (wd_c imM_isSet (wd_c selM_isSet (wd_c iniM wd_n))))
theorem gM94 : GoodIn WD (wsV R_M 94 R_M yM_findReached (kM_findReached :: WD)) := wd_call kwM_findReached (wd_c mlM94 (wd_c imM_findReached (wd_c selM_findReached (wd_c iniM wd_n))))
theorem gM97 : GoodIn WD (wsV R_M 97 R_M yM_dryCells (kM_dryCells :: WD)) := wd_call kwM_dryCells (wd_c mlM97 (wd_c imM_dryCells (wd_c selM_dryCells (wd_c iniM wd_n))))
theorem gM101 : GoodIn WD (va_wsS R_M 101 yM_ones (kM_ones :: WD)) := wd_call kwM_ones (wd_c mlM101 (wd_c smM_ones (wd_c iniM wd_n)))
theorem gM104 : GoodIn WD (va_wsS R_M 104 yM_plain (kM_plain :: WD)) := wd_call kwM_plain (wd_c mlM104 (wd_c smM_plain (wd_c iniM wd_n)))
theorem gM110 : GoodIn WD (wsV R_M 110 R_M yM_far (kM_far :: WD)) := wd_call kwM_far (wd_c mlM110 (wd_c imM_far (wd_c selM_far (wd_c iniM wd_n))))
theorem gM113 : GoodIn WD (wsV R_M 113 R_M yM_join (kM_join :: WD)) := wd_call kwM_join (wd_c mlM113 (wd_c imM_join (wd_c selM_join (wd_c iniM wd_n))))
theorem gM117 : GoodIn WD (wsV R_M 117 R_M yM_isIn (kM_isIn :: WD)) := wd_call kwM_isIn (wd_c mlM117 (wd_c imM_isIn (wd_c selM_isIn (wd_c iniM wd_n))))
theorem gM120 : GoodIn WD (wsV R_M 120 R_M yM_lossOf (kM_lossOf :: WD)) := wd_call kwM_lossOf (wd_c mlM120 (wd_c imM_lossOf (wd_c selM_lossOf (wd_c iniM wd_n))))
theorem gM123 : GoodIn WD (wsV R_M 123 R_M yM_lost (kM_lost :: WD)) := wd_call kwM_lost (wd_c mlM123 (wd_c imM_lost (wd_c selM_lost (wd_c iniM wd_n))))
end
section
theorem dN_init_0 : decode bN_init 0 = .ok (.aload_n 0, 1) := by decide +kernel
theorem dN_init_1 : decode bN_init 1 = .ok (.invokespecial 1, 3) := by decide +kernel
theorem dN_init_4 : decode bN_init 4 = .ok (.aload_n 0, 1) := by decide +kernel
theorem dN_init_5 : decode bN_init 5 = .ok (.iconst 1, 1) := by decide +kernel
theorem dN_init_6 : decode bN_init 6 = .ok (.bipush 16, 2) := by decide +kernel
theorem dN_init_8 : decode bN_init 8 = .ok (.iload_n 1, 1) := by decide +kernel
theorem dN_init_9 : decode bN_init 9 = .ok (.invokestatic 9, 3) := by decide +kernel
theorem dN_init_12 : decode bN_init 12 = .ok (.invokestatic 15, 3) := by decide +kernel
theorem dN_init_15 : decode bN_init 15 = .ok (.putfield 18, 3) := by decide +kernel
theorem dN_init_18 : decode bN_init 18 = .ok (.aload_n 0, 1) := by decide +kernel
theorem dN_init_19 : decode bN_init 19 = .ok (.iconst 1, 1) := by decide +kernel
theorem dN_init_20 : decode bN_init 20 = .ok (.bipush 16, 2) := by decide +kernel
theorem dN_init_22 : decode bN_init 22 = .ok (.iload_n 2, 1) := by decide +kernel
theorem dN_init_23 : decode bN_init 23 = .ok (.invokestatic 9, 3) := by decide +kernel
theorem dN_init_26 : decode bN_init 26 = .ok (.invokestatic 15, 3) := by decide +kernel
theorem dN_init_29 : decode bN_init 29 = .ok (.putfield 22, 3) := by decide +kernel
theorem dN_init_32 : decode bN_init 32 = .ok (.aload_n 0, 1) := by decide +kernel
theorem dN_init_33 : decode bN_init 33 = .ok (.sipush 256, 3) := by decide +kernel
theorem dN_init_36 : decode bN_init 36 = .ok (.newarray .boolean, 2) := by decide +kernel
theorem dN_init_38 : decode bN_init 38 = .ok (.putfield 25, 3) := by decide +kernel
theorem dN_init_41 : decode bN_init 41 = .ok (.iconst 0, 1) := by decide +kernel
theorem dN_init_42 : decode bN_init 42 = .ok (.istore_n 3, 1) := by decide +kernel
theorem dN_init_43 : decode bN_init 43 = .ok (.iload_n 3, 1) := by decide +kernel
theorem dN_init_44 : decode bN_init 44 = .ok (.aload_n 0, 1) := by decide +kernel
theorem dN_init_45 : decode bN_init 45 = .ok (.getfield 25, 3) := by decide +kernel
theorem dN_init_48 : decode bN_init 48 = .ok (.arraylength, 1) := by decide +kernel
theorem dN_init_49 : decode bN_init 49 = .ok (.if_icmp .ge 42, 3) := by decide +kernel
theorem dN_init_52 : decode bN_init 52 = .ok (.aload_n 0, 1) := by decide +kernel
theorem dN_init_53 : decode bN_init 53 = .ok (.getfield 25, 3) := by decide +kernel
theorem dN_init_56 : decode bN_init 56 = .ok (.iload_n 3, 1) := by decide +kernel
theorem dN_init_57 : decode bN_init 57 = .ok (.iload_n 3, 1) := by decide +kernel
theorem dN_init_58 : decode bN_init 58 = .ok (.bipush 16, 2) := by decide +kernel
theorem dN_init_60 : decode bN_init 60 = .ok (.irem, 1) := by decide +kernel
theorem dN_init_61 : decode bN_init 61 = .ok (.aload_n 0, 1) := by decide +kernel
theorem dN_init_62 : decode bN_init 62 = .ok (.getfield 18, 3) := by decide +kernel
theorem dN_init_65 : decode bN_init 65 = .ok (.if_icmp .ge 14, 3) := by decide +kernel
theorem dN_init_68 : decode bN_init 68 = .ok (.iload_n 3, 1) := by decide +kernel
theorem dN_init_69 : decode bN_init 69 = .ok (.bipush 16, 2) := by decide +kernel
theorem dN_init_71 : decode bN_init 71 = .ok (.idiv, 1) := by decide +kernel
theorem dN_init_72 : decode bN_init 72 = .ok (.aload_n 0, 1) := by decide +kernel
theorem dN_init_73 : decode bN_init 73 = .ok (.getfield 22, 3) := by decide +kernel
theorem dN_init_76 : decode bN_init 76 = .ok (.if_icmp .lt 7, 3) := by decide +kernel
theorem dN_init_79 : decode bN_init 79 = .ok (.iconst 1, 1) := by decide +kernel
theorem dN_init_80 : decode bN_init 80 = .ok (.goto 4, 3) := by decide +kernel
theorem dN_init_83 : decode bN_init 83 = .ok (.iconst 0, 1) := by decide +kernel
theorem dN_init_84 : decode bN_init 84 = .ok (.bastore, 1) := by decide +kernel
theorem dN_init_85 : decode bN_init 85 = .ok (.iinc 3 1, 3) := by decide +kernel
theorem dN_init_88 : decode bN_init 88 = .ok (.goto (-45), 3) := by decide +kernel
theorem dN_init_91 : decode bN_init 91 = .ok (.aload_n 0, 1) := by decide +kernel
theorem dN_init_92 : decode bN_init 92 = .ok (.bipush 16, 2) := by decide +kernel
theorem dN_init_94 : decode bN_init 94 = .ok (.putfield 29, 3) := by decide +kernel
theorem dN_init_97 : decode bN_init 97 = .ok (.aload_n 0, 1) := by decide +kernel
theorem dN_init_98 : decode bN_init 98 = .ok (.bipush 12, 2) := by decide +kernel
theorem dN_init_100 : decode bN_init 100 = .ok (.newarray .int, 2) := by decide +kernel
theorem dN_init_102 : decode bN_init 102 = .ok (.putfield 32, 3) := by decide +kernel
theorem dN_init_105 : decode bN_init 105 = .ok (.aload_n 0, 1) := by decide +kernel
theorem dN_init_106 : decode bN_init 106 = .ok (.bipush 12, 2) := by decide +kernel
theorem dN_init_108 : decode bN_init 108 = .ok (.newarray .int, 2) := by decide +kernel
theorem dN_init_110 : decode bN_init 110 = .ok (.putfield 36, 3) := by decide +kernel
theorem dN_init_113 : decode bN_init 113 = .ok (.aload_n 0, 1) := by decide +kernel
theorem dN_init_114 : decode bN_init 114 = .ok (.iconst 0, 1) := by decide +kernel
theorem dN_init_115 : decode bN_init 115 = .ok (.putfield 39, 3) := by decide +kernel
theorem dN_init_118 : decode bN_init 118 = .ok (.aload_n 0, 1) := by decide +kernel
theorem dN_init_119 : decode bN_init 119 = .ok (.sipush 256, 3) := by decide +kernel
theorem dN_init_122 : decode bN_init 122 = .ok (.newarray .int, 2) := by decide +kernel
theorem dN_init_124 : decode bN_init 124 = .ok (.putfield 42, 3) := by decide +kernel
theorem dN_init_127 : decode bN_init 127 = .ok (.aload_n 0, 1) := by decide +kernel
theorem dN_init_128 : decode bN_init 128 = .ok (.iconst 0, 1) := by decide +kernel
theorem dN_init_129 : decode bN_init 129 = .ok (.putfield 45, 3) := by decide +kernel
theorem dN_init_132 : decode bN_init 132 = .ok (.aload_n 0, 1) := by decide +kernel
theorem dN_init_133 : decode bN_init 133 = .ok (.bipush 13, 2) := by decide +kernel
theorem dN_init_135 : decode bN_init 135 = .ok (.newarray .int, 2) := by decide +kernel
theorem dN_init_137 : decode bN_init 137 = .ok (.putfield 49, 3) := by decide +kernel
theorem dN_init_140 : decode bN_init 140 = .ok (.aload_n 0, 1) := by decide +kernel
theorem dN_init_141 : decode bN_init 141 = .ok (.getfield 49, 3) := by decide +kernel
theorem dN_init_144 : decode bN_init 144 = .ok (.iconst (-1), 1) := by decide +kernel
theorem dN_init_145 : decode bN_init 145 = .ok (.invokestatic 52, 3) := by decide +kernel
theorem dN_init_148 : decode bN_init 148 = .ok (.aload_n 0, 1) := by decide +kernel
theorem dN_init_149 : decode bN_init 149 = .ok (.iconst 0, 1) := by decide +kernel
theorem dN_init_150 : decode bN_init 150 = .ok (.putfield 58, 3) := by decide +kernel
theorem dN_init_153 : decode bN_init 153 = .ok (.aload_n 0, 1) := by decide +kernel
theorem dN_init_154 : decode bN_init 154 = .ok (.bipush 12, 2) := by decide +kernel
theorem dN_init_156 : decode bN_init 156 = .ok (.newarray .int, 2) := by decide +kernel
theorem dN_init_158 : decode bN_init 158 = .ok (.putfield 61, 3) := by decide +kernel
theorem dN_init_161 : decode bN_init 161 = .ok (.aload_n 0, 1) := by decide +kernel
theorem dN_init_162 : decode bN_init 162 = .ok (.bipush 12, 2) := by decide +kernel
theorem dN_init_164 : decode bN_init 164 = .ok (.newarray .int, 2) := by decide +kernel
theorem dN_init_166 : decode bN_init 166 = .ok (.putfield 64, 3) := by decide +kernel
theorem dN_init_169 : decode bN_init 169 = .ok (.aload_n 0, 1) := by decide +kernel
theorem dN_init_170 : decode bN_init 170 = .ok (.bipush 12, 2) := by decide +kernel
theorem dN_init_172 : decode bN_init 172 = .ok (.newarray .int, 2) := by decide +kernel
theorem dN_init_174 : decode bN_init 174 = .ok (.putfield 67, 3) := by decide +kernel
theorem dN_init_177 : decode bN_init 177 = .ok (.aload_n 0, 1) := by decide +kernel
theorem dN_init_178 : decode bN_init 178 = .ok (.bipush 12, 2) := by decide +kernel
theorem dN_init_180 : decode bN_init 180 = .ok (.newarray .int, 2) := by decide +kernel
theorem dN_init_182 : decode bN_init 182 = .ok (.putfield 70, 3) := by decide +kernel
theorem dN_init_185 : decode bN_init 185 = .ok (.aload_n 0, 1) := by decide +kernel
theorem dN_init_186 : decode bN_init 186 = .ok (.bipush 12, 2) := by decide +kernel
theorem dN_init_188 : decode bN_init 188 = .ok (.newarray .int, 2) := by decide +kernel
theorem dN_init_190 : decode bN_init 190 = .ok (.putfield 73, 3) := by decide +kernel
theorem dN_init_193 : decode bN_init 193 = .ok (.aload_n 0, 1) := by decide +kernel
theorem dN_init_194 : decode bN_init 194 = .ok (.bipush 12, 2) := by decide +kernel
theorem dN_init_196 : decode bN_init 196 = .ok (.newarray .int, 2) := by decide +kernel
theorem dN_init_198 : decode bN_init 198 = .ok (.putfield 76, 3) := by decide +kernel
theorem dN_init_201 : decode bN_init 201 = .ok (.aload_n 0, 1) := by decide +kernel
theorem dN_init_202 : decode bN_init 202 = .ok (.iconst 0, 1) := by decide +kernel
theorem dN_init_203 : decode bN_init 203 = .ok (.putfield 79, 3) := by decide +kernel
theorem dN_init_206 : decode bN_init 206 = .ok (.return_, 1) := by decide +kernel
theorem dN_wall_0 : decode bN_wall 0 = .ok (.aload_n 0, 1) := by decide +kernel
theorem dN_wall_1 : decode bN_wall 1 = .ok (.iload_n 1, 1) := by decide +kernel
theorem dN_wall_2 : decode bN_wall 2 = .ok (.iload_n 2, 1) := by decide +kernel
theorem dN_wall_3 : decode bN_wall 3 = .ok (.invokevirtual 82, 3) := by decide +kernel
theorem dN_wall_6 : decode bN_wall 6 = .ok (.aload_n 0, 1) := by decide +kernel
theorem dN_wall_7 : decode bN_wall 7 = .ok (.iload_n 1, 1) := by decide +kernel
theorem dN_wall_8 : decode bN_wall 8 = .ok (.iload_n 2, 1) := by decide +kernel
theorem dN_wall_9 : decode bN_wall 9 = .ok (.invokevirtual 86, 3) := by decide +kernel
theorem dN_wall_12 : decode bN_wall 12 = .ok (.istore 4, 2) := by decide +kernel
theorem dN_wall_14 : decode bN_wall 14 = .ok (.aload_n 0, 1) := by decide +kernel
theorem dN_wall_15 : decode bN_wall 15 = .ok (.getfield 25, 3) := by decide +kernel
theorem dN_wall_18 : decode bN_wall 18 = .ok (.iload_n 1, 1) := by decide +kernel
theorem dN_wall_19 : decode bN_wall 19 = .ok (.iload_n 2, 1) := by decide +kernel
theorem dN_wall_20 : decode bN_wall 20 = .ok (.invokestatic 90, 3) := by decide +kernel
theorem dN_wall_23 : decode bN_wall 23 = .ok (.iload_n 3, 1) := by decide +kernel
theorem dN_wall_24 : decode bN_wall 24 = .ok (.bastore, 1) := by decide +kernel
theorem dN_wall_25 : decode bN_wall 25 = .ok (.aload_n 0, 1) := by decide +kernel
theorem dN_wall_26 : decode bN_wall 26 = .ok (.iconst 1, 1) := by decide +kernel
theorem dN_wall_27 : decode bN_wall 27 = .ok (.putfield 45, 3) := by decide +kernel
theorem dN_wall_30 : decode bN_wall 30 = .ok (.iload 4, 2) := by decide +kernel
theorem dN_wall_32 : decode bN_wall 32 = .ok (.ireturn, 1) := by decide +kernel
theorem dN_reach_0 : decode bN_reach 0 = .ok (.iload_n 1, 1) := by decide +kernel
theorem dN_reach_1 : decode bN_reach 1 = .ok (.iconst 1, 1) := by decide +kernel
theorem dN_reach_2 : decode bN_reach 2 = .ok (.if_icmp .lt 10, 3) := by decide +kernel
theorem dN_reach_5 : decode bN_reach 5 = .ok (.iload_n 1, 1) := by decide +kernel
theorem dN_reach_6 : decode bN_reach 6 = .ok (.sipush 400, 3) := by decide +kernel
theorem dN_reach_9 : decode bN_reach 9 = .ok (.if_icmp .le 13, 3) := by decide +kernel
theorem dN_reach_12 : decode bN_reach 12 = .ok (.new 93, 3) := by decide +kernel
theorem dN_reach_15 : decode bN_reach 15 = .ok (.dup, 1) := by decide +kernel
theorem dN_reach_16 : decode bN_reach 16 = .ok (.ldc 95, 2) := by decide +kernel
theorem dN_reach_18 : decode bN_reach 18 = .ok (.invokespecial 97, 3) := by decide +kernel
theorem dN_reach_21 : decode bN_reach 21 = .ok (.athrow, 1) := by decide +kernel
theorem dN_reach_22 : decode bN_reach 22 = .ok (.aload_n 0, 1) := by decide +kernel
theorem dN_reach_23 : decode bN_reach 23 = .ok (.getfield 29, 3) := by decide +kernel
theorem dN_reach_26 : decode bN_reach 26 = .ok (.istore_n 2, 1) := by decide +kernel
theorem dN_reach_27 : decode bN_reach 27 = .ok (.aload_n 0, 1) := by decide +kernel
theorem dN_reach_28 : decode bN_reach 28 = .ok (.iload_n 1, 1) := by decide +kernel
theorem dN_reach_29 : decode bN_reach 29 = .ok (.putfield 29, 3) := by decide +kernel
theorem dN_reach_32 : decode bN_reach 32 = .ok (.aload_n 0, 1) := by decide +kernel
theorem dN_reach_33 : decode bN_reach 33 = .ok (.iconst 1, 1) := by decide +kernel
theorem dN_reach_34 : decode bN_reach 34 = .ok (.putfield 45, 3) := by decide +kernel
theorem dN_reach_37 : decode bN_reach 37 = .ok (.iload_n 2, 1) := by decide +kernel
theorem dN_reach_38 : decode bN_reach 38 = .ok (.ireturn, 1) := by decide +kernel
theorem dN_place_0 : decode bN_place 0 = .ok (.aload_n 0, 1) := by decide +kernel
theorem dN_place_1 : decode bN_place 1 = .ok (.iload_n 1, 1) := by decide +kernel
theorem dN_place_2 : decode bN_place 2 = .ok (.iload_n 2, 1) := by decide +kernel
theorem dN_place_3 : decode bN_place 3 = .ok (.invokevirtual 82, 3) := by decide +kernel
theorem dN_place_6 : decode bN_place 6 = .ok (.aload_n 0, 1) := by decide +kernel
theorem dN_place_7 : decode bN_place 7 = .ok (.iload_n 1, 1) := by decide +kernel
theorem dN_place_8 : decode bN_place 8 = .ok (.iload_n 2, 1) := by decide +kernel
theorem dN_place_9 : decode bN_place 9 = .ok (.invokevirtual 86, 3) := by decide +kernel
theorem dN_place_12 : decode bN_place 12 = .ok (.ifCond .eq 13, 3) := by decide +kernel
theorem dN_place_15 : decode bN_place 15 = .ok (.new 100, 3) := by decide +kernel
theorem dN_place_18 : decode bN_place 18 = .ok (.dup, 1) := by decide +kernel
theorem dN_place_19 : decode bN_place 19 = .ok (.ldc 102, 2) := by decide +kernel
theorem dN_place_21 : decode bN_place 21 = .ok (.invokespecial 104, 3) := by decide +kernel
theorem dN_place_24 : decode bN_place 24 = .ok (.athrow, 1) := by decide +kernel
theorem dN_place_25 : decode bN_place 25 = .ok (.aload_n 0, 1) := by decide +kernel
theorem dN_place_26 : decode bN_place 26 = .ok (.iload_n 1, 1) := by decide +kernel
theorem dN_place_27 : decode bN_place 27 = .ok (.iload_n 2, 1) := by decide +kernel
theorem dN_place_28 : decode bN_place 28 = .ok (.invokevirtual 105, 3) := by decide +kernel
theorem dN_place_31 : decode bN_place 31 = .ok (.ifCond .eq 13, 3) := by decide +kernel
theorem dN_place_34 : decode bN_place 34 = .ok (.new 100, 3) := by decide +kernel
theorem dN_place_37 : decode bN_place 37 = .ok (.dup, 1) := by decide +kernel
theorem dN_place_38 : decode bN_place 38 = .ok (.ldc 108, 2) := by decide +kernel
theorem dN_place_40 : decode bN_place 40 = .ok (.invokespecial 104, 3) := by decide +kernel
theorem dN_place_43 : decode bN_place 43 = .ok (.athrow, 1) := by decide +kernel
theorem dN_place_44 : decode bN_place 44 = .ok (.aload_n 0, 1) := by decide +kernel
theorem dN_place_45 : decode bN_place 45 = .ok (.getfield 39, 3) := by decide +kernel
theorem dN_place_48 : decode bN_place 48 = .ok (.bipush 12, 2) := by decide +kernel
theorem dN_place_50 : decode bN_place 50 = .ok (.if_icmp .lt 13, 3) := by decide +kernel
theorem dN_place_53 : decode bN_place 53 = .ok (.new 100, 3) := by decide +kernel
theorem dN_place_56 : decode bN_place 56 = .ok (.dup, 1) := by decide +kernel
theorem dN_place_57 : decode bN_place 57 = .ok (.ldc 110, 2) := by decide +kernel
theorem dN_place_59 : decode bN_place 59 = .ok (.invokespecial 104, 3) := by decide +kernel
theorem dN_place_62 : decode bN_place 62 = .ok (.athrow, 1) := by decide +kernel
theorem dN_place_63 : decode bN_place 63 = .ok (.aload_n 0, 1) := by decide +kernel
theorem dN_place_64 : decode bN_place 64 = .ok (.getfield 39, 3) := by decide +kernel
theorem dN_place_67 : decode bN_place 67 = .ok (.istore_n 3, 1) := by decide +kernel
theorem dN_place_68 : decode bN_place 68 = .ok (.aload_n 0, 1) := by decide +kernel
theorem dN_place_69 : decode bN_place 69 = .ok (.getfield 32, 3) := by decide +kernel
theorem dN_place_72 : decode bN_place 72 = .ok (.iload_n 3, 1) := by decide +kernel
theorem dN_place_73 : decode bN_place 73 = .ok (.iload_n 1, 1) := by decide +kernel
theorem dN_place_74 : decode bN_place 74 = .ok (.iastore, 1) := by decide +kernel
theorem dN_place_75 : decode bN_place 75 = .ok (.aload_n 0, 1) := by decide +kernel
theorem dN_place_76 : decode bN_place 76 = .ok (.getfield 36, 3) := by decide +kernel
theorem dN_place_79 : decode bN_place 79 = .ok (.iload_n 3, 1) := by decide +kernel
theorem dN_place_80 : decode bN_place 80 = .ok (.iload_n 2, 1) := by decide +kernel
theorem dN_place_81 : decode bN_place 81 = .ok (.iastore, 1) := by decide +kernel
theorem dN_place_82 : decode bN_place 82 = .ok (.aload_n 0, 1) := by decide +kernel
theorem dN_place_83 : decode bN_place 83 = .ok (.dup, 1) := by decide +kernel
theorem dN_place_84 : decode bN_place 84 = .ok (.getfield 39, 3) := by decide +kernel
theorem dN_place_87 : decode bN_place 87 = .ok (.iconst 1, 1) := by decide +kernel
theorem dN_place_88 : decode bN_place 88 = .ok (.iadd, 1) := by decide +kernel
theorem dN_place_89 : decode bN_place 89 = .ok (.putfield 39, 3) := by decide +kernel
theorem dN_place_92 : decode bN_place 92 = .ok (.aload_n 0, 1) := by decide +kernel
theorem dN_place_93 : decode bN_place 93 = .ok (.iconst 1, 1) := by decide +kernel
theorem dN_place_94 : decode bN_place 94 = .ok (.putfield 45, 3) := by decide +kernel
theorem dN_place_97 : decode bN_place 97 = .ok (.iload_n 3, 1) := by decide +kernel
theorem dN_place_98 : decode bN_place 98 = .ok (.ireturn, 1) := by decide +kernel
theorem dN_seen_0 : decode bN_seen 0 = .ok (.aload_n 0, 1) := by decide +kernel
theorem dN_seen_1 : decode bN_seen 1 = .ok (.iload_n 1, 1) := by decide +kernel
theorem dN_seen_2 : decode bN_seen 2 = .ok (.iload_n 2, 1) := by decide +kernel
theorem dN_seen_3 : decode bN_seen 3 = .ok (.invokevirtual 82, 3) := by decide +kernel
theorem dN_seen_6 : decode bN_seen 6 = .ok (.aload_n 0, 1) := by decide +kernel
theorem dN_seen_7 : decode bN_seen 7 = .ok (.iload_n 3, 1) := by decide +kernel
theorem dN_seen_8 : decode bN_seen 8 = .ok (.iload 4, 2) := by decide +kernel
theorem dN_seen_10 : decode bN_seen 10 = .ok (.invokevirtual 82, 3) := by decide +kernel
theorem dN_seen_13 : decode bN_seen 13 = .ok (.aload_n 0, 1) := by decide +kernel
theorem dN_seen_14 : decode bN_seen 14 = .ok (.iload_n 1, 1) := by decide +kernel
theorem dN_seen_15 : decode bN_seen 15 = .ok (.iload_n 2, 1) := by decide +kernel
theorem dN_seen_16 : decode bN_seen 16 = .ok (.iload_n 3, 1) := by decide +kernel
theorem dN_seen_17 : decode bN_seen 17 = .ok (.iload 4, 2) := by decide +kernel
theorem dN_seen_19 : decode bN_seen 19 = .ok (.invokevirtual 112, 3) := by decide +kernel
theorem dN_seen_22 : decode bN_seen 22 = .ok (.ireturn, 1) := by decide +kernel
theorem dN_reached_0 : decode bN_reached 0 = .ok (.aload_n 0, 1) := by decide +kernel
theorem dN_reached_1 : decode bN_reached 1 = .ok (.iload_n 1, 1) := by decide +kernel
theorem dN_reached_2 : decode bN_reached 2 = .ok (.invokevirtual 116, 3) := by decide +kernel
theorem dN_reached_5 : decode bN_reached 5 = .ok (.aload_n 0, 1) := by decide +kernel
theorem dN_reached_6 : decode bN_reached 6 = .ok (.invokevirtual 120, 3) := by decide +kernel
theorem dN_reached_9 : decode bN_reached 9 = .ok (.iconst 0, 1) := by decide +kernel
theorem dN_reached_10 : decode bN_reached 10 = .ok (.istore_n 2, 1) := by decide +kernel
theorem dN_reached_11 : decode bN_reached 11 = .ok (.iconst 0, 1) := by decide +kernel
theorem dN_reached_12 : decode bN_reached 12 = .ok (.istore_n 3, 1) := by decide +kernel
theorem dN_reached_13 : decode bN_reached 13 = .ok (.iload_n 3, 1) := by decide +kernel
theorem dN_reached_14 : decode bN_reached 14 = .ok (.aload_n 0, 1) := by decide +kernel
theorem dN_reached_15 : decode bN_reached 15 = .ok (.getfield 42, 3) := by decide +kernel
theorem dN_reached_18 : decode bN_reached 18 = .ok (.arraylength, 1) := by decide +kernel
theorem dN_reached_19 : decode bN_reached 19 = .ok (.if_icmp .ge 25, 3) := by decide +kernel
theorem dN_reached_22 : decode bN_reached 22 = .ok (.aload_n 0, 1) := by decide +kernel
theorem dN_reached_23 : decode bN_reached 23 = .ok (.getfield 42, 3) := by decide +kernel
theorem dN_reached_26 : decode bN_reached 26 = .ok (.iload_n 3, 1) := by decide +kernel
theorem dN_reached_27 : decode bN_reached 27 = .ok (.iaload, 1) := by decide +kernel
theorem dN_reached_28 : decode bN_reached 28 = .ok (.iload_n 1, 1) := by decide +kernel
theorem dN_reached_29 : decode bN_reached 29 = .ok (.invokestatic 123, 3) := by decide +kernel
theorem dN_reached_32 : decode bN_reached 32 = .ok (.ifCond .eq 6, 3) := by decide +kernel
theorem dN_reached_35 : decode bN_reached 35 = .ok (.iinc 2 1, 3) := by decide +kernel
theorem dN_reached_38 : decode bN_reached 38 = .ok (.iinc 3 1, 3) := by decide +kernel
theorem dN_reached_41 : decode bN_reached 41 = .ok (.goto (-28), 3) := by decide +kernel
theorem dN_reached_44 : decode bN_reached 44 = .ok (.iload_n 2, 1) := by decide +kernel
theorem dN_reached_45 : decode bN_reached 45 = .ok (.ireturn, 1) := by decide +kernel
theorem dN_left_0 : decode bN_left 0 = .ok (.aload_n 0, 1) := by decide +kernel
theorem dN_left_1 : decode bN_left 1 = .ok (.iload_n 1, 1) := by decide +kernel
theorem dN_left_2 : decode bN_left 2 = .ok (.invokevirtual 126, 3) := by decide +kernel
theorem dN_left_5 : decode bN_left 5 = .ok (.aload_n 0, 1) := by decide +kernel
theorem dN_left_6 : decode bN_left 6 = .ok (.invokevirtual 120, 3) := by decide +kernel
theorem dN_left_9 : decode bN_left 9 = .ok (.iconst 0, 1) := by decide +kernel
theorem dN_left_10 : decode bN_left 10 = .ok (.istore_n 2, 1) := by decide +kernel
theorem dN_left_11 : decode bN_left 11 = .ok (.iconst 0, 1) := by decide +kernel
theorem dN_left_12 : decode bN_left 12 = .ok (.istore_n 3, 1) := by decide +kernel
theorem dN_left_13 : decode bN_left 13 = .ok (.iload_n 3, 1) := by decide +kernel
theorem dN_left_14 : decode bN_left 14 = .ok (.aload_n 0, 1) := by decide +kernel
theorem dN_left_15 : decode bN_left 15 = .ok (.getfield 25, 3) := by decide +kernel
theorem dN_left_18 : decode bN_left 18 = .ok (.arraylength, 1) := by decide +kernel
theorem dN_left_19 : decode bN_left 19 = .ok (.if_icmp .ge 21, 3) := by decide +kernel
theorem dN_left_22 : decode bN_left 22 = .ok (.aload_n 0, 1) := by decide +kernel
theorem dN_left_23 : decode bN_left 23 = .ok (.iload_n 3, 1) := by decide +kernel
theorem dN_left_24 : decode bN_left 24 = .ok (.iload_n 1, 1) := by decide +kernel
theorem dN_left_25 : decode bN_left 25 = .ok (.invokevirtual 129, 3) := by decide +kernel
theorem dN_left_28 : decode bN_left 28 = .ok (.ifCond .eq 6, 3) := by decide +kernel
theorem dN_left_31 : decode bN_left 31 = .ok (.iinc 2 1, 3) := by decide +kernel
theorem dN_left_34 : decode bN_left 34 = .ok (.iinc 3 1, 3) := by decide +kernel
theorem dN_left_37 : decode bN_left 37 = .ok (.goto (-24), 3) := by decide +kernel
theorem dN_left_40 : decode bN_left 40 = .ok (.iload_n 2, 1) := by decide +kernel
theorem dN_left_41 : decode bN_left 41 = .ok (.ireturn, 1) := by decide +kernel
theorem dN_dry_0 : decode bN_dry 0 = .ok (.aload_n 0, 1) := by decide +kernel
theorem dN_dry_1 : decode bN_dry 1 = .ok (.iload_n 1, 1) := by decide +kernel
theorem dN_dry_2 : decode bN_dry 2 = .ok (.invokevirtual 126, 3) := by decide +kernel
theorem dN_dry_5 : decode bN_dry 5 = .ok (.iload_n 2, 1) := by decide +kernel
theorem dN_dry_6 : decode bN_dry 6 = .ok (.ifCond .ge 13, 3) := by decide +kernel
theorem dN_dry_9 : decode bN_dry 9 = .ok (.new 93, 3) := by decide +kernel
theorem dN_dry_12 : decode bN_dry 12 = .ok (.dup, 1) := by decide +kernel
theorem dN_dry_13 : decode bN_dry 13 = .ok (.ldc 132, 2) := by decide +kernel
theorem dN_dry_15 : decode bN_dry 15 = .ok (.invokespecial 97, 3) := by decide +kernel
theorem dN_dry_18 : decode bN_dry 18 = .ok (.athrow, 1) := by decide +kernel
theorem dN_dry_19 : decode bN_dry 19 = .ok (.aload_n 0, 1) := by decide +kernel
theorem dN_dry_20 : decode bN_dry 20 = .ok (.invokevirtual 120, 3) := by decide +kernel
theorem dN_dry_23 : decode bN_dry 23 = .ok (.aload_n 0, 1) := by decide +kernel
theorem dN_dry_24 : decode bN_dry 24 = .ok (.iload_n 1, 1) := by decide +kernel
theorem dN_dry_25 : decode bN_dry 25 = .ok (.iload_n 2, 1) := by decide +kernel
theorem dN_dry_26 : decode bN_dry 26 = .ok (.invokevirtual 134, 3) := by decide +kernel
theorem dN_dry_29 : decode bN_dry 29 = .ok (.istore_n 3, 1) := by decide +kernel
theorem dN_dry_30 : decode bN_dry 30 = .ok (.iload_n 3, 1) := by decide +kernel
theorem dN_dry_31 : decode bN_dry 31 = .ok (.iconst (-1), 1) := by decide +kernel
theorem dN_dry_32 : decode bN_dry 32 = .ok (.if_icmp .ne 7, 3) := by decide +kernel
theorem dN_dry_35 : decode bN_dry 35 = .ok (.iconst (-1), 1) := by decide +kernel
theorem dN_dry_36 : decode bN_dry 36 = .ok (.goto 15, 3) := by decide +kernel
theorem dN_dry_39 : decode bN_dry 39 = .ok (.bipush 100, 2) := by decide +kernel
theorem dN_dry_41 : decode bN_dry 41 = .ok (.iload_n 3, 1) := by decide +kernel
theorem dN_dry_42 : decode bN_dry 42 = .ok (.bipush 16, 2) := by decide +kernel
theorem dN_dry_44 : decode bN_dry 44 = .ok (.idiv, 1) := by decide +kernel
theorem dN_dry_45 : decode bN_dry 45 = .ok (.imul, 1) := by decide +kernel
theorem dN_dry_46 : decode bN_dry 46 = .ok (.iload_n 3, 1) := by decide +kernel
theorem dN_dry_47 : decode bN_dry 47 = .ok (.bipush 16, 2) := by decide +kernel
theorem dN_dry_49 : decode bN_dry 49 = .ok (.irem, 1) := by decide +kernel
theorem dN_dry_50 : decode bN_dry 50 = .ok (.iadd, 1) := by decide +kernel
theorem dN_dry_51 : decode bN_dry 51 = .ok (.ireturn, 1) := by decide +kernel
theorem dN_best_0 : decode bN_best 0 = .ok (.aload_n 0, 1) := by decide +kernel
theorem dN_best_1 : decode bN_best 1 = .ok (.invokevirtual 120, 3) := by decide +kernel
theorem dN_best_4 : decode bN_best 4 = .ok (.aload_n 0, 1) := by decide +kernel
theorem dN_best_5 : decode bN_best 5 = .ok (.invokevirtual 137, 3) := by decide +kernel
theorem dN_best_8 : decode bN_best 8 = .ok (.istore_n 1, 1) := by decide +kernel
theorem dN_best_9 : decode bN_best 9 = .ok (.aload_n 0, 1) := by decide +kernel
theorem dN_best_10 : decode bN_best 10 = .ok (.iload_n 1, 1) := by decide +kernel
theorem dN_best_11 : decode bN_best 11 = .ok (.iconst 0, 1) := by decide +kernel
theorem dN_best_12 : decode bN_best 12 = .ok (.invokevirtual 134, 3) := by decide +kernel
theorem dN_best_15 : decode bN_best 15 = .ok (.iconst (-1), 1) := by decide +kernel
theorem dN_best_16 : decode bN_best 16 = .ok (.if_icmp .eq 5, 3) := by decide +kernel
theorem dN_best_19 : decode bN_best 19 = .ok (.iconst (-1), 1) := by decide +kernel
theorem dN_best_20 : decode bN_best 20 = .ok (.ireturn, 1) := by decide +kernel
theorem dN_best_21 : decode bN_best 21 = .ok (.iload_n 1, 1) := by decide +kernel
theorem dN_best_22 : decode bN_best 22 = .ok (.istore_n 2, 1) := by decide +kernel
theorem dN_best_23 : decode bN_best 23 = .ok (.aload_n 0, 1) := by decide +kernel
theorem dN_best_24 : decode bN_best 24 = .ok (.getfield 39, 3) := by decide +kernel
theorem dN_best_27 : decode bN_best 27 = .ok (.iconst 1, 1) := by decide +kernel
theorem dN_best_28 : decode bN_best 28 = .ok (.iadd, 1) := by decide +kernel
theorem dN_best_29 : decode bN_best 29 = .ok (.istore_n 3, 1) := by decide +kernel
theorem dN_best_30 : decode bN_best 30 = .ok (.iconst 0, 1) := by decide +kernel
theorem dN_best_31 : decode bN_best 31 = .ok (.istore 4, 2) := by decide +kernel
theorem dN_best_33 : decode bN_best 33 = .ok (.iconst 0, 1) := by decide +kernel
theorem dN_best_34 : decode bN_best 34 = .ok (.istore 5, 2) := by decide +kernel
theorem dN_best_36 : decode bN_best 36 = .ok (.iload 5, 2) := by decide +kernel
theorem dN_best_38 : decode bN_best 38 = .ok (.iload_n 1, 1) := by decide +kernel
theorem dN_best_39 : decode bN_best 39 = .ok (.if_icmp .gt 61, 3) := by decide +kernel
theorem dN_best_42 : decode bN_best 42 = .ok (.iload 5, 2) := by decide +kernel
theorem dN_best_44 : decode bN_best 44 = .ok (.invokestatic 141, 3) := by decide +kernel
theorem dN_best_47 : decode bN_best 47 = .ok (.istore 6, 2) := by decide +kernel
theorem dN_best_49 : decode bN_best 49 = .ok (.iload 6, 2) := by decide +kernel
theorem dN_best_51 : decode bN_best 51 = .ok (.iload_n 3, 1) := by decide +kernel
theorem dN_best_52 : decode bN_best 52 = .ok (.if_icmp .ge 42, 3) := by decide +kernel
theorem dN_best_55 : decode bN_best 55 = .ok (.aload_n 0, 1) := by decide +kernel
theorem dN_best_56 : decode bN_best 56 = .ok (.iload 4, 2) := by decide +kernel
theorem dN_best_58 : decode bN_best 58 = .ok (.iload 5, 2) := by decide +kernel
theorem dN_best_60 : decode bN_best 60 = .ok (.invokevirtual 129, 3) := by decide +kernel
theorem dN_best_63 : decode bN_best 63 = .ok (.ifCond .ne 31, 3) := by decide +kernel
theorem dN_best_66 : decode bN_best 66 = .ok (.aload_n 0, 1) := by decide +kernel
theorem dN_best_67 : decode bN_best 67 = .ok (.iload 5, 2) := by decide +kernel
theorem dN_best_69 : decode bN_best 69 = .ok (.iconst 0, 1) := by decide +kernel
theorem dN_best_70 : decode bN_best 70 = .ok (.invokevirtual 134, 3) := by decide +kernel
theorem dN_best_73 : decode bN_best 73 = .ok (.istore 7, 2) := by decide +kernel
theorem dN_best_75 : decode bN_best 75 = .ok (.iload 7, 2) := by decide +kernel
theorem dN_best_77 : decode bN_best 77 = .ok (.iconst (-1), 1) := by decide +kernel
theorem dN_best_78 : decode bN_best 78 = .ok (.if_icmp .ne 12, 3) := by decide +kernel
theorem dN_best_81 : decode bN_best 81 = .ok (.iload 5, 2) := by decide +kernel
theorem dN_best_83 : decode bN_best 83 = .ok (.istore_n 2, 1) := by decide +kernel
theorem dN_best_84 : decode bN_best 84 = .ok (.iload 6, 2) := by decide +kernel
theorem dN_best_86 : decode bN_best 86 = .ok (.istore_n 3, 1) := by decide +kernel
theorem dN_best_87 : decode bN_best 87 = .ok (.goto 7, 3) := by decide +kernel
theorem dN_best_90 : decode bN_best 90 = .ok (.iload 7, 2) := by decide +kernel
theorem dN_best_92 : decode bN_best 92 = .ok (.istore 4, 2) := by decide +kernel
theorem dN_best_94 : decode bN_best 94 = .ok (.iinc 5 1, 3) := by decide +kernel
theorem dN_best_97 : decode bN_best 97 = .ok (.goto (-61), 3) := by decide +kernel
theorem dN_best_100 : decode bN_best 100 = .ok (.iload_n 2, 1) := by decide +kernel
theorem dN_best_101 : decode bN_best 101 = .ok (.ireturn, 1) := by decide +kernel
theorem dN_size_0 : decode bN_size 0 = .ok (.iload_n 1, 1) := by decide +kernel
theorem dN_size_1 : decode bN_size 1 = .ok (.iconst 1, 1) := by decide +kernel
theorem dN_size_2 : decode bN_size 2 = .ok (.if_icmp .lt 9, 3) := by decide +kernel
theorem dN_size_5 : decode bN_size 5 = .ok (.iload_n 1, 1) := by decide +kernel
theorem dN_size_6 : decode bN_size 6 = .ok (.bipush 12, 2) := by decide +kernel
theorem dN_size_8 : decode bN_size 8 = .ok (.if_icmp .le 13, 3) := by decide +kernel
theorem dN_size_11 : decode bN_size 11 = .ok (.new 93, 3) := by decide +kernel
theorem dN_size_14 : decode bN_size 14 = .ok (.dup, 1) := by decide +kernel
theorem dN_size_15 : decode bN_size 15 = .ok (.ldc 147, 2) := by decide +kernel
theorem dN_size_17 : decode bN_size 17 = .ok (.invokespecial 97, 3) := by decide +kernel
theorem dN_size_20 : decode bN_size 20 = .ok (.athrow, 1) := by decide +kernel
theorem dN_size_21 : decode bN_size 21 = .ok (.iload_n 2, 1) := by decide +kernel
theorem dN_size_22 : decode bN_size 22 = .ok (.ifCond .lt 10, 3) := by decide +kernel
theorem dN_size_25 : decode bN_size 25 = .ok (.iload_n 2, 1) := by decide +kernel
theorem dN_size_26 : decode bN_size 26 = .ok (.sipush 1000, 3) := by decide +kernel
theorem dN_size_29 : decode bN_size 29 = .ok (.if_icmp .le 13, 3) := by decide +kernel
theorem dN_size_32 : decode bN_size 32 = .ok (.new 93, 3) := by decide +kernel
theorem dN_size_35 : decode bN_size 35 = .ok (.dup, 1) := by decide +kernel
theorem dN_size_36 : decode bN_size 36 = .ok (.ldc 149, 2) := by decide +kernel
theorem dN_size_38 : decode bN_size 38 = .ok (.invokespecial 97, 3) := by decide +kernel
theorem dN_size_41 : decode bN_size 41 = .ok (.athrow, 1) := by decide +kernel
theorem dN_size_42 : decode bN_size 42 = .ok (.aload_n 0, 1) := by decide +kernel
theorem dN_size_43 : decode bN_size 43 = .ok (.getfield 49, 3) := by decide +kernel
theorem dN_size_46 : decode bN_size 46 = .ok (.iload_n 1, 1) := by decide +kernel
theorem dN_size_47 : decode bN_size 47 = .ok (.iaload, 1) := by decide +kernel
theorem dN_size_48 : decode bN_size 48 = .ok (.iconst (-1), 1) := by decide +kernel
theorem dN_size_49 : decode bN_size 49 = .ok (.if_icmp .ne 13, 3) := by decide +kernel
theorem dN_size_52 : decode bN_size 52 = .ok (.aload_n 0, 1) := by decide +kernel
theorem dN_size_53 : decode bN_size 53 = .ok (.dup, 1) := by decide +kernel
theorem dN_size_54 : decode bN_size 54 = .ok (.getfield 58, 3) := by decide +kernel
theorem dN_size_57 : decode bN_size 57 = .ok (.iconst 1, 1) := by decide +kernel
theorem dN_size_58 : decode bN_size 58 = .ok (.iadd, 1) := by decide +kernel
theorem dN_size_59 : decode bN_size 59 = .ok (.putfield 58, 3) := by decide +kernel
theorem dN_size_62 : decode bN_size 62 = .ok (.aload_n 0, 1) := by decide +kernel
theorem dN_size_63 : decode bN_size 63 = .ok (.getfield 49, 3) := by decide +kernel
theorem dN_size_66 : decode bN_size 66 = .ok (.iload_n 1, 1) := by decide +kernel
theorem dN_size_67 : decode bN_size 67 = .ok (.iload_n 2, 1) := by decide +kernel
theorem dN_size_68 : decode bN_size 68 = .ok (.iastore, 1) := by decide +kernel
theorem dN_size_69 : decode bN_size 69 = .ok (.aload_n 0, 1) := by decide +kernel
theorem dN_size_70 : decode bN_size 70 = .ok (.getfield 58, 3) := by decide +kernel
theorem dN_size_73 : decode bN_size 73 = .ok (.ireturn, 1) := by decide +kernel
theorem dN_pipes_0 : decode bN_pipes 0 = .ok (.aload_n 0, 1) := by decide +kernel
theorem dN_pipes_1 : decode bN_pipes 1 = .ok (.iload_n 1, 1) := by decide +kernel
theorem dN_pipes_2 : decode bN_pipes 2 = .ok (.invokevirtual 126, 3) := by decide +kernel
theorem dN_pipes_5 : decode bN_pipes 5 = .ok (.aload_n 0, 1) := by decide +kernel
theorem dN_pipes_6 : decode bN_pipes 6 = .ok (.iload_n 1, 1) := by decide +kernel
theorem dN_pipes_7 : decode bN_pipes 7 = .ok (.invokevirtual 151, 3) := by decide +kernel
theorem dN_pipes_10 : decode bN_pipes 10 = .ok (.iconst 0, 1) := by decide +kernel
theorem dN_pipes_11 : decode bN_pipes 11 = .ok (.istore_n 2, 1) := by decide +kernel
theorem dN_pipes_12 : decode bN_pipes 12 = .ok (.iconst 0, 1) := by decide +kernel
theorem dN_pipes_13 : decode bN_pipes 13 = .ok (.istore_n 3, 1) := by decide +kernel
theorem dN_pipes_14 : decode bN_pipes 14 = .ok (.iload_n 3, 1) := by decide +kernel
theorem dN_pipes_15 : decode bN_pipes 15 = .ok (.bipush 12, 2) := by decide +kernel
theorem dN_pipes_17 : decode bN_pipes 17 = .ok (.if_icmp .ge 26, 3) := by decide +kernel
theorem dN_pipes_20 : decode bN_pipes 20 = .ok (.iload_n 1, 1) := by decide +kernel
theorem dN_pipes_21 : decode bN_pipes 21 = .ok (.iload_n 3, 1) := by decide +kernel
theorem dN_pipes_22 : decode bN_pipes 22 = .ok (.invokestatic 123, 3) := by decide +kernel
theorem dN_pipes_25 : decode bN_pipes 25 = .ok (.ifCond .eq 12, 3) := by decide +kernel
theorem dN_pipes_28 : decode bN_pipes 28 = .ok (.iload_n 2, 1) := by decide +kernel
theorem dN_pipes_29 : decode bN_pipes 29 = .ok (.aload_n 0, 1) := by decide +kernel
theorem dN_pipes_30 : decode bN_pipes 30 = .ok (.getfield 64, 3) := by decide +kernel
theorem dN_pipes_33 : decode bN_pipes 33 = .ok (.iload_n 3, 1) := by decide +kernel
theorem dN_pipes_34 : decode bN_pipes 34 = .ok (.iaload, 1) := by decide +kernel
theorem dN_pipes_35 : decode bN_pipes 35 = .ok (.iadd, 1) := by decide +kernel
theorem dN_pipes_36 : decode bN_pipes 36 = .ok (.istore_n 2, 1) := by decide +kernel
theorem dN_pipes_37 : decode bN_pipes 37 = .ok (.iinc 3 1, 3) := by decide +kernel
theorem dN_pipes_40 : decode bN_pipes 40 = .ok (.goto (-26), 3) := by decide +kernel
theorem dN_pipes_43 : decode bN_pipes 43 = .ok (.iload_n 2, 1) := by decide +kernel
theorem dN_pipes_44 : decode bN_pipes 44 = .ok (.ireturn, 1) := by decide +kernel
theorem dN_pipe_0 : decode bN_pipe 0 = .ok (.aload_n 0, 1) := by decide +kernel
theorem dN_pipe_1 : decode bN_pipe 1 = .ok (.iload_n 1, 1) := by decide +kernel
theorem dN_pipe_2 : decode bN_pipe 2 = .ok (.invokevirtual 126, 3) := by decide +kernel
theorem dN_pipe_5 : decode bN_pipe 5 = .ok (.aload_n 0, 1) := by decide +kernel
theorem dN_pipe_6 : decode bN_pipe 6 = .ok (.iload_n 2, 1) := by decide +kernel
theorem dN_pipe_7 : decode bN_pipe 7 = .ok (.invokevirtual 116, 3) := by decide +kernel
theorem dN_pipe_10 : decode bN_pipe 10 = .ok (.iload_n 3, 1) := by decide +kernel
theorem dN_pipe_11 : decode bN_pipe 11 = .ok (.ifCond .lt 8, 3) := by decide +kernel
theorem dN_pipe_14 : decode bN_pipe 14 = .ok (.iload_n 3, 1) := by decide +kernel
theorem dN_pipe_15 : decode bN_pipe 15 = .ok (.iconst 4, 1) := by decide +kernel
theorem dN_pipe_16 : decode bN_pipe 16 = .ok (.if_icmp .le 13, 3) := by decide +kernel
theorem dN_pipe_19 : decode bN_pipe 19 = .ok (.new 93, 3) := by decide +kernel
theorem dN_pipe_22 : decode bN_pipe 22 = .ok (.dup, 1) := by decide +kernel
theorem dN_pipe_23 : decode bN_pipe 23 = .ok (.ldc 154, 2) := by decide +kernel
theorem dN_pipe_25 : decode bN_pipe 25 = .ok (.invokespecial 97, 3) := by decide +kernel
theorem dN_pipe_28 : decode bN_pipe 28 = .ok (.athrow, 1) := by decide +kernel
theorem dN_pipe_29 : decode bN_pipe 29 = .ok (.iload_n 1, 1) := by decide +kernel
theorem dN_pipe_30 : decode bN_pipe 30 = .ok (.iload_n 2, 1) := by decide +kernel
theorem dN_pipe_31 : decode bN_pipe 31 = .ok (.invokestatic 123, 3) := by decide +kernel
theorem dN_pipe_34 : decode bN_pipe 34 = .ok (.ifCond .ne 5, 3) := by decide +kernel
theorem dN_pipe_37 : decode bN_pipe 37 = .ok (.iconst (-1), 1) := by decide +kernel
theorem dN_pipe_38 : decode bN_pipe 38 = .ok (.ireturn, 1) := by decide +kernel
theorem dN_pipe_39 : decode bN_pipe 39 = .ok (.aload_n 0, 1) := by decide +kernel
theorem dN_pipe_40 : decode bN_pipe 40 = .ok (.iload_n 1, 1) := by decide +kernel
theorem dN_pipe_41 : decode bN_pipe 41 = .ok (.invokevirtual 151, 3) := by decide +kernel
theorem dN_pipe_44 : decode bN_pipe 44 = .ok (.iload_n 3, 1) := by decide +kernel
theorem dN_pipe_45 : decode bN_pipe 45 = .ok (.tableswitch 63 0 3 #[31, 38, 45, 52], 31) := by decide +kernel
theorem dN_pipe_76 : decode bN_pipe 76 = .ok (.aload_n 0, 1) := by decide +kernel
theorem dN_pipe_77 : decode bN_pipe 77 = .ok (.getfield 61, 3) := by decide +kernel
theorem dN_pipe_80 : decode bN_pipe 80 = .ok (.iload_n 2, 1) := by decide +kernel
theorem dN_pipe_81 : decode bN_pipe 81 = .ok (.iaload, 1) := by decide +kernel
theorem dN_pipe_82 : decode bN_pipe 82 = .ok (.ireturn, 1) := by decide +kernel
theorem dN_pipe_83 : decode bN_pipe 83 = .ok (.aload_n 0, 1) := by decide +kernel
theorem dN_pipe_84 : decode bN_pipe 84 = .ok (.getfield 64, 3) := by decide +kernel
theorem dN_pipe_87 : decode bN_pipe 87 = .ok (.iload_n 2, 1) := by decide +kernel
theorem dN_pipe_88 : decode bN_pipe 88 = .ok (.iaload, 1) := by decide +kernel
theorem dN_pipe_89 : decode bN_pipe 89 = .ok (.ireturn, 1) := by decide +kernel
theorem dN_pipe_90 : decode bN_pipe 90 = .ok (.aload_n 0, 1) := by decide +kernel
theorem dN_pipe_91 : decode bN_pipe 91 = .ok (.getfield 67, 3) := by decide +kernel
theorem dN_pipe_94 : decode bN_pipe 94 = .ok (.iload_n 2, 1) := by decide +kernel
theorem dN_pipe_95 : decode bN_pipe 95 = .ok (.iaload, 1) := by decide +kernel
theorem dN_pipe_96 : decode bN_pipe 96 = .ok (.ireturn, 1) := by decide +kernel
theorem dN_pipe_97 : decode bN_pipe 97 = .ok (.aload_n 0, 1) := by decide +kernel
theorem dN_pipe_98 : decode bN_pipe 98 = .ok (.aload_n 0, 1) := by decide +kernel
theorem dN_pipe_99 : decode bN_pipe 99 = .ok (.getfield 67, 3) := by decide +kernel
theorem dN_pipe_102 : decode bN_pipe 102 = .ok (.iload_n 2, 1) := by decide +kernel
theorem dN_pipe_103 : decode bN_pipe 103 = .ok (.iaload, 1) := by decide +kernel
theorem dN_pipe_104 : decode bN_pipe 104 = .ok (.invokevirtual 156, 3) := by decide +kernel
theorem dN_pipe_107 : decode bN_pipe 107 = .ok (.ireturn, 1) := by decide +kernel
theorem dN_pipe_108 : decode bN_pipe 108 = .ok (.aload_n 0, 1) := by decide +kernel
theorem dN_pipe_109 : decode bN_pipe 109 = .ok (.getfield 70, 3) := by decide +kernel
theorem dN_pipe_112 : decode bN_pipe 112 = .ok (.iload_n 2, 1) := by decide +kernel
theorem dN_pipe_113 : decode bN_pipe 113 = .ok (.iaload, 1) := by decide +kernel
theorem dN_pipe_114 : decode bN_pipe 114 = .ok (.ireturn, 1) := by decide +kernel
theorem dN_lacks_0 : decode bN_lacks 0 = .ok (.aload_n 0, 1) := by decide +kernel
theorem dN_lacks_1 : decode bN_lacks 1 = .ok (.iload_n 1, 1) := by decide +kernel
theorem dN_lacks_2 : decode bN_lacks 2 = .ok (.invokevirtual 126, 3) := by decide +kernel
theorem dN_lacks_5 : decode bN_lacks 5 = .ok (.aload_n 0, 1) := by decide +kernel
theorem dN_lacks_6 : decode bN_lacks 6 = .ok (.iload_n 2, 1) := by decide +kernel
theorem dN_lacks_7 : decode bN_lacks 7 = .ok (.invokevirtual 116, 3) := by decide +kernel
theorem dN_lacks_10 : decode bN_lacks 10 = .ok (.iload_n 1, 1) := by decide +kernel
theorem dN_lacks_11 : decode bN_lacks 11 = .ok (.iload_n 2, 1) := by decide +kernel
theorem dN_lacks_12 : decode bN_lacks 12 = .ok (.invokestatic 123, 3) := by decide +kernel
theorem dN_lacks_15 : decode bN_lacks 15 = .ok (.ifCond .ne 5, 3) := by decide +kernel
theorem dN_lacks_18 : decode bN_lacks 18 = .ok (.iconst (-1), 1) := by decide +kernel
theorem dN_lacks_19 : decode bN_lacks 19 = .ok (.ireturn, 1) := by decide +kernel
theorem dN_lacks_20 : decode bN_lacks 20 = .ok (.aload_n 0, 1) := by decide +kernel
theorem dN_lacks_21 : decode bN_lacks 21 = .ok (.iload_n 1, 1) := by decide +kernel
theorem dN_lacks_22 : decode bN_lacks 22 = .ok (.invokevirtual 151, 3) := by decide +kernel
theorem dN_lacks_25 : decode bN_lacks 25 = .ok (.aload_n 0, 1) := by decide +kernel
theorem dN_lacks_26 : decode bN_lacks 26 = .ok (.getfield 73, 3) := by decide +kernel
theorem dN_lacks_29 : decode bN_lacks 29 = .ok (.iload_n 2, 1) := by decide +kernel
theorem dN_lacks_30 : decode bN_lacks 30 = .ok (.iaload, 1) := by decide +kernel
theorem dN_lacks_31 : decode bN_lacks 31 = .ok (.ireturn, 1) := by decide +kernel
theorem dN_worst_0 : decode bN_worst 0 = .ok (.aload_n 0, 1) := by decide +kernel
theorem dN_worst_1 : decode bN_worst 1 = .ok (.iload_n 1, 1) := by decide +kernel
theorem dN_worst_2 : decode bN_worst 2 = .ok (.invokevirtual 126, 3) := by decide +kernel
theorem dN_worst_5 : decode bN_worst 5 = .ok (.aload_n 0, 1) := by decide +kernel
theorem dN_worst_6 : decode bN_worst 6 = .ok (.iload_n 1, 1) := by decide +kernel
theorem dN_worst_7 : decode bN_worst 7 = .ok (.invokevirtual 151, 3) := by decide +kernel
theorem dN_worst_10 : decode bN_worst 10 = .ok (.iconst (-1), 1) := by decide +kernel
theorem dN_worst_11 : decode bN_worst 11 = .ok (.istore_n 2, 1) := by decide +kernel
theorem dN_worst_12 : decode bN_worst 12 = .ok (.iconst (-1), 1) := by decide +kernel
theorem dN_worst_13 : decode bN_worst 13 = .ok (.istore_n 3, 1) := by decide +kernel
theorem dN_worst_14 : decode bN_worst 14 = .ok (.iconst 0, 1) := by decide +kernel
theorem dN_worst_15 : decode bN_worst 15 = .ok (.istore 4, 2) := by decide +kernel
theorem dN_worst_17 : decode bN_worst 17 = .ok (.iload 4, 2) := by decide +kernel
theorem dN_worst_19 : decode bN_worst 19 = .ok (.bipush 12, 2) := by decide +kernel
theorem dN_worst_21 : decode bN_worst 21 = .ok (.if_icmp .ge 40, 3) := by decide +kernel
theorem dN_worst_24 : decode bN_worst 24 = .ok (.iload_n 1, 1) := by decide +kernel
theorem dN_worst_25 : decode bN_worst 25 = .ok (.iload 4, 2) := by decide +kernel
theorem dN_worst_27 : decode bN_worst 27 = .ok (.invokestatic 123, 3) := by decide +kernel
theorem dN_worst_30 : decode bN_worst 30 = .ok (.ifCond .eq 25, 3) := by decide +kernel
theorem dN_worst_33 : decode bN_worst 33 = .ok (.aload_n 0, 1) := by decide +kernel
theorem dN_worst_34 : decode bN_worst 34 = .ok (.getfield 73, 3) := by decide +kernel
theorem dN_worst_37 : decode bN_worst 37 = .ok (.iload 4, 2) := by decide +kernel
theorem dN_worst_39 : decode bN_worst 39 = .ok (.iaload, 1) := by decide +kernel
theorem dN_worst_40 : decode bN_worst 40 = .ok (.iload_n 3, 1) := by decide +kernel
theorem dN_worst_41 : decode bN_worst 41 = .ok (.if_icmp .le 14, 3) := by decide +kernel
theorem dN_worst_44 : decode bN_worst 44 = .ok (.iload 4, 2) := by decide +kernel
theorem dN_worst_46 : decode bN_worst 46 = .ok (.istore_n 2, 1) := by decide +kernel
theorem dN_worst_47 : decode bN_worst 47 = .ok (.aload_n 0, 1) := by decide +kernel
theorem dN_worst_48 : decode bN_worst 48 = .ok (.getfield 73, 3) := by decide +kernel
theorem dN_worst_51 : decode bN_worst 51 = .ok (.iload 4, 2) := by decide +kernel
theorem dN_worst_53 : decode bN_worst 53 = .ok (.iaload, 1) := by decide +kernel
theorem dN_worst_54 : decode bN_worst 54 = .ok (.istore_n 3, 1) := by decide +kernel
theorem dN_worst_55 : decode bN_worst 55 = .ok (.iinc 4 1, 3) := by decide +kernel
theorem dN_worst_58 : decode bN_worst 58 = .ok (.goto (-41), 3) := by decide +kernel
theorem dN_worst_61 : decode bN_worst 61 = .ok (.iload_n 2, 1) := by decide +kernel
theorem dN_worst_62 : decode bN_worst 62 = .ok (.ireturn, 1) := by decide +kernel
theorem dN_needCell_0 : decode bN_needCell 0 = .ok (.aload_n 0, 1) := by decide +kernel
theorem dN_needCell_1 : decode bN_needCell 1 = .ok (.iload_n 1, 1) := by decide +kernel
theorem dN_needCell_2 : decode bN_needCell 2 = .ok (.iload_n 2, 1) := by decide +kernel
theorem dN_needCell_3 : decode bN_needCell 3 = .ok (.invokevirtual 159, 3) := by decide +kernel
theorem dN_needCell_6 : decode bN_needCell 6 = .ok (.ifCond .ne 13, 3) := by decide +kernel
theorem dN_needCell_9 : decode bN_needCell 9 = .ok (.new 93, 3) := by decide +kernel
theorem dN_needCell_12 : decode bN_needCell 12 = .ok (.dup, 1) := by decide +kernel
theorem dN_needCell_13 : decode bN_needCell 13 = .ok (.ldc 162, 2) := by decide +kernel
theorem dN_needCell_15 : decode bN_needCell 15 = .ok (.invokespecial 97, 3) := by decide +kernel
theorem dN_needCell_18 : decode bN_needCell 18 = .ok (.athrow, 1) := by decide +kernel
theorem dN_needCell_19 : decode bN_needCell 19 = .ok (.return_, 1) := by decide +kernel
theorem dN_needPlace_0 : decode bN_needPlace 0 = .ok (.iload_n 1, 1) := by decide +kernel
theorem dN_needPlace_1 : decode bN_needPlace 1 = .ok (.ifCond .lt 11, 3) := by decide +kernel
theorem dN_needPlace_4 : decode bN_needPlace 4 = .ok (.iload_n 1, 1) := by decide +kernel
theorem dN_needPlace_5 : decode bN_needPlace 5 = .ok (.aload_n 0, 1) := by decide +kernel
theorem dN_needPlace_6 : decode bN_needPlace 6 = .ok (.getfield 39, 3) := by decide +kernel
theorem dN_needPlace_9 : decode bN_needPlace 9 = .ok (.if_icmp .lt 13, 3) := by decide +kernel
theorem dN_needPlace_12 : decode bN_needPlace 12 = .ok (.new 93, 3) := by decide +kernel
theorem dN_needPlace_15 : decode bN_needPlace 15 = .ok (.dup, 1) := by decide +kernel
theorem dN_needPlace_16 : decode bN_needPlace 16 = .ok (.ldc 164, 2) := by decide +kernel
theorem dN_needPlace_18 : decode bN_needPlace 18 = .ok (.invokespecial 97, 3) := by decide +kernel
theorem dN_needPlace_21 : decode bN_needPlace 21 = .ok (.athrow, 1) := by decide +kernel
theorem dN_needPlace_22 : decode bN_needPlace 22 = .ok (.return_, 1) := by decide +kernel
theorem dN_needSet_0 : decode bN_needSet 0 = .ok (.iload_n 1, 1) := by decide +kernel
theorem dN_needSet_1 : decode bN_needSet 1 = .ok (.aload_n 0, 1) := by decide +kernel
theorem dN_needSet_2 : decode bN_needSet 2 = .ok (.invokevirtual 137, 3) := by decide +kernel
theorem dN_needSet_5 : decode bN_needSet 5 = .ok (.iconst (-1), 1) := by decide +kernel
theorem dN_needSet_6 : decode bN_needSet 6 = .ok (.ixor, 1) := by decide +kernel
theorem dN_needSet_7 : decode bN_needSet 7 = .ok (.iand, 1) := by decide +kernel
theorem dN_needSet_8 : decode bN_needSet 8 = .ok (.ifCond .eq 13, 3) := by decide +kernel
theorem dN_needSet_11 : decode bN_needSet 11 = .ok (.new 93, 3) := by decide +kernel
theorem dN_needSet_14 : decode bN_needSet 14 = .ok (.dup, 1) := by decide +kernel
theorem dN_needSet_15 : decode bN_needSet 15 = .ok (.ldc 166, 2) := by decide +kernel
theorem dN_needSet_17 : decode bN_needSet 17 = .ok (.invokespecial 97, 3) := by decide +kernel
theorem dN_needSet_20 : decode bN_needSet 20 = .ok (.athrow, 1) := by decide +kernel
theorem dN_needSet_21 : decode bN_needSet 21 = .ok (.return_, 1) := by decide +kernel
theorem dN_inPlan_0 : decode bN_inPlan 0 = .ok (.iload_n 1, 1) := by decide +kernel
theorem dN_inPlan_1 : decode bN_inPlan 1 = .ok (.ifCond .lt 27, 3) := by decide +kernel
theorem dN_inPlan_4 : decode bN_inPlan 4 = .ok (.iload_n 1, 1) := by decide +kernel
theorem dN_inPlan_5 : decode bN_inPlan 5 = .ok (.aload_n 0, 1) := by decide +kernel
theorem dN_inPlan_6 : decode bN_inPlan 6 = .ok (.getfield 18, 3) := by decide +kernel
theorem dN_inPlan_9 : decode bN_inPlan 9 = .ok (.if_icmp .ge 19, 3) := by decide +kernel
theorem dN_inPlan_12 : decode bN_inPlan 12 = .ok (.iload_n 2, 1) := by decide +kernel
theorem dN_inPlan_13 : decode bN_inPlan 13 = .ok (.ifCond .lt 15, 3) := by decide +kernel
theorem dN_inPlan_16 : decode bN_inPlan 16 = .ok (.iload_n 2, 1) := by decide +kernel
theorem dN_inPlan_17 : decode bN_inPlan 17 = .ok (.aload_n 0, 1) := by decide +kernel
theorem dN_inPlan_18 : decode bN_inPlan 18 = .ok (.getfield 22, 3) := by decide +kernel
theorem dN_inPlan_21 : decode bN_inPlan 21 = .ok (.if_icmp .ge 7, 3) := by decide +kernel
theorem dN_inPlan_24 : decode bN_inPlan 24 = .ok (.iconst 1, 1) := by decide +kernel
theorem dN_inPlan_25 : decode bN_inPlan 25 = .ok (.goto 4, 3) := by decide +kernel
theorem dN_inPlan_28 : decode bN_inPlan 28 = .ok (.iconst 0, 1) := by decide +kernel
theorem dN_inPlan_29 : decode bN_inPlan 29 = .ok (.ireturn, 1) := by decide +kernel
theorem dN_cellAt_0 : decode bN_cellAt 0 = .ok (.iload_n 1, 1) := by decide +kernel
theorem dN_cellAt_1 : decode bN_cellAt 1 = .ok (.bipush 16, 2) := by decide +kernel
theorem dN_cellAt_3 : decode bN_cellAt 3 = .ok (.imul, 1) := by decide +kernel
theorem dN_cellAt_4 : decode bN_cellAt 4 = .ok (.iload_n 0, 1) := by decide +kernel
theorem dN_cellAt_5 : decode bN_cellAt 5 = .ok (.iadd, 1) := by decide +kernel
theorem dN_cellAt_6 : decode bN_cellAt 6 = .ok (.ireturn, 1) := by decide +kernel
theorem dN_isWall_0 : decode bN_isWall 0 = .ok (.aload_n 0, 1) := by decide +kernel
theorem dN_isWall_1 : decode bN_isWall 1 = .ok (.iload_n 1, 1) := by decide +kernel
theorem dN_isWall_2 : decode bN_isWall 2 = .ok (.iload_n 2, 1) := by decide +kernel
theorem dN_isWall_3 : decode bN_isWall 3 = .ok (.invokevirtual 159, 3) := by decide +kernel
theorem dN_isWall_6 : decode bN_isWall 6 = .ok (.ifCond .eq 16, 3) := by decide +kernel
theorem dN_isWall_9 : decode bN_isWall 9 = .ok (.aload_n 0, 1) := by decide +kernel
theorem dN_isWall_10 : decode bN_isWall 10 = .ok (.getfield 25, 3) := by decide +kernel
theorem dN_isWall_13 : decode bN_isWall 13 = .ok (.iload_n 1, 1) := by decide +kernel
theorem dN_isWall_14 : decode bN_isWall 14 = .ok (.iload_n 2, 1) := by decide +kernel
theorem dN_isWall_15 : decode bN_isWall 15 = .ok (.invokestatic 90, 3) := by decide +kernel
theorem dN_isWall_18 : decode bN_isWall 18 = .ok (.baload, 1) := by decide +kernel
theorem dN_isWall_19 : decode bN_isWall 19 = .ok (.ifCond .eq 7, 3) := by decide +kernel
theorem dN_isWall_22 : decode bN_isWall 22 = .ok (.iconst 1, 1) := by decide +kernel
theorem dN_isWall_23 : decode bN_isWall 23 = .ok (.goto 4, 3) := by decide +kernel
theorem dN_isWall_26 : decode bN_isWall 26 = .ok (.iconst 0, 1) := by decide +kernel
theorem dN_isWall_27 : decode bN_isWall 27 = .ok (.ireturn, 1) := by decide +kernel
theorem dN_isPlace_0 : decode bN_isPlace 0 = .ok (.iconst 0, 1) := by decide +kernel
theorem dN_isPlace_1 : decode bN_isPlace 1 = .ok (.istore_n 3, 1) := by decide +kernel
theorem dN_isPlace_2 : decode bN_isPlace 2 = .ok (.iload_n 3, 1) := by decide +kernel
theorem dN_isPlace_3 : decode bN_isPlace 3 = .ok (.bipush 12, 2) := by decide +kernel
theorem dN_isPlace_5 : decode bN_isPlace 5 = .ok (.if_icmp .ge 39, 3) := by decide +kernel
theorem dN_isPlace_8 : decode bN_isPlace 8 = .ok (.iload_n 3, 1) := by decide +kernel
theorem dN_isPlace_9 : decode bN_isPlace 9 = .ok (.aload_n 0, 1) := by decide +kernel
theorem dN_isPlace_10 : decode bN_isPlace 10 = .ok (.getfield 39, 3) := by decide +kernel
theorem dN_isPlace_13 : decode bN_isPlace 13 = .ok (.if_icmp .ge 31, 3) := by decide +kernel
theorem dN_isPlace_16 : decode bN_isPlace 16 = .ok (.aload_n 0, 1) := by decide +kernel
theorem dN_isPlace_17 : decode bN_isPlace 17 = .ok (.getfield 32, 3) := by decide +kernel
theorem dN_isPlace_20 : decode bN_isPlace 20 = .ok (.iload_n 3, 1) := by decide +kernel
theorem dN_isPlace_21 : decode bN_isPlace 21 = .ok (.iaload, 1) := by decide +kernel
theorem dN_isPlace_22 : decode bN_isPlace 22 = .ok (.iload_n 1, 1) := by decide +kernel
theorem dN_isPlace_23 : decode bN_isPlace 23 = .ok (.if_icmp .ne 15, 3) := by decide +kernel
theorem dN_isPlace_26 : decode bN_isPlace 26 = .ok (.aload_n 0, 1) := by decide +kernel
theorem dN_isPlace_27 : decode bN_isPlace 27 = .ok (.getfield 36, 3) := by decide +kernel
theorem dN_isPlace_30 : decode bN_isPlace 30 = .ok (.iload_n 3, 1) := by decide +kernel
theorem dN_isPlace_31 : decode bN_isPlace 31 = .ok (.iaload, 1) := by decide +kernel
theorem dN_isPlace_32 : decode bN_isPlace 32 = .ok (.iload_n 2, 1) := by decide +kernel
theorem dN_isPlace_33 : decode bN_isPlace 33 = .ok (.if_icmp .ne 5, 3) := by decide +kernel
theorem dN_isPlace_36 : decode bN_isPlace 36 = .ok (.iconst 1, 1) := by decide +kernel
theorem dN_isPlace_37 : decode bN_isPlace 37 = .ok (.ireturn, 1) := by decide +kernel
theorem dN_isPlace_38 : decode bN_isPlace 38 = .ok (.iinc 3 1, 3) := by decide +kernel
theorem dN_isPlace_41 : decode bN_isPlace 41 = .ok (.goto (-39), 3) := by decide +kernel
theorem dN_isPlace_44 : decode bN_isPlace 44 = .ok (.iconst 0, 1) := by decide +kernel
theorem dN_isPlace_45 : decode bN_isPlace 45 = .ok (.ireturn, 1) := by decide +kernel
theorem dN_allPlaces_0 : decode bN_allPlaces 0 = .ok (.iconst 1, 1) := by decide +kernel
theorem dN_allPlaces_1 : decode bN_allPlaces 1 = .ok (.aload_n 0, 1) := by decide +kernel
theorem dN_allPlaces_2 : decode bN_allPlaces 2 = .ok (.getfield 39, 3) := by decide +kernel
theorem dN_allPlaces_5 : decode bN_allPlaces 5 = .ok (.ishl, 1) := by decide +kernel
theorem dN_allPlaces_6 : decode bN_allPlaces 6 = .ok (.iconst 1, 1) := by decide +kernel
theorem dN_allPlaces_7 : decode bN_allPlaces 7 = .ok (.isub, 1) := by decide +kernel
theorem dN_allPlaces_8 : decode bN_allPlaces 8 = .ok (.ireturn, 1) := by decide +kernel
theorem dN_holds_0 : decode bN_holds 0 = .ok (.iload_n 0, 1) := by decide +kernel
theorem dN_holds_1 : decode bN_holds 1 = .ok (.iload_n 1, 1) := by decide +kernel
theorem dN_holds_2 : decode bN_holds 2 = .ok (.ishr, 1) := by decide +kernel
theorem dN_holds_3 : decode bN_holds 3 = .ok (.iconst 1, 1) := by decide +kernel
theorem dN_holds_4 : decode bN_holds 4 = .ok (.iand, 1) := by decide +kernel
theorem dN_holds_5 : decode bN_holds 5 = .ok (.ifCond .eq 7, 3) := by decide +kernel
theorem dN_holds_8 : decode bN_holds 8 = .ok (.iconst 1, 1) := by decide +kernel
theorem dN_holds_9 : decode bN_holds 9 = .ok (.goto 4, 3) := by decide +kernel
theorem dN_holds_12 : decode bN_holds 12 = .ok (.iconst 0, 1) := by decide +kernel
theorem dN_holds_13 : decode bN_holds 13 = .ok (.ireturn, 1) := by decide +kernel
theorem dN_lineIsFree_0 : decode bN_lineIsFree 0 = .ok (.iload_n 3, 1) := by decide +kernel
theorem dN_lineIsFree_1 : decode bN_lineIsFree 1 = .ok (.iload_n 1, 1) := by decide +kernel
theorem dN_lineIsFree_2 : decode bN_lineIsFree 2 = .ok (.isub, 1) := by decide +kernel
theorem dN_lineIsFree_3 : decode bN_lineIsFree 3 = .ok (.invokestatic 168, 3) := by decide +kernel
theorem dN_lineIsFree_6 : decode bN_lineIsFree 6 = .ok (.istore 5, 2) := by decide +kernel
theorem dN_lineIsFree_8 : decode bN_lineIsFree 8 = .ok (.iload 4, 2) := by decide +kernel
theorem dN_lineIsFree_10 : decode bN_lineIsFree 10 = .ok (.iload_n 2, 1) := by decide +kernel
theorem dN_lineIsFree_11 : decode bN_lineIsFree 11 = .ok (.isub, 1) := by decide +kernel
theorem dN_lineIsFree_12 : decode bN_lineIsFree 12 = .ok (.invokestatic 168, 3) := by decide +kernel
theorem dN_lineIsFree_15 : decode bN_lineIsFree 15 = .ok (.istore 6, 2) := by decide +kernel
theorem dN_lineIsFree_17 : decode bN_lineIsFree 17 = .ok (.iload_n 3, 1) := by decide +kernel
theorem dN_lineIsFree_18 : decode bN_lineIsFree 18 = .ok (.iload_n 1, 1) := by decide +kernel
theorem dN_lineIsFree_19 : decode bN_lineIsFree 19 = .ok (.if_icmp .ge 7, 3) := by decide +kernel
theorem dN_lineIsFree_22 : decode bN_lineIsFree 22 = .ok (.iconst (-1), 1) := by decide +kernel
theorem dN_lineIsFree_23 : decode bN_lineIsFree 23 = .ok (.goto 4, 3) := by decide +kernel
theorem dN_lineIsFree_26 : decode bN_lineIsFree 26 = .ok (.iconst 1, 1) := by decide +kernel
theorem dN_lineIsFree_27 : decode bN_lineIsFree 27 = .ok (.istore 7, 2) := by decide +kernel
theorem dN_lineIsFree_29 : decode bN_lineIsFree 29 = .ok (.iload 4, 2) := by decide +kernel
theorem dN_lineIsFree_31 : decode bN_lineIsFree 31 = .ok (.iload_n 2, 1) := by decide +kernel
theorem dN_lineIsFree_32 : decode bN_lineIsFree 32 = .ok (.if_icmp .ge 7, 3) := by decide +kernel
theorem dN_lineIsFree_35 : decode bN_lineIsFree 35 = .ok (.iconst (-1), 1) := by decide +kernel
theorem dN_lineIsFree_36 : decode bN_lineIsFree 36 = .ok (.goto 4, 3) := by decide +kernel
theorem dN_lineIsFree_39 : decode bN_lineIsFree 39 = .ok (.iconst 1, 1) := by decide +kernel
theorem dN_lineIsFree_40 : decode bN_lineIsFree 40 = .ok (.istore 8, 2) := by decide +kernel
theorem dN_lineIsFree_42 : decode bN_lineIsFree 42 = .ok (.iconst 0, 1) := by decide +kernel
theorem dN_lineIsFree_43 : decode bN_lineIsFree 43 = .ok (.istore 9, 2) := by decide +kernel
theorem dN_lineIsFree_45 : decode bN_lineIsFree 45 = .ok (.iconst 0, 1) := by decide +kernel
theorem dN_lineIsFree_46 : decode bN_lineIsFree 46 = .ok (.istore 10, 2) := by decide +kernel
theorem dN_lineIsFree_48 : decode bN_lineIsFree 48 = .ok (.iconst 0, 1) := by decide +kernel
theorem dN_lineIsFree_49 : decode bN_lineIsFree 49 = .ok (.istore 11, 2) := by decide +kernel
theorem dN_lineIsFree_51 : decode bN_lineIsFree 51 = .ok (.iload 11, 2) := by decide +kernel
theorem dN_lineIsFree_53 : decode bN_lineIsFree 53 = .ok (.iload 5, 2) := by decide +kernel
theorem dN_lineIsFree_55 : decode bN_lineIsFree 55 = .ok (.iload 6, 2) := by decide +kernel
theorem dN_lineIsFree_57 : decode bN_lineIsFree 57 = .ok (.iadd, 1) := by decide +kernel
theorem dN_lineIsFree_58 : decode bN_lineIsFree 58 = .ok (.if_icmp .gt 85, 3) := by decide +kernel
theorem dN_lineIsFree_61 : decode bN_lineIsFree 61 = .ok (.aload_n 0, 1) := by decide +kernel
theorem dN_lineIsFree_62 : decode bN_lineIsFree 62 = .ok (.iload_n 1, 1) := by decide +kernel
theorem dN_lineIsFree_63 : decode bN_lineIsFree 63 = .ok (.iload 9, 2) := by decide +kernel
theorem dN_lineIsFree_65 : decode bN_lineIsFree 65 = .ok (.iload 7, 2) := by decide +kernel
theorem dN_lineIsFree_67 : decode bN_lineIsFree 67 = .ok (.imul, 1) := by decide +kernel
theorem dN_lineIsFree_68 : decode bN_lineIsFree 68 = .ok (.iadd, 1) := by decide +kernel
theorem dN_lineIsFree_69 : decode bN_lineIsFree 69 = .ok (.iload_n 2, 1) := by decide +kernel
theorem dN_lineIsFree_70 : decode bN_lineIsFree 70 = .ok (.iload 10, 2) := by decide +kernel
theorem dN_lineIsFree_72 : decode bN_lineIsFree 72 = .ok (.iload 8, 2) := by decide +kernel
theorem dN_lineIsFree_74 : decode bN_lineIsFree 74 = .ok (.imul, 1) := by decide +kernel
theorem dN_lineIsFree_75 : decode bN_lineIsFree 75 = .ok (.iadd, 1) := by decide +kernel
theorem dN_lineIsFree_76 : decode bN_lineIsFree 76 = .ok (.invokevirtual 86, 3) := by decide +kernel
theorem dN_lineIsFree_79 : decode bN_lineIsFree 79 = .ok (.ifCond .eq 5, 3) := by decide +kernel
theorem dN_lineIsFree_82 : decode bN_lineIsFree 82 = .ok (.iconst 0, 1) := by decide +kernel
theorem dN_lineIsFree_83 : decode bN_lineIsFree 83 = .ok (.ireturn, 1) := by decide +kernel
theorem dN_lineIsFree_84 : decode bN_lineIsFree 84 = .ok (.iload 9, 2) := by decide +kernel
theorem dN_lineIsFree_86 : decode bN_lineIsFree 86 = .ok (.iload 5, 2) := by decide +kernel
theorem dN_lineIsFree_88 : decode bN_lineIsFree 88 = .ok (.if_icmp .ne 12, 3) := by decide +kernel
theorem dN_lineIsFree_91 : decode bN_lineIsFree 91 = .ok (.iload 10, 2) := by decide +kernel
theorem dN_lineIsFree_93 : decode bN_lineIsFree 93 = .ok (.iload 6, 2) := by decide +kernel
theorem dN_lineIsFree_95 : decode bN_lineIsFree 95 = .ok (.if_icmp .ne 5, 3) := by decide +kernel
theorem dN_lineIsFree_98 : decode bN_lineIsFree 98 = .ok (.iconst 1, 1) := by decide +kernel
theorem dN_lineIsFree_99 : decode bN_lineIsFree 99 = .ok (.ireturn, 1) := by decide +kernel
theorem dN_lineIsFree_100 : decode bN_lineIsFree 100 = .ok (.iconst 2, 1) := by decide +kernel
theorem dN_lineIsFree_101 : decode bN_lineIsFree 101 = .ok (.iload 9, 2) := by decide +kernel
theorem dN_lineIsFree_103 : decode bN_lineIsFree 103 = .ok (.imul, 1) := by decide +kernel
theorem dN_lineIsFree_104 : decode bN_lineIsFree 104 = .ok (.iconst 1, 1) := by decide +kernel
theorem dN_lineIsFree_105 : decode bN_lineIsFree 105 = .ok (.iadd, 1) := by decide +kernel
theorem dN_lineIsFree_106 : decode bN_lineIsFree 106 = .ok (.iload 6, 2) := by decide +kernel
theorem dN_lineIsFree_108 : decode bN_lineIsFree 108 = .ok (.imul, 1) := by decide +kernel
theorem dN_lineIsFree_109 : decode bN_lineIsFree 109 = .ok (.iconst 2, 1) := by decide +kernel
theorem dN_lineIsFree_110 : decode bN_lineIsFree 110 = .ok (.iload 10, 2) := by decide +kernel
theorem dN_lineIsFree_112 : decode bN_lineIsFree 112 = .ok (.imul, 1) := by decide +kernel
theorem dN_lineIsFree_113 : decode bN_lineIsFree 113 = .ok (.iconst 1, 1) := by decide +kernel
theorem dN_lineIsFree_114 : decode bN_lineIsFree 114 = .ok (.iadd, 1) := by decide +kernel
theorem dN_lineIsFree_115 : decode bN_lineIsFree 115 = .ok (.iload 5, 2) := by decide +kernel
theorem dN_lineIsFree_117 : decode bN_lineIsFree 117 = .ok (.imul, 1) := by decide +kernel
theorem dN_lineIsFree_118 : decode bN_lineIsFree 118 = .ok (.isub, 1) := by decide +kernel
theorem dN_lineIsFree_119 : decode bN_lineIsFree 119 = .ok (.istore 12, 2) := by decide +kernel
theorem dN_lineIsFree_121 : decode bN_lineIsFree 121 = .ok (.iload 12, 2) := by decide +kernel
theorem dN_lineIsFree_123 : decode bN_lineIsFree 123 = .ok (.ifCond .gt 6, 3) := by decide +kernel
theorem dN_lineIsFree_126 : decode bN_lineIsFree 126 = .ok (.iinc 9 1, 3) := by decide +kernel
theorem dN_lineIsFree_129 : decode bN_lineIsFree 129 = .ok (.iload 12, 2) := by decide +kernel
theorem dN_lineIsFree_131 : decode bN_lineIsFree 131 = .ok (.ifCond .lt 6, 3) := by decide +kernel
theorem dN_lineIsFree_134 : decode bN_lineIsFree 134 = .ok (.iinc 10 1, 3) := by decide +kernel
theorem dN_lineIsFree_137 : decode bN_lineIsFree 137 = .ok (.iinc 11 1, 3) := by decide +kernel
theorem dN_lineIsFree_140 : decode bN_lineIsFree 140 = .ok (.goto (-89), 3) := by decide +kernel
theorem dN_lineIsFree_143 : decode bN_lineIsFree 143 = .ok (.iconst 1, 1) := by decide +kernel
theorem dN_lineIsFree_144 : decode bN_lineIsFree 144 = .ok (.ireturn, 1) := by decide +kernel
theorem dN_isNear_0 : decode bN_isNear 0 = .ok (.iload_n 1, 1) := by decide +kernel
theorem dN_isNear_1 : decode bN_isNear 1 = .ok (.iload_n 3, 1) := by decide +kernel
theorem dN_isNear_2 : decode bN_isNear 2 = .ok (.isub, 1) := by decide +kernel
theorem dN_isNear_3 : decode bN_isNear 3 = .ok (.iload_n 1, 1) := by decide +kernel
theorem dN_isNear_4 : decode bN_isNear 4 = .ok (.iload_n 3, 1) := by decide +kernel
theorem dN_isNear_5 : decode bN_isNear 5 = .ok (.isub, 1) := by decide +kernel
theorem dN_isNear_6 : decode bN_isNear 6 = .ok (.imul, 1) := by decide +kernel
theorem dN_isNear_7 : decode bN_isNear 7 = .ok (.iload_n 2, 1) := by decide +kernel
theorem dN_isNear_8 : decode bN_isNear 8 = .ok (.iload 4, 2) := by decide +kernel
theorem dN_isNear_10 : decode bN_isNear 10 = .ok (.isub, 1) := by decide +kernel
theorem dN_isNear_11 : decode bN_isNear 11 = .ok (.iload_n 2, 1) := by decide +kernel
theorem dN_isNear_12 : decode bN_isNear 12 = .ok (.iload 4, 2) := by decide +kernel
theorem dN_isNear_14 : decode bN_isNear 14 = .ok (.isub, 1) := by decide +kernel
theorem dN_isNear_15 : decode bN_isNear 15 = .ok (.imul, 1) := by decide +kernel
theorem dN_isNear_16 : decode bN_isNear 16 = .ok (.iadd, 1) := by decide +kernel
theorem dN_isNear_17 : decode bN_isNear 17 = .ok (.aload_n 0, 1) := by decide +kernel
theorem dN_isNear_18 : decode bN_isNear 18 = .ok (.getfield 29, 3) := by decide +kernel
theorem dN_isNear_21 : decode bN_isNear 21 = .ok (.if_icmp .gt 7, 3) := by decide +kernel
theorem dN_isNear_24 : decode bN_isNear 24 = .ok (.iconst 1, 1) := by decide +kernel
theorem dN_isNear_25 : decode bN_isNear 25 = .ok (.goto 4, 3) := by decide +kernel
theorem dN_isNear_28 : decode bN_isNear 28 = .ok (.iconst 0, 1) := by decide +kernel
theorem dN_isNear_29 : decode bN_isNear 29 = .ok (.ireturn, 1) := by decide +kernel
theorem dN_findReachers_0 : decode bN_findReachers 0 = .ok (.aload_n 0, 1) := by decide +kernel
theorem dN_findReachers_1 : decode bN_findReachers 1 = .ok (.getfield 45, 3) := by decide +kernel
theorem dN_findReachers_4 : decode bN_findReachers 4 = .ok (.ifCond .ne 4, 3) := by decide +kernel
theorem dN_findReachers_7 : decode bN_findReachers 7 = .ok (.return_, 1) := by decide +kernel
theorem dN_findReachers_8 : decode bN_findReachers 8 = .ok (.aload_n 0, 1) := by decide +kernel
theorem dN_findReachers_9 : decode bN_findReachers 9 = .ok (.getfield 42, 3) := by decide +kernel
theorem dN_findReachers_12 : decode bN_findReachers 12 = .ok (.iconst 0, 1) := by decide +kernel
theorem dN_findReachers_13 : decode bN_findReachers 13 = .ok (.invokestatic 52, 3) := by decide +kernel
theorem dN_findReachers_16 : decode bN_findReachers 16 = .ok (.iconst 0, 1) := by decide +kernel
theorem dN_findReachers_17 : decode bN_findReachers 17 = .ok (.istore_n 1, 1) := by decide +kernel
theorem dN_findReachers_18 : decode bN_findReachers 18 = .ok (.iload_n 1, 1) := by decide +kernel
theorem dN_findReachers_19 : decode bN_findReachers 19 = .ok (.bipush 12, 2) := by decide +kernel
theorem dN_findReachers_21 : decode bN_findReachers 21 = .ok (.if_icmp .ge 34, 3) := by decide +kernel
theorem dN_findReachers_24 : decode bN_findReachers 24 = .ok (.iload_n 1, 1) := by decide +kernel
theorem dN_findReachers_25 : decode bN_findReachers 25 = .ok (.aload_n 0, 1) := by decide +kernel
theorem dN_findReachers_26 : decode bN_findReachers 26 = .ok (.getfield 39, 3) := by decide +kernel
theorem dN_findReachers_29 : decode bN_findReachers 29 = .ok (.if_icmp .ge 26, 3) := by decide +kernel
theorem dN_findReachers_32 : decode bN_findReachers 32 = .ok (.aload_n 0, 1) := by decide +kernel
theorem dN_findReachers_33 : decode bN_findReachers 33 = .ok (.iload_n 1, 1) := by decide +kernel
theorem dN_findReachers_34 : decode bN_findReachers 34 = .ok (.aload_n 0, 1) := by decide +kernel
theorem dN_findReachers_35 : decode bN_findReachers 35 = .ok (.getfield 32, 3) := by decide +kernel
theorem dN_findReachers_38 : decode bN_findReachers 38 = .ok (.iload_n 1, 1) := by decide +kernel
theorem dN_findReachers_39 : decode bN_findReachers 39 = .ok (.iaload, 1) := by decide +kernel
theorem dN_findReachers_40 : decode bN_findReachers 40 = .ok (.aload_n 0, 1) := by decide +kernel
theorem dN_findReachers_41 : decode bN_findReachers 41 = .ok (.getfield 36, 3) := by decide +kernel
theorem dN_findReachers_44 : decode bN_findReachers 44 = .ok (.iload_n 1, 1) := by decide +kernel
theorem dN_findReachers_45 : decode bN_findReachers 45 = .ok (.iaload, 1) := by decide +kernel
theorem dN_findReachers_46 : decode bN_findReachers 46 = .ok (.invokevirtual 171, 3) := by decide +kernel
theorem dN_findReachers_49 : decode bN_findReachers 49 = .ok (.iinc 1 1, 3) := by decide +kernel
theorem dN_findReachers_52 : decode bN_findReachers 52 = .ok (.goto (-34), 3) := by decide +kernel
theorem dN_findReachers_55 : decode bN_findReachers 55 = .ok (.aload_n 0, 1) := by decide +kernel
theorem dN_findReachers_56 : decode bN_findReachers 56 = .ok (.iconst 0, 1) := by decide +kernel
theorem dN_findReachers_57 : decode bN_findReachers 57 = .ok (.putfield 45, 3) := by decide +kernel
theorem dN_findReachers_60 : decode bN_findReachers 60 = .ok (.return_, 1) := by decide +kernel
theorem dN_addReacher_0 : decode bN_addReacher 0 = .ok (.iconst 0, 1) := by decide +kernel
theorem dN_addReacher_1 : decode bN_addReacher 1 = .ok (.istore 4, 2) := by decide +kernel
theorem dN_addReacher_3 : decode bN_addReacher 3 = .ok (.iload 4, 2) := by decide +kernel
theorem dN_addReacher_5 : decode bN_addReacher 5 = .ok (.aload_n 0, 1) := by decide +kernel
theorem dN_addReacher_6 : decode bN_addReacher 6 = .ok (.getfield 22, 3) := by decide +kernel
theorem dN_addReacher_9 : decode bN_addReacher 9 = .ok (.if_icmp .ge 71, 3) := by decide +kernel
theorem dN_addReacher_12 : decode bN_addReacher 12 = .ok (.iconst 0, 1) := by decide +kernel
theorem dN_addReacher_13 : decode bN_addReacher 13 = .ok (.istore 5, 2) := by decide +kernel
theorem dN_addReacher_15 : decode bN_addReacher 15 = .ok (.iload 5, 2) := by decide +kernel
theorem dN_addReacher_17 : decode bN_addReacher 17 = .ok (.aload_n 0, 1) := by decide +kernel
theorem dN_addReacher_18 : decode bN_addReacher 18 = .ok (.getfield 18, 3) := by decide +kernel
theorem dN_addReacher_21 : decode bN_addReacher 21 = .ok (.if_icmp .ge 53, 3) := by decide +kernel
theorem dN_addReacher_24 : decode bN_addReacher 24 = .ok (.aload_n 0, 1) := by decide +kernel
theorem dN_addReacher_25 : decode bN_addReacher 25 = .ok (.iload_n 2, 1) := by decide +kernel
theorem dN_addReacher_26 : decode bN_addReacher 26 = .ok (.iload_n 3, 1) := by decide +kernel
theorem dN_addReacher_27 : decode bN_addReacher 27 = .ok (.iload 5, 2) := by decide +kernel
theorem dN_addReacher_29 : decode bN_addReacher 29 = .ok (.iload 4, 2) := by decide +kernel
theorem dN_addReacher_31 : decode bN_addReacher 31 = .ok (.invokevirtual 175, 3) := by decide +kernel
theorem dN_addReacher_34 : decode bN_addReacher 34 = .ok (.ifCond .eq 34, 3) := by decide +kernel
theorem dN_addReacher_37 : decode bN_addReacher 37 = .ok (.aload_n 0, 1) := by decide +kernel
theorem dN_addReacher_38 : decode bN_addReacher 38 = .ok (.iload_n 2, 1) := by decide +kernel
theorem dN_addReacher_39 : decode bN_addReacher 39 = .ok (.iload_n 3, 1) := by decide +kernel
theorem dN_addReacher_40 : decode bN_addReacher 40 = .ok (.iload 5, 2) := by decide +kernel
theorem dN_addReacher_42 : decode bN_addReacher 42 = .ok (.iload 4, 2) := by decide +kernel
theorem dN_addReacher_44 : decode bN_addReacher 44 = .ok (.invokevirtual 112, 3) := by decide +kernel
theorem dN_addReacher_47 : decode bN_addReacher 47 = .ok (.ifCond .eq 21, 3) := by decide +kernel
theorem dN_addReacher_50 : decode bN_addReacher 50 = .ok (.aload_n 0, 1) := by decide +kernel
theorem dN_addReacher_51 : decode bN_addReacher 51 = .ok (.getfield 42, 3) := by decide +kernel
theorem dN_addReacher_54 : decode bN_addReacher 54 = .ok (.iload 5, 2) := by decide +kernel
theorem dN_addReacher_56 : decode bN_addReacher 56 = .ok (.iload 4, 2) := by decide +kernel
theorem dN_addReacher_58 : decode bN_addReacher 58 = .ok (.invokestatic 90, 3) := by decide +kernel
theorem dN_addReacher_61 : decode bN_addReacher 61 = .ok (.dup2, 1) := by decide +kernel
theorem dN_addReacher_62 : decode bN_addReacher 62 = .ok (.iaload, 1) := by decide +kernel
theorem dN_addReacher_63 : decode bN_addReacher 63 = .ok (.iconst 1, 1) := by decide +kernel
theorem dN_addReacher_64 : decode bN_addReacher 64 = .ok (.iload_n 1, 1) := by decide +kernel
theorem dN_addReacher_65 : decode bN_addReacher 65 = .ok (.ishl, 1) := by decide +kernel
theorem dN_addReacher_66 : decode bN_addReacher 66 = .ok (.ior, 1) := by decide +kernel
theorem dN_addReacher_67 : decode bN_addReacher 67 = .ok (.iastore, 1) := by decide +kernel
theorem dN_addReacher_68 : decode bN_addReacher 68 = .ok (.iinc 5 1, 3) := by decide +kernel
theorem dN_addReacher_71 : decode bN_addReacher 71 = .ok (.goto (-56), 3) := by decide +kernel
theorem dN_addReacher_74 : decode bN_addReacher 74 = .ok (.iinc 4 1, 3) := by decide +kernel
theorem dN_addReacher_77 : decode bN_addReacher 77 = .ok (.goto (-74), 3) := by decide +kernel
theorem dN_addReacher_80 : decode bN_addReacher 80 = .ok (.return_, 1) := by decide +kernel
theorem dN_isDry_0 : decode bN_isDry 0 = .ok (.aload_n 0, 1) := by decide +kernel
theorem dN_isDry_1 : decode bN_isDry 1 = .ok (.getfield 25, 3) := by decide +kernel
theorem dN_isDry_4 : decode bN_isDry 4 = .ok (.iload_n 1, 1) := by decide +kernel
theorem dN_isDry_5 : decode bN_isDry 5 = .ok (.baload, 1) := by decide +kernel
theorem dN_isDry_6 : decode bN_isDry 6 = .ok (.ifCond .ne 18, 3) := by decide +kernel
theorem dN_isDry_9 : decode bN_isDry 9 = .ok (.aload_n 0, 1) := by decide +kernel
theorem dN_isDry_10 : decode bN_isDry 10 = .ok (.getfield 42, 3) := by decide +kernel
theorem dN_isDry_13 : decode bN_isDry 13 = .ok (.iload_n 1, 1) := by decide +kernel
theorem dN_isDry_14 : decode bN_isDry 14 = .ok (.iaload, 1) := by decide +kernel
theorem dN_isDry_15 : decode bN_isDry 15 = .ok (.iload_n 2, 1) := by decide +kernel
theorem dN_isDry_16 : decode bN_isDry 16 = .ok (.iand, 1) := by decide +kernel
theorem dN_isDry_17 : decode bN_isDry 17 = .ok (.ifCond .ne 7, 3) := by decide +kernel
theorem dN_isDry_20 : decode bN_isDry 20 = .ok (.iconst 1, 1) := by decide +kernel
theorem dN_isDry_21 : decode bN_isDry 21 = .ok (.goto 4, 3) := by decide +kernel
theorem dN_isDry_24 : decode bN_isDry 24 = .ok (.iconst 0, 1) := by decide +kernel
theorem dN_isDry_25 : decode bN_isDry 25 = .ok (.ireturn, 1) := by decide +kernel
theorem dN_dryCell_0 : decode bN_dryCell 0 = .ok (.iconst 0, 1) := by decide +kernel
theorem dN_dryCell_1 : decode bN_dryCell 1 = .ok (.istore_n 3, 1) := by decide +kernel
theorem dN_dryCell_2 : decode bN_dryCell 2 = .ok (.iconst 0, 1) := by decide +kernel
theorem dN_dryCell_3 : decode bN_dryCell 3 = .ok (.istore 4, 2) := by decide +kernel
theorem dN_dryCell_5 : decode bN_dryCell 5 = .ok (.iload 4, 2) := by decide +kernel
theorem dN_dryCell_7 : decode bN_dryCell 7 = .ok (.aload_n 0, 1) := by decide +kernel
theorem dN_dryCell_8 : decode bN_dryCell 8 = .ok (.getfield 25, 3) := by decide +kernel
theorem dN_dryCell_11 : decode bN_dryCell 11 = .ok (.arraylength, 1) := by decide +kernel
theorem dN_dryCell_12 : decode bN_dryCell 12 = .ok (.if_icmp .ge 30, 3) := by decide +kernel
theorem dN_dryCell_15 : decode bN_dryCell 15 = .ok (.aload_n 0, 1) := by decide +kernel
theorem dN_dryCell_16 : decode bN_dryCell 16 = .ok (.iload 4, 2) := by decide +kernel
theorem dN_dryCell_18 : decode bN_dryCell 18 = .ok (.iload_n 1, 1) := by decide +kernel
theorem dN_dryCell_19 : decode bN_dryCell 19 = .ok (.invokevirtual 129, 3) := by decide +kernel
theorem dN_dryCell_22 : decode bN_dryCell 22 = .ok (.ifCond .eq 14, 3) := by decide +kernel
theorem dN_dryCell_25 : decode bN_dryCell 25 = .ok (.iload_n 3, 1) := by decide +kernel
theorem dN_dryCell_26 : decode bN_dryCell 26 = .ok (.iload_n 2, 1) := by decide +kernel
theorem dN_dryCell_27 : decode bN_dryCell 27 = .ok (.if_icmp .ne 6, 3) := by decide +kernel
theorem dN_dryCell_30 : decode bN_dryCell 30 = .ok (.iload 4, 2) := by decide +kernel
theorem dN_dryCell_32 : decode bN_dryCell 32 = .ok (.ireturn, 1) := by decide +kernel
theorem dN_dryCell_33 : decode bN_dryCell 33 = .ok (.iinc 3 1, 3) := by decide +kernel
theorem dN_dryCell_36 : decode bN_dryCell 36 = .ok (.iinc 4 1, 3) := by decide +kernel
theorem dN_dryCell_39 : decode bN_dryCell 39 = .ok (.goto (-34), 3) := by decide +kernel
theorem dN_dryCell_42 : decode bN_dryCell 42 = .ok (.iconst (-1), 1) := by decide +kernel
theorem dN_dryCell_43 : decode bN_dryCell 43 = .ok (.ireturn, 1) := by decide +kernel
theorem dN_layPipes_0 : decode bN_layPipes 0 = .ok (.aload_n 0, 1) := by decide +kernel
theorem dN_layPipes_1 : decode bN_layPipes 1 = .ok (.iload_n 1, 1) := by decide +kernel
theorem dN_layPipes_2 : decode bN_layPipes 2 = .ok (.invokevirtual 178, 3) := by decide +kernel
theorem dN_layPipes_5 : decode bN_layPipes 5 = .ok (.aload_n 0, 1) := by decide +kernel
theorem dN_layPipes_6 : decode bN_layPipes 6 = .ok (.invokevirtual 181, 3) := by decide +kernel
theorem dN_layPipes_9 : decode bN_layPipes 9 = .ok (.aload_n 0, 1) := by decide +kernel
theorem dN_layPipes_10 : decode bN_layPipes 10 = .ok (.invokevirtual 184, 3) := by decide +kernel
theorem dN_layPipes_13 : decode bN_layPipes 13 = .ok (.return_, 1) := by decide +kernel
theorem dN_joinPlaces_0 : decode bN_joinPlaces 0 = .ok (.iconst 0, 1) := by decide +kernel
theorem dN_joinPlaces_1 : decode bN_joinPlaces 1 = .ok (.istore_n 2, 1) := by decide +kernel
theorem dN_joinPlaces_2 : decode bN_joinPlaces 2 = .ok (.iload_n 2, 1) := by decide +kernel
theorem dN_joinPlaces_3 : decode bN_joinPlaces 3 = .ok (.bipush 12, 2) := by decide +kernel
theorem dN_joinPlaces_5 : decode bN_joinPlaces 5 = .ok (.if_icmp .ge 35, 3) := by decide +kernel
theorem dN_joinPlaces_8 : decode bN_joinPlaces 8 = .ok (.aload_n 0, 1) := by decide +kernel
theorem dN_joinPlaces_9 : decode bN_joinPlaces 9 = .ok (.getfield 61, 3) := by decide +kernel
theorem dN_joinPlaces_12 : decode bN_joinPlaces 12 = .ok (.iload_n 2, 1) := by decide +kernel
theorem dN_joinPlaces_13 : decode bN_joinPlaces 13 = .ok (.iconst (-1), 1) := by decide +kernel
theorem dN_joinPlaces_14 : decode bN_joinPlaces 14 = .ok (.iastore, 1) := by decide +kernel
theorem dN_joinPlaces_15 : decode bN_joinPlaces 15 = .ok (.aload_n 0, 1) := by decide +kernel
theorem dN_joinPlaces_16 : decode bN_joinPlaces 16 = .ok (.getfield 64, 3) := by decide +kernel
theorem dN_joinPlaces_19 : decode bN_joinPlaces 19 = .ok (.iload_n 2, 1) := by decide +kernel
theorem dN_joinPlaces_20 : decode bN_joinPlaces 20 = .ok (.aload_n 0, 1) := by decide +kernel
theorem dN_joinPlaces_21 : decode bN_joinPlaces 21 = .ok (.getfield 32, 3) := by decide +kernel
theorem dN_joinPlaces_24 : decode bN_joinPlaces 24 = .ok (.iload_n 2, 1) := by decide +kernel
theorem dN_joinPlaces_25 : decode bN_joinPlaces 25 = .ok (.iaload, 1) := by decide +kernel
theorem dN_joinPlaces_26 : decode bN_joinPlaces 26 = .ok (.aload_n 0, 1) := by decide +kernel
theorem dN_joinPlaces_27 : decode bN_joinPlaces 27 = .ok (.getfield 36, 3) := by decide +kernel
theorem dN_joinPlaces_30 : decode bN_joinPlaces 30 = .ok (.iload_n 2, 1) := by decide +kernel
theorem dN_joinPlaces_31 : decode bN_joinPlaces 31 = .ok (.iaload, 1) := by decide +kernel
theorem dN_joinPlaces_32 : decode bN_joinPlaces 32 = .ok (.iadd, 1) := by decide +kernel
theorem dN_joinPlaces_33 : decode bN_joinPlaces 33 = .ok (.iastore, 1) := by decide +kernel
theorem dN_joinPlaces_34 : decode bN_joinPlaces 34 = .ok (.iinc 2 1, 3) := by decide +kernel
theorem dN_joinPlaces_37 : decode bN_joinPlaces 37 = .ok (.goto (-35), 3) := by decide +kernel
theorem dN_joinPlaces_40 : decode bN_joinPlaces 40 = .ok (.aload_n 0, 1) := by decide +kernel
theorem dN_joinPlaces_41 : decode bN_joinPlaces 41 = .ok (.iconst 0, 1) := by decide +kernel
theorem dN_joinPlaces_42 : decode bN_joinPlaces 42 = .ok (.putfield 79, 3) := by decide +kernel
theorem dN_joinPlaces_45 : decode bN_joinPlaces 45 = .ok (.iload_n 1, 1) := by decide +kernel
theorem dN_joinPlaces_46 : decode bN_joinPlaces 46 = .ok (.istore_n 2, 1) := by decide +kernel
theorem dN_joinPlaces_47 : decode bN_joinPlaces 47 = .ok (.iconst 0, 1) := by decide +kernel
theorem dN_joinPlaces_48 : decode bN_joinPlaces 48 = .ok (.istore_n 3, 1) := by decide +kernel
theorem dN_joinPlaces_49 : decode bN_joinPlaces 49 = .ok (.iload_n 3, 1) := by decide +kernel
theorem dN_joinPlaces_50 : decode bN_joinPlaces 50 = .ok (.bipush 12, 2) := by decide +kernel
theorem dN_joinPlaces_52 : decode bN_joinPlaces 52 = .ok (.if_icmp .ge 62, 3) := by decide +kernel
theorem dN_joinPlaces_55 : decode bN_joinPlaces 55 = .ok (.aload_n 0, 1) := by decide +kernel
theorem dN_joinPlaces_56 : decode bN_joinPlaces 56 = .ok (.iload_n 2, 1) := by decide +kernel
theorem dN_joinPlaces_57 : decode bN_joinPlaces 57 = .ok (.invokevirtual 187, 3) := by decide +kernel
theorem dN_joinPlaces_60 : decode bN_joinPlaces 60 = .ok (.istore 4, 2) := by decide +kernel
theorem dN_joinPlaces_62 : decode bN_joinPlaces 62 = .ok (.iload 4, 2) := by decide +kernel
theorem dN_joinPlaces_64 : decode bN_joinPlaces 64 = .ok (.iconst (-1), 1) := by decide +kernel
theorem dN_joinPlaces_65 : decode bN_joinPlaces 65 = .ok (.if_icmp .ne 4, 3) := by decide +kernel
theorem dN_joinPlaces_68 : decode bN_joinPlaces 68 = .ok (.return_, 1) := by decide +kernel
theorem dN_joinPlaces_69 : decode bN_joinPlaces 69 = .ok (.aload_n 0, 1) := by decide +kernel
theorem dN_joinPlaces_70 : decode bN_joinPlaces 70 = .ok (.getfield 76, 3) := by decide +kernel
theorem dN_joinPlaces_73 : decode bN_joinPlaces 73 = .ok (.iload_n 3, 1) := by decide +kernel
theorem dN_joinPlaces_74 : decode bN_joinPlaces 74 = .ok (.iload 4, 2) := by decide +kernel
theorem dN_joinPlaces_76 : decode bN_joinPlaces 76 = .ok (.iastore, 1) := by decide +kernel
theorem dN_joinPlaces_77 : decode bN_joinPlaces 77 = .ok (.aload_n 0, 1) := by decide +kernel
theorem dN_joinPlaces_78 : decode bN_joinPlaces 78 = .ok (.getfield 70, 3) := by decide +kernel
theorem dN_joinPlaces_81 : decode bN_joinPlaces 81 = .ok (.iload 4, 2) := by decide +kernel
theorem dN_joinPlaces_83 : decode bN_joinPlaces 83 = .ok (.iload_n 3, 1) := by decide +kernel
theorem dN_joinPlaces_84 : decode bN_joinPlaces 84 = .ok (.iastore, 1) := by decide +kernel
theorem dN_joinPlaces_85 : decode bN_joinPlaces 85 = .ok (.aload_n 0, 1) := by decide +kernel
theorem dN_joinPlaces_86 : decode bN_joinPlaces 86 = .ok (.iload_n 3, 1) := by decide +kernel
theorem dN_joinPlaces_87 : decode bN_joinPlaces 87 = .ok (.iconst 1, 1) := by decide +kernel
theorem dN_joinPlaces_88 : decode bN_joinPlaces 88 = .ok (.iadd, 1) := by decide +kernel
theorem dN_joinPlaces_89 : decode bN_joinPlaces 89 = .ok (.putfield 79, 3) := by decide +kernel
theorem dN_joinPlaces_92 : decode bN_joinPlaces 92 = .ok (.iload_n 2, 1) := by decide +kernel
theorem dN_joinPlaces_93 : decode bN_joinPlaces 93 = .ok (.iconst 1, 1) := by decide +kernel
theorem dN_joinPlaces_94 : decode bN_joinPlaces 94 = .ok (.iload 4, 2) := by decide +kernel
theorem dN_joinPlaces_96 : decode bN_joinPlaces 96 = .ok (.ishl, 1) := by decide +kernel
theorem dN_joinPlaces_97 : decode bN_joinPlaces 97 = .ok (.iconst (-1), 1) := by decide +kernel
theorem dN_joinPlaces_98 : decode bN_joinPlaces 98 = .ok (.ixor, 1) := by decide +kernel
theorem dN_joinPlaces_99 : decode bN_joinPlaces 99 = .ok (.iand, 1) := by decide +kernel
theorem dN_joinPlaces_100 : decode bN_joinPlaces 100 = .ok (.istore_n 2, 1) := by decide +kernel
theorem dN_joinPlaces_101 : decode bN_joinPlaces 101 = .ok (.aload_n 0, 1) := by decide +kernel
theorem dN_joinPlaces_102 : decode bN_joinPlaces 102 = .ok (.iload 4, 2) := by decide +kernel
theorem dN_joinPlaces_104 : decode bN_joinPlaces 104 = .ok (.iload_n 2, 1) := by decide +kernel
theorem dN_joinPlaces_105 : decode bN_joinPlaces 105 = .ok (.invokevirtual 190, 3) := by decide +kernel
theorem dN_joinPlaces_108 : decode bN_joinPlaces 108 = .ok (.iinc 3 1, 3) := by decide +kernel
theorem dN_joinPlaces_111 : decode bN_joinPlaces 111 = .ok (.goto (-62), 3) := by decide +kernel
theorem dN_joinPlaces_114 : decode bN_joinPlaces 114 = .ok (.return_, 1) := by decide +kernel
theorem dN_nearestOf_0 : decode bN_nearestOf 0 = .ok (.iconst (-1), 1) := by decide +kernel
theorem dN_nearestOf_1 : decode bN_nearestOf 1 = .ok (.istore_n 2, 1) := by decide +kernel
theorem dN_nearestOf_2 : decode bN_nearestOf 2 = .ok (.iconst 0, 1) := by decide +kernel
theorem dN_nearestOf_3 : decode bN_nearestOf 3 = .ok (.istore_n 3, 1) := by decide +kernel
theorem dN_nearestOf_4 : decode bN_nearestOf 4 = .ok (.iconst 0, 1) := by decide +kernel
theorem dN_nearestOf_5 : decode bN_nearestOf 5 = .ok (.istore 4, 2) := by decide +kernel
theorem dN_nearestOf_7 : decode bN_nearestOf 7 = .ok (.iload 4, 2) := by decide +kernel
theorem dN_nearestOf_9 : decode bN_nearestOf 9 = .ok (.bipush 12, 2) := by decide +kernel
theorem dN_nearestOf_11 : decode bN_nearestOf 11 = .ok (.if_icmp .ge 45, 3) := by decide +kernel
theorem dN_nearestOf_14 : decode bN_nearestOf 14 = .ok (.iload_n 1, 1) := by decide +kernel
theorem dN_nearestOf_15 : decode bN_nearestOf 15 = .ok (.iload 4, 2) := by decide +kernel
theorem dN_nearestOf_17 : decode bN_nearestOf 17 = .ok (.invokestatic 123, 3) := by decide +kernel
theorem dN_nearestOf_20 : decode bN_nearestOf 20 = .ok (.ifCond .eq 30, 3) := by decide +kernel
theorem dN_nearestOf_23 : decode bN_nearestOf 23 = .ok (.iload_n 2, 1) := by decide +kernel
theorem dN_nearestOf_24 : decode bN_nearestOf 24 = .ok (.iconst (-1), 1) := by decide +kernel
theorem dN_nearestOf_25 : decode bN_nearestOf 25 = .ok (.if_icmp .eq 14, 3) := by decide +kernel
theorem dN_nearestOf_28 : decode bN_nearestOf 28 = .ok (.aload_n 0, 1) := by decide +kernel
theorem dN_nearestOf_29 : decode bN_nearestOf 29 = .ok (.getfield 64, 3) := by decide +kernel
theorem dN_nearestOf_32 : decode bN_nearestOf 32 = .ok (.iload 4, 2) := by decide +kernel
theorem dN_nearestOf_34 : decode bN_nearestOf 34 = .ok (.iaload, 1) := by decide +kernel
theorem dN_nearestOf_35 : decode bN_nearestOf 35 = .ok (.iload_n 3, 1) := by decide +kernel
theorem dN_nearestOf_36 : decode bN_nearestOf 36 = .ok (.if_icmp .ge 14, 3) := by decide +kernel
theorem dN_nearestOf_39 : decode bN_nearestOf 39 = .ok (.iload 4, 2) := by decide +kernel
theorem dN_nearestOf_41 : decode bN_nearestOf 41 = .ok (.istore_n 2, 1) := by decide +kernel
theorem dN_nearestOf_42 : decode bN_nearestOf 42 = .ok (.aload_n 0, 1) := by decide +kernel
theorem dN_nearestOf_43 : decode bN_nearestOf 43 = .ok (.getfield 64, 3) := by decide +kernel
theorem dN_nearestOf_46 : decode bN_nearestOf 46 = .ok (.iload 4, 2) := by decide +kernel
theorem dN_nearestOf_48 : decode bN_nearestOf 48 = .ok (.iaload, 1) := by decide +kernel
theorem dN_nearestOf_49 : decode bN_nearestOf 49 = .ok (.istore_n 3, 1) := by decide +kernel
theorem dN_nearestOf_50 : decode bN_nearestOf 50 = .ok (.iinc 4 1, 3) := by decide +kernel
theorem dN_nearestOf_53 : decode bN_nearestOf 53 = .ok (.goto (-46), 3) := by decide +kernel
theorem dN_nearestOf_56 : decode bN_nearestOf 56 = .ok (.iload_n 2, 1) := by decide +kernel
theorem dN_nearestOf_57 : decode bN_nearestOf 57 = .ok (.ireturn, 1) := by decide +kernel
theorem dN_offerUpper_0 : decode bN_offerUpper 0 = .ok (.iconst 0, 1) := by decide +kernel
theorem dN_offerUpper_1 : decode bN_offerUpper 1 = .ok (.istore_n 3, 1) := by decide +kernel
theorem dN_offerUpper_2 : decode bN_offerUpper 2 = .ok (.iload_n 3, 1) := by decide +kernel
theorem dN_offerUpper_3 : decode bN_offerUpper 3 = .ok (.bipush 12, 2) := by decide +kernel
theorem dN_offerUpper_5 : decode bN_offerUpper 5 = .ok (.if_icmp .ge 78, 3) := by decide +kernel
theorem dN_offerUpper_8 : decode bN_offerUpper 8 = .ok (.aload_n 0, 1) := by decide +kernel
theorem dN_offerUpper_9 : decode bN_offerUpper 9 = .ok (.getfield 32, 3) := by decide +kernel
theorem dN_offerUpper_12 : decode bN_offerUpper 12 = .ok (.iload_n 3, 1) := by decide +kernel
theorem dN_offerUpper_13 : decode bN_offerUpper 13 = .ok (.iaload, 1) := by decide +kernel
theorem dN_offerUpper_14 : decode bN_offerUpper 14 = .ok (.aload_n 0, 1) := by decide +kernel
theorem dN_offerUpper_15 : decode bN_offerUpper 15 = .ok (.getfield 32, 3) := by decide +kernel
theorem dN_offerUpper_18 : decode bN_offerUpper 18 = .ok (.iload_n 1, 1) := by decide +kernel
theorem dN_offerUpper_19 : decode bN_offerUpper 19 = .ok (.iaload, 1) := by decide +kernel
theorem dN_offerUpper_20 : decode bN_offerUpper 20 = .ok (.isub, 1) := by decide +kernel
theorem dN_offerUpper_21 : decode bN_offerUpper 21 = .ok (.invokestatic 168, 3) := by decide +kernel
theorem dN_offerUpper_24 : decode bN_offerUpper 24 = .ok (.aload_n 0, 1) := by decide +kernel
theorem dN_offerUpper_25 : decode bN_offerUpper 25 = .ok (.getfield 36, 3) := by decide +kernel
theorem dN_offerUpper_28 : decode bN_offerUpper 28 = .ok (.iload_n 3, 1) := by decide +kernel
theorem dN_offerUpper_29 : decode bN_offerUpper 29 = .ok (.iaload, 1) := by decide +kernel
theorem dN_offerUpper_30 : decode bN_offerUpper 30 = .ok (.aload_n 0, 1) := by decide +kernel
theorem dN_offerUpper_31 : decode bN_offerUpper 31 = .ok (.getfield 36, 3) := by decide +kernel
theorem dN_offerUpper_34 : decode bN_offerUpper 34 = .ok (.iload_n 1, 1) := by decide +kernel
theorem dN_offerUpper_35 : decode bN_offerUpper 35 = .ok (.iaload, 1) := by decide +kernel
theorem dN_offerUpper_36 : decode bN_offerUpper 36 = .ok (.isub, 1) := by decide +kernel
theorem dN_offerUpper_37 : decode bN_offerUpper 37 = .ok (.invokestatic 168, 3) := by decide +kernel
theorem dN_offerUpper_40 : decode bN_offerUpper 40 = .ok (.iadd, 1) := by decide +kernel
theorem dN_offerUpper_41 : decode bN_offerUpper 41 = .ok (.istore 4, 2) := by decide +kernel
theorem dN_offerUpper_43 : decode bN_offerUpper 43 = .ok (.iload_n 2, 1) := by decide +kernel
theorem dN_offerUpper_44 : decode bN_offerUpper 44 = .ok (.iload_n 3, 1) := by decide +kernel
theorem dN_offerUpper_45 : decode bN_offerUpper 45 = .ok (.invokestatic 123, 3) := by decide +kernel
theorem dN_offerUpper_48 : decode bN_offerUpper 48 = .ok (.ifCond .eq 29, 3) := by decide +kernel
theorem dN_offerUpper_51 : decode bN_offerUpper 51 = .ok (.iload 4, 2) := by decide +kernel
theorem dN_offerUpper_53 : decode bN_offerUpper 53 = .ok (.aload_n 0, 1) := by decide +kernel
theorem dN_offerUpper_54 : decode bN_offerUpper 54 = .ok (.getfield 64, 3) := by decide +kernel
theorem dN_offerUpper_57 : decode bN_offerUpper 57 = .ok (.iload_n 3, 1) := by decide +kernel
theorem dN_offerUpper_58 : decode bN_offerUpper 58 = .ok (.iaload, 1) := by decide +kernel
theorem dN_offerUpper_59 : decode bN_offerUpper 59 = .ok (.if_icmp .ge 18, 3) := by decide +kernel
theorem dN_offerUpper_62 : decode bN_offerUpper 62 = .ok (.aload_n 0, 1) := by decide +kernel
theorem dN_offerUpper_63 : decode bN_offerUpper 63 = .ok (.getfield 61, 3) := by decide +kernel
theorem dN_offerUpper_66 : decode bN_offerUpper 66 = .ok (.iload_n 3, 1) := by decide +kernel
theorem dN_offerUpper_67 : decode bN_offerUpper 67 = .ok (.iload_n 1, 1) := by decide +kernel
theorem dN_offerUpper_68 : decode bN_offerUpper 68 = .ok (.iastore, 1) := by decide +kernel
theorem dN_offerUpper_69 : decode bN_offerUpper 69 = .ok (.aload_n 0, 1) := by decide +kernel
theorem dN_offerUpper_70 : decode bN_offerUpper 70 = .ok (.getfield 64, 3) := by decide +kernel
theorem dN_offerUpper_73 : decode bN_offerUpper 73 = .ok (.iload_n 3, 1) := by decide +kernel
theorem dN_offerUpper_74 : decode bN_offerUpper 74 = .ok (.iload 4, 2) := by decide +kernel
theorem dN_offerUpper_76 : decode bN_offerUpper 76 = .ok (.iastore, 1) := by decide +kernel
theorem dN_offerUpper_77 : decode bN_offerUpper 77 = .ok (.iinc 3 1, 3) := by decide +kernel
theorem dN_offerUpper_80 : decode bN_offerUpper 80 = .ok (.goto (-78), 3) := by decide +kernel
theorem dN_offerUpper_83 : decode bN_offerUpper 83 = .ok (.return_, 1) := by decide +kernel
theorem dN_countHeads_0 : decode bN_countHeads 0 = .ok (.aload_n 0, 1) := by decide +kernel
theorem dN_countHeads_1 : decode bN_countHeads 1 = .ok (.getfield 67, 3) := by decide +kernel
theorem dN_countHeads_4 : decode bN_countHeads 4 = .ok (.iconst 1, 1) := by decide +kernel
theorem dN_countHeads_5 : decode bN_countHeads 5 = .ok (.invokestatic 52, 3) := by decide +kernel
theorem dN_countHeads_8 : decode bN_countHeads 8 = .ok (.aload_n 0, 1) := by decide +kernel
theorem dN_countHeads_9 : decode bN_countHeads 9 = .ok (.getfield 79, 3) := by decide +kernel
theorem dN_countHeads_12 : decode bN_countHeads 12 = .ok (.bipush 12, 2) := by decide +kernel
theorem dN_countHeads_14 : decode bN_countHeads 14 = .ok (.invokestatic 9, 3) := by decide +kernel
theorem dN_countHeads_17 : decode bN_countHeads 17 = .ok (.iconst 1, 1) := by decide +kernel
theorem dN_countHeads_18 : decode bN_countHeads 18 = .ok (.isub, 1) := by decide +kernel
theorem dN_countHeads_19 : decode bN_countHeads 19 = .ok (.istore_n 1, 1) := by decide +kernel
theorem dN_countHeads_20 : decode bN_countHeads 20 = .ok (.iload_n 1, 1) := by decide +kernel
theorem dN_countHeads_21 : decode bN_countHeads 21 = .ok (.ifCond .lt 48, 3) := by decide +kernel
theorem dN_countHeads_24 : decode bN_countHeads 24 = .ok (.aload_n 0, 1) := by decide +kernel
theorem dN_countHeads_25 : decode bN_countHeads 25 = .ok (.getfield 76, 3) := by decide +kernel
theorem dN_countHeads_28 : decode bN_countHeads 28 = .ok (.iload_n 1, 1) := by decide +kernel
theorem dN_countHeads_29 : decode bN_countHeads 29 = .ok (.iaload, 1) := by decide +kernel
theorem dN_countHeads_30 : decode bN_countHeads 30 = .ok (.istore_n 2, 1) := by decide +kernel
theorem dN_countHeads_31 : decode bN_countHeads 31 = .ok (.aload_n 0, 1) := by decide +kernel
theorem dN_countHeads_32 : decode bN_countHeads 32 = .ok (.getfield 61, 3) := by decide +kernel
theorem dN_countHeads_35 : decode bN_countHeads 35 = .ok (.iload_n 2, 1) := by decide +kernel
theorem dN_countHeads_36 : decode bN_countHeads 36 = .ok (.iaload, 1) := by decide +kernel
theorem dN_countHeads_37 : decode bN_countHeads 37 = .ok (.istore_n 3, 1) := by decide +kernel
theorem dN_countHeads_38 : decode bN_countHeads 38 = .ok (.iload_n 3, 1) := by decide +kernel
theorem dN_countHeads_39 : decode bN_countHeads 39 = .ok (.ifCond .lt 24, 3) := by decide +kernel
theorem dN_countHeads_42 : decode bN_countHeads 42 = .ok (.iload_n 3, 1) := by decide +kernel
theorem dN_countHeads_43 : decode bN_countHeads 43 = .ok (.bipush 12, 2) := by decide +kernel
theorem dN_countHeads_45 : decode bN_countHeads 45 = .ok (.if_icmp .ge 18, 3) := by decide +kernel
theorem dN_countHeads_48 : decode bN_countHeads 48 = .ok (.aload_n 0, 1) := by decide +kernel
theorem dN_countHeads_49 : decode bN_countHeads 49 = .ok (.getfield 67, 3) := by decide +kernel
theorem dN_countHeads_52 : decode bN_countHeads 52 = .ok (.iload_n 3, 1) := by decide +kernel
theorem dN_countHeads_53 : decode bN_countHeads 53 = .ok (.dup2, 1) := by decide +kernel
theorem dN_countHeads_54 : decode bN_countHeads 54 = .ok (.iaload, 1) := by decide +kernel
theorem dN_countHeads_55 : decode bN_countHeads 55 = .ok (.aload_n 0, 1) := by decide +kernel
theorem dN_countHeads_56 : decode bN_countHeads 56 = .ok (.getfield 67, 3) := by decide +kernel
theorem dN_countHeads_59 : decode bN_countHeads 59 = .ok (.iload_n 2, 1) := by decide +kernel
theorem dN_countHeads_60 : decode bN_countHeads 60 = .ok (.iaload, 1) := by decide +kernel
theorem dN_countHeads_61 : decode bN_countHeads 61 = .ok (.iadd, 1) := by decide +kernel
theorem dN_countHeads_62 : decode bN_countHeads 62 = .ok (.iastore, 1) := by decide +kernel
theorem dN_countHeads_63 : decode bN_countHeads 63 = .ok (.iinc 1 (-1), 3) := by decide +kernel
theorem dN_countHeads_66 : decode bN_countHeads 66 = .ok (.goto (-46), 3) := by decide +kernel
theorem dN_countHeads_69 : decode bN_countHeads 69 = .ok (.return_, 1) := by decide +kernel
theorem dN_addLacks_0 : decode bN_addLacks 0 = .ok (.iconst 0, 1) := by decide +kernel
theorem dN_addLacks_1 : decode bN_addLacks 1 = .ok (.istore_n 1, 1) := by decide +kernel
theorem dN_addLacks_2 : decode bN_addLacks 2 = .ok (.iload_n 1, 1) := by decide +kernel
theorem dN_addLacks_3 : decode bN_addLacks 3 = .ok (.bipush 12, 2) := by decide +kernel
theorem dN_addLacks_5 : decode bN_addLacks 5 = .ok (.if_icmp .ge 87, 3) := by decide +kernel
theorem dN_addLacks_8 : decode bN_addLacks 8 = .ok (.iload_n 1, 1) := by decide +kernel
theorem dN_addLacks_9 : decode bN_addLacks 9 = .ok (.aload_n 0, 1) := by decide +kernel
theorem dN_addLacks_10 : decode bN_addLacks 10 = .ok (.getfield 79, 3) := by decide +kernel
theorem dN_addLacks_13 : decode bN_addLacks 13 = .ok (.if_icmp .ge 79, 3) := by decide +kernel
theorem dN_addLacks_16 : decode bN_addLacks 16 = .ok (.aload_n 0, 1) := by decide +kernel
theorem dN_addLacks_17 : decode bN_addLacks 17 = .ok (.getfield 76, 3) := by decide +kernel
theorem dN_addLacks_20 : decode bN_addLacks 20 = .ok (.iload_n 1, 1) := by decide +kernel
theorem dN_addLacks_21 : decode bN_addLacks 21 = .ok (.iaload, 1) := by decide +kernel
theorem dN_addLacks_22 : decode bN_addLacks 22 = .ok (.istore_n 2, 1) := by decide +kernel
theorem dN_addLacks_23 : decode bN_addLacks 23 = .ok (.aload_n 0, 1) := by decide +kernel
theorem dN_addLacks_24 : decode bN_addLacks 24 = .ok (.getfield 61, 3) := by decide +kernel
theorem dN_addLacks_27 : decode bN_addLacks 27 = .ok (.iload_n 2, 1) := by decide +kernel
theorem dN_addLacks_28 : decode bN_addLacks 28 = .ok (.iaload, 1) := by decide +kernel
theorem dN_addLacks_29 : decode bN_addLacks 29 = .ok (.istore_n 3, 1) := by decide +kernel
theorem dN_addLacks_30 : decode bN_addLacks 30 = .ok (.aload_n 0, 1) := by decide +kernel
theorem dN_addLacks_31 : decode bN_addLacks 31 = .ok (.getfield 64, 3) := by decide +kernel
theorem dN_addLacks_34 : decode bN_addLacks 34 = .ok (.iload_n 2, 1) := by decide +kernel
theorem dN_addLacks_35 : decode bN_addLacks 35 = .ok (.iaload, 1) := by decide +kernel
theorem dN_addLacks_36 : decode bN_addLacks 36 = .ok (.aload_n 0, 1) := by decide +kernel
theorem dN_addLacks_37 : decode bN_addLacks 37 = .ok (.aload_n 0, 1) := by decide +kernel
theorem dN_addLacks_38 : decode bN_addLacks 38 = .ok (.getfield 67, 3) := by decide +kernel
theorem dN_addLacks_41 : decode bN_addLacks 41 = .ok (.iload_n 2, 1) := by decide +kernel
theorem dN_addLacks_42 : decode bN_addLacks 42 = .ok (.iaload, 1) := by decide +kernel
theorem dN_addLacks_43 : decode bN_addLacks 43 = .ok (.invokevirtual 156, 3) := by decide +kernel
theorem dN_addLacks_46 : decode bN_addLacks 46 = .ok (.imul, 1) := by decide +kernel
theorem dN_addLacks_47 : decode bN_addLacks 47 = .ok (.aload_n 0, 1) := by decide +kernel
theorem dN_addLacks_48 : decode bN_addLacks 48 = .ok (.getfield 67, 3) := by decide +kernel
theorem dN_addLacks_51 : decode bN_addLacks 51 = .ok (.iload_n 2, 1) := by decide +kernel
theorem dN_addLacks_52 : decode bN_addLacks 52 = .ok (.iaload, 1) := by decide +kernel
theorem dN_addLacks_53 : decode bN_addLacks 53 = .ok (.imul, 1) := by decide +kernel
theorem dN_addLacks_54 : decode bN_addLacks 54 = .ok (.istore 4, 2) := by decide +kernel
theorem dN_addLacks_56 : decode bN_addLacks 56 = .ok (.aload_n 0, 1) := by decide +kernel
theorem dN_addLacks_57 : decode bN_addLacks 57 = .ok (.getfield 73, 3) := by decide +kernel
theorem dN_addLacks_60 : decode bN_addLacks 60 = .ok (.iload_n 2, 1) := by decide +kernel
theorem dN_addLacks_61 : decode bN_addLacks 61 = .ok (.iload_n 3, 1) := by decide +kernel
theorem dN_addLacks_62 : decode bN_addLacks 62 = .ok (.ifCond .lt 21, 3) := by decide +kernel
theorem dN_addLacks_65 : decode bN_addLacks 65 = .ok (.iload_n 3, 1) := by decide +kernel
theorem dN_addLacks_66 : decode bN_addLacks 66 = .ok (.bipush 12, 2) := by decide +kernel
theorem dN_addLacks_68 : decode bN_addLacks 68 = .ok (.if_icmp .ge 15, 3) := by decide +kernel
theorem dN_addLacks_71 : decode bN_addLacks 71 = .ok (.aload_n 0, 1) := by decide +kernel
theorem dN_addLacks_72 : decode bN_addLacks 72 = .ok (.getfield 73, 3) := by decide +kernel
theorem dN_addLacks_75 : decode bN_addLacks 75 = .ok (.iload_n 3, 1) := by decide +kernel
theorem dN_addLacks_76 : decode bN_addLacks 76 = .ok (.iaload, 1) := by decide +kernel
theorem dN_addLacks_77 : decode bN_addLacks 77 = .ok (.iload 4, 2) := by decide +kernel
theorem dN_addLacks_79 : decode bN_addLacks 79 = .ok (.iadd, 1) := by decide +kernel
theorem dN_addLacks_80 : decode bN_addLacks 80 = .ok (.goto 5, 3) := by decide +kernel
theorem dN_addLacks_83 : decode bN_addLacks 83 = .ok (.iload 4, 2) := by decide +kernel
theorem dN_addLacks_85 : decode bN_addLacks 85 = .ok (.iastore, 1) := by decide +kernel
theorem dN_addLacks_86 : decode bN_addLacks 86 = .ok (.iinc 1 1, 3) := by decide +kernel
theorem dN_addLacks_89 : decode bN_addLacks 89 = .ok (.goto (-87), 3) := by decide +kernel
theorem dN_addLacks_92 : decode bN_addLacks 92 = .ok (.return_, 1) := by decide +kernel
theorem dN_lossFor_0 : decode bN_lossFor 0 = .ok (.iconst 0, 1) := by decide +kernel
theorem dN_lossFor_1 : decode bN_lossFor 1 = .ok (.istore_n 2, 1) := by decide +kernel
theorem dN_lossFor_2 : decode bN_lossFor 2 = .ok (.iconst 1, 1) := by decide +kernel
theorem dN_lossFor_3 : decode bN_lossFor 3 = .ok (.istore_n 3, 1) := by decide +kernel
theorem dN_lossFor_4 : decode bN_lossFor 4 = .ok (.iload_n 3, 1) := by decide +kernel
theorem dN_lossFor_5 : decode bN_lossFor 5 = .ok (.bipush 12, 2) := by decide +kernel
theorem dN_lossFor_7 : decode bN_lossFor 7 = .ok (.if_icmp .gt 33, 3) := by decide +kernel
theorem dN_lossFor_10 : decode bN_lossFor 10 = .ok (.aload_n 0, 1) := by decide +kernel
theorem dN_lossFor_11 : decode bN_lossFor 11 = .ok (.getfield 49, 3) := by decide +kernel
theorem dN_lossFor_14 : decode bN_lossFor 14 = .ok (.iload_n 3, 1) := by decide +kernel
theorem dN_lossFor_15 : decode bN_lossFor 15 = .ok (.iaload, 1) := by decide +kernel
theorem dN_lossFor_16 : decode bN_lossFor 16 = .ok (.iconst (-1), 1) := by decide +kernel
theorem dN_lossFor_17 : decode bN_lossFor 17 = .ok (.if_icmp .eq 17, 3) := by decide +kernel
theorem dN_lossFor_20 : decode bN_lossFor 20 = .ok (.aload_n 0, 1) := by decide +kernel
theorem dN_lossFor_21 : decode bN_lossFor 21 = .ok (.getfield 49, 3) := by decide +kernel
theorem dN_lossFor_24 : decode bN_lossFor 24 = .ok (.iload_n 3, 1) := by decide +kernel
theorem dN_lossFor_25 : decode bN_lossFor 25 = .ok (.iaload, 1) := by decide +kernel
theorem dN_lossFor_26 : decode bN_lossFor 26 = .ok (.istore_n 2, 1) := by decide +kernel
theorem dN_lossFor_27 : decode bN_lossFor 27 = .ok (.iload_n 3, 1) := by decide +kernel
theorem dN_lossFor_28 : decode bN_lossFor 28 = .ok (.iload_n 1, 1) := by decide +kernel
theorem dN_lossFor_29 : decode bN_lossFor 29 = .ok (.if_icmp .lt 5, 3) := by decide +kernel
theorem dN_lossFor_32 : decode bN_lossFor 32 = .ok (.iload_n 2, 1) := by decide +kernel
theorem dN_lossFor_33 : decode bN_lossFor 33 = .ok (.ireturn, 1) := by decide +kernel
theorem dN_lossFor_34 : decode bN_lossFor 34 = .ok (.iinc 3 1, 3) := by decide +kernel
theorem dN_lossFor_37 : decode bN_lossFor 37 = .ok (.goto (-33), 3) := by decide +kernel
theorem dN_lossFor_40 : decode bN_lossFor 40 = .ok (.iload_n 2, 1) := by decide +kernel
theorem dN_lossFor_41 : decode bN_lossFor 41 = .ok (.ireturn, 1) := by decide +kernel
theorem dI_bitCount_0 : decode bI_bitCount 0 = .ok (.iload_n 0, 1) := by decide +kernel
theorem dI_bitCount_1 : decode bI_bitCount 1 = .ok (.iload_n 0, 1) := by decide +kernel
theorem dI_bitCount_2 : decode bI_bitCount 2 = .ok (.iconst 1, 1) := by decide +kernel
theorem dI_bitCount_3 : decode bI_bitCount 3 = .ok (.iushr, 1) := by decide +kernel
theorem dI_bitCount_4 : decode bI_bitCount 4 = .ok (.ldc_w 265, 3) := by decide +kernel
theorem dI_bitCount_7 : decode bI_bitCount 7 = .ok (.iand, 1) := by decide +kernel
theorem dI_bitCount_8 : decode bI_bitCount 8 = .ok (.isub, 1) := by decide +kernel
theorem dI_bitCount_9 : decode bI_bitCount 9 = .ok (.istore_n 0, 1) := by decide +kernel
theorem dI_bitCount_10 : decode bI_bitCount 10 = .ok (.iload_n 0, 1) := by decide +kernel
theorem dI_bitCount_11 : decode bI_bitCount 11 = .ok (.ldc_w 266, 3) := by decide +kernel
theorem dI_bitCount_14 : decode bI_bitCount 14 = .ok (.iand, 1) := by decide +kernel
theorem dI_bitCount_15 : decode bI_bitCount 15 = .ok (.iload_n 0, 1) := by decide +kernel
theorem dI_bitCount_16 : decode bI_bitCount 16 = .ok (.iconst 2, 1) := by decide +kernel
theorem dI_bitCount_17 : decode bI_bitCount 17 = .ok (.iushr, 1) := by decide +kernel
theorem dI_bitCount_18 : decode bI_bitCount 18 = .ok (.ldc_w 266, 3) := by decide +kernel
theorem dI_bitCount_21 : decode bI_bitCount 21 = .ok (.iand, 1) := by decide +kernel
theorem dI_bitCount_22 : decode bI_bitCount 22 = .ok (.iadd, 1) := by decide +kernel
theorem dI_bitCount_23 : decode bI_bitCount 23 = .ok (.istore_n 0, 1) := by decide +kernel
theorem dI_bitCount_24 : decode bI_bitCount 24 = .ok (.iload_n 0, 1) := by decide +kernel
theorem dI_bitCount_25 : decode bI_bitCount 25 = .ok (.iload_n 0, 1) := by decide +kernel
theorem dI_bitCount_26 : decode bI_bitCount 26 = .ok (.iconst 4, 1) := by decide +kernel
theorem dI_bitCount_27 : decode bI_bitCount 27 = .ok (.iushr, 1) := by decide +kernel
theorem dI_bitCount_28 : decode bI_bitCount 28 = .ok (.iadd, 1) := by decide +kernel
theorem dI_bitCount_29 : decode bI_bitCount 29 = .ok (.ldc_w 267, 3) := by decide +kernel
theorem dI_bitCount_32 : decode bI_bitCount 32 = .ok (.iand, 1) := by decide +kernel
theorem dI_bitCount_33 : decode bI_bitCount 33 = .ok (.istore_n 0, 1) := by decide +kernel
theorem dI_bitCount_34 : decode bI_bitCount 34 = .ok (.iload_n 0, 1) := by decide +kernel
theorem dI_bitCount_35 : decode bI_bitCount 35 = .ok (.iload_n 0, 1) := by decide +kernel
theorem dI_bitCount_36 : decode bI_bitCount 36 = .ok (.bipush 8, 2) := by decide +kernel
theorem dI_bitCount_38 : decode bI_bitCount 38 = .ok (.iushr, 1) := by decide +kernel
theorem dI_bitCount_39 : decode bI_bitCount 39 = .ok (.iadd, 1) := by decide +kernel
theorem dI_bitCount_40 : decode bI_bitCount 40 = .ok (.istore_n 0, 1) := by decide +kernel
theorem dI_bitCount_41 : decode bI_bitCount 41 = .ok (.iload_n 0, 1) := by decide +kernel
theorem dI_bitCount_42 : decode bI_bitCount 42 = .ok (.iload_n 0, 1) := by decide +kernel
theorem dI_bitCount_43 : decode bI_bitCount 43 = .ok (.bipush 16, 2) := by decide +kernel
theorem dI_bitCount_45 : decode bI_bitCount 45 = .ok (.iushr, 1) := by decide +kernel
theorem dI_bitCount_46 : decode bI_bitCount 46 = .ok (.iadd, 1) := by decide +kernel
theorem dI_bitCount_47 : decode bI_bitCount 47 = .ok (.istore_n 0, 1) := by decide +kernel
theorem dI_bitCount_48 : decode bI_bitCount 48 = .ok (.iload_n 0, 1) := by decide +kernel
theorem dI_bitCount_49 : decode bI_bitCount 49 = .ok (.bipush 63, 2) := by decide +kernel
theorem dI_bitCount_51 : decode bI_bitCount 51 = .ok (.iand, 1) := by decide +kernel
theorem dI_bitCount_52 : decode bI_bitCount 52 = .ok (.ireturn, 1) := by decide +kernel
theorem dA_fill_0 : decode bA_fill 0 = .ok (.iconst 0, 1) := by decide +kernel
theorem dA_fill_1 : decode bA_fill 1 = .ok (.istore_n 2, 1) := by decide +kernel
theorem dA_fill_2 : decode bA_fill 2 = .ok (.aload_n 0, 1) := by decide +kernel
theorem dA_fill_3 : decode bA_fill 3 = .ok (.arraylength, 1) := by decide +kernel
theorem dA_fill_4 : decode bA_fill 4 = .ok (.istore_n 3, 1) := by decide +kernel
theorem dA_fill_5 : decode bA_fill 5 = .ok (.iload_n 2, 1) := by decide +kernel
theorem dA_fill_6 : decode bA_fill 6 = .ok (.iload_n 3, 1) := by decide +kernel
theorem dA_fill_7 : decode bA_fill 7 = .ok (.if_icmp .ge 13, 3) := by decide +kernel
theorem dA_fill_10 : decode bA_fill 10 = .ok (.aload_n 0, 1) := by decide +kernel
theorem dA_fill_11 : decode bA_fill 11 = .ok (.iload_n 2, 1) := by decide +kernel
theorem dA_fill_12 : decode bA_fill 12 = .ok (.iload_n 1, 1) := by decide +kernel
theorem dA_fill_13 : decode bA_fill 13 = .ok (.iastore, 1) := by decide +kernel
theorem dA_fill_14 : decode bA_fill 14 = .ok (.iinc 2 1, 3) := by decide +kernel
theorem dA_fill_17 : decode bA_fill 17 = .ok (.goto (-12), 3) := by decide +kernel
theorem dA_fill_20 : decode bA_fill 20 = .ok (.return_, 1) := by decide +kernel
end
section
theorem dM_init_0 : decode bM_init 0 = .ok (.aload_n 0, 1) := by decide +kernel
theorem dM_init_1 : decode bM_init 1 = .ok (.invokespecial 1, 3) := by decide +kernel
theorem dM_init_4 : decode bM_init 4 = .ok (.aload_n 0, 1) := by decide +kernel
theorem dM_init_5 : decode bM_init 5 = .ok (.sipush 256, 3) := by decide +kernel
theorem dM_init_8 : decode bM_init 8 = .ok (.newarray .boolean, 2) := by decide +kernel
theorem dM_init_10 : decode bM_init 10 = .ok (.putfield 7, 3) := by decide +kernel
theorem dM_init_13 : decode bM_init 13 = .ok (.aload_n 0, 1) := by decide +kernel
theorem dM_init_14 : decode bM_init 14 = .ok (.bipush 16, 2) := by decide +kernel
theorem dM_init_16 : decode bM_init 16 = .ok (.putfield 13, 3) := by decide +kernel
theorem dM_init_19 : decode bM_init 19 = .ok (.aload_n 0, 1) := by decide +kernel
theorem dM_init_20 : decode bM_init 20 = .ok (.bipush 12, 2) := by decide +kernel
theorem dM_init_22 : decode bM_init 22 = .ok (.newarray .int, 2) := by decide +kernel
theorem dM_init_24 : decode bM_init 24 = .ok (.putfield 17, 3) := by decide +kernel
theorem dM_init_27 : decode bM_init 27 = .ok (.aload_n 0, 1) := by decide +kernel
theorem dM_init_28 : decode bM_init 28 = .ok (.bipush 12, 2) := by decide +kernel
theorem dM_init_30 : decode bM_init 30 = .ok (.newarray .int, 2) := by decide +kernel
theorem dM_init_32 : decode bM_init 32 = .ok (.putfield 21, 3) := by decide +kernel
theorem dM_init_35 : decode bM_init 35 = .ok (.aload_n 0, 1) := by decide +kernel
theorem dM_init_36 : decode bM_init 36 = .ok (.bipush 13, 2) := by decide +kernel
theorem dM_init_38 : decode bM_init 38 = .ok (.newarray .int, 2) := by decide +kernel
theorem dM_init_40 : decode bM_init 40 = .ok (.putfield 24, 3) := by decide +kernel
theorem dM_init_43 : decode bM_init 43 = .ok (.aload_n 0, 1) := by decide +kernel
theorem dM_init_44 : decode bM_init 44 = .ok (.sipush 256, 3) := by decide +kernel
theorem dM_init_47 : decode bM_init 47 = .ok (.newarray .int, 2) := by decide +kernel
theorem dM_init_49 : decode bM_init 49 = .ok (.putfield 27, 3) := by decide +kernel
theorem dM_init_52 : decode bM_init 52 = .ok (.aload_n 0, 1) := by decide +kernel
theorem dM_init_53 : decode bM_init 53 = .ok (.bipush 12, 2) := by decide +kernel
theorem dM_init_55 : decode bM_init 55 = .ok (.newarray .int, 2) := by decide +kernel
theorem dM_init_57 : decode bM_init 57 = .ok (.putfield 30, 3) := by decide +kernel
theorem dM_init_60 : decode bM_init 60 = .ok (.aload_n 0, 1) := by decide +kernel
theorem dM_init_61 : decode bM_init 61 = .ok (.bipush 12, 2) := by decide +kernel
theorem dM_init_63 : decode bM_init 63 = .ok (.newarray .int, 2) := by decide +kernel
theorem dM_init_65 : decode bM_init 65 = .ok (.putfield 33, 3) := by decide +kernel
theorem dM_init_68 : decode bM_init 68 = .ok (.aload_n 0, 1) := by decide +kernel
theorem dM_init_69 : decode bM_init 69 = .ok (.bipush 12, 2) := by decide +kernel
theorem dM_init_71 : decode bM_init 71 = .ok (.newarray .int, 2) := by decide +kernel
theorem dM_init_73 : decode bM_init 73 = .ok (.putfield 36, 3) := by decide +kernel
theorem dM_init_76 : decode bM_init 76 = .ok (.aload_n 0, 1) := by decide +kernel
theorem dM_init_77 : decode bM_init 77 = .ok (.bipush 12, 2) := by decide +kernel
theorem dM_init_79 : decode bM_init 79 = .ok (.newarray .int, 2) := by decide +kernel
theorem dM_init_81 : decode bM_init 81 = .ok (.putfield 39, 3) := by decide +kernel
theorem dM_init_84 : decode bM_init 84 = .ok (.aload_n 0, 1) := by decide +kernel
theorem dM_init_85 : decode bM_init 85 = .ok (.bipush 12, 2) := by decide +kernel
theorem dM_init_87 : decode bM_init 87 = .ok (.newarray .int, 2) := by decide +kernel
theorem dM_init_89 : decode bM_init 89 = .ok (.putfield 42, 3) := by decide +kernel
theorem dM_init_92 : decode bM_init 92 = .ok (.aload_n 0, 1) := by decide +kernel
theorem dM_init_93 : decode bM_init 93 = .ok (.iload_n 1, 1) := by decide +kernel
theorem dM_init_94 : decode bM_init 94 = .ok (.iconst 1, 1) := by decide +kernel
theorem dM_init_95 : decode bM_init 95 = .ok (.if_icmp .ge 7, 3) := by decide +kernel
theorem dM_init_98 : decode bM_init 98 = .ok (.iconst 1, 1) := by decide +kernel
theorem dM_init_99 : decode bM_init 99 = .ok (.goto 15, 3) := by decide +kernel
theorem dM_init_102 : decode bM_init 102 = .ok (.iload_n 1, 1) := by decide +kernel
theorem dM_init_103 : decode bM_init 103 = .ok (.bipush 16, 2) := by decide +kernel
theorem dM_init_105 : decode bM_init 105 = .ok (.if_icmp .le 8, 3) := by decide +kernel
theorem dM_init_108 : decode bM_init 108 = .ok (.bipush 16, 2) := by decide +kernel
theorem dM_init_110 : decode bM_init 110 = .ok (.goto 4, 3) := by decide +kernel
theorem dM_init_113 : decode bM_init 113 = .ok (.iload_n 1, 1) := by decide +kernel
theorem dM_init_114 : decode bM_init 114 = .ok (.putfield 45, 3) := by decide +kernel
theorem dM_init_117 : decode bM_init 117 = .ok (.aload_n 0, 1) := by decide +kernel
theorem dM_init_118 : decode bM_init 118 = .ok (.iload_n 2, 1) := by decide +kernel
theorem dM_init_119 : decode bM_init 119 = .ok (.iconst 1, 1) := by decide +kernel
theorem dM_init_120 : decode bM_init 120 = .ok (.if_icmp .ge 7, 3) := by decide +kernel
theorem dM_init_123 : decode bM_init 123 = .ok (.iconst 1, 1) := by decide +kernel
theorem dM_init_124 : decode bM_init 124 = .ok (.goto 15, 3) := by decide +kernel
theorem dM_init_127 : decode bM_init 127 = .ok (.iload_n 2, 1) := by decide +kernel
theorem dM_init_128 : decode bM_init 128 = .ok (.bipush 16, 2) := by decide +kernel
theorem dM_init_130 : decode bM_init 130 = .ok (.if_icmp .le 8, 3) := by decide +kernel
theorem dM_init_133 : decode bM_init 133 = .ok (.bipush 16, 2) := by decide +kernel
theorem dM_init_135 : decode bM_init 135 = .ok (.goto 4, 3) := by decide +kernel
theorem dM_init_138 : decode bM_init 138 = .ok (.iload_n 2, 1) := by decide +kernel
theorem dM_init_139 : decode bM_init 139 = .ok (.putfield 48, 3) := by decide +kernel
theorem dM_init_142 : decode bM_init 142 = .ok (.iconst 0, 1) := by decide +kernel
theorem dM_init_143 : decode bM_init 143 = .ok (.istore_n 3, 1) := by decide +kernel
theorem dM_init_144 : decode bM_init 144 = .ok (.iload_n 3, 1) := by decide +kernel
theorem dM_init_145 : decode bM_init 145 = .ok (.bipush 13, 2) := by decide +kernel
theorem dM_init_147 : decode bM_init 147 = .ok (.if_icmp .ge 16, 3) := by decide +kernel
theorem dM_init_150 : decode bM_init 150 = .ok (.aload_n 0, 1) := by decide +kernel
theorem dM_init_151 : decode bM_init 151 = .ok (.getfield 24, 3) := by decide +kernel
theorem dM_init_154 : decode bM_init 154 = .ok (.iload_n 3, 1) := by decide +kernel
theorem dM_init_155 : decode bM_init 155 = .ok (.iconst (-1), 1) := by decide +kernel
theorem dM_init_156 : decode bM_init 156 = .ok (.iastore, 1) := by decide +kernel
theorem dM_init_157 : decode bM_init 157 = .ok (.iinc 3 1, 3) := by decide +kernel
theorem dM_init_160 : decode bM_init 160 = .ok (.goto (-16), 3) := by decide +kernel
theorem dM_init_163 : decode bM_init 163 = .ok (.return_, 1) := by decide +kernel
theorem dM_thrown_0 : decode bM_thrown 0 = .ok (.aload_n 0, 1) := by decide +kernel
theorem dM_thrown_1 : decode bM_thrown 1 = .ok (.getfield 51, 3) := by decide +kernel
theorem dM_thrown_4 : decode bM_thrown 4 = .ok (.ireturn, 1) := by decide +kernel
theorem dM_isCell_0 : decode bM_isCell 0 = .ok (.iload_n 1, 1) := by decide +kernel
theorem dM_isCell_1 : decode bM_isCell 1 = .ok (.ifCond .lt 27, 3) := by decide +kernel
theorem dM_isCell_4 : decode bM_isCell 4 = .ok (.iload_n 1, 1) := by decide +kernel
theorem dM_isCell_5 : decode bM_isCell 5 = .ok (.aload_n 0, 1) := by decide +kernel
theorem dM_isCell_6 : decode bM_isCell 6 = .ok (.getfield 45, 3) := by decide +kernel
theorem dM_isCell_9 : decode bM_isCell 9 = .ok (.if_icmp .ge 19, 3) := by decide +kernel
theorem dM_isCell_12 : decode bM_isCell 12 = .ok (.iload_n 2, 1) := by decide +kernel
theorem dM_isCell_13 : decode bM_isCell 13 = .ok (.ifCond .lt 15, 3) := by decide +kernel
theorem dM_isCell_16 : decode bM_isCell 16 = .ok (.iload_n 2, 1) := by decide +kernel
theorem dM_isCell_17 : decode bM_isCell 17 = .ok (.aload_n 0, 1) := by decide +kernel
theorem dM_isCell_18 : decode bM_isCell 18 = .ok (.getfield 48, 3) := by decide +kernel
theorem dM_isCell_21 : decode bM_isCell 21 = .ok (.if_icmp .ge 7, 3) := by decide +kernel
theorem dM_isCell_24 : decode bM_isCell 24 = .ok (.iconst 1, 1) := by decide +kernel
theorem dM_isCell_25 : decode bM_isCell 25 = .ok (.goto 4, 3) := by decide +kernel
theorem dM_isCell_28 : decode bM_isCell 28 = .ok (.iconst 0, 1) := by decide +kernel
theorem dM_isCell_29 : decode bM_isCell 29 = .ok (.ireturn, 1) := by decide +kernel
theorem dM_isPlace_0 : decode bM_isPlace 0 = .ok (.iload_n 1, 1) := by decide +kernel
theorem dM_isPlace_1 : decode bM_isPlace 1 = .ok (.ifCond .lt 15, 3) := by decide +kernel
theorem dM_isPlace_4 : decode bM_isPlace 4 = .ok (.iload_n 1, 1) := by decide +kernel
theorem dM_isPlace_5 : decode bM_isPlace 5 = .ok (.aload_n 0, 1) := by decide +kernel
theorem dM_isPlace_6 : decode bM_isPlace 6 = .ok (.getfield 54, 3) := by decide +kernel
theorem dM_isPlace_9 : decode bM_isPlace 9 = .ok (.if_icmp .ge 7, 3) := by decide +kernel
theorem dM_isPlace_12 : decode bM_isPlace 12 = .ok (.iconst 1, 1) := by decide +kernel
theorem dM_isPlace_13 : decode bM_isPlace 13 = .ok (.goto 4, 3) := by decide +kernel
theorem dM_isPlace_16 : decode bM_isPlace 16 = .ok (.iconst 0, 1) := by decide +kernel
theorem dM_isPlace_17 : decode bM_isPlace 17 = .ok (.ireturn, 1) := by decide +kernel
theorem dM_isSet_0 : decode bM_isSet 0 = .ok (.iload_n 1, 1) := by decide +kernel
theorem dM_isSet_1 : decode bM_isSet 1 = .ok (.ifCond .lt 16, 3) := by decide +kernel
theorem dM_isSet_4 : decode bM_isSet 4 = .ok (.iload_n 1, 1) := by decide +kernel
theorem dM_isSet_5 : decode bM_isSet 5 = .ok (.aload_n 0, 1) := by decide +kernel
theorem dM_isSet_6 : decode bM_isSet 6 = .ok (.getfield 54, 3) := by decide +kernel
theorem dM_isSet_9 : decode bM_isSet 9 = .ok (.ishr, 1) := by decide +kernel
theorem dM_isSet_10 : decode bM_isSet 10 = .ok (.ifCond .ne 7, 3) := by decide +kernel
theorem dM_isSet_13 : decode bM_isSet 13 = .ok (.iconst 1, 1) := by decide +kernel
theorem dM_isSet_14 : decode bM_isSet 14 = .ok (.goto 4, 3) := by decide +kernel
theorem dM_isSet_17 : decode bM_isSet 17 = .ok (.iconst 0, 1) := by decide +kernel
theorem dM_isSet_18 : decode bM_isSet 18 = .ok (.ireturn, 1) := by decide +kernel
theorem dM_isFree_0 : decode bM_isFree 0 = .ok (.aload_n 0, 1) := by decide +kernel
theorem dM_isFree_1 : decode bM_isFree 1 = .ok (.getfield 7, 3) := by decide +kernel
theorem dM_isFree_4 : decode bM_isFree 4 = .ok (.bipush 16, 2) := by decide +kernel
theorem dM_isFree_6 : decode bM_isFree 6 = .ok (.iload_n 2, 1) := by decide +kernel
theorem dM_isFree_7 : decode bM_isFree 7 = .ok (.imul, 1) := by decide +kernel
theorem dM_isFree_8 : decode bM_isFree 8 = .ok (.iload_n 1, 1) := by decide +kernel
theorem dM_isFree_9 : decode bM_isFree 9 = .ok (.iadd, 1) := by decide +kernel
theorem dM_isFree_10 : decode bM_isFree 10 = .ok (.baload, 1) := by decide +kernel
theorem dM_isFree_11 : decode bM_isFree 11 = .ok (.ifCond .ne 7, 3) := by decide +kernel
theorem dM_isFree_14 : decode bM_isFree 14 = .ok (.iconst 1, 1) := by decide +kernel
theorem dM_isFree_15 : decode bM_isFree 15 = .ok (.goto 4, 3) := by decide +kernel
theorem dM_isFree_18 : decode bM_isFree 18 = .ok (.iconst 0, 1) := by decide +kernel
theorem dM_isFree_19 : decode bM_isFree 19 = .ok (.ireturn, 1) := by decide +kernel
theorem dM_wall_0 : decode bM_wall 0 = .ok (.aload_n 0, 1) := by decide +kernel
theorem dM_wall_1 : decode bM_wall 1 = .ok (.aload_n 0, 1) := by decide +kernel
theorem dM_wall_2 : decode bM_wall 2 = .ok (.iload_n 1, 1) := by decide +kernel
theorem dM_wall_3 : decode bM_wall 3 = .ok (.iload_n 2, 1) := by decide +kernel
theorem dM_wall_4 : decode bM_wall 4 = .ok (.invokevirtual 57, 3) := by decide +kernel
theorem dM_wall_7 : decode bM_wall 7 = .ok (.ifCond .eq 7, 3) := by decide +kernel
theorem dM_wall_10 : decode bM_wall 10 = .ok (.iconst 0, 1) := by decide +kernel
theorem dM_wall_11 : decode bM_wall 11 = .ok (.goto 4, 3) := by decide +kernel
theorem dM_wall_14 : decode bM_wall 14 = .ok (.iconst 1, 1) := by decide +kernel
theorem dM_wall_15 : decode bM_wall 15 = .ok (.putfield 51, 3) := by decide +kernel
theorem dM_wall_18 : decode bM_wall 18 = .ok (.aload_n 0, 1) := by decide +kernel
theorem dM_wall_19 : decode bM_wall 19 = .ok (.getfield 51, 3) := by decide +kernel
theorem dM_wall_22 : decode bM_wall 22 = .ok (.ifCond .le 5, 3) := by decide +kernel
theorem dM_wall_25 : decode bM_wall 25 = .ok (.iconst 0, 1) := by decide +kernel
theorem dM_wall_26 : decode bM_wall 26 = .ok (.ireturn, 1) := by decide +kernel
theorem dM_wall_27 : decode bM_wall 27 = .ok (.aload_n 0, 1) := by decide +kernel
theorem dM_wall_28 : decode bM_wall 28 = .ok (.getfield 7, 3) := by decide +kernel
theorem dM_wall_31 : decode bM_wall 31 = .ok (.bipush 16, 2) := by decide +kernel
theorem dM_wall_33 : decode bM_wall 33 = .ok (.iload_n 2, 1) := by decide +kernel
theorem dM_wall_34 : decode bM_wall 34 = .ok (.imul, 1) := by decide +kernel
theorem dM_wall_35 : decode bM_wall 35 = .ok (.iload_n 1, 1) := by decide +kernel
theorem dM_wall_36 : decode bM_wall 36 = .ok (.iadd, 1) := by decide +kernel
theorem dM_wall_37 : decode bM_wall 37 = .ok (.baload, 1) := by decide +kernel
theorem dM_wall_38 : decode bM_wall 38 = .ok (.istore 4, 2) := by decide +kernel
theorem dM_wall_40 : decode bM_wall 40 = .ok (.aload_n 0, 1) := by decide +kernel
theorem dM_wall_41 : decode bM_wall 41 = .ok (.getfield 7, 3) := by decide +kernel
theorem dM_wall_44 : decode bM_wall 44 = .ok (.bipush 16, 2) := by decide +kernel
theorem dM_wall_46 : decode bM_wall 46 = .ok (.iload_n 2, 1) := by decide +kernel
theorem dM_wall_47 : decode bM_wall 47 = .ok (.imul, 1) := by decide +kernel
theorem dM_wall_48 : decode bM_wall 48 = .ok (.iload_n 1, 1) := by decide +kernel
theorem dM_wall_49 : decode bM_wall 49 = .ok (.iadd, 1) := by decide +kernel
theorem dM_wall_50 : decode bM_wall 50 = .ok (.iload_n 3, 1) := by decide +kernel
theorem dM_wall_51 : decode bM_wall 51 = .ok (.bastore, 1) := by decide +kernel
theorem dM_wall_52 : decode bM_wall 52 = .ok (.iload 4, 2) := by decide +kernel
theorem dM_wall_54 : decode bM_wall 54 = .ok (.ireturn, 1) := by decide +kernel
theorem dM_reach_0 : decode bM_reach 0 = .ok (.aload_n 0, 1) := by decide +kernel
theorem dM_reach_1 : decode bM_reach 1 = .ok (.iload_n 1, 1) := by decide +kernel
theorem dM_reach_2 : decode bM_reach 2 = .ok (.iconst 1, 1) := by decide +kernel
theorem dM_reach_3 : decode bM_reach 3 = .ok (.if_icmp .lt 14, 3) := by decide +kernel
theorem dM_reach_6 : decode bM_reach 6 = .ok (.iload_n 1, 1) := by decide +kernel
theorem dM_reach_7 : decode bM_reach 7 = .ok (.sipush 400, 3) := by decide +kernel
theorem dM_reach_10 : decode bM_reach 10 = .ok (.if_icmp .gt 7, 3) := by decide +kernel
theorem dM_reach_13 : decode bM_reach 13 = .ok (.iconst 0, 1) := by decide +kernel
theorem dM_reach_14 : decode bM_reach 14 = .ok (.goto 4, 3) := by decide +kernel
theorem dM_reach_17 : decode bM_reach 17 = .ok (.iconst 1, 1) := by decide +kernel
theorem dM_reach_18 : decode bM_reach 18 = .ok (.putfield 51, 3) := by decide +kernel
theorem dM_reach_21 : decode bM_reach 21 = .ok (.aload_n 0, 1) := by decide +kernel
theorem dM_reach_22 : decode bM_reach 22 = .ok (.getfield 51, 3) := by decide +kernel
theorem dM_reach_25 : decode bM_reach 25 = .ok (.ifCond .le 5, 3) := by decide +kernel
theorem dM_reach_28 : decode bM_reach 28 = .ok (.iconst 0, 1) := by decide +kernel
theorem dM_reach_29 : decode bM_reach 29 = .ok (.ireturn, 1) := by decide +kernel
theorem dM_reach_30 : decode bM_reach 30 = .ok (.aload_n 0, 1) := by decide +kernel
theorem dM_reach_31 : decode bM_reach 31 = .ok (.getfield 13, 3) := by decide +kernel
theorem dM_reach_34 : decode bM_reach 34 = .ok (.istore_n 2, 1) := by decide +kernel
theorem dM_reach_35 : decode bM_reach 35 = .ok (.aload_n 0, 1) := by decide +kernel
theorem dM_reach_36 : decode bM_reach 36 = .ok (.iload_n 1, 1) := by decide +kernel
theorem dM_reach_37 : decode bM_reach 37 = .ok (.putfield 13, 3) := by decide +kernel
theorem dM_reach_40 : decode bM_reach 40 = .ok (.iload_n 2, 1) := by decide +kernel
theorem dM_reach_41 : decode bM_reach 41 = .ok (.ireturn, 1) := by decide +kernel
theorem dM_place_0 : decode bM_place 0 = .ok (.aload_n 0, 1) := by decide +kernel
theorem dM_place_1 : decode bM_place 1 = .ok (.aload_n 0, 1) := by decide +kernel
theorem dM_place_2 : decode bM_place 2 = .ok (.iload_n 1, 1) := by decide +kernel
theorem dM_place_3 : decode bM_place 3 = .ok (.iload_n 2, 1) := by decide +kernel
theorem dM_place_4 : decode bM_place 4 = .ok (.invokevirtual 57, 3) := by decide +kernel
theorem dM_place_7 : decode bM_place 7 = .ok (.ifCond .eq 7, 3) := by decide +kernel
theorem dM_place_10 : decode bM_place 10 = .ok (.iconst 0, 1) := by decide +kernel
theorem dM_place_11 : decode bM_place 11 = .ok (.goto 4, 3) := by decide +kernel
theorem dM_place_14 : decode bM_place 14 = .ok (.iconst 1, 1) := by decide +kernel
theorem dM_place_15 : decode bM_place 15 = .ok (.putfield 51, 3) := by decide +kernel
theorem dM_place_18 : decode bM_place 18 = .ok (.aload_n 0, 1) := by decide +kernel
theorem dM_place_19 : decode bM_place 19 = .ok (.getfield 51, 3) := by decide +kernel
theorem dM_place_22 : decode bM_place 22 = .ok (.ifCond .le 5, 3) := by decide +kernel
theorem dM_place_25 : decode bM_place 25 = .ok (.iconst 0, 1) := by decide +kernel
theorem dM_place_26 : decode bM_place 26 = .ok (.ireturn, 1) := by decide +kernel
theorem dM_place_27 : decode bM_place 27 = .ok (.iconst 0, 1) := by decide +kernel
theorem dM_place_28 : decode bM_place 28 = .ok (.istore_n 3, 1) := by decide +kernel
theorem dM_place_29 : decode bM_place 29 = .ok (.iconst 0, 1) := by decide +kernel
theorem dM_place_30 : decode bM_place 30 = .ok (.istore 4, 2) := by decide +kernel
theorem dM_place_32 : decode bM_place 32 = .ok (.iload 4, 2) := by decide +kernel
theorem dM_place_34 : decode bM_place 34 = .ok (.aload_n 0, 1) := by decide +kernel
theorem dM_place_35 : decode bM_place 35 = .ok (.getfield 54, 3) := by decide +kernel
theorem dM_place_38 : decode bM_place 38 = .ok (.if_icmp .ge 41, 3) := by decide +kernel
theorem dM_place_41 : decode bM_place 41 = .ok (.iload_n 3, 1) := by decide +kernel
theorem dM_place_42 : decode bM_place 42 = .ok (.ifCond .ne 25, 3) := by decide +kernel
theorem dM_place_45 : decode bM_place 45 = .ok (.aload_n 0, 1) := by decide +kernel
theorem dM_place_46 : decode bM_place 46 = .ok (.getfield 17, 3) := by decide +kernel
theorem dM_place_49 : decode bM_place 49 = .ok (.iload 4, 2) := by decide +kernel
theorem dM_place_51 : decode bM_place 51 = .ok (.iaload, 1) := by decide +kernel
theorem dM_place_52 : decode bM_place 52 = .ok (.iload_n 1, 1) := by decide +kernel
theorem dM_place_53 : decode bM_place 53 = .ok (.if_icmp .ne 18, 3) := by decide +kernel
theorem dM_place_56 : decode bM_place 56 = .ok (.aload_n 0, 1) := by decide +kernel
theorem dM_place_57 : decode bM_place 57 = .ok (.getfield 21, 3) := by decide +kernel
theorem dM_place_60 : decode bM_place 60 = .ok (.iload 4, 2) := by decide +kernel
theorem dM_place_62 : decode bM_place 62 = .ok (.iaload, 1) := by decide +kernel
theorem dM_place_63 : decode bM_place 63 = .ok (.iload_n 2, 1) := by decide +kernel
theorem dM_place_64 : decode bM_place 64 = .ok (.if_icmp .ne 7, 3) := by decide +kernel
theorem dM_place_67 : decode bM_place 67 = .ok (.iconst 1, 1) := by decide +kernel
theorem dM_place_68 : decode bM_place 68 = .ok (.goto 4, 3) := by decide +kernel
theorem dM_place_71 : decode bM_place 71 = .ok (.iconst 0, 1) := by decide +kernel
theorem dM_place_72 : decode bM_place 72 = .ok (.istore_n 3, 1) := by decide +kernel
theorem dM_place_73 : decode bM_place 73 = .ok (.iinc 4 1, 3) := by decide +kernel
theorem dM_place_76 : decode bM_place 76 = .ok (.goto (-44), 3) := by decide +kernel
theorem dM_place_79 : decode bM_place 79 = .ok (.aload_n 0, 1) := by decide +kernel
theorem dM_place_80 : decode bM_place 80 = .ok (.iload_n 3, 1) := by decide +kernel
theorem dM_place_81 : decode bM_place 81 = .ok (.ifCond .ne 21, 3) := by decide +kernel
theorem dM_place_84 : decode bM_place 84 = .ok (.aload_n 0, 1) := by decide +kernel
theorem dM_place_85 : decode bM_place 85 = .ok (.iload_n 1, 1) := by decide +kernel
theorem dM_place_86 : decode bM_place 86 = .ok (.iload_n 2, 1) := by decide +kernel
theorem dM_place_87 : decode bM_place 87 = .ok (.invokevirtual 61, 3) := by decide +kernel
theorem dM_place_90 : decode bM_place 90 = .ok (.ifCond .eq 12, 3) := by decide +kernel
theorem dM_place_93 : decode bM_place 93 = .ok (.aload_n 0, 1) := by decide +kernel
theorem dM_place_94 : decode bM_place 94 = .ok (.getfield 54, 3) := by decide +kernel
theorem dM_place_97 : decode bM_place 97 = .ok (.bipush 12, 2) := by decide +kernel
theorem dM_place_99 : decode bM_place 99 = .ok (.if_icmp .ne 7, 3) := by decide +kernel
theorem dM_place_102 : decode bM_place 102 = .ok (.iconst 2, 1) := by decide +kernel
theorem dM_place_103 : decode bM_place 103 = .ok (.goto 4, 3) := by decide +kernel
theorem dM_place_106 : decode bM_place 106 = .ok (.iconst 0, 1) := by decide +kernel
theorem dM_place_107 : decode bM_place 107 = .ok (.putfield 51, 3) := by decide +kernel
theorem dM_place_110 : decode bM_place 110 = .ok (.aload_n 0, 1) := by decide +kernel
theorem dM_place_111 : decode bM_place 111 = .ok (.getfield 51, 3) := by decide +kernel
theorem dM_place_114 : decode bM_place 114 = .ok (.ifCond .le 5, 3) := by decide +kernel
theorem dM_place_117 : decode bM_place 117 = .ok (.iconst 0, 1) := by decide +kernel
theorem dM_place_118 : decode bM_place 118 = .ok (.ireturn, 1) := by decide +kernel
theorem dM_place_119 : decode bM_place 119 = .ok (.aload_n 0, 1) := by decide +kernel
theorem dM_place_120 : decode bM_place 120 = .ok (.getfield 17, 3) := by decide +kernel
theorem dM_place_123 : decode bM_place 123 = .ok (.aload_n 0, 1) := by decide +kernel
theorem dM_place_124 : decode bM_place 124 = .ok (.getfield 54, 3) := by decide +kernel
theorem dM_place_127 : decode bM_place 127 = .ok (.iload_n 1, 1) := by decide +kernel
theorem dM_place_128 : decode bM_place 128 = .ok (.iastore, 1) := by decide +kernel
theorem dM_place_129 : decode bM_place 129 = .ok (.aload_n 0, 1) := by decide +kernel
theorem dM_place_130 : decode bM_place 130 = .ok (.getfield 21, 3) := by decide +kernel
theorem dM_place_133 : decode bM_place 133 = .ok (.aload_n 0, 1) := by decide +kernel
theorem dM_place_134 : decode bM_place 134 = .ok (.getfield 54, 3) := by decide +kernel
theorem dM_place_137 : decode bM_place 137 = .ok (.iload_n 2, 1) := by decide +kernel
theorem dM_place_138 : decode bM_place 138 = .ok (.iastore, 1) := by decide +kernel
theorem dM_place_139 : decode bM_place 139 = .ok (.aload_n 0, 1) := by decide +kernel
theorem dM_place_140 : decode bM_place 140 = .ok (.dup, 1) := by decide +kernel
theorem dM_place_141 : decode bM_place 141 = .ok (.getfield 54, 3) := by decide +kernel
theorem dM_place_144 : decode bM_place 144 = .ok (.iconst 1, 1) := by decide +kernel
theorem dM_place_145 : decode bM_place 145 = .ok (.iadd, 1) := by decide +kernel
theorem dM_place_146 : decode bM_place 146 = .ok (.putfield 54, 3) := by decide +kernel
theorem dM_place_149 : decode bM_place 149 = .ok (.aload_n 0, 1) := by decide +kernel
theorem dM_place_150 : decode bM_place 150 = .ok (.getfield 54, 3) := by decide +kernel
theorem dM_place_153 : decode bM_place 153 = .ok (.iconst 1, 1) := by decide +kernel
theorem dM_place_154 : decode bM_place 154 = .ok (.isub, 1) := by decide +kernel
theorem dM_place_155 : decode bM_place 155 = .ok (.ireturn, 1) := by decide +kernel
theorem dM_least_0 : decode bM_least 0 = .ok (.iload_n 0, 1) := by decide +kernel
theorem dM_least_1 : decode bM_least 1 = .ok (.iload_n 1, 1) := by decide +kernel
theorem dM_least_2 : decode bM_least 2 = .ok (.if_icmp .ge 7, 3) := by decide +kernel
theorem dM_least_5 : decode bM_least 5 = .ok (.iload_n 0, 1) := by decide +kernel
theorem dM_least_6 : decode bM_least 6 = .ok (.goto 4, 3) := by decide +kernel
theorem dM_least_9 : decode bM_least 9 = .ok (.iload_n 1, 1) := by decide +kernel
theorem dM_least_10 : decode bM_least 10 = .ok (.ireturn, 1) := by decide +kernel
theorem dM_most_0 : decode bM_most 0 = .ok (.iload_n 0, 1) := by decide +kernel
theorem dM_most_1 : decode bM_most 1 = .ok (.iload_n 1, 1) := by decide +kernel
theorem dM_most_2 : decode bM_most 2 = .ok (.if_icmp .le 7, 3) := by decide +kernel
theorem dM_most_5 : decode bM_most 5 = .ok (.iload_n 0, 1) := by decide +kernel
theorem dM_most_6 : decode bM_most 6 = .ok (.goto 4, 3) := by decide +kernel
theorem dM_most_9 : decode bM_most 9 = .ok (.iload_n 1, 1) := by decide +kernel
theorem dM_most_10 : decode bM_most 10 = .ok (.ireturn, 1) := by decide +kernel
theorem dM_side_0 : decode bM_side 0 = .ok (.iload_n 2, 1) := by decide +kernel
theorem dM_side_1 : decode bM_side 1 = .ok (.iload_n 0, 1) := by decide +kernel
theorem dM_side_2 : decode bM_side 2 = .ok (.isub, 1) := by decide +kernel
theorem dM_side_3 : decode bM_side 3 = .ok (.iload 5, 2) := by decide +kernel
theorem dM_side_5 : decode bM_side 5 = .ok (.iload_n 1, 1) := by decide +kernel
theorem dM_side_6 : decode bM_side 6 = .ok (.isub, 1) := by decide +kernel
theorem dM_side_7 : decode bM_side 7 = .ok (.imul, 1) := by decide +kernel
theorem dM_side_8 : decode bM_side 8 = .ok (.iload_n 3, 1) := by decide +kernel
theorem dM_side_9 : decode bM_side 9 = .ok (.iload_n 1, 1) := by decide +kernel
theorem dM_side_10 : decode bM_side 10 = .ok (.isub, 1) := by decide +kernel
theorem dM_side_11 : decode bM_side 11 = .ok (.iload 4, 2) := by decide +kernel
theorem dM_side_13 : decode bM_side 13 = .ok (.iload_n 0, 1) := by decide +kernel
theorem dM_side_14 : decode bM_side 14 = .ok (.isub, 1) := by decide +kernel
theorem dM_side_15 : decode bM_side 15 = .ok (.imul, 1) := by decide +kernel
theorem dM_side_16 : decode bM_side 16 = .ok (.isub, 1) := by decide +kernel
theorem dM_side_17 : decode bM_side 17 = .ok (.ireturn, 1) := by decide +kernel
theorem dM_crosses_0 : decode bM_crosses 0 = .ok (.iconst 2, 1) := by decide +kernel
theorem dM_crosses_1 : decode bM_crosses 1 = .ok (.iload_n 0, 1) := by decide +kernel
theorem dM_crosses_2 : decode bM_crosses 2 = .ok (.imul, 1) := by decide +kernel
theorem dM_crosses_3 : decode bM_crosses 3 = .ok (.iconst 1, 1) := by decide +kernel
theorem dM_crosses_4 : decode bM_crosses 4 = .ok (.iadd, 1) := by decide +kernel
theorem dM_crosses_5 : decode bM_crosses 5 = .ok (.istore 6, 2) := by decide +kernel
theorem dM_crosses_7 : decode bM_crosses 7 = .ok (.iconst 2, 1) := by decide +kernel
theorem dM_crosses_8 : decode bM_crosses 8 = .ok (.iload_n 1, 1) := by decide +kernel
theorem dM_crosses_9 : decode bM_crosses 9 = .ok (.imul, 1) := by decide +kernel
theorem dM_crosses_10 : decode bM_crosses 10 = .ok (.iconst 1, 1) := by decide +kernel
theorem dM_crosses_11 : decode bM_crosses 11 = .ok (.iadd, 1) := by decide +kernel
theorem dM_crosses_12 : decode bM_crosses 12 = .ok (.istore 7, 2) := by decide +kernel
theorem dM_crosses_14 : decode bM_crosses 14 = .ok (.iconst 2, 1) := by decide +kernel
theorem dM_crosses_15 : decode bM_crosses 15 = .ok (.iload_n 2, 1) := by decide +kernel
theorem dM_crosses_16 : decode bM_crosses 16 = .ok (.imul, 1) := by decide +kernel
theorem dM_crosses_17 : decode bM_crosses 17 = .ok (.iconst 1, 1) := by decide +kernel
theorem dM_crosses_18 : decode bM_crosses 18 = .ok (.iadd, 1) := by decide +kernel
theorem dM_crosses_19 : decode bM_crosses 19 = .ok (.istore 8, 2) := by decide +kernel
theorem dM_crosses_21 : decode bM_crosses 21 = .ok (.iconst 2, 1) := by decide +kernel
theorem dM_crosses_22 : decode bM_crosses 22 = .ok (.iload_n 3, 1) := by decide +kernel
theorem dM_crosses_23 : decode bM_crosses 23 = .ok (.imul, 1) := by decide +kernel
theorem dM_crosses_24 : decode bM_crosses 24 = .ok (.iconst 1, 1) := by decide +kernel
theorem dM_crosses_25 : decode bM_crosses 25 = .ok (.iadd, 1) := by decide +kernel
theorem dM_crosses_26 : decode bM_crosses 26 = .ok (.istore 9, 2) := by decide +kernel
theorem dM_crosses_28 : decode bM_crosses 28 = .ok (.iconst 2, 1) := by decide +kernel
theorem dM_crosses_29 : decode bM_crosses 29 = .ok (.iload 4, 2) := by decide +kernel
theorem dM_crosses_31 : decode bM_crosses 31 = .ok (.imul, 1) := by decide +kernel
theorem dM_crosses_32 : decode bM_crosses 32 = .ok (.istore 10, 2) := by decide +kernel
theorem dM_crosses_34 : decode bM_crosses 34 = .ok (.iconst 2, 1) := by decide +kernel
theorem dM_crosses_35 : decode bM_crosses 35 = .ok (.iload 5, 2) := by decide +kernel
theorem dM_crosses_37 : decode bM_crosses 37 = .ok (.imul, 1) := by decide +kernel
theorem dM_crosses_38 : decode bM_crosses 38 = .ok (.istore 11, 2) := by decide +kernel
theorem dM_crosses_40 : decode bM_crosses 40 = .ok (.iload 6, 2) := by decide +kernel
theorem dM_crosses_42 : decode bM_crosses 42 = .ok (.iload 8, 2) := by decide +kernel
theorem dM_crosses_44 : decode bM_crosses 44 = .ok (.invokestatic 64, 3) := by decide +kernel
theorem dM_crosses_47 : decode bM_crosses 47 = .ok (.iload 10, 2) := by decide +kernel
theorem dM_crosses_49 : decode bM_crosses 49 = .ok (.if_icmp .le 43, 3) := by decide +kernel
theorem dM_crosses_52 : decode bM_crosses 52 = .ok (.iload 6, 2) := by decide +kernel
theorem dM_crosses_54 : decode bM_crosses 54 = .ok (.iload 8, 2) := by decide +kernel
theorem dM_crosses_56 : decode bM_crosses 56 = .ok (.invokestatic 68, 3) := by decide +kernel
theorem dM_crosses_59 : decode bM_crosses 59 = .ok (.iload 10, 2) := by decide +kernel
theorem dM_crosses_61 : decode bM_crosses 61 = .ok (.iconst 2, 1) := by decide +kernel
theorem dM_crosses_62 : decode bM_crosses 62 = .ok (.iadd, 1) := by decide +kernel
theorem dM_crosses_63 : decode bM_crosses 63 = .ok (.if_icmp .ge 29, 3) := by decide +kernel
theorem dM_crosses_66 : decode bM_crosses 66 = .ok (.iload 7, 2) := by decide +kernel
theorem dM_crosses_68 : decode bM_crosses 68 = .ok (.iload 9, 2) := by decide +kernel
theorem dM_crosses_70 : decode bM_crosses 70 = .ok (.invokestatic 64, 3) := by decide +kernel
theorem dM_crosses_73 : decode bM_crosses 73 = .ok (.iload 11, 2) := by decide +kernel
theorem dM_crosses_75 : decode bM_crosses 75 = .ok (.if_icmp .le 17, 3) := by decide +kernel
theorem dM_crosses_78 : decode bM_crosses 78 = .ok (.iload 7, 2) := by decide +kernel
theorem dM_crosses_80 : decode bM_crosses 80 = .ok (.iload 9, 2) := by decide +kernel
theorem dM_crosses_82 : decode bM_crosses 82 = .ok (.invokestatic 68, 3) := by decide +kernel
theorem dM_crosses_85 : decode bM_crosses 85 = .ok (.iload 11, 2) := by decide +kernel
theorem dM_crosses_87 : decode bM_crosses 87 = .ok (.iconst 2, 1) := by decide +kernel
theorem dM_crosses_88 : decode bM_crosses 88 = .ok (.iadd, 1) := by decide +kernel
theorem dM_crosses_89 : decode bM_crosses 89 = .ok (.if_icmp .lt 5, 3) := by decide +kernel
theorem dM_crosses_92 : decode bM_crosses 92 = .ok (.iconst 0, 1) := by decide +kernel
theorem dM_crosses_93 : decode bM_crosses 93 = .ok (.ireturn, 1) := by decide +kernel
theorem dM_crosses_94 : decode bM_crosses 94 = .ok (.iload 6, 2) := by decide +kernel
theorem dM_crosses_96 : decode bM_crosses 96 = .ok (.iload 7, 2) := by decide +kernel
theorem dM_crosses_98 : decode bM_crosses 98 = .ok (.iload 8, 2) := by decide +kernel
theorem dM_crosses_100 : decode bM_crosses 100 = .ok (.iload 9, 2) := by decide +kernel
theorem dM_crosses_102 : decode bM_crosses 102 = .ok (.iload 10, 2) := by decide +kernel
theorem dM_crosses_104 : decode bM_crosses 104 = .ok (.iload 11, 2) := by decide +kernel
theorem dM_crosses_106 : decode bM_crosses 106 = .ok (.invokestatic 71, 3) := by decide +kernel
theorem dM_crosses_109 : decode bM_crosses 109 = .ok (.istore 12, 2) := by decide +kernel
theorem dM_crosses_111 : decode bM_crosses 111 = .ok (.iload 6, 2) := by decide +kernel
theorem dM_crosses_113 : decode bM_crosses 113 = .ok (.iload 7, 2) := by decide +kernel
theorem dM_crosses_115 : decode bM_crosses 115 = .ok (.iload 8, 2) := by decide +kernel
theorem dM_crosses_117 : decode bM_crosses 117 = .ok (.iload 9, 2) := by decide +kernel
theorem dM_crosses_119 : decode bM_crosses 119 = .ok (.iload 10, 2) := by decide +kernel
theorem dM_crosses_121 : decode bM_crosses 121 = .ok (.iconst 2, 1) := by decide +kernel
theorem dM_crosses_122 : decode bM_crosses 122 = .ok (.iadd, 1) := by decide +kernel
theorem dM_crosses_123 : decode bM_crosses 123 = .ok (.iload 11, 2) := by decide +kernel
theorem dM_crosses_125 : decode bM_crosses 125 = .ok (.invokestatic 71, 3) := by decide +kernel
theorem dM_crosses_128 : decode bM_crosses 128 = .ok (.istore 13, 2) := by decide +kernel
theorem dM_crosses_130 : decode bM_crosses 130 = .ok (.iload 6, 2) := by decide +kernel
theorem dM_crosses_132 : decode bM_crosses 132 = .ok (.iload 7, 2) := by decide +kernel
theorem dM_crosses_134 : decode bM_crosses 134 = .ok (.iload 8, 2) := by decide +kernel
theorem dM_crosses_136 : decode bM_crosses 136 = .ok (.iload 9, 2) := by decide +kernel
theorem dM_crosses_138 : decode bM_crosses 138 = .ok (.iload 10, 2) := by decide +kernel
theorem dM_crosses_140 : decode bM_crosses 140 = .ok (.iload 11, 2) := by decide +kernel
theorem dM_crosses_142 : decode bM_crosses 142 = .ok (.iconst 2, 1) := by decide +kernel
theorem dM_crosses_143 : decode bM_crosses 143 = .ok (.iadd, 1) := by decide +kernel
theorem dM_crosses_144 : decode bM_crosses 144 = .ok (.invokestatic 71, 3) := by decide +kernel
theorem dM_crosses_147 : decode bM_crosses 147 = .ok (.istore 14, 2) := by decide +kernel
theorem dM_crosses_149 : decode bM_crosses 149 = .ok (.iload 6, 2) := by decide +kernel
theorem dM_crosses_151 : decode bM_crosses 151 = .ok (.iload 7, 2) := by decide +kernel
theorem dM_crosses_153 : decode bM_crosses 153 = .ok (.iload 8, 2) := by decide +kernel
theorem dM_crosses_155 : decode bM_crosses 155 = .ok (.iload 9, 2) := by decide +kernel
theorem dM_crosses_157 : decode bM_crosses 157 = .ok (.iload 10, 2) := by decide +kernel
theorem dM_crosses_159 : decode bM_crosses 159 = .ok (.iconst 2, 1) := by decide +kernel
theorem dM_crosses_160 : decode bM_crosses 160 = .ok (.iadd, 1) := by decide +kernel
theorem dM_crosses_161 : decode bM_crosses 161 = .ok (.iload 11, 2) := by decide +kernel
theorem dM_crosses_163 : decode bM_crosses 163 = .ok (.iconst 2, 1) := by decide +kernel
theorem dM_crosses_164 : decode bM_crosses 164 = .ok (.iadd, 1) := by decide +kernel
theorem dM_crosses_165 : decode bM_crosses 165 = .ok (.invokestatic 71, 3) := by decide +kernel
theorem dM_crosses_168 : decode bM_crosses 168 = .ok (.istore 15, 2) := by decide +kernel
theorem dM_crosses_170 : decode bM_crosses 170 = .ok (.iload 12, 2) := by decide +kernel
theorem dM_crosses_172 : decode bM_crosses 172 = .ok (.iload 13, 2) := by decide +kernel
theorem dM_crosses_174 : decode bM_crosses 174 = .ok (.invokestatic 68, 3) := by decide +kernel
theorem dM_crosses_177 : decode bM_crosses 177 = .ok (.iload 14, 2) := by decide +kernel
theorem dM_crosses_179 : decode bM_crosses 179 = .ok (.iload 15, 2) := by decide +kernel
theorem dM_crosses_181 : decode bM_crosses 181 = .ok (.invokestatic 68, 3) := by decide +kernel
theorem dM_crosses_184 : decode bM_crosses 184 = .ok (.invokestatic 68, 3) := by decide +kernel
theorem dM_crosses_187 : decode bM_crosses 187 = .ok (.istore 16, 2) := by decide +kernel
theorem dM_crosses_189 : decode bM_crosses 189 = .ok (.iload 12, 2) := by decide +kernel
theorem dM_crosses_191 : decode bM_crosses 191 = .ok (.iload 13, 2) := by decide +kernel
theorem dM_crosses_193 : decode bM_crosses 193 = .ok (.invokestatic 64, 3) := by decide +kernel
theorem dM_crosses_196 : decode bM_crosses 196 = .ok (.iload 14, 2) := by decide +kernel
theorem dM_crosses_198 : decode bM_crosses 198 = .ok (.iload 15, 2) := by decide +kernel
theorem dM_crosses_200 : decode bM_crosses 200 = .ok (.invokestatic 64, 3) := by decide +kernel
theorem dM_crosses_203 : decode bM_crosses 203 = .ok (.invokestatic 64, 3) := by decide +kernel
theorem dM_crosses_206 : decode bM_crosses 206 = .ok (.istore 17, 2) := by decide +kernel
theorem dM_crosses_208 : decode bM_crosses 208 = .ok (.iload 16, 2) := by decide +kernel
theorem dM_crosses_210 : decode bM_crosses 210 = .ok (.ifCond .ge 12, 3) := by decide +kernel
theorem dM_crosses_213 : decode bM_crosses 213 = .ok (.iload 17, 2) := by decide +kernel
theorem dM_crosses_215 : decode bM_crosses 215 = .ok (.ifCond .le 7, 3) := by decide +kernel
theorem dM_crosses_218 : decode bM_crosses 218 = .ok (.iconst 1, 1) := by decide +kernel
theorem dM_crosses_219 : decode bM_crosses 219 = .ok (.goto 4, 3) := by decide +kernel
theorem dM_crosses_222 : decode bM_crosses 222 = .ok (.iconst 0, 1) := by decide +kernel
theorem dM_crosses_223 : decode bM_crosses 223 = .ok (.ireturn, 1) := by decide +kernel
theorem dM_sees_0 : decode bM_sees 0 = .ok (.aload_n 0, 1) := by decide +kernel
theorem dM_sees_1 : decode bM_sees 1 = .ok (.iload_n 1, 1) := by decide +kernel
theorem dM_sees_2 : decode bM_sees 2 = .ok (.iload_n 2, 1) := by decide +kernel
theorem dM_sees_3 : decode bM_sees 3 = .ok (.invokevirtual 61, 3) := by decide +kernel
theorem dM_sees_6 : decode bM_sees 6 = .ok (.ifCond .eq 17, 3) := by decide +kernel
theorem dM_sees_9 : decode bM_sees 9 = .ok (.aload_n 0, 1) := by decide +kernel
theorem dM_sees_10 : decode bM_sees 10 = .ok (.iload_n 3, 1) := by decide +kernel
theorem dM_sees_11 : decode bM_sees 11 = .ok (.iload 4, 2) := by decide +kernel
theorem dM_sees_13 : decode bM_sees 13 = .ok (.invokevirtual 61, 3) := by decide +kernel
theorem dM_sees_16 : decode bM_sees 16 = .ok (.ifCond .eq 7, 3) := by decide +kernel
theorem dM_sees_19 : decode bM_sees 19 = .ok (.iconst 1, 1) := by decide +kernel
theorem dM_sees_20 : decode bM_sees 20 = .ok (.goto 4, 3) := by decide +kernel
theorem dM_sees_23 : decode bM_sees 23 = .ok (.iconst 0, 1) := by decide +kernel
theorem dM_sees_24 : decode bM_sees 24 = .ok (.istore 5, 2) := by decide +kernel
theorem dM_sees_26 : decode bM_sees 26 = .ok (.iload_n 2, 1) := by decide +kernel
theorem dM_sees_27 : decode bM_sees 27 = .ok (.iload 4, 2) := by decide +kernel
theorem dM_sees_29 : decode bM_sees 29 = .ok (.invokestatic 68, 3) := by decide +kernel
theorem dM_sees_32 : decode bM_sees 32 = .ok (.istore 6, 2) := by decide +kernel
theorem dM_sees_34 : decode bM_sees 34 = .ok (.iload 6, 2) := by decide +kernel
theorem dM_sees_36 : decode bM_sees 36 = .ok (.iload_n 2, 1) := by decide +kernel
theorem dM_sees_37 : decode bM_sees 37 = .ok (.iload 4, 2) := by decide +kernel
theorem dM_sees_39 : decode bM_sees 39 = .ok (.invokestatic 64, 3) := by decide +kernel
theorem dM_sees_42 : decode bM_sees 42 = .ok (.if_icmp .gt 75, 3) := by decide +kernel
theorem dM_sees_45 : decode bM_sees 45 = .ok (.iload 5, 2) := by decide +kernel
theorem dM_sees_47 : decode bM_sees 47 = .ok (.ifCond .eq 70, 3) := by decide +kernel
theorem dM_sees_50 : decode bM_sees 50 = .ok (.iload_n 1, 1) := by decide +kernel
theorem dM_sees_51 : decode bM_sees 51 = .ok (.iload_n 3, 1) := by decide +kernel
theorem dM_sees_52 : decode bM_sees 52 = .ok (.invokestatic 68, 3) := by decide +kernel
theorem dM_sees_55 : decode bM_sees 55 = .ok (.istore 7, 2) := by decide +kernel
theorem dM_sees_57 : decode bM_sees 57 = .ok (.iload 7, 2) := by decide +kernel
theorem dM_sees_59 : decode bM_sees 59 = .ok (.iload_n 1, 1) := by decide +kernel
theorem dM_sees_60 : decode bM_sees 60 = .ok (.iload_n 3, 1) := by decide +kernel
theorem dM_sees_61 : decode bM_sees 61 = .ok (.invokestatic 64, 3) := by decide +kernel
theorem dM_sees_64 : decode bM_sees 64 = .ok (.if_icmp .gt 47, 3) := by decide +kernel
theorem dM_sees_67 : decode bM_sees 67 = .ok (.iload 5, 2) := by decide +kernel
theorem dM_sees_69 : decode bM_sees 69 = .ok (.ifCond .eq 42, 3) := by decide +kernel
theorem dM_sees_72 : decode bM_sees 72 = .ok (.aload_n 0, 1) := by decide +kernel
theorem dM_sees_73 : decode bM_sees 73 = .ok (.iload 7, 2) := by decide +kernel
theorem dM_sees_75 : decode bM_sees 75 = .ok (.iload 6, 2) := by decide +kernel
theorem dM_sees_77 : decode bM_sees 77 = .ok (.invokevirtual 61, 3) := by decide +kernel
theorem dM_sees_80 : decode bM_sees 80 = .ok (.ifCond .ne 18, 3) := by decide +kernel
theorem dM_sees_83 : decode bM_sees 83 = .ok (.iload_n 1, 1) := by decide +kernel
theorem dM_sees_84 : decode bM_sees 84 = .ok (.iload_n 2, 1) := by decide +kernel
theorem dM_sees_85 : decode bM_sees 85 = .ok (.iload_n 3, 1) := by decide +kernel
theorem dM_sees_86 : decode bM_sees 86 = .ok (.iload 4, 2) := by decide +kernel
theorem dM_sees_88 : decode bM_sees 88 = .ok (.iload 7, 2) := by decide +kernel
theorem dM_sees_90 : decode bM_sees 90 = .ok (.iload 6, 2) := by decide +kernel
theorem dM_sees_92 : decode bM_sees 92 = .ok (.invokestatic 75, 3) := by decide +kernel
theorem dM_sees_95 : decode bM_sees 95 = .ok (.ifCond .ne 7, 3) := by decide +kernel
theorem dM_sees_98 : decode bM_sees 98 = .ok (.iconst 1, 1) := by decide +kernel
theorem dM_sees_99 : decode bM_sees 99 = .ok (.goto 4, 3) := by decide +kernel
theorem dM_sees_102 : decode bM_sees 102 = .ok (.iconst 0, 1) := by decide +kernel
theorem dM_sees_103 : decode bM_sees 103 = .ok (.istore 5, 2) := by decide +kernel
theorem dM_sees_105 : decode bM_sees 105 = .ok (.iinc 7 1, 3) := by decide +kernel
theorem dM_sees_108 : decode bM_sees 108 = .ok (.goto (-51), 3) := by decide +kernel
theorem dM_sees_111 : decode bM_sees 111 = .ok (.iinc 6 1, 3) := by decide +kernel
theorem dM_sees_114 : decode bM_sees 114 = .ok (.goto (-80), 3) := by decide +kernel
theorem dM_sees_117 : decode bM_sees 117 = .ok (.iload 5, 2) := by decide +kernel
theorem dM_sees_119 : decode bM_sees 119 = .ok (.ireturn, 1) := by decide +kernel
theorem dM_seen_0 : decode bM_seen 0 = .ok (.aload_n 0, 1) := by decide +kernel
theorem dM_seen_1 : decode bM_seen 1 = .ok (.aload_n 0, 1) := by decide +kernel
theorem dM_seen_2 : decode bM_seen 2 = .ok (.iload_n 1, 1) := by decide +kernel
theorem dM_seen_3 : decode bM_seen 3 = .ok (.iload_n 2, 1) := by decide +kernel
theorem dM_seen_4 : decode bM_seen 4 = .ok (.invokevirtual 57, 3) := by decide +kernel
theorem dM_seen_7 : decode bM_seen 7 = .ok (.ifCond .eq 17, 3) := by decide +kernel
theorem dM_seen_10 : decode bM_seen 10 = .ok (.aload_n 0, 1) := by decide +kernel
theorem dM_seen_11 : decode bM_seen 11 = .ok (.iload_n 3, 1) := by decide +kernel
theorem dM_seen_12 : decode bM_seen 12 = .ok (.iload 4, 2) := by decide +kernel
theorem dM_seen_14 : decode bM_seen 14 = .ok (.invokevirtual 57, 3) := by decide +kernel
theorem dM_seen_17 : decode bM_seen 17 = .ok (.ifCond .eq 7, 3) := by decide +kernel
theorem dM_seen_20 : decode bM_seen 20 = .ok (.iconst 0, 1) := by decide +kernel
theorem dM_seen_21 : decode bM_seen 21 = .ok (.goto 4, 3) := by decide +kernel
theorem dM_seen_24 : decode bM_seen 24 = .ok (.iconst 1, 1) := by decide +kernel
theorem dM_seen_25 : decode bM_seen 25 = .ok (.putfield 51, 3) := by decide +kernel
theorem dM_seen_28 : decode bM_seen 28 = .ok (.aload_n 0, 1) := by decide +kernel
theorem dM_seen_29 : decode bM_seen 29 = .ok (.getfield 51, 3) := by decide +kernel
theorem dM_seen_32 : decode bM_seen 32 = .ok (.ifCond .ne 19, 3) := by decide +kernel
theorem dM_seen_35 : decode bM_seen 35 = .ok (.aload_n 0, 1) := by decide +kernel
theorem dM_seen_36 : decode bM_seen 36 = .ok (.iload_n 1, 1) := by decide +kernel
theorem dM_seen_37 : decode bM_seen 37 = .ok (.iload_n 2, 1) := by decide +kernel
theorem dM_seen_38 : decode bM_seen 38 = .ok (.iload_n 3, 1) := by decide +kernel
theorem dM_seen_39 : decode bM_seen 39 = .ok (.iload 4, 2) := by decide +kernel
theorem dM_seen_41 : decode bM_seen 41 = .ok (.invokevirtual 79, 3) := by decide +kernel
theorem dM_seen_44 : decode bM_seen 44 = .ok (.ifCond .eq 7, 3) := by decide +kernel
theorem dM_seen_47 : decode bM_seen 47 = .ok (.iconst 1, 1) := by decide +kernel
theorem dM_seen_48 : decode bM_seen 48 = .ok (.goto 4, 3) := by decide +kernel
theorem dM_seen_51 : decode bM_seen 51 = .ok (.iconst 0, 1) := by decide +kernel
theorem dM_seen_52 : decode bM_seen 52 = .ok (.ireturn, 1) := by decide +kernel
theorem dM_isReached_0 : decode bM_isReached 0 = .ok (.iload_n 2, 1) := by decide +kernel
theorem dM_isReached_1 : decode bM_isReached 1 = .ok (.aload_n 0, 1) := by decide +kernel
theorem dM_isReached_2 : decode bM_isReached 2 = .ok (.getfield 17, 3) := by decide +kernel
theorem dM_isReached_5 : decode bM_isReached 5 = .ok (.iload_n 1, 1) := by decide +kernel
theorem dM_isReached_6 : decode bM_isReached 6 = .ok (.iaload, 1) := by decide +kernel
theorem dM_isReached_7 : decode bM_isReached 7 = .ok (.isub, 1) := by decide +kernel
theorem dM_isReached_8 : decode bM_isReached 8 = .ok (.istore 4, 2) := by decide +kernel
theorem dM_isReached_10 : decode bM_isReached 10 = .ok (.iload_n 3, 1) := by decide +kernel
theorem dM_isReached_11 : decode bM_isReached 11 = .ok (.aload_n 0, 1) := by decide +kernel
theorem dM_isReached_12 : decode bM_isReached 12 = .ok (.getfield 21, 3) := by decide +kernel
theorem dM_isReached_15 : decode bM_isReached 15 = .ok (.iload_n 1, 1) := by decide +kernel
theorem dM_isReached_16 : decode bM_isReached 16 = .ok (.iaload, 1) := by decide +kernel
theorem dM_isReached_17 : decode bM_isReached 17 = .ok (.isub, 1) := by decide +kernel
theorem dM_isReached_18 : decode bM_isReached 18 = .ok (.istore 5, 2) := by decide +kernel
theorem dM_isReached_20 : decode bM_isReached 20 = .ok (.iload 4, 2) := by decide +kernel
theorem dM_isReached_22 : decode bM_isReached 22 = .ok (.iload 4, 2) := by decide +kernel
theorem dM_isReached_24 : decode bM_isReached 24 = .ok (.imul, 1) := by decide +kernel
theorem dM_isReached_25 : decode bM_isReached 25 = .ok (.iload 5, 2) := by decide +kernel
theorem dM_isReached_27 : decode bM_isReached 27 = .ok (.iload 5, 2) := by decide +kernel
theorem dM_isReached_29 : decode bM_isReached 29 = .ok (.imul, 1) := by decide +kernel
theorem dM_isReached_30 : decode bM_isReached 30 = .ok (.iadd, 1) := by decide +kernel
theorem dM_isReached_31 : decode bM_isReached 31 = .ok (.aload_n 0, 1) := by decide +kernel
theorem dM_isReached_32 : decode bM_isReached 32 = .ok (.getfield 13, 3) := by decide +kernel
theorem dM_isReached_35 : decode bM_isReached 35 = .ok (.if_icmp .gt 28, 3) := by decide +kernel
theorem dM_isReached_38 : decode bM_isReached 38 = .ok (.aload_n 0, 1) := by decide +kernel
theorem dM_isReached_39 : decode bM_isReached 39 = .ok (.aload_n 0, 1) := by decide +kernel
theorem dM_isReached_40 : decode bM_isReached 40 = .ok (.getfield 17, 3) := by decide +kernel
theorem dM_isReached_43 : decode bM_isReached 43 = .ok (.iload_n 1, 1) := by decide +kernel
theorem dM_isReached_44 : decode bM_isReached 44 = .ok (.iaload, 1) := by decide +kernel
theorem dM_isReached_45 : decode bM_isReached 45 = .ok (.aload_n 0, 1) := by decide +kernel
theorem dM_isReached_46 : decode bM_isReached 46 = .ok (.getfield 21, 3) := by decide +kernel
theorem dM_isReached_49 : decode bM_isReached 49 = .ok (.iload_n 1, 1) := by decide +kernel
theorem dM_isReached_50 : decode bM_isReached 50 = .ok (.iaload, 1) := by decide +kernel
theorem dM_isReached_51 : decode bM_isReached 51 = .ok (.iload_n 2, 1) := by decide +kernel
theorem dM_isReached_52 : decode bM_isReached 52 = .ok (.iload_n 3, 1) := by decide +kernel
theorem dM_isReached_53 : decode bM_isReached 53 = .ok (.invokevirtual 79, 3) := by decide +kernel
theorem dM_isReached_56 : decode bM_isReached 56 = .ok (.ifCond .eq 7, 3) := by decide +kernel
theorem dM_isReached_59 : decode bM_isReached 59 = .ok (.iconst 1, 1) := by decide +kernel
theorem dM_isReached_60 : decode bM_isReached 60 = .ok (.goto 4, 3) := by decide +kernel
theorem dM_isReached_63 : decode bM_isReached 63 = .ok (.iconst 0, 1) := by decide +kernel
theorem dM_isReached_64 : decode bM_isReached 64 = .ok (.ireturn, 1) := by decide +kernel
theorem dM_findReached_0 : decode bM_findReached 0 = .ok (.iconst 0, 1) := by decide +kernel
theorem dM_findReached_1 : decode bM_findReached 1 = .ok (.istore_n 1, 1) := by decide +kernel
theorem dM_findReached_2 : decode bM_findReached 2 = .ok (.iload_n 1, 1) := by decide +kernel
theorem dM_findReached_3 : decode bM_findReached 3 = .ok (.aload_n 0, 1) := by decide +kernel
theorem dM_findReached_4 : decode bM_findReached 4 = .ok (.getfield 48, 3) := by decide +kernel
theorem dM_findReached_7 : decode bM_findReached 7 = .ok (.if_icmp .ge 79, 3) := by decide +kernel
theorem dM_findReached_10 : decode bM_findReached 10 = .ok (.iconst 0, 1) := by decide +kernel
theorem dM_findReached_11 : decode bM_findReached 11 = .ok (.istore_n 2, 1) := by decide +kernel
theorem dM_findReached_12 : decode bM_findReached 12 = .ok (.iload_n 2, 1) := by decide +kernel
theorem dM_findReached_13 : decode bM_findReached 13 = .ok (.aload_n 0, 1) := by decide +kernel
theorem dM_findReached_14 : decode bM_findReached 14 = .ok (.getfield 45, 3) := by decide +kernel
theorem dM_findReached_17 : decode bM_findReached 17 = .ok (.if_icmp .ge 63, 3) := by decide +kernel
theorem dM_findReached_20 : decode bM_findReached 20 = .ok (.iconst 0, 1) := by decide +kernel
theorem dM_findReached_21 : decode bM_findReached 21 = .ok (.istore_n 3, 1) := by decide +kernel
theorem dM_findReached_22 : decode bM_findReached 22 = .ok (.iconst 0, 1) := by decide +kernel
theorem dM_findReached_23 : decode bM_findReached 23 = .ok (.istore 4, 2) := by decide +kernel
theorem dM_findReached_25 : decode bM_findReached 25 = .ok (.iload 4, 2) := by decide +kernel
theorem dM_findReached_27 : decode bM_findReached 27 = .ok (.aload_n 0, 1) := by decide +kernel
theorem dM_findReached_28 : decode bM_findReached 28 = .ok (.getfield 54, 3) := by decide +kernel
theorem dM_findReached_31 : decode bM_findReached 31 = .ok (.if_icmp .ge 31, 3) := by decide +kernel
theorem dM_findReached_34 : decode bM_findReached 34 = .ok (.aload_n 0, 1) := by decide +kernel
theorem dM_findReached_35 : decode bM_findReached 35 = .ok (.iload 4, 2) := by decide +kernel
theorem dM_findReached_37 : decode bM_findReached 37 = .ok (.iload_n 2, 1) := by decide +kernel
theorem dM_findReached_38 : decode bM_findReached 38 = .ok (.iload_n 1, 1) := by decide +kernel
theorem dM_findReached_39 : decode bM_findReached 39 = .ok (.invokevirtual 83, 3) := by decide +kernel
theorem dM_findReached_42 : decode bM_findReached 42 = .ok (.ifCond .eq 12, 3) := by decide +kernel
theorem dM_findReached_45 : decode bM_findReached 45 = .ok (.iload_n 3, 1) := by decide +kernel
theorem dM_findReached_46 : decode bM_findReached 46 = .ok (.iconst 1, 1) := by decide +kernel
theorem dM_findReached_47 : decode bM_findReached 47 = .ok (.iload 4, 2) := by decide +kernel
theorem dM_findReached_49 : decode bM_findReached 49 = .ok (.ishl, 1) := by decide +kernel
theorem dM_findReached_50 : decode bM_findReached 50 = .ok (.ior, 1) := by decide +kernel
theorem dM_findReached_51 : decode bM_findReached 51 = .ok (.goto 4, 3) := by decide +kernel
theorem dM_findReached_54 : decode bM_findReached 54 = .ok (.iload_n 3, 1) := by decide +kernel
theorem dM_findReached_55 : decode bM_findReached 55 = .ok (.istore_n 3, 1) := by decide +kernel
theorem dM_findReached_56 : decode bM_findReached 56 = .ok (.iinc 4 1, 3) := by decide +kernel
theorem dM_findReached_59 : decode bM_findReached 59 = .ok (.goto (-34), 3) := by decide +kernel
theorem dM_findReached_62 : decode bM_findReached 62 = .ok (.aload_n 0, 1) := by decide +kernel
theorem dM_findReached_63 : decode bM_findReached 63 = .ok (.getfield 27, 3) := by decide +kernel
theorem dM_findReached_66 : decode bM_findReached 66 = .ok (.bipush 16, 2) := by decide +kernel
theorem dM_findReached_68 : decode bM_findReached 68 = .ok (.iload_n 1, 1) := by decide +kernel
theorem dM_findReached_69 : decode bM_findReached 69 = .ok (.imul, 1) := by decide +kernel
theorem dM_findReached_70 : decode bM_findReached 70 = .ok (.iload_n 2, 1) := by decide +kernel
theorem dM_findReached_71 : decode bM_findReached 71 = .ok (.iadd, 1) := by decide +kernel
theorem dM_findReached_72 : decode bM_findReached 72 = .ok (.iload_n 3, 1) := by decide +kernel
theorem dM_findReached_73 : decode bM_findReached 73 = .ok (.iastore, 1) := by decide +kernel
theorem dM_findReached_74 : decode bM_findReached 74 = .ok (.iinc 2 1, 3) := by decide +kernel
theorem dM_findReached_77 : decode bM_findReached 77 = .ok (.goto (-65), 3) := by decide +kernel
theorem dM_findReached_80 : decode bM_findReached 80 = .ok (.iinc 1 1, 3) := by decide +kernel
theorem dM_findReached_83 : decode bM_findReached 83 = .ok (.goto (-81), 3) := by decide +kernel
theorem dM_findReached_86 : decode bM_findReached 86 = .ok (.return_, 1) := by decide +kernel
theorem dM_reached_0 : decode bM_reached 0 = .ok (.aload_n 0, 1) := by decide +kernel
theorem dM_reached_1 : decode bM_reached 1 = .ok (.aload_n 0, 1) := by decide +kernel
theorem dM_reached_2 : decode bM_reached 2 = .ok (.iload_n 1, 1) := by decide +kernel
theorem dM_reached_3 : decode bM_reached 3 = .ok (.invokevirtual 87, 3) := by decide +kernel
theorem dM_reached_6 : decode bM_reached 6 = .ok (.ifCond .eq 7, 3) := by decide +kernel
theorem dM_reached_9 : decode bM_reached 9 = .ok (.iconst 0, 1) := by decide +kernel
theorem dM_reached_10 : decode bM_reached 10 = .ok (.goto 4, 3) := by decide +kernel
theorem dM_reached_13 : decode bM_reached 13 = .ok (.iconst 1, 1) := by decide +kernel
theorem dM_reached_14 : decode bM_reached 14 = .ok (.putfield 51, 3) := by decide +kernel
theorem dM_reached_17 : decode bM_reached 17 = .ok (.iconst 0, 1) := by decide +kernel
theorem dM_reached_18 : decode bM_reached 18 = .ok (.istore_n 2, 1) := by decide +kernel
theorem dM_reached_19 : decode bM_reached 19 = .ok (.iconst 0, 1) := by decide +kernel
theorem dM_reached_20 : decode bM_reached 20 = .ok (.istore_n 3, 1) := by decide +kernel
theorem dM_reached_21 : decode bM_reached 21 = .ok (.iload_n 3, 1) := by decide +kernel
theorem dM_reached_22 : decode bM_reached 22 = .ok (.aload_n 0, 1) := by decide +kernel
theorem dM_reached_23 : decode bM_reached 23 = .ok (.getfield 48, 3) := by decide +kernel
theorem dM_reached_26 : decode bM_reached 26 = .ok (.if_icmp .ge 53, 3) := by decide +kernel
theorem dM_reached_29 : decode bM_reached 29 = .ok (.aload_n 0, 1) := by decide +kernel
theorem dM_reached_30 : decode bM_reached 30 = .ok (.getfield 51, 3) := by decide +kernel
theorem dM_reached_33 : decode bM_reached 33 = .ok (.ifCond .ne 46, 3) := by decide +kernel
theorem dM_reached_36 : decode bM_reached 36 = .ok (.iconst 0, 1) := by decide +kernel
theorem dM_reached_37 : decode bM_reached 37 = .ok (.istore 4, 2) := by decide +kernel
theorem dM_reached_39 : decode bM_reached 39 = .ok (.iload 4, 2) := by decide +kernel
theorem dM_reached_41 : decode bM_reached 41 = .ok (.aload_n 0, 1) := by decide +kernel
theorem dM_reached_42 : decode bM_reached 42 = .ok (.getfield 45, 3) := by decide +kernel
theorem dM_reached_45 : decode bM_reached 45 = .ok (.if_icmp .ge 28, 3) := by decide +kernel
theorem dM_reached_48 : decode bM_reached 48 = .ok (.iload_n 2, 1) := by decide +kernel
theorem dM_reached_49 : decode bM_reached 49 = .ok (.aload_n 0, 1) := by decide +kernel
theorem dM_reached_50 : decode bM_reached 50 = .ok (.iload_n 1, 1) := by decide +kernel
theorem dM_reached_51 : decode bM_reached 51 = .ok (.iload 4, 2) := by decide +kernel
theorem dM_reached_53 : decode bM_reached 53 = .ok (.iload_n 3, 1) := by decide +kernel
theorem dM_reached_54 : decode bM_reached 54 = .ok (.invokevirtual 83, 3) := by decide +kernel
theorem dM_reached_57 : decode bM_reached 57 = .ok (.ifCond .eq 7, 3) := by decide +kernel
theorem dM_reached_60 : decode bM_reached 60 = .ok (.iconst 1, 1) := by decide +kernel
theorem dM_reached_61 : decode bM_reached 61 = .ok (.goto 4, 3) := by decide +kernel
theorem dM_reached_64 : decode bM_reached 64 = .ok (.iconst 0, 1) := by decide +kernel
theorem dM_reached_65 : decode bM_reached 65 = .ok (.iadd, 1) := by decide +kernel
theorem dM_reached_66 : decode bM_reached 66 = .ok (.istore_n 2, 1) := by decide +kernel
theorem dM_reached_67 : decode bM_reached 67 = .ok (.iinc 4 1, 3) := by decide +kernel
theorem dM_reached_70 : decode bM_reached 70 = .ok (.goto (-31), 3) := by decide +kernel
theorem dM_reached_73 : decode bM_reached 73 = .ok (.iinc 3 1, 3) := by decide +kernel
theorem dM_reached_76 : decode bM_reached 76 = .ok (.goto (-55), 3) := by decide +kernel
theorem dM_reached_79 : decode bM_reached 79 = .ok (.iload_n 2, 1) := by decide +kernel
theorem dM_reached_80 : decode bM_reached 80 = .ok (.ireturn, 1) := by decide +kernel
theorem dM_dryCells_0 : decode bM_dryCells 0 = .ok (.iconst 0, 1) := by decide +kernel
theorem dM_dryCells_1 : decode bM_dryCells 1 = .ok (.istore_n 2, 1) := by decide +kernel
theorem dM_dryCells_2 : decode bM_dryCells 2 = .ok (.iconst 0, 1) := by decide +kernel
theorem dM_dryCells_3 : decode bM_dryCells 3 = .ok (.istore_n 3, 1) := by decide +kernel
theorem dM_dryCells_4 : decode bM_dryCells 4 = .ok (.iload_n 3, 1) := by decide +kernel
theorem dM_dryCells_5 : decode bM_dryCells 5 = .ok (.aload_n 0, 1) := by decide +kernel
theorem dM_dryCells_6 : decode bM_dryCells 6 = .ok (.getfield 48, 3) := by decide +kernel
theorem dM_dryCells_9 : decode bM_dryCells 9 = .ok (.if_icmp .ge 62, 3) := by decide +kernel
theorem dM_dryCells_12 : decode bM_dryCells 12 = .ok (.iconst 0, 1) := by decide +kernel
theorem dM_dryCells_13 : decode bM_dryCells 13 = .ok (.istore 4, 2) := by decide +kernel
theorem dM_dryCells_15 : decode bM_dryCells 15 = .ok (.iload 4, 2) := by decide +kernel
theorem dM_dryCells_17 : decode bM_dryCells 17 = .ok (.aload_n 0, 1) := by decide +kernel
theorem dM_dryCells_18 : decode bM_dryCells 18 = .ok (.getfield 45, 3) := by decide +kernel
theorem dM_dryCells_21 : decode bM_dryCells 21 = .ok (.if_icmp .ge 44, 3) := by decide +kernel
theorem dM_dryCells_24 : decode bM_dryCells 24 = .ok (.iload_n 2, 1) := by decide +kernel
theorem dM_dryCells_25 : decode bM_dryCells 25 = .ok (.aload_n 0, 1) := by decide +kernel
theorem dM_dryCells_26 : decode bM_dryCells 26 = .ok (.iload 4, 2) := by decide +kernel
theorem dM_dryCells_28 : decode bM_dryCells 28 = .ok (.iload_n 3, 1) := by decide +kernel
theorem dM_dryCells_29 : decode bM_dryCells 29 = .ok (.invokevirtual 61, 3) := by decide +kernel
theorem dM_dryCells_32 : decode bM_dryCells 32 = .ok (.ifCond .eq 24, 3) := by decide +kernel
theorem dM_dryCells_35 : decode bM_dryCells 35 = .ok (.aload_n 0, 1) := by decide +kernel
theorem dM_dryCells_36 : decode bM_dryCells 36 = .ok (.getfield 27, 3) := by decide +kernel
theorem dM_dryCells_39 : decode bM_dryCells 39 = .ok (.bipush 16, 2) := by decide +kernel
theorem dM_dryCells_41 : decode bM_dryCells 41 = .ok (.iload_n 3, 1) := by decide +kernel
theorem dM_dryCells_42 : decode bM_dryCells 42 = .ok (.imul, 1) := by decide +kernel
theorem dM_dryCells_43 : decode bM_dryCells 43 = .ok (.iload 4, 2) := by decide +kernel
theorem dM_dryCells_45 : decode bM_dryCells 45 = .ok (.iadd, 1) := by decide +kernel
theorem dM_dryCells_46 : decode bM_dryCells 46 = .ok (.iaload, 1) := by decide +kernel
theorem dM_dryCells_47 : decode bM_dryCells 47 = .ok (.iload_n 1, 1) := by decide +kernel
theorem dM_dryCells_48 : decode bM_dryCells 48 = .ok (.iand, 1) := by decide +kernel
theorem dM_dryCells_49 : decode bM_dryCells 49 = .ok (.ifCond .ne 7, 3) := by decide +kernel
theorem dM_dryCells_52 : decode bM_dryCells 52 = .ok (.iconst 1, 1) := by decide +kernel
theorem dM_dryCells_53 : decode bM_dryCells 53 = .ok (.goto 4, 3) := by decide +kernel
theorem dM_dryCells_56 : decode bM_dryCells 56 = .ok (.iconst 0, 1) := by decide +kernel
theorem dM_dryCells_57 : decode bM_dryCells 57 = .ok (.iadd, 1) := by decide +kernel
theorem dM_dryCells_58 : decode bM_dryCells 58 = .ok (.istore_n 2, 1) := by decide +kernel
theorem dM_dryCells_59 : decode bM_dryCells 59 = .ok (.iinc 4 1, 3) := by decide +kernel
theorem dM_dryCells_62 : decode bM_dryCells 62 = .ok (.goto (-47), 3) := by decide +kernel
theorem dM_dryCells_65 : decode bM_dryCells 65 = .ok (.iinc 3 1, 3) := by decide +kernel
theorem dM_dryCells_68 : decode bM_dryCells 68 = .ok (.goto (-64), 3) := by decide +kernel
theorem dM_dryCells_71 : decode bM_dryCells 71 = .ok (.iload_n 2, 1) := by decide +kernel
theorem dM_dryCells_72 : decode bM_dryCells 72 = .ok (.ireturn, 1) := by decide +kernel
theorem dM_left_0 : decode bM_left 0 = .ok (.aload_n 0, 1) := by decide +kernel
theorem dM_left_1 : decode bM_left 1 = .ok (.aload_n 0, 1) := by decide +kernel
theorem dM_left_2 : decode bM_left 2 = .ok (.iload_n 1, 1) := by decide +kernel
theorem dM_left_3 : decode bM_left 3 = .ok (.invokevirtual 91, 3) := by decide +kernel
theorem dM_left_6 : decode bM_left 6 = .ok (.ifCond .eq 7, 3) := by decide +kernel
theorem dM_left_9 : decode bM_left 9 = .ok (.iconst 0, 1) := by decide +kernel
theorem dM_left_10 : decode bM_left 10 = .ok (.goto 4, 3) := by decide +kernel
theorem dM_left_13 : decode bM_left 13 = .ok (.iconst 1, 1) := by decide +kernel
theorem dM_left_14 : decode bM_left 14 = .ok (.putfield 51, 3) := by decide +kernel
theorem dM_left_17 : decode bM_left 17 = .ok (.aload_n 0, 1) := by decide +kernel
theorem dM_left_18 : decode bM_left 18 = .ok (.getfield 51, 3) := by decide +kernel
theorem dM_left_21 : decode bM_left 21 = .ok (.ifCond .le 5, 3) := by decide +kernel
theorem dM_left_24 : decode bM_left 24 = .ok (.iconst 0, 1) := by decide +kernel
theorem dM_left_25 : decode bM_left 25 = .ok (.ireturn, 1) := by decide +kernel
theorem dM_left_26 : decode bM_left 26 = .ok (.aload_n 0, 1) := by decide +kernel
theorem dM_left_27 : decode bM_left 27 = .ok (.invokevirtual 94, 3) := by decide +kernel
theorem dM_left_30 : decode bM_left 30 = .ok (.aload_n 0, 1) := by decide +kernel
theorem dM_left_31 : decode bM_left 31 = .ok (.iload_n 1, 1) := by decide +kernel
theorem dM_left_32 : decode bM_left 32 = .ok (.invokevirtual 97, 3) := by decide +kernel
theorem dM_left_35 : decode bM_left 35 = .ok (.ireturn, 1) := by decide +kernel
theorem dM_dry_0 : decode bM_dry 0 = .ok (.aload_n 0, 1) := by decide +kernel
theorem dM_dry_1 : decode bM_dry 1 = .ok (.aload_n 0, 1) := by decide +kernel
theorem dM_dry_2 : decode bM_dry 2 = .ok (.iload_n 1, 1) := by decide +kernel
theorem dM_dry_3 : decode bM_dry 3 = .ok (.invokevirtual 91, 3) := by decide +kernel
theorem dM_dry_6 : decode bM_dry 6 = .ok (.ifCond .eq 11, 3) := by decide +kernel
theorem dM_dry_9 : decode bM_dry 9 = .ok (.iload_n 2, 1) := by decide +kernel
theorem dM_dry_10 : decode bM_dry 10 = .ok (.ifCond .lt 7, 3) := by decide +kernel
theorem dM_dry_13 : decode bM_dry 13 = .ok (.iconst 0, 1) := by decide +kernel
theorem dM_dry_14 : decode bM_dry 14 = .ok (.goto 4, 3) := by decide +kernel
theorem dM_dry_17 : decode bM_dry 17 = .ok (.iconst 1, 1) := by decide +kernel
theorem dM_dry_18 : decode bM_dry 18 = .ok (.putfield 51, 3) := by decide +kernel
theorem dM_dry_21 : decode bM_dry 21 = .ok (.aload_n 0, 1) := by decide +kernel
theorem dM_dry_22 : decode bM_dry 22 = .ok (.getfield 51, 3) := by decide +kernel
theorem dM_dry_25 : decode bM_dry 25 = .ok (.ifCond .le 5, 3) := by decide +kernel
theorem dM_dry_28 : decode bM_dry 28 = .ok (.iconst 0, 1) := by decide +kernel
theorem dM_dry_29 : decode bM_dry 29 = .ok (.ireturn, 1) := by decide +kernel
theorem dM_dry_30 : decode bM_dry 30 = .ok (.aload_n 0, 1) := by decide +kernel
theorem dM_dry_31 : decode bM_dry 31 = .ok (.invokevirtual 94, 3) := by decide +kernel
theorem dM_dry_34 : decode bM_dry 34 = .ok (.iload_n 2, 1) := by decide +kernel
theorem dM_dry_35 : decode bM_dry 35 = .ok (.istore_n 3, 1) := by decide +kernel
theorem dM_dry_36 : decode bM_dry 36 = .ok (.iconst 0, 1) := by decide +kernel
theorem dM_dry_37 : decode bM_dry 37 = .ok (.istore 4, 2) := by decide +kernel
theorem dM_dry_39 : decode bM_dry 39 = .ok (.iload 4, 2) := by decide +kernel
theorem dM_dry_41 : decode bM_dry 41 = .ok (.aload_n 0, 1) := by decide +kernel
theorem dM_dry_42 : decode bM_dry 42 = .ok (.getfield 48, 3) := by decide +kernel
theorem dM_dry_45 : decode bM_dry 45 = .ok (.if_icmp .ge 72, 3) := by decide +kernel
theorem dM_dry_48 : decode bM_dry 48 = .ok (.iconst 0, 1) := by decide +kernel
theorem dM_dry_49 : decode bM_dry 49 = .ok (.istore 5, 2) := by decide +kernel
theorem dM_dry_51 : decode bM_dry 51 = .ok (.iload 5, 2) := by decide +kernel
theorem dM_dry_53 : decode bM_dry 53 = .ok (.aload_n 0, 1) := by decide +kernel
theorem dM_dry_54 : decode bM_dry 54 = .ok (.getfield 45, 3) := by decide +kernel
theorem dM_dry_57 : decode bM_dry 57 = .ok (.if_icmp .ge 54, 3) := by decide +kernel
theorem dM_dry_60 : decode bM_dry 60 = .ok (.aload_n 0, 1) := by decide +kernel
theorem dM_dry_61 : decode bM_dry 61 = .ok (.iload 5, 2) := by decide +kernel
theorem dM_dry_63 : decode bM_dry 63 = .ok (.iload 4, 2) := by decide +kernel
theorem dM_dry_65 : decode bM_dry 65 = .ok (.invokevirtual 61, 3) := by decide +kernel
theorem dM_dry_68 : decode bM_dry 68 = .ok (.ifCond .eq 37, 3) := by decide +kernel
theorem dM_dry_71 : decode bM_dry 71 = .ok (.aload_n 0, 1) := by decide +kernel
theorem dM_dry_72 : decode bM_dry 72 = .ok (.getfield 27, 3) := by decide +kernel
theorem dM_dry_75 : decode bM_dry 75 = .ok (.bipush 16, 2) := by decide +kernel
theorem dM_dry_77 : decode bM_dry 77 = .ok (.iload 4, 2) := by decide +kernel
theorem dM_dry_79 : decode bM_dry 79 = .ok (.imul, 1) := by decide +kernel
theorem dM_dry_80 : decode bM_dry 80 = .ok (.iload 5, 2) := by decide +kernel
theorem dM_dry_82 : decode bM_dry 82 = .ok (.iadd, 1) := by decide +kernel
theorem dM_dry_83 : decode bM_dry 83 = .ok (.iaload, 1) := by decide +kernel
theorem dM_dry_84 : decode bM_dry 84 = .ok (.iload_n 1, 1) := by decide +kernel
theorem dM_dry_85 : decode bM_dry 85 = .ok (.iand, 1) := by decide +kernel
theorem dM_dry_86 : decode bM_dry 86 = .ok (.ifCond .ne 19, 3) := by decide +kernel
theorem dM_dry_89 : decode bM_dry 89 = .ok (.iload_n 3, 1) := by decide +kernel
theorem dM_dry_90 : decode bM_dry 90 = .ok (.ifCond .ne 12, 3) := by decide +kernel
theorem dM_dry_93 : decode bM_dry 93 = .ok (.bipush 100, 2) := by decide +kernel
theorem dM_dry_95 : decode bM_dry 95 = .ok (.iload 4, 2) := by decide +kernel
theorem dM_dry_97 : decode bM_dry 97 = .ok (.imul, 1) := by decide +kernel
theorem dM_dry_98 : decode bM_dry 98 = .ok (.iload 5, 2) := by decide +kernel
theorem dM_dry_100 : decode bM_dry 100 = .ok (.iadd, 1) := by decide +kernel
theorem dM_dry_101 : decode bM_dry 101 = .ok (.ireturn, 1) := by decide +kernel
theorem dM_dry_102 : decode bM_dry 102 = .ok (.iinc 3 (-1), 3) := by decide +kernel
theorem dM_dry_105 : decode bM_dry 105 = .ok (.iinc 5 1, 3) := by decide +kernel
theorem dM_dry_108 : decode bM_dry 108 = .ok (.goto (-57), 3) := by decide +kernel
theorem dM_dry_111 : decode bM_dry 111 = .ok (.iinc 4 1, 3) := by decide +kernel
theorem dM_dry_114 : decode bM_dry 114 = .ok (.goto (-75), 3) := by decide +kernel
theorem dM_dry_117 : decode bM_dry 117 = .ok (.iconst (-1), 1) := by decide +kernel
theorem dM_dry_118 : decode bM_dry 118 = .ok (.ireturn, 1) := by decide +kernel
theorem dM_ones_0 : decode bM_ones 0 = .ok (.iconst 0, 1) := by decide +kernel
theorem dM_ones_1 : decode bM_ones 1 = .ok (.istore_n 1, 1) := by decide +kernel
theorem dM_ones_2 : decode bM_ones 2 = .ok (.iload_n 0, 1) := by decide +kernel
theorem dM_ones_3 : decode bM_ones 3 = .ok (.istore_n 2, 1) := by decide +kernel
theorem dM_ones_4 : decode bM_ones 4 = .ok (.iload_n 2, 1) := by decide +kernel
theorem dM_ones_5 : decode bM_ones 5 = .ok (.ifCond .eq 15, 3) := by decide +kernel
theorem dM_ones_8 : decode bM_ones 8 = .ok (.iinc 1 1, 3) := by decide +kernel
theorem dM_ones_11 : decode bM_ones 11 = .ok (.iload_n 2, 1) := by decide +kernel
theorem dM_ones_12 : decode bM_ones 12 = .ok (.iload_n 2, 1) := by decide +kernel
theorem dM_ones_13 : decode bM_ones 13 = .ok (.iconst 1, 1) := by decide +kernel
theorem dM_ones_14 : decode bM_ones 14 = .ok (.isub, 1) := by decide +kernel
theorem dM_ones_15 : decode bM_ones 15 = .ok (.iand, 1) := by decide +kernel
theorem dM_ones_16 : decode bM_ones 16 = .ok (.istore_n 2, 1) := by decide +kernel
theorem dM_ones_17 : decode bM_ones 17 = .ok (.goto (-13), 3) := by decide +kernel
theorem dM_ones_20 : decode bM_ones 20 = .ok (.iload_n 1, 1) := by decide +kernel
theorem dM_ones_21 : decode bM_ones 21 = .ok (.ireturn, 1) := by decide +kernel
theorem dM_best_0 : decode bM_best 0 = .ok (.aload_n 0, 1) := by decide +kernel
theorem dM_best_1 : decode bM_best 1 = .ok (.iconst 0, 1) := by decide +kernel
theorem dM_best_2 : decode bM_best 2 = .ok (.putfield 51, 3) := by decide +kernel
theorem dM_best_5 : decode bM_best 5 = .ok (.aload_n 0, 1) := by decide +kernel
theorem dM_best_6 : decode bM_best 6 = .ok (.invokevirtual 94, 3) := by decide +kernel
theorem dM_best_9 : decode bM_best 9 = .ok (.iconst (-1), 1) := by decide +kernel
theorem dM_best_10 : decode bM_best 10 = .ok (.istore_n 1, 1) := by decide +kernel
theorem dM_best_11 : decode bM_best 11 = .ok (.iconst 0, 1) := by decide +kernel
theorem dM_best_12 : decode bM_best 12 = .ok (.istore_n 2, 1) := by decide +kernel
theorem dM_best_13 : decode bM_best 13 = .ok (.iload_n 2, 1) := by decide +kernel
theorem dM_best_14 : decode bM_best 14 = .ok (.iconst 1, 1) := by decide +kernel
theorem dM_best_15 : decode bM_best 15 = .ok (.aload_n 0, 1) := by decide +kernel
theorem dM_best_16 : decode bM_best 16 = .ok (.getfield 54, 3) := by decide +kernel
theorem dM_best_19 : decode bM_best 19 = .ok (.ishl, 1) := by decide +kernel
theorem dM_best_20 : decode bM_best 20 = .ok (.if_icmp .ge 49, 3) := by decide +kernel
theorem dM_best_23 : decode bM_best 23 = .ok (.iload_n 1, 1) := by decide +kernel
theorem dM_best_24 : decode bM_best 24 = .ok (.iconst (-1), 1) := by decide +kernel
theorem dM_best_25 : decode bM_best 25 = .ok (.if_icmp .eq 14, 3) := by decide +kernel
theorem dM_best_28 : decode bM_best 28 = .ok (.iload_n 2, 1) := by decide +kernel
theorem dM_best_29 : decode bM_best 29 = .ok (.invokestatic 101, 3) := by decide +kernel
theorem dM_best_32 : decode bM_best 32 = .ok (.iload_n 1, 1) := by decide +kernel
theorem dM_best_33 : decode bM_best 33 = .ok (.invokestatic 101, 3) := by decide +kernel
theorem dM_best_36 : decode bM_best 36 = .ok (.if_icmp .ge 7, 3) := by decide +kernel
theorem dM_best_39 : decode bM_best 39 = .ok (.iconst 1, 1) := by decide +kernel
theorem dM_best_40 : decode bM_best 40 = .ok (.goto 4, 3) := by decide +kernel
theorem dM_best_43 : decode bM_best 43 = .ok (.iconst 0, 1) := by decide +kernel
theorem dM_best_44 : decode bM_best 44 = .ok (.istore_n 3, 1) := by decide +kernel
theorem dM_best_45 : decode bM_best 45 = .ok (.iload_n 3, 1) := by decide +kernel
theorem dM_best_46 : decode bM_best 46 = .ok (.ifCond .eq 15, 3) := by decide +kernel
theorem dM_best_49 : decode bM_best 49 = .ok (.aload_n 0, 1) := by decide +kernel
theorem dM_best_50 : decode bM_best 50 = .ok (.iload_n 2, 1) := by decide +kernel
theorem dM_best_51 : decode bM_best 51 = .ok (.invokevirtual 97, 3) := by decide +kernel
theorem dM_best_54 : decode bM_best 54 = .ok (.ifCond .ne 7, 3) := by decide +kernel
theorem dM_best_57 : decode bM_best 57 = .ok (.iload_n 2, 1) := by decide +kernel
theorem dM_best_58 : decode bM_best 58 = .ok (.goto 4, 3) := by decide +kernel
theorem dM_best_61 : decode bM_best 61 = .ok (.iload_n 1, 1) := by decide +kernel
theorem dM_best_62 : decode bM_best 62 = .ok (.istore_n 1, 1) := by decide +kernel
theorem dM_best_63 : decode bM_best 63 = .ok (.iinc 2 1, 3) := by decide +kernel
theorem dM_best_66 : decode bM_best 66 = .ok (.goto (-53), 3) := by decide +kernel
theorem dM_best_69 : decode bM_best 69 = .ok (.iload_n 1, 1) := by decide +kernel
theorem dM_best_70 : decode bM_best 70 = .ok (.ireturn, 1) := by decide +kernel
theorem dM_size_0 : decode bM_size 0 = .ok (.aload_n 0, 1) := by decide +kernel
theorem dM_size_1 : decode bM_size 1 = .ok (.iload_n 1, 1) := by decide +kernel
theorem dM_size_2 : decode bM_size 2 = .ok (.iconst 1, 1) := by decide +kernel
theorem dM_size_3 : decode bM_size 3 = .ok (.if_icmp .lt 20, 3) := by decide +kernel
theorem dM_size_6 : decode bM_size 6 = .ok (.iload_n 1, 1) := by decide +kernel
theorem dM_size_7 : decode bM_size 7 = .ok (.bipush 12, 2) := by decide +kernel
theorem dM_size_9 : decode bM_size 9 = .ok (.if_icmp .gt 14, 3) := by decide +kernel
theorem dM_size_12 : decode bM_size 12 = .ok (.iload_n 2, 1) := by decide +kernel
theorem dM_size_13 : decode bM_size 13 = .ok (.ifCond .lt 10, 3) := by decide +kernel
theorem dM_size_16 : decode bM_size 16 = .ok (.iload_n 2, 1) := by decide +kernel
theorem dM_size_17 : decode bM_size 17 = .ok (.sipush 1000, 3) := by decide +kernel
theorem dM_size_20 : decode bM_size 20 = .ok (.if_icmp .le 7, 3) := by decide +kernel
theorem dM_size_23 : decode bM_size 23 = .ok (.iconst 1, 1) := by decide +kernel
theorem dM_size_24 : decode bM_size 24 = .ok (.goto 4, 3) := by decide +kernel
theorem dM_size_27 : decode bM_size 27 = .ok (.iconst 0, 1) := by decide +kernel
theorem dM_size_28 : decode bM_size 28 = .ok (.putfield 51, 3) := by decide +kernel
theorem dM_size_31 : decode bM_size 31 = .ok (.aload_n 0, 1) := by decide +kernel
theorem dM_size_32 : decode bM_size 32 = .ok (.getfield 51, 3) := by decide +kernel
theorem dM_size_35 : decode bM_size 35 = .ok (.ifCond .le 5, 3) := by decide +kernel
theorem dM_size_38 : decode bM_size 38 = .ok (.iconst 0, 1) := by decide +kernel
theorem dM_size_39 : decode bM_size 39 = .ok (.ireturn, 1) := by decide +kernel
theorem dM_size_40 : decode bM_size 40 = .ok (.aload_n 0, 1) := by decide +kernel
theorem dM_size_41 : decode bM_size 41 = .ok (.getfield 24, 3) := by decide +kernel
theorem dM_size_44 : decode bM_size 44 = .ok (.iload_n 1, 1) := by decide +kernel
theorem dM_size_45 : decode bM_size 45 = .ok (.iload_n 2, 1) := by decide +kernel
theorem dM_size_46 : decode bM_size 46 = .ok (.iastore, 1) := by decide +kernel
theorem dM_size_47 : decode bM_size 47 = .ok (.iconst 0, 1) := by decide +kernel
theorem dM_size_48 : decode bM_size 48 = .ok (.istore_n 3, 1) := by decide +kernel
theorem dM_size_49 : decode bM_size 49 = .ok (.iconst 1, 1) := by decide +kernel
theorem dM_size_50 : decode bM_size 50 = .ok (.istore 4, 2) := by decide +kernel
theorem dM_size_52 : decode bM_size 52 = .ok (.iload 4, 2) := by decide +kernel
theorem dM_size_54 : decode bM_size 54 = .ok (.bipush 13, 2) := by decide +kernel
theorem dM_size_56 : decode bM_size 56 = .ok (.if_icmp .ge 27, 3) := by decide +kernel
theorem dM_size_59 : decode bM_size 59 = .ok (.iload_n 3, 1) := by decide +kernel
theorem dM_size_60 : decode bM_size 60 = .ok (.aload_n 0, 1) := by decide +kernel
theorem dM_size_61 : decode bM_size 61 = .ok (.getfield 24, 3) := by decide +kernel
theorem dM_size_64 : decode bM_size 64 = .ok (.iload 4, 2) := by decide +kernel
theorem dM_size_66 : decode bM_size 66 = .ok (.iaload, 1) := by decide +kernel
theorem dM_size_67 : decode bM_size 67 = .ok (.ifCond .lt 7, 3) := by decide +kernel
theorem dM_size_70 : decode bM_size 70 = .ok (.iconst 1, 1) := by decide +kernel
theorem dM_size_71 : decode bM_size 71 = .ok (.goto 4, 3) := by decide +kernel
theorem dM_size_74 : decode bM_size 74 = .ok (.iconst 0, 1) := by decide +kernel
theorem dM_size_75 : decode bM_size 75 = .ok (.iadd, 1) := by decide +kernel
theorem dM_size_76 : decode bM_size 76 = .ok (.istore_n 3, 1) := by decide +kernel
theorem dM_size_77 : decode bM_size 77 = .ok (.iinc 4 1, 3) := by decide +kernel
theorem dM_size_80 : decode bM_size 80 = .ok (.goto (-28), 3) := by decide +kernel
theorem dM_size_83 : decode bM_size 83 = .ok (.iload_n 3, 1) := by decide +kernel
theorem dM_size_84 : decode bM_size 84 = .ok (.ireturn, 1) := by decide +kernel
theorem dM_plain_0 : decode bM_plain 0 = .ok (.iload_n 0, 1) := by decide +kernel
theorem dM_plain_1 : decode bM_plain 1 = .ok (.ifCond .ge 8, 3) := by decide +kernel
theorem dM_plain_4 : decode bM_plain 4 = .ok (.iload_n 0, 1) := by decide +kernel
theorem dM_plain_5 : decode bM_plain 5 = .ok (.ineg, 1) := by decide +kernel
theorem dM_plain_6 : decode bM_plain 6 = .ok (.goto 4, 3) := by decide +kernel
theorem dM_plain_9 : decode bM_plain 9 = .ok (.iload_n 0, 1) := by decide +kernel
theorem dM_plain_10 : decode bM_plain 10 = .ok (.ireturn, 1) := by decide +kernel
theorem dM_far_0 : decode bM_far 0 = .ok (.iload_n 2, 1) := by decide +kernel
theorem dM_far_1 : decode bM_far 1 = .ok (.ifCond .ge 7, 3) := by decide +kernel
theorem dM_far_4 : decode bM_far 4 = .ok (.iconst 0, 1) := by decide +kernel
theorem dM_far_5 : decode bM_far 5 = .ok (.goto 14, 3) := by decide +kernel
theorem dM_far_8 : decode bM_far 8 = .ok (.aload_n 0, 1) := by decide +kernel
theorem dM_far_9 : decode bM_far 9 = .ok (.getfield 17, 3) := by decide +kernel
theorem dM_far_12 : decode bM_far 12 = .ok (.aload_n 0, 1) := by decide +kernel
theorem dM_far_13 : decode bM_far 13 = .ok (.getfield 30, 3) := by decide +kernel
theorem dM_far_16 : decode bM_far 16 = .ok (.iload_n 2, 1) := by decide +kernel
theorem dM_far_17 : decode bM_far 17 = .ok (.iaload, 1) := by decide +kernel
theorem dM_far_18 : decode bM_far 18 = .ok (.iaload, 1) := by decide +kernel
theorem dM_far_19 : decode bM_far 19 = .ok (.istore_n 3, 1) := by decide +kernel
theorem dM_far_20 : decode bM_far 20 = .ok (.iload_n 2, 1) := by decide +kernel
theorem dM_far_21 : decode bM_far 21 = .ok (.ifCond .ge 7, 3) := by decide +kernel
theorem dM_far_24 : decode bM_far 24 = .ok (.iconst 0, 1) := by decide +kernel
theorem dM_far_25 : decode bM_far 25 = .ok (.goto 14, 3) := by decide +kernel
theorem dM_far_28 : decode bM_far 28 = .ok (.aload_n 0, 1) := by decide +kernel
theorem dM_far_29 : decode bM_far 29 = .ok (.getfield 21, 3) := by decide +kernel
theorem dM_far_32 : decode bM_far 32 = .ok (.aload_n 0, 1) := by decide +kernel
theorem dM_far_33 : decode bM_far 33 = .ok (.getfield 30, 3) := by decide +kernel
theorem dM_far_36 : decode bM_far 36 = .ok (.iload_n 2, 1) := by decide +kernel
theorem dM_far_37 : decode bM_far 37 = .ok (.iaload, 1) := by decide +kernel
theorem dM_far_38 : decode bM_far 38 = .ok (.iaload, 1) := by decide +kernel
theorem dM_far_39 : decode bM_far 39 = .ok (.istore 4, 2) := by decide +kernel
theorem dM_far_41 : decode bM_far 41 = .ok (.aload_n 0, 1) := by decide +kernel
theorem dM_far_42 : decode bM_far 42 = .ok (.getfield 17, 3) := by decide +kernel
theorem dM_far_45 : decode bM_far 45 = .ok (.iload_n 1, 1) := by decide +kernel
theorem dM_far_46 : decode bM_far 46 = .ok (.iaload, 1) := by decide +kernel
theorem dM_far_47 : decode bM_far 47 = .ok (.iload_n 3, 1) := by decide +kernel
theorem dM_far_48 : decode bM_far 48 = .ok (.isub, 1) := by decide +kernel
theorem dM_far_49 : decode bM_far 49 = .ok (.invokestatic 104, 3) := by decide +kernel
theorem dM_far_52 : decode bM_far 52 = .ok (.aload_n 0, 1) := by decide +kernel
theorem dM_far_53 : decode bM_far 53 = .ok (.getfield 21, 3) := by decide +kernel
theorem dM_far_56 : decode bM_far 56 = .ok (.iload_n 1, 1) := by decide +kernel
theorem dM_far_57 : decode bM_far 57 = .ok (.iaload, 1) := by decide +kernel
theorem dM_far_58 : decode bM_far 58 = .ok (.iload 4, 2) := by decide +kernel
theorem dM_far_60 : decode bM_far 60 = .ok (.isub, 1) := by decide +kernel
theorem dM_far_61 : decode bM_far 61 = .ok (.invokestatic 104, 3) := by decide +kernel
theorem dM_far_64 : decode bM_far 64 = .ok (.iadd, 1) := by decide +kernel
theorem dM_far_65 : decode bM_far 65 = .ok (.ireturn, 1) := by decide +kernel
theorem dM_join_0 : decode bM_join 0 = .ok (.aload_n 0, 1) := by decide +kernel
theorem dM_join_1 : decode bM_join 1 = .ok (.iconst 0, 1) := by decide +kernel
theorem dM_join_2 : decode bM_join 2 = .ok (.putfield 107, 3) := by decide +kernel
theorem dM_join_5 : decode bM_join 5 = .ok (.iload_n 1, 1) := by decide +kernel
theorem dM_join_6 : decode bM_join 6 = .ok (.istore_n 2, 1) := by decide +kernel
theorem dM_join_7 : decode bM_join 7 = .ok (.iload_n 2, 1) := by decide +kernel
theorem dM_join_8 : decode bM_join 8 = .ok (.ifCond .eq 167, 3) := by decide +kernel
theorem dM_join_11 : decode bM_join 11 = .ok (.iconst (-1), 1) := by decide +kernel
theorem dM_join_12 : decode bM_join 12 = .ok (.istore_n 3, 1) := by decide +kernel
theorem dM_join_13 : decode bM_join 13 = .ok (.iconst (-1), 1) := by decide +kernel
theorem dM_join_14 : decode bM_join 14 = .ok (.istore 4, 2) := by decide +kernel
theorem dM_join_16 : decode bM_join 16 = .ok (.iconst 0, 1) := by decide +kernel
theorem dM_join_17 : decode bM_join 17 = .ok (.istore 5, 2) := by decide +kernel
theorem dM_join_19 : decode bM_join 19 = .ok (.iload 5, 2) := by decide +kernel
theorem dM_join_21 : decode bM_join 21 = .ok (.aload_n 0, 1) := by decide +kernel
theorem dM_join_22 : decode bM_join 22 = .ok (.getfield 54, 3) := by decide +kernel
theorem dM_join_25 : decode bM_join 25 = .ok (.if_icmp .ge 67, 3) := by decide +kernel
theorem dM_join_28 : decode bM_join 28 = .ok (.iconst (-1), 1) := by decide +kernel
theorem dM_join_29 : decode bM_join 29 = .ok (.istore 6, 2) := by decide +kernel
theorem dM_join_31 : decode bM_join 31 = .ok (.iload 6, 2) := by decide +kernel
theorem dM_join_33 : decode bM_join 33 = .ok (.aload_n 0, 1) := by decide +kernel
theorem dM_join_34 : decode bM_join 34 = .ok (.getfield 107, 3) := by decide +kernel
theorem dM_join_37 : decode bM_join 37 = .ok (.if_icmp .ge 49, 3) := by decide +kernel
theorem dM_join_40 : decode bM_join 40 = .ok (.iload_n 2, 1) := by decide +kernel
theorem dM_join_41 : decode bM_join 41 = .ok (.iload 5, 2) := by decide +kernel
theorem dM_join_43 : decode bM_join 43 = .ok (.ishr, 1) := by decide +kernel
theorem dM_join_44 : decode bM_join 44 = .ok (.iconst 1, 1) := by decide +kernel
theorem dM_join_45 : decode bM_join 45 = .ok (.iand, 1) := by decide +kernel
theorem dM_join_46 : decode bM_join 46 = .ok (.iconst 1, 1) := by decide +kernel
theorem dM_join_47 : decode bM_join 47 = .ok (.if_icmp .ne 39, 3) := by decide +kernel
theorem dM_join_50 : decode bM_join 50 = .ok (.iload_n 3, 1) := by decide +kernel
theorem dM_join_51 : decode bM_join 51 = .ok (.iconst (-1), 1) := by decide +kernel
theorem dM_join_52 : decode bM_join 52 = .ok (.if_icmp .eq 21, 3) := by decide +kernel
theorem dM_join_55 : decode bM_join 55 = .ok (.aload_n 0, 1) := by decide +kernel
theorem dM_join_56 : decode bM_join 56 = .ok (.iload 5, 2) := by decide +kernel
theorem dM_join_58 : decode bM_join 58 = .ok (.iload 6, 2) := by decide +kernel
theorem dM_join_60 : decode bM_join 60 = .ok (.invokevirtual 110, 3) := by decide +kernel
theorem dM_join_63 : decode bM_join 63 = .ok (.aload_n 0, 1) := by decide +kernel
theorem dM_join_64 : decode bM_join 64 = .ok (.iload_n 3, 1) := by decide +kernel
theorem dM_join_65 : decode bM_join 65 = .ok (.iload 4, 2) := by decide +kernel
theorem dM_join_67 : decode bM_join 67 = .ok (.invokevirtual 110, 3) := by decide +kernel
theorem dM_join_70 : decode bM_join 70 = .ok (.if_icmp .ge 10, 3) := by decide +kernel
theorem dM_join_73 : decode bM_join 73 = .ok (.iload 5, 2) := by decide +kernel
theorem dM_join_75 : decode bM_join 75 = .ok (.istore_n 3, 1) := by decide +kernel
theorem dM_join_76 : decode bM_join 76 = .ok (.iload 6, 2) := by decide +kernel
theorem dM_join_78 : decode bM_join 78 = .ok (.istore 4, 2) := by decide +kernel
theorem dM_join_80 : decode bM_join 80 = .ok (.iinc 6 1, 3) := by decide +kernel
theorem dM_join_83 : decode bM_join 83 = .ok (.goto (-52), 3) := by decide +kernel
theorem dM_join_86 : decode bM_join 86 = .ok (.iinc 5 1, 3) := by decide +kernel
theorem dM_join_89 : decode bM_join 89 = .ok (.goto (-70), 3) := by decide +kernel
theorem dM_join_92 : decode bM_join 92 = .ok (.aload_n 0, 1) := by decide +kernel
theorem dM_join_93 : decode bM_join 93 = .ok (.getfield 33, 3) := by decide +kernel
theorem dM_join_96 : decode bM_join 96 = .ok (.iload_n 3, 1) := by decide +kernel
theorem dM_join_97 : decode bM_join 97 = .ok (.iload 4, 2) := by decide +kernel
theorem dM_join_99 : decode bM_join 99 = .ok (.ifCond .ge 7, 3) := by decide +kernel
theorem dM_join_102 : decode bM_join 102 = .ok (.iconst (-1), 1) := by decide +kernel
theorem dM_join_103 : decode bM_join 103 = .ok (.goto 10, 3) := by decide +kernel
theorem dM_join_106 : decode bM_join 106 = .ok (.aload_n 0, 1) := by decide +kernel
theorem dM_join_107 : decode bM_join 107 = .ok (.getfield 30, 3) := by decide +kernel
theorem dM_join_110 : decode bM_join 110 = .ok (.iload 4, 2) := by decide +kernel
theorem dM_join_112 : decode bM_join 112 = .ok (.iaload, 1) := by decide +kernel
theorem dM_join_113 : decode bM_join 113 = .ok (.iastore, 1) := by decide +kernel
theorem dM_join_114 : decode bM_join 114 = .ok (.aload_n 0, 1) := by decide +kernel
theorem dM_join_115 : decode bM_join 115 = .ok (.getfield 36, 3) := by decide +kernel
theorem dM_join_118 : decode bM_join 118 = .ok (.iload_n 3, 1) := by decide +kernel
theorem dM_join_119 : decode bM_join 119 = .ok (.aload_n 0, 1) := by decide +kernel
theorem dM_join_120 : decode bM_join 120 = .ok (.iload_n 3, 1) := by decide +kernel
theorem dM_join_121 : decode bM_join 121 = .ok (.iload 4, 2) := by decide +kernel
theorem dM_join_123 : decode bM_join 123 = .ok (.invokevirtual 110, 3) := by decide +kernel
theorem dM_join_126 : decode bM_join 126 = .ok (.iastore, 1) := by decide +kernel
theorem dM_join_127 : decode bM_join 127 = .ok (.aload_n 0, 1) := by decide +kernel
theorem dM_join_128 : decode bM_join 128 = .ok (.getfield 39, 3) := by decide +kernel
theorem dM_join_131 : decode bM_join 131 = .ok (.iload_n 3, 1) := by decide +kernel
theorem dM_join_132 : decode bM_join 132 = .ok (.iconst 0, 1) := by decide +kernel
theorem dM_join_133 : decode bM_join 133 = .ok (.iastore, 1) := by decide +kernel
theorem dM_join_134 : decode bM_join 134 = .ok (.aload_n 0, 1) := by decide +kernel
theorem dM_join_135 : decode bM_join 135 = .ok (.getfield 42, 3) := by decide +kernel
theorem dM_join_138 : decode bM_join 138 = .ok (.iload_n 3, 1) := by decide +kernel
theorem dM_join_139 : decode bM_join 139 = .ok (.aload_n 0, 1) := by decide +kernel
theorem dM_join_140 : decode bM_join 140 = .ok (.getfield 107, 3) := by decide +kernel
theorem dM_join_143 : decode bM_join 143 = .ok (.iastore, 1) := by decide +kernel
theorem dM_join_144 : decode bM_join 144 = .ok (.aload_n 0, 1) := by decide +kernel
theorem dM_join_145 : decode bM_join 145 = .ok (.getfield 30, 3) := by decide +kernel
theorem dM_join_148 : decode bM_join 148 = .ok (.aload_n 0, 1) := by decide +kernel
theorem dM_join_149 : decode bM_join 149 = .ok (.getfield 107, 3) := by decide +kernel
theorem dM_join_152 : decode bM_join 152 = .ok (.iload_n 3, 1) := by decide +kernel
theorem dM_join_153 : decode bM_join 153 = .ok (.iastore, 1) := by decide +kernel
theorem dM_join_154 : decode bM_join 154 = .ok (.aload_n 0, 1) := by decide +kernel
theorem dM_join_155 : decode bM_join 155 = .ok (.dup, 1) := by decide +kernel
theorem dM_join_156 : decode bM_join 156 = .ok (.getfield 107, 3) := by decide +kernel
theorem dM_join_159 : decode bM_join 159 = .ok (.iconst 1, 1) := by decide +kernel
theorem dM_join_160 : decode bM_join 160 = .ok (.iadd, 1) := by decide +kernel
theorem dM_join_161 : decode bM_join 161 = .ok (.putfield 107, 3) := by decide +kernel
theorem dM_join_164 : decode bM_join 164 = .ok (.iload_n 2, 1) := by decide +kernel
theorem dM_join_165 : decode bM_join 165 = .ok (.iconst 1, 1) := by decide +kernel
theorem dM_join_166 : decode bM_join 166 = .ok (.iload_n 3, 1) := by decide +kernel
theorem dM_join_167 : decode bM_join 167 = .ok (.ishl, 1) := by decide +kernel
theorem dM_join_168 : decode bM_join 168 = .ok (.iconst (-1), 1) := by decide +kernel
theorem dM_join_169 : decode bM_join 169 = .ok (.ixor, 1) := by decide +kernel
theorem dM_join_170 : decode bM_join 170 = .ok (.iand, 1) := by decide +kernel
theorem dM_join_171 : decode bM_join 171 = .ok (.istore_n 2, 1) := by decide +kernel
theorem dM_join_172 : decode bM_join 172 = .ok (.goto (-165), 3) := by decide +kernel
theorem dM_join_175 : decode bM_join 175 = .ok (.iconst 0, 1) := by decide +kernel
theorem dM_join_176 : decode bM_join 176 = .ok (.istore_n 3, 1) := by decide +kernel
theorem dM_join_177 : decode bM_join 177 = .ok (.iload_n 3, 1) := by decide +kernel
theorem dM_join_178 : decode bM_join 178 = .ok (.aload_n 0, 1) := by decide +kernel
theorem dM_join_179 : decode bM_join 179 = .ok (.getfield 107, 3) := by decide +kernel
theorem dM_join_182 : decode bM_join 182 = .ok (.if_icmp .ge 46, 3) := by decide +kernel
theorem dM_join_185 : decode bM_join 185 = .ok (.aload_n 0, 1) := by decide +kernel
theorem dM_join_186 : decode bM_join 186 = .ok (.getfield 30, 3) := by decide +kernel
theorem dM_join_189 : decode bM_join 189 = .ok (.iload_n 3, 1) := by decide +kernel
theorem dM_join_190 : decode bM_join 190 = .ok (.iaload, 1) := by decide +kernel
theorem dM_join_191 : decode bM_join 191 = .ok (.istore 4, 2) := by decide +kernel
theorem dM_join_193 : decode bM_join 193 = .ok (.iload 4, 2) := by decide +kernel
theorem dM_join_195 : decode bM_join 195 = .ok (.iconst (-1), 1) := by decide +kernel
theorem dM_join_196 : decode bM_join 196 = .ok (.if_icmp .eq 26, 3) := by decide +kernel
theorem dM_join_199 : decode bM_join 199 = .ok (.aload_n 0, 1) := by decide +kernel
theorem dM_join_200 : decode bM_join 200 = .ok (.getfield 39, 3) := by decide +kernel
theorem dM_join_203 : decode bM_join 203 = .ok (.iload 4, 2) := by decide +kernel
theorem dM_join_205 : decode bM_join 205 = .ok (.dup2, 1) := by decide +kernel
theorem dM_join_206 : decode bM_join 206 = .ok (.iaload, 1) := by decide +kernel
theorem dM_join_207 : decode bM_join 207 = .ok (.iconst 1, 1) := by decide +kernel
theorem dM_join_208 : decode bM_join 208 = .ok (.iadd, 1) := by decide +kernel
theorem dM_join_209 : decode bM_join 209 = .ok (.iastore, 1) := by decide +kernel
theorem dM_join_210 : decode bM_join 210 = .ok (.aload_n 0, 1) := by decide +kernel
theorem dM_join_211 : decode bM_join 211 = .ok (.getfield 33, 3) := by decide +kernel
theorem dM_join_214 : decode bM_join 214 = .ok (.iload 4, 2) := by decide +kernel
theorem dM_join_216 : decode bM_join 216 = .ok (.iaload, 1) := by decide +kernel
theorem dM_join_217 : decode bM_join 217 = .ok (.istore 4, 2) := by decide +kernel
theorem dM_join_219 : decode bM_join 219 = .ok (.goto (-26), 3) := by decide +kernel
theorem dM_join_222 : decode bM_join 222 = .ok (.iinc 3 1, 3) := by decide +kernel
theorem dM_join_225 : decode bM_join 225 = .ok (.goto (-48), 3) := by decide +kernel
theorem dM_join_228 : decode bM_join 228 = .ok (.return_, 1) := by decide +kernel
theorem dM_lossOf_0 : decode bM_lossOf 0 = .ok (.iconst 0, 1) := by decide +kernel
theorem dM_lossOf_1 : decode bM_lossOf 1 = .ok (.istore_n 2, 1) := by decide +kernel
theorem dM_lossOf_2 : decode bM_lossOf 2 = .ok (.bipush 12, 2) := by decide +kernel
theorem dM_lossOf_4 : decode bM_lossOf 4 = .ok (.istore_n 3, 1) := by decide +kernel
theorem dM_lossOf_5 : decode bM_lossOf 5 = .ok (.iload_n 3, 1) := by decide +kernel
theorem dM_lossOf_6 : decode bM_lossOf 6 = .ok (.ifCond .le 46, 3) := by decide +kernel
theorem dM_lossOf_9 : decode bM_lossOf 9 = .ok (.iload_n 3, 1) := by decide +kernel
theorem dM_lossOf_10 : decode bM_lossOf 10 = .ok (.iload_n 1, 1) := by decide +kernel
theorem dM_lossOf_11 : decode bM_lossOf 11 = .ok (.if_icmp .lt 7, 3) := by decide +kernel
theorem dM_lossOf_14 : decode bM_lossOf 14 = .ok (.iconst 1, 1) := by decide +kernel
theorem dM_lossOf_15 : decode bM_lossOf 15 = .ok (.goto 4, 3) := by decide +kernel
theorem dM_lossOf_18 : decode bM_lossOf 18 = .ok (.iconst 0, 1) := by decide +kernel
theorem dM_lossOf_19 : decode bM_lossOf 19 = .ok (.istore 4, 2) := by decide +kernel
theorem dM_lossOf_21 : decode bM_lossOf 21 = .ok (.aload_n 0, 1) := by decide +kernel
theorem dM_lossOf_22 : decode bM_lossOf 22 = .ok (.getfield 24, 3) := by decide +kernel
theorem dM_lossOf_25 : decode bM_lossOf 25 = .ok (.iload_n 3, 1) := by decide +kernel
theorem dM_lossOf_26 : decode bM_lossOf 26 = .ok (.iaload, 1) := by decide +kernel
theorem dM_lossOf_27 : decode bM_lossOf 27 = .ok (.ifCond .lt 17, 3) := by decide +kernel
theorem dM_lossOf_30 : decode bM_lossOf 30 = .ok (.iload 4, 2) := by decide +kernel
theorem dM_lossOf_32 : decode bM_lossOf 32 = .ok (.ifCond .eq 12, 3) := by decide +kernel
theorem dM_lossOf_35 : decode bM_lossOf 35 = .ok (.aload_n 0, 1) := by decide +kernel
theorem dM_lossOf_36 : decode bM_lossOf 36 = .ok (.getfield 24, 3) := by decide +kernel
theorem dM_lossOf_39 : decode bM_lossOf 39 = .ok (.iload_n 3, 1) := by decide +kernel
theorem dM_lossOf_40 : decode bM_lossOf 40 = .ok (.iaload, 1) := by decide +kernel
theorem dM_lossOf_41 : decode bM_lossOf 41 = .ok (.goto 4, 3) := by decide +kernel
theorem dM_lossOf_44 : decode bM_lossOf 44 = .ok (.iload_n 2, 1) := by decide +kernel
theorem dM_lossOf_45 : decode bM_lossOf 45 = .ok (.istore_n 2, 1) := by decide +kernel
theorem dM_lossOf_46 : decode bM_lossOf 46 = .ok (.iinc 3 (-1), 3) := by decide +kernel
theorem dM_lossOf_49 : decode bM_lossOf 49 = .ok (.goto (-44), 3) := by decide +kernel
theorem dM_lossOf_52 : decode bM_lossOf 52 = .ok (.iconst 0, 1) := by decide +kernel
theorem dM_lossOf_53 : decode bM_lossOf 53 = .ok (.istore_n 3, 1) := by decide +kernel
theorem dM_lossOf_54 : decode bM_lossOf 54 = .ok (.iconst 0, 1) := by decide +kernel
theorem dM_lossOf_55 : decode bM_lossOf 55 = .ok (.istore 4, 2) := by decide +kernel
theorem dM_lossOf_57 : decode bM_lossOf 57 = .ok (.iconst 1, 1) := by decide +kernel
theorem dM_lossOf_58 : decode bM_lossOf 58 = .ok (.istore 5, 2) := by decide +kernel
theorem dM_lossOf_60 : decode bM_lossOf 60 = .ok (.iload 5, 2) := by decide +kernel
theorem dM_lossOf_62 : decode bM_lossOf 62 = .ok (.bipush 13, 2) := by decide +kernel
theorem dM_lossOf_64 : decode bM_lossOf 64 = .ok (.if_icmp .ge 59, 3) := by decide +kernel
theorem dM_lossOf_67 : decode bM_lossOf 67 = .ok (.iload_n 3, 1) := by decide +kernel
theorem dM_lossOf_68 : decode bM_lossOf 68 = .ok (.ifCond .ne 19, 3) := by decide +kernel
theorem dM_lossOf_71 : decode bM_lossOf 71 = .ok (.aload_n 0, 1) := by decide +kernel
theorem dM_lossOf_72 : decode bM_lossOf 72 = .ok (.getfield 24, 3) := by decide +kernel
theorem dM_lossOf_75 : decode bM_lossOf 75 = .ok (.iload 5, 2) := by decide +kernel
theorem dM_lossOf_77 : decode bM_lossOf 77 = .ok (.iaload, 1) := by decide +kernel
theorem dM_lossOf_78 : decode bM_lossOf 78 = .ok (.ifCond .lt 13, 3) := by decide +kernel
theorem dM_lossOf_81 : decode bM_lossOf 81 = .ok (.iload 5, 2) := by decide +kernel
theorem dM_lossOf_83 : decode bM_lossOf 83 = .ok (.iload_n 1, 1) := by decide +kernel
theorem dM_lossOf_84 : decode bM_lossOf 84 = .ok (.if_icmp .lt 7, 3) := by decide +kernel
theorem dM_lossOf_87 : decode bM_lossOf 87 = .ok (.iconst 1, 1) := by decide +kernel
theorem dM_lossOf_88 : decode bM_lossOf 88 = .ok (.goto 4, 3) := by decide +kernel
theorem dM_lossOf_91 : decode bM_lossOf 91 = .ok (.iconst 0, 1) := by decide +kernel
theorem dM_lossOf_92 : decode bM_lossOf 92 = .ok (.istore_n 3, 1) := by decide +kernel
theorem dM_lossOf_93 : decode bM_lossOf 93 = .ok (.aload_n 0, 1) := by decide +kernel
theorem dM_lossOf_94 : decode bM_lossOf 94 = .ok (.getfield 24, 3) := by decide +kernel
theorem dM_lossOf_97 : decode bM_lossOf 97 = .ok (.iload 5, 2) := by decide +kernel
theorem dM_lossOf_99 : decode bM_lossOf 99 = .ok (.iaload, 1) := by decide +kernel
theorem dM_lossOf_100 : decode bM_lossOf 100 = .ok (.ifCond .lt 13, 3) := by decide +kernel
theorem dM_lossOf_103 : decode bM_lossOf 103 = .ok (.aload_n 0, 1) := by decide +kernel
theorem dM_lossOf_104 : decode bM_lossOf 104 = .ok (.getfield 24, 3) := by decide +kernel
theorem dM_lossOf_107 : decode bM_lossOf 107 = .ok (.iload 5, 2) := by decide +kernel
theorem dM_lossOf_109 : decode bM_lossOf 109 = .ok (.iaload, 1) := by decide +kernel
theorem dM_lossOf_110 : decode bM_lossOf 110 = .ok (.goto 5, 3) := by decide +kernel
theorem dM_lossOf_113 : decode bM_lossOf 113 = .ok (.iload 4, 2) := by decide +kernel
theorem dM_lossOf_115 : decode bM_lossOf 115 = .ok (.istore 4, 2) := by decide +kernel
theorem dM_lossOf_117 : decode bM_lossOf 117 = .ok (.iinc 5 1, 3) := by decide +kernel
theorem dM_lossOf_120 : decode bM_lossOf 120 = .ok (.goto (-60), 3) := by decide +kernel
theorem dM_lossOf_123 : decode bM_lossOf 123 = .ok (.iload_n 3, 1) := by decide +kernel
theorem dM_lossOf_124 : decode bM_lossOf 124 = .ok (.ifCond .eq 7, 3) := by decide +kernel
theorem dM_lossOf_127 : decode bM_lossOf 127 = .ok (.iload_n 2, 1) := by decide +kernel
theorem dM_lossOf_128 : decode bM_lossOf 128 = .ok (.goto 5, 3) := by decide +kernel
theorem dM_lossOf_131 : decode bM_lossOf 131 = .ok (.iload 4, 2) := by decide +kernel
theorem dM_lossOf_133 : decode bM_lossOf 133 = .ok (.ireturn, 1) := by decide +kernel
theorem dM_pipes_0 : decode bM_pipes 0 = .ok (.aload_n 0, 1) := by decide +kernel
theorem dM_pipes_1 : decode bM_pipes 1 = .ok (.aload_n 0, 1) := by decide +kernel
theorem dM_pipes_2 : decode bM_pipes 2 = .ok (.iload_n 1, 1) := by decide +kernel
theorem dM_pipes_3 : decode bM_pipes 3 = .ok (.invokevirtual 91, 3) := by decide +kernel
theorem dM_pipes_6 : decode bM_pipes 6 = .ok (.ifCond .eq 7, 3) := by decide +kernel
theorem dM_pipes_9 : decode bM_pipes 9 = .ok (.iconst 0, 1) := by decide +kernel
theorem dM_pipes_10 : decode bM_pipes 10 = .ok (.goto 4, 3) := by decide +kernel
theorem dM_pipes_13 : decode bM_pipes 13 = .ok (.iconst 1, 1) := by decide +kernel
theorem dM_pipes_14 : decode bM_pipes 14 = .ok (.putfield 51, 3) := by decide +kernel
theorem dM_pipes_17 : decode bM_pipes 17 = .ok (.aload_n 0, 1) := by decide +kernel
theorem dM_pipes_18 : decode bM_pipes 18 = .ok (.getfield 51, 3) := by decide +kernel
theorem dM_pipes_21 : decode bM_pipes 21 = .ok (.ifCond .le 5, 3) := by decide +kernel
theorem dM_pipes_24 : decode bM_pipes 24 = .ok (.iconst 0, 1) := by decide +kernel
theorem dM_pipes_25 : decode bM_pipes 25 = .ok (.ireturn, 1) := by decide +kernel
theorem dM_pipes_26 : decode bM_pipes 26 = .ok (.aload_n 0, 1) := by decide +kernel
theorem dM_pipes_27 : decode bM_pipes 27 = .ok (.iload_n 1, 1) := by decide +kernel
theorem dM_pipes_28 : decode bM_pipes 28 = .ok (.invokevirtual 113, 3) := by decide +kernel
theorem dM_pipes_31 : decode bM_pipes 31 = .ok (.iconst 0, 1) := by decide +kernel
theorem dM_pipes_32 : decode bM_pipes 32 = .ok (.istore_n 2, 1) := by decide +kernel
theorem dM_pipes_33 : decode bM_pipes 33 = .ok (.iconst 0, 1) := by decide +kernel
theorem dM_pipes_34 : decode bM_pipes 34 = .ok (.istore_n 3, 1) := by decide +kernel
theorem dM_pipes_35 : decode bM_pipes 35 = .ok (.iload_n 3, 1) := by decide +kernel
theorem dM_pipes_36 : decode bM_pipes 36 = .ok (.aload_n 0, 1) := by decide +kernel
theorem dM_pipes_37 : decode bM_pipes 37 = .ok (.getfield 107, 3) := by decide +kernel
theorem dM_pipes_40 : decode bM_pipes 40 = .ok (.if_icmp .ge 23, 3) := by decide +kernel
theorem dM_pipes_43 : decode bM_pipes 43 = .ok (.iload_n 2, 1) := by decide +kernel
theorem dM_pipes_44 : decode bM_pipes 44 = .ok (.aload_n 0, 1) := by decide +kernel
theorem dM_pipes_45 : decode bM_pipes 45 = .ok (.getfield 36, 3) := by decide +kernel
theorem dM_pipes_48 : decode bM_pipes 48 = .ok (.aload_n 0, 1) := by decide +kernel
theorem dM_pipes_49 : decode bM_pipes 49 = .ok (.getfield 30, 3) := by decide +kernel
theorem dM_pipes_52 : decode bM_pipes 52 = .ok (.iload_n 3, 1) := by decide +kernel
theorem dM_pipes_53 : decode bM_pipes 53 = .ok (.iaload, 1) := by decide +kernel
theorem dM_pipes_54 : decode bM_pipes 54 = .ok (.iaload, 1) := by decide +kernel
theorem dM_pipes_55 : decode bM_pipes 55 = .ok (.iadd, 1) := by decide +kernel
theorem dM_pipes_56 : decode bM_pipes 56 = .ok (.istore_n 2, 1) := by decide +kernel
theorem dM_pipes_57 : decode bM_pipes 57 = .ok (.iinc 3 1, 3) := by decide +kernel
theorem dM_pipes_60 : decode bM_pipes 60 = .ok (.goto (-25), 3) := by decide +kernel
theorem dM_pipes_63 : decode bM_pipes 63 = .ok (.iload_n 2, 1) := by decide +kernel
theorem dM_pipes_64 : decode bM_pipes 64 = .ok (.ireturn, 1) := by decide +kernel
theorem dM_isIn_0 : decode bM_isIn 0 = .ok (.iload_n 1, 1) := by decide +kernel
theorem dM_isIn_1 : decode bM_isIn 1 = .ok (.iload_n 2, 1) := by decide +kernel
theorem dM_isIn_2 : decode bM_isIn 2 = .ok (.ishr, 1) := by decide +kernel
theorem dM_isIn_3 : decode bM_isIn 3 = .ok (.iconst 1, 1) := by decide +kernel
theorem dM_isIn_4 : decode bM_isIn 4 = .ok (.iand, 1) := by decide +kernel
theorem dM_isIn_5 : decode bM_isIn 5 = .ok (.iconst 1, 1) := by decide +kernel
theorem dM_isIn_6 : decode bM_isIn 6 = .ok (.if_icmp .ne 7, 3) := by decide +kernel
theorem dM_isIn_9 : decode bM_isIn 9 = .ok (.iconst 1, 1) := by decide +kernel
theorem dM_isIn_10 : decode bM_isIn 10 = .ok (.goto 4, 3) := by decide +kernel
theorem dM_isIn_13 : decode bM_isIn 13 = .ok (.iconst 0, 1) := by decide +kernel
theorem dM_isIn_14 : decode bM_isIn 14 = .ok (.ireturn, 1) := by decide +kernel
theorem dM_pipe_0 : decode bM_pipe 0 = .ok (.aload_n 0, 1) := by decide +kernel
theorem dM_pipe_1 : decode bM_pipe 1 = .ok (.aload_n 0, 1) := by decide +kernel
theorem dM_pipe_2 : decode bM_pipe 2 = .ok (.iload_n 1, 1) := by decide +kernel
theorem dM_pipe_3 : decode bM_pipe 3 = .ok (.invokevirtual 91, 3) := by decide +kernel
theorem dM_pipe_6 : decode bM_pipe 6 = .ok (.ifCond .eq 24, 3) := by decide +kernel
theorem dM_pipe_9 : decode bM_pipe 9 = .ok (.aload_n 0, 1) := by decide +kernel
theorem dM_pipe_10 : decode bM_pipe 10 = .ok (.iload_n 2, 1) := by decide +kernel
theorem dM_pipe_11 : decode bM_pipe 11 = .ok (.invokevirtual 87, 3) := by decide +kernel
theorem dM_pipe_14 : decode bM_pipe 14 = .ok (.ifCond .eq 16, 3) := by decide +kernel
theorem dM_pipe_17 : decode bM_pipe 17 = .ok (.iload_n 3, 1) := by decide +kernel
theorem dM_pipe_18 : decode bM_pipe 18 = .ok (.ifCond .lt 12, 3) := by decide +kernel
theorem dM_pipe_21 : decode bM_pipe 21 = .ok (.iload_n 3, 1) := by decide +kernel
theorem dM_pipe_22 : decode bM_pipe 22 = .ok (.iconst 4, 1) := by decide +kernel
theorem dM_pipe_23 : decode bM_pipe 23 = .ok (.if_icmp .gt 7, 3) := by decide +kernel
theorem dM_pipe_26 : decode bM_pipe 26 = .ok (.iconst 0, 1) := by decide +kernel
theorem dM_pipe_27 : decode bM_pipe 27 = .ok (.goto 4, 3) := by decide +kernel
theorem dM_pipe_30 : decode bM_pipe 30 = .ok (.iconst 1, 1) := by decide +kernel
theorem dM_pipe_31 : decode bM_pipe 31 = .ok (.putfield 51, 3) := by decide +kernel
theorem dM_pipe_34 : decode bM_pipe 34 = .ok (.aload_n 0, 1) := by decide +kernel
theorem dM_pipe_35 : decode bM_pipe 35 = .ok (.getfield 51, 3) := by decide +kernel
theorem dM_pipe_38 : decode bM_pipe 38 = .ok (.ifCond .le 5, 3) := by decide +kernel
theorem dM_pipe_41 : decode bM_pipe 41 = .ok (.iconst 0, 1) := by decide +kernel
theorem dM_pipe_42 : decode bM_pipe 42 = .ok (.ireturn, 1) := by decide +kernel
theorem dM_pipe_43 : decode bM_pipe 43 = .ok (.aload_n 0, 1) := by decide +kernel
theorem dM_pipe_44 : decode bM_pipe 44 = .ok (.iload_n 1, 1) := by decide +kernel
theorem dM_pipe_45 : decode bM_pipe 45 = .ok (.iload_n 2, 1) := by decide +kernel
theorem dM_pipe_46 : decode bM_pipe 46 = .ok (.invokevirtual 117, 3) := by decide +kernel
theorem dM_pipe_49 : decode bM_pipe 49 = .ok (.ifCond .ne 5, 3) := by decide +kernel
theorem dM_pipe_52 : decode bM_pipe 52 = .ok (.iconst (-1), 1) := by decide +kernel
theorem dM_pipe_53 : decode bM_pipe 53 = .ok (.ireturn, 1) := by decide +kernel
theorem dM_pipe_54 : decode bM_pipe 54 = .ok (.aload_n 0, 1) := by decide +kernel
theorem dM_pipe_55 : decode bM_pipe 55 = .ok (.iload_n 1, 1) := by decide +kernel
theorem dM_pipe_56 : decode bM_pipe 56 = .ok (.invokevirtual 113, 3) := by decide +kernel
theorem dM_pipe_59 : decode bM_pipe 59 = .ok (.iload_n 3, 1) := by decide +kernel
theorem dM_pipe_60 : decode bM_pipe 60 = .ok (.tableswitch 64 0 3 #[32, 39, 46, 53], 32) := by decide +kernel
theorem dM_pipe_92 : decode bM_pipe 92 = .ok (.aload_n 0, 1) := by decide +kernel
theorem dM_pipe_93 : decode bM_pipe 93 = .ok (.getfield 33, 3) := by decide +kernel
theorem dM_pipe_96 : decode bM_pipe 96 = .ok (.iload_n 2, 1) := by decide +kernel
theorem dM_pipe_97 : decode bM_pipe 97 = .ok (.iaload, 1) := by decide +kernel
theorem dM_pipe_98 : decode bM_pipe 98 = .ok (.ireturn, 1) := by decide +kernel
theorem dM_pipe_99 : decode bM_pipe 99 = .ok (.aload_n 0, 1) := by decide +kernel
theorem dM_pipe_100 : decode bM_pipe 100 = .ok (.getfield 36, 3) := by decide +kernel
theorem dM_pipe_103 : decode bM_pipe 103 = .ok (.iload_n 2, 1) := by decide +kernel
theorem dM_pipe_104 : decode bM_pipe 104 = .ok (.iaload, 1) := by decide +kernel
theorem dM_pipe_105 : decode bM_pipe 105 = .ok (.ireturn, 1) := by decide +kernel
theorem dM_pipe_106 : decode bM_pipe 106 = .ok (.aload_n 0, 1) := by decide +kernel
theorem dM_pipe_107 : decode bM_pipe 107 = .ok (.getfield 39, 3) := by decide +kernel
theorem dM_pipe_110 : decode bM_pipe 110 = .ok (.iload_n 2, 1) := by decide +kernel
theorem dM_pipe_111 : decode bM_pipe 111 = .ok (.iaload, 1) := by decide +kernel
theorem dM_pipe_112 : decode bM_pipe 112 = .ok (.ireturn, 1) := by decide +kernel
theorem dM_pipe_113 : decode bM_pipe 113 = .ok (.aload_n 0, 1) := by decide +kernel
theorem dM_pipe_114 : decode bM_pipe 114 = .ok (.aload_n 0, 1) := by decide +kernel
theorem dM_pipe_115 : decode bM_pipe 115 = .ok (.getfield 39, 3) := by decide +kernel
theorem dM_pipe_118 : decode bM_pipe 118 = .ok (.iload_n 2, 1) := by decide +kernel
theorem dM_pipe_119 : decode bM_pipe 119 = .ok (.iaload, 1) := by decide +kernel
theorem dM_pipe_120 : decode bM_pipe 120 = .ok (.invokevirtual 120, 3) := by decide +kernel
theorem dM_pipe_123 : decode bM_pipe 123 = .ok (.ireturn, 1) := by decide +kernel
theorem dM_pipe_124 : decode bM_pipe 124 = .ok (.aload_n 0, 1) := by decide +kernel
theorem dM_pipe_125 : decode bM_pipe 125 = .ok (.getfield 42, 3) := by decide +kernel
theorem dM_pipe_128 : decode bM_pipe 128 = .ok (.iload_n 2, 1) := by decide +kernel
theorem dM_pipe_129 : decode bM_pipe 129 = .ok (.iaload, 1) := by decide +kernel
theorem dM_pipe_130 : decode bM_pipe 130 = .ok (.ireturn, 1) := by decide +kernel
theorem dM_lost_0 : decode bM_lost 0 = .ok (.iconst 0, 1) := by decide +kernel
theorem dM_lost_1 : decode bM_lost 1 = .ok (.istore_n 2, 1) := by decide +kernel
theorem dM_lost_2 : decode bM_lost 2 = .ok (.iload_n 1, 1) := by decide +kernel
theorem dM_lost_3 : decode bM_lost 3 = .ok (.istore_n 3, 1) := by decide +kernel
theorem dM_lost_4 : decode bM_lost 4 = .ok (.iload_n 3, 1) := by decide +kernel
theorem dM_lost_5 : decode bM_lost 5 = .ok (.iconst (-1), 1) := by decide +kernel
theorem dM_lost_6 : decode bM_lost 6 = .ok (.if_icmp .eq 40, 3) := by decide +kernel
theorem dM_lost_9 : decode bM_lost 9 = .ok (.iload_n 2, 1) := by decide +kernel
theorem dM_lost_10 : decode bM_lost 10 = .ok (.aload_n 0, 1) := by decide +kernel
theorem dM_lost_11 : decode bM_lost 11 = .ok (.getfield 36, 3) := by decide +kernel
theorem dM_lost_14 : decode bM_lost 14 = .ok (.iload_n 3, 1) := by decide +kernel
theorem dM_lost_15 : decode bM_lost 15 = .ok (.iaload, 1) := by decide +kernel
theorem dM_lost_16 : decode bM_lost 16 = .ok (.aload_n 0, 1) := by decide +kernel
theorem dM_lost_17 : decode bM_lost 17 = .ok (.aload_n 0, 1) := by decide +kernel
theorem dM_lost_18 : decode bM_lost 18 = .ok (.getfield 39, 3) := by decide +kernel
theorem dM_lost_21 : decode bM_lost 21 = .ok (.iload_n 3, 1) := by decide +kernel
theorem dM_lost_22 : decode bM_lost 22 = .ok (.iaload, 1) := by decide +kernel
theorem dM_lost_23 : decode bM_lost 23 = .ok (.invokevirtual 120, 3) := by decide +kernel
theorem dM_lost_26 : decode bM_lost 26 = .ok (.imul, 1) := by decide +kernel
theorem dM_lost_27 : decode bM_lost 27 = .ok (.aload_n 0, 1) := by decide +kernel
theorem dM_lost_28 : decode bM_lost 28 = .ok (.getfield 39, 3) := by decide +kernel
theorem dM_lost_31 : decode bM_lost 31 = .ok (.iload_n 3, 1) := by decide +kernel
theorem dM_lost_32 : decode bM_lost 32 = .ok (.iaload, 1) := by decide +kernel
theorem dM_lost_33 : decode bM_lost 33 = .ok (.imul, 1) := by decide +kernel
theorem dM_lost_34 : decode bM_lost 34 = .ok (.iadd, 1) := by decide +kernel
theorem dM_lost_35 : decode bM_lost 35 = .ok (.istore_n 2, 1) := by decide +kernel
theorem dM_lost_36 : decode bM_lost 36 = .ok (.aload_n 0, 1) := by decide +kernel
theorem dM_lost_37 : decode bM_lost 37 = .ok (.getfield 33, 3) := by decide +kernel
theorem dM_lost_40 : decode bM_lost 40 = .ok (.iload_n 3, 1) := by decide +kernel
theorem dM_lost_41 : decode bM_lost 41 = .ok (.iaload, 1) := by decide +kernel
theorem dM_lost_42 : decode bM_lost 42 = .ok (.istore_n 3, 1) := by decide +kernel
theorem dM_lost_43 : decode bM_lost 43 = .ok (.goto (-39), 3) := by decide +kernel
theorem dM_lost_46 : decode bM_lost 46 = .ok (.iload_n 2, 1) := by decide +kernel
theorem dM_lost_47 : decode bM_lost 47 = .ok (.ireturn, 1) := by decide +kernel
theorem dM_lacks_0 : decode bM_lacks 0 = .ok (.aload_n 0, 1) := by decide +kernel
theorem dM_lacks_1 : decode bM_lacks 1 = .ok (.aload_n 0, 1) := by decide +kernel
theorem dM_lacks_2 : decode bM_lacks 2 = .ok (.iload_n 1, 1) := by decide +kernel
theorem dM_lacks_3 : decode bM_lacks 3 = .ok (.invokevirtual 91, 3) := by decide +kernel
theorem dM_lacks_6 : decode bM_lacks 6 = .ok (.ifCond .eq 15, 3) := by decide +kernel
theorem dM_lacks_9 : decode bM_lacks 9 = .ok (.aload_n 0, 1) := by decide +kernel
theorem dM_lacks_10 : decode bM_lacks 10 = .ok (.iload_n 2, 1) := by decide +kernel
theorem dM_lacks_11 : decode bM_lacks 11 = .ok (.invokevirtual 87, 3) := by decide +kernel
theorem dM_lacks_14 : decode bM_lacks 14 = .ok (.ifCond .eq 7, 3) := by decide +kernel
theorem dM_lacks_17 : decode bM_lacks 17 = .ok (.iconst 0, 1) := by decide +kernel
theorem dM_lacks_18 : decode bM_lacks 18 = .ok (.goto 4, 3) := by decide +kernel
theorem dM_lacks_21 : decode bM_lacks 21 = .ok (.iconst 1, 1) := by decide +kernel
theorem dM_lacks_22 : decode bM_lacks 22 = .ok (.putfield 51, 3) := by decide +kernel
theorem dM_lacks_25 : decode bM_lacks 25 = .ok (.aload_n 0, 1) := by decide +kernel
theorem dM_lacks_26 : decode bM_lacks 26 = .ok (.getfield 51, 3) := by decide +kernel
theorem dM_lacks_29 : decode bM_lacks 29 = .ok (.ifCond .le 5, 3) := by decide +kernel
theorem dM_lacks_32 : decode bM_lacks 32 = .ok (.iconst 0, 1) := by decide +kernel
theorem dM_lacks_33 : decode bM_lacks 33 = .ok (.ireturn, 1) := by decide +kernel
theorem dM_lacks_34 : decode bM_lacks 34 = .ok (.aload_n 0, 1) := by decide +kernel
theorem dM_lacks_35 : decode bM_lacks 35 = .ok (.iload_n 1, 1) := by decide +kernel
theorem dM_lacks_36 : decode bM_lacks 36 = .ok (.iload_n 2, 1) := by decide +kernel
theorem dM_lacks_37 : decode bM_lacks 37 = .ok (.invokevirtual 117, 3) := by decide +kernel
theorem dM_lacks_40 : decode bM_lacks 40 = .ok (.ifCond .ne 5, 3) := by decide +kernel
theorem dM_lacks_43 : decode bM_lacks 43 = .ok (.iconst (-1), 1) := by decide +kernel
theorem dM_lacks_44 : decode bM_lacks 44 = .ok (.ireturn, 1) := by decide +kernel
theorem dM_lacks_45 : decode bM_lacks 45 = .ok (.aload_n 0, 1) := by decide +kernel
theorem dM_lacks_46 : decode bM_lacks 46 = .ok (.iload_n 1, 1) := by decide +kernel
theorem dM_lacks_47 : decode bM_lacks 47 = .ok (.invokevirtual 113, 3) := by decide +kernel
theorem dM_lacks_50 : decode bM_lacks 50 = .ok (.aload_n 0, 1) := by decide +kernel
theorem dM_lacks_51 : decode bM_lacks 51 = .ok (.iload_n 2, 1) := by decide +kernel
theorem dM_lacks_52 : decode bM_lacks 52 = .ok (.invokevirtual 123, 3) := by decide +kernel
theorem dM_lacks_55 : decode bM_lacks 55 = .ok (.ireturn, 1) := by decide +kernel
theorem dM_worst_0 : decode bM_worst 0 = .ok (.aload_n 0, 1) := by decide +kernel
theorem dM_worst_1 : decode bM_worst 1 = .ok (.aload_n 0, 1) := by decide +kernel
theorem dM_worst_2 : decode bM_worst 2 = .ok (.iload_n 1, 1) := by decide +kernel
theorem dM_worst_3 : decode bM_worst 3 = .ok (.invokevirtual 91, 3) := by decide +kernel
theorem dM_worst_6 : decode bM_worst 6 = .ok (.ifCond .eq 7, 3) := by decide +kernel
theorem dM_worst_9 : decode bM_worst 9 = .ok (.iconst 0, 1) := by decide +kernel
theorem dM_worst_10 : decode bM_worst 10 = .ok (.goto 4, 3) := by decide +kernel
theorem dM_worst_13 : decode bM_worst 13 = .ok (.iconst 1, 1) := by decide +kernel
theorem dM_worst_14 : decode bM_worst 14 = .ok (.putfield 51, 3) := by decide +kernel
theorem dM_worst_17 : decode bM_worst 17 = .ok (.aload_n 0, 1) := by decide +kernel
theorem dM_worst_18 : decode bM_worst 18 = .ok (.getfield 51, 3) := by decide +kernel
theorem dM_worst_21 : decode bM_worst 21 = .ok (.ifCond .le 5, 3) := by decide +kernel
theorem dM_worst_24 : decode bM_worst 24 = .ok (.iconst 0, 1) := by decide +kernel
theorem dM_worst_25 : decode bM_worst 25 = .ok (.ireturn, 1) := by decide +kernel
theorem dM_worst_26 : decode bM_worst 26 = .ok (.aload_n 0, 1) := by decide +kernel
theorem dM_worst_27 : decode bM_worst 27 = .ok (.iload_n 1, 1) := by decide +kernel
theorem dM_worst_28 : decode bM_worst 28 = .ok (.invokevirtual 113, 3) := by decide +kernel
theorem dM_worst_31 : decode bM_worst 31 = .ok (.iconst (-1), 1) := by decide +kernel
theorem dM_worst_32 : decode bM_worst 32 = .ok (.istore_n 2, 1) := by decide +kernel
theorem dM_worst_33 : decode bM_worst 33 = .ok (.iconst 0, 1) := by decide +kernel
theorem dM_worst_34 : decode bM_worst 34 = .ok (.istore_n 3, 1) := by decide +kernel
theorem dM_worst_35 : decode bM_worst 35 = .ok (.iload_n 3, 1) := by decide +kernel
theorem dM_worst_36 : decode bM_worst 36 = .ok (.aload_n 0, 1) := by decide +kernel
theorem dM_worst_37 : decode bM_worst 37 = .ok (.getfield 54, 3) := by decide +kernel
theorem dM_worst_40 : decode bM_worst 40 = .ok (.if_icmp .ge 42, 3) := by decide +kernel
theorem dM_worst_43 : decode bM_worst 43 = .ok (.aload_n 0, 1) := by decide +kernel
theorem dM_worst_44 : decode bM_worst 44 = .ok (.iload_n 1, 1) := by decide +kernel
theorem dM_worst_45 : decode bM_worst 45 = .ok (.iload_n 3, 1) := by decide +kernel
theorem dM_worst_46 : decode bM_worst 46 = .ok (.invokevirtual 117, 3) := by decide +kernel
theorem dM_worst_49 : decode bM_worst 49 = .ok (.ifCond .eq 25, 3) := by decide +kernel
theorem dM_worst_52 : decode bM_worst 52 = .ok (.iload_n 2, 1) := by decide +kernel
theorem dM_worst_53 : decode bM_worst 53 = .ok (.iconst (-1), 1) := by decide +kernel
theorem dM_worst_54 : decode bM_worst 54 = .ok (.if_icmp .eq 16, 3) := by decide +kernel
theorem dM_worst_57 : decode bM_worst 57 = .ok (.aload_n 0, 1) := by decide +kernel
theorem dM_worst_58 : decode bM_worst 58 = .ok (.iload_n 3, 1) := by decide +kernel
theorem dM_worst_59 : decode bM_worst 59 = .ok (.invokevirtual 123, 3) := by decide +kernel
theorem dM_worst_62 : decode bM_worst 62 = .ok (.aload_n 0, 1) := by decide +kernel
theorem dM_worst_63 : decode bM_worst 63 = .ok (.iload_n 2, 1) := by decide +kernel
theorem dM_worst_64 : decode bM_worst 64 = .ok (.invokevirtual 123, 3) := by decide +kernel
theorem dM_worst_67 : decode bM_worst 67 = .ok (.if_icmp .le 7, 3) := by decide +kernel
theorem dM_worst_70 : decode bM_worst 70 = .ok (.iload_n 3, 1) := by decide +kernel
theorem dM_worst_71 : decode bM_worst 71 = .ok (.goto 4, 3) := by decide +kernel
theorem dM_worst_74 : decode bM_worst 74 = .ok (.iload_n 2, 1) := by decide +kernel
theorem dM_worst_75 : decode bM_worst 75 = .ok (.istore_n 2, 1) := by decide +kernel
theorem dM_worst_76 : decode bM_worst 76 = .ok (.iinc 3 1, 3) := by decide +kernel
theorem dM_worst_79 : decode bM_worst 79 = .ok (.goto (-44), 3) := by decide +kernel
theorem dM_worst_82 : decode bM_worst 82 = .ok (.iload_n 2, 1) := by decide +kernel
theorem dM_worst_83 : decode bM_worst 83 = .ok (.ireturn, 1) := by decide +kernel
end
section
theorem dL_cell_0 : decode bL_cell 0 = .ok (.iload_n 1, 1) := by decide +kernel
theorem dL_cell_1 : decode bL_cell 1 = .ok (.aload_n 0, 1) := by decide +kernel
theorem dL_cell_2 : decode bL_cell 2 = .ok (.arraylength, 1) := by decide +kernel
theorem dL_cell_3 : decode bL_cell 3 = .ok (.if_icmp .ge 9, 3) := by decide +kernel
theorem dL_cell_6 : decode bL_cell 6 = .ok (.aload_n 0, 1) := by decide +kernel
theorem dL_cell_7 : decode bL_cell 7 = .ok (.iload_n 1, 1) := by decide +kernel
theorem dL_cell_8 : decode bL_cell 8 = .ok (.iaload, 1) := by decide +kernel
theorem dL_cell_9 : decode bL_cell 9 = .ok (.goto 4, 3) := by decide +kernel
theorem dL_cell_12 : decode bL_cell 12 = .ok (.iconst 0, 1) := by decide +kernel
theorem dL_cell_13 : decode bL_cell 13 = .ok (.ireturn, 1) := by decide +kernel
theorem dL_wall_0 : decode bL_wall 0 = .ok (.aload 4, 2) := by decide +kernel
theorem dL_wall_2 : decode bL_wall 2 = .ok (.iconst 0, 1) := by decide +kernel
theorem dL_wall_3 : decode bL_wall 3 = .ok (.aload_n 0, 1) := by decide +kernel
theorem dL_wall_4 : decode bL_wall 4 = .ok (.iload_n 1, 1) := by decide +kernel
theorem dL_wall_5 : decode bL_wall 5 = .ok (.iload_n 2, 1) := by decide +kernel
theorem dL_wall_6 : decode bL_wall 6 = .ok (.iload_n 3, 1) := by decide +kernel
theorem dL_wall_7 : decode bL_wall 7 = .ok (.invokevirtual 7, 3) := by decide +kernel
theorem dL_wall_10 : decode bL_wall 10 = .ok (.ifCond .eq 7, 3) := by decide +kernel
theorem dL_wall_13 : decode bL_wall 13 = .ok (.lconst 1, 1) := by decide +kernel
theorem dL_wall_14 : decode bL_wall 14 = .ok (.goto 4, 3) := by decide +kernel
theorem dL_wall_17 : decode bL_wall 17 = .ok (.lconst 0, 1) := by decide +kernel
theorem dL_wall_18 : decode bL_wall 18 = .ok (.lastore, 1) := by decide +kernel
theorem dL_wall_19 : decode bL_wall 19 = .ok (.goto 7, 3) := by decide +kernel
theorem dL_wall_22 : decode bL_wall 22 = .ok (.astore 5, 2) := by decide +kernel
theorem dL_wall_24 : decode bL_wall 24 = .ok (.iconst 1, 1) := by decide +kernel
theorem dL_wall_25 : decode bL_wall 25 = .ok (.ireturn, 1) := by decide +kernel
theorem dL_wall_26 : decode bL_wall 26 = .ok (.iconst 0, 1) := by decide +kernel
theorem dL_wall_27 : decode bL_wall 27 = .ok (.ireturn, 1) := by decide +kernel
theorem dL_reach_0 : decode bL_reach 0 = .ok (.aload_n 2, 1) := by decide +kernel
theorem dL_reach_1 : decode bL_reach 1 = .ok (.iconst 0, 1) := by decide +kernel
theorem dL_reach_2 : decode bL_reach 2 = .ok (.aload_n 0, 1) := by decide +kernel
theorem dL_reach_3 : decode bL_reach 3 = .ok (.iload_n 1, 1) := by decide +kernel
theorem dL_reach_4 : decode bL_reach 4 = .ok (.invokevirtual 15, 3) := by decide +kernel
theorem dL_reach_7 : decode bL_reach 7 = .ok (.i2l, 1) := by decide +kernel
theorem dL_reach_8 : decode bL_reach 8 = .ok (.lastore, 1) := by decide +kernel
theorem dL_reach_9 : decode bL_reach 9 = .ok (.goto 6, 3) := by decide +kernel
theorem dL_reach_12 : decode bL_reach 12 = .ok (.astore_n 3, 1) := by decide +kernel
theorem dL_reach_13 : decode bL_reach 13 = .ok (.iconst 1, 1) := by decide +kernel
theorem dL_reach_14 : decode bL_reach 14 = .ok (.ireturn, 1) := by decide +kernel
theorem dL_reach_15 : decode bL_reach 15 = .ok (.iconst 0, 1) := by decide +kernel
theorem dL_reach_16 : decode bL_reach 16 = .ok (.ireturn, 1) := by decide +kernel
theorem dL_place_0 : decode bL_place 0 = .ok (.aload_n 3, 1) := by decide +kernel
theorem dL_place_1 : decode bL_place 1 = .ok (.iconst 0, 1) := by decide +kernel
theorem dL_place_2 : decode bL_place 2 = .ok (.aload_n 0, 1) := by decide +kernel
theorem dL_place_3 : decode bL_place 3 = .ok (.iload_n 1, 1) := by decide +kernel
theorem dL_place_4 : decode bL_place 4 = .ok (.iload_n 2, 1) := by decide +kernel
theorem dL_place_5 : decode bL_place 5 = .ok (.invokevirtual 19, 3) := by decide +kernel
theorem dL_place_8 : decode bL_place 8 = .ok (.i2l, 1) := by decide +kernel
theorem dL_place_9 : decode bL_place 9 = .ok (.lastore, 1) := by decide +kernel
theorem dL_place_10 : decode bL_place 10 = .ok (.goto 11, 3) := by decide +kernel
theorem dL_place_13 : decode bL_place 13 = .ok (.astore 4, 2) := by decide +kernel
theorem dL_place_15 : decode bL_place 15 = .ok (.iconst 1, 1) := by decide +kernel
theorem dL_place_16 : decode bL_place 16 = .ok (.ireturn, 1) := by decide +kernel
theorem dL_place_17 : decode bL_place 17 = .ok (.astore 4, 2) := by decide +kernel
theorem dL_place_19 : decode bL_place 19 = .ok (.iconst 2, 1) := by decide +kernel
theorem dL_place_20 : decode bL_place 20 = .ok (.ireturn, 1) := by decide +kernel
theorem dL_place_21 : decode bL_place 21 = .ok (.iconst 0, 1) := by decide +kernel
theorem dL_place_22 : decode bL_place 22 = .ok (.ireturn, 1) := by decide +kernel
theorem dL_seen_0 : decode bL_seen 0 = .ok (.aload 5, 2) := by decide +kernel
theorem dL_seen_2 : decode bL_seen 2 = .ok (.iconst 0, 1) := by decide +kernel
theorem dL_seen_3 : decode bL_seen 3 = .ok (.aload_n 0, 1) := by decide +kernel
theorem dL_seen_4 : decode bL_seen 4 = .ok (.iload_n 1, 1) := by decide +kernel
theorem dL_seen_5 : decode bL_seen 5 = .ok (.iload_n 2, 1) := by decide +kernel
theorem dL_seen_6 : decode bL_seen 6 = .ok (.iload_n 3, 1) := by decide +kernel
theorem dL_seen_7 : decode bL_seen 7 = .ok (.iload 4, 2) := by decide +kernel
theorem dL_seen_9 : decode bL_seen 9 = .ok (.invokevirtual 25, 3) := by decide +kernel
theorem dL_seen_12 : decode bL_seen 12 = .ok (.ifCond .eq 7, 3) := by decide +kernel
theorem dL_seen_15 : decode bL_seen 15 = .ok (.lconst 1, 1) := by decide +kernel
theorem dL_seen_16 : decode bL_seen 16 = .ok (.goto 4, 3) := by decide +kernel
theorem dL_seen_19 : decode bL_seen 19 = .ok (.lconst 0, 1) := by decide +kernel
theorem dL_seen_20 : decode bL_seen 20 = .ok (.lastore, 1) := by decide +kernel
theorem dL_seen_21 : decode bL_seen 21 = .ok (.goto 7, 3) := by decide +kernel
theorem dL_seen_24 : decode bL_seen 24 = .ok (.astore 6, 2) := by decide +kernel
theorem dL_seen_26 : decode bL_seen 26 = .ok (.iconst 1, 1) := by decide +kernel
theorem dL_seen_27 : decode bL_seen 27 = .ok (.ireturn, 1) := by decide +kernel
theorem dL_seen_28 : decode bL_seen 28 = .ok (.iconst 0, 1) := by decide +kernel
theorem dL_seen_29 : decode bL_seen 29 = .ok (.ireturn, 1) := by decide +kernel
theorem dL_reached_0 : decode bL_reached 0 = .ok (.aload_n 2, 1) := by decide +kernel
theorem dL_reached_1 : decode bL_reached 1 = .ok (.iconst 0, 1) := by decide +kernel
theorem dL_reached_2 : decode bL_reached 2 = .ok (.aload_n 0, 1) := by decide +kernel
theorem dL_reached_3 : decode bL_reached 3 = .ok (.iload_n 1, 1) := by decide +kernel
theorem dL_reached_4 : decode bL_reached 4 = .ok (.invokevirtual 29, 3) := by decide +kernel
theorem dL_reached_7 : decode bL_reached 7 = .ok (.i2l, 1) := by decide +kernel
theorem dL_reached_8 : decode bL_reached 8 = .ok (.lastore, 1) := by decide +kernel
theorem dL_reached_9 : decode bL_reached 9 = .ok (.goto 6, 3) := by decide +kernel
theorem dL_reached_12 : decode bL_reached 12 = .ok (.astore_n 3, 1) := by decide +kernel
theorem dL_reached_13 : decode bL_reached 13 = .ok (.iconst 1, 1) := by decide +kernel
theorem dL_reached_14 : decode bL_reached 14 = .ok (.ireturn, 1) := by decide +kernel
theorem dL_reached_15 : decode bL_reached 15 = .ok (.iconst 0, 1) := by decide +kernel
theorem dL_reached_16 : decode bL_reached 16 = .ok (.ireturn, 1) := by decide +kernel
theorem dL_left_0 : decode bL_left 0 = .ok (.aload_n 2, 1) := by decide +kernel
theorem dL_left_1 : decode bL_left 1 = .ok (.iconst 0, 1) := by decide +kernel
theorem dL_left_2 : decode bL_left 2 = .ok (.aload_n 0, 1) := by decide +kernel
theorem dL_left_3 : decode bL_left 3 = .ok (.iload_n 1, 1) := by decide +kernel
theorem dL_left_4 : decode bL_left 4 = .ok (.invokevirtual 32, 3) := by decide +kernel
theorem dL_left_7 : decode bL_left 7 = .ok (.i2l, 1) := by decide +kernel
theorem dL_left_8 : decode bL_left 8 = .ok (.lastore, 1) := by decide +kernel
theorem dL_left_9 : decode bL_left 9 = .ok (.goto 6, 3) := by decide +kernel
theorem dL_left_12 : decode bL_left 12 = .ok (.astore_n 3, 1) := by decide +kernel
theorem dL_left_13 : decode bL_left 13 = .ok (.iconst 1, 1) := by decide +kernel
theorem dL_left_14 : decode bL_left 14 = .ok (.ireturn, 1) := by decide +kernel
theorem dL_left_15 : decode bL_left 15 = .ok (.iconst 0, 1) := by decide +kernel
theorem dL_left_16 : decode bL_left 16 = .ok (.ireturn, 1) := by decide +kernel
theorem dL_dry_0 : decode bL_dry 0 = .ok (.aload_n 3, 1) := by decide +kernel
theorem dL_dry_1 : decode bL_dry 1 = .ok (.iconst 0, 1) := by decide +kernel
theorem dL_dry_2 : decode bL_dry 2 = .ok (.aload_n 0, 1) := by decide +kernel
theorem dL_dry_3 : decode bL_dry 3 = .ok (.iload_n 1, 1) := by decide +kernel
theorem dL_dry_4 : decode bL_dry 4 = .ok (.iload_n 2, 1) := by decide +kernel
theorem dL_dry_5 : decode bL_dry 5 = .ok (.invokevirtual 35, 3) := by decide +kernel
theorem dL_dry_8 : decode bL_dry 8 = .ok (.i2l, 1) := by decide +kernel
theorem dL_dry_9 : decode bL_dry 9 = .ok (.lastore, 1) := by decide +kernel
theorem dL_dry_10 : decode bL_dry 10 = .ok (.goto 7, 3) := by decide +kernel
theorem dL_dry_13 : decode bL_dry 13 = .ok (.astore 4, 2) := by decide +kernel
theorem dL_dry_15 : decode bL_dry 15 = .ok (.iconst 1, 1) := by decide +kernel
theorem dL_dry_16 : decode bL_dry 16 = .ok (.ireturn, 1) := by decide +kernel
theorem dL_dry_17 : decode bL_dry 17 = .ok (.iconst 0, 1) := by decide +kernel
theorem dL_dry_18 : decode bL_dry 18 = .ok (.ireturn, 1) := by decide +kernel
theorem dL_size_0 : decode bL_size 0 = .ok (.aload_n 3, 1) := by decide +kernel
theorem dL_size_1 : decode bL_size 1 = .ok (.iconst 0, 1) := by decide +kernel
theorem dL_size_2 : decode bL_size 2 = .ok (.aload_n 0, 1) := by decide +kernel
theorem dL_size_3 : decode bL_size 3 = .ok (.iload_n 1, 1) := by decide +kernel
theorem dL_size_4 : decode bL_size 4 = .ok (.iload_n 2, 1) := by decide +kernel
theorem dL_size_5 : decode bL_size 5 = .ok (.invokevirtual 38, 3) := by decide +kernel
theorem dL_size_8 : decode bL_size 8 = .ok (.i2l, 1) := by decide +kernel
theorem dL_size_9 : decode bL_size 9 = .ok (.lastore, 1) := by decide +kernel
theorem dL_size_10 : decode bL_size 10 = .ok (.goto 7, 3) := by decide +kernel
theorem dL_size_13 : decode bL_size 13 = .ok (.astore 4, 2) := by decide +kernel
theorem dL_size_15 : decode bL_size 15 = .ok (.iconst 1, 1) := by decide +kernel
theorem dL_size_16 : decode bL_size 16 = .ok (.ireturn, 1) := by decide +kernel
theorem dL_size_17 : decode bL_size 17 = .ok (.iconst 0, 1) := by decide +kernel
theorem dL_size_18 : decode bL_size 18 = .ok (.ireturn, 1) := by decide +kernel
theorem dL_pipes_0 : decode bL_pipes 0 = .ok (.aload_n 2, 1) := by decide +kernel
theorem dL_pipes_1 : decode bL_pipes 1 = .ok (.iconst 0, 1) := by decide +kernel
theorem dL_pipes_2 : decode bL_pipes 2 = .ok (.aload_n 0, 1) := by decide +kernel
theorem dL_pipes_3 : decode bL_pipes 3 = .ok (.iload_n 1, 1) := by decide +kernel
theorem dL_pipes_4 : decode bL_pipes 4 = .ok (.invokevirtual 41, 3) := by decide +kernel
theorem dL_pipes_7 : decode bL_pipes 7 = .ok (.i2l, 1) := by decide +kernel
theorem dL_pipes_8 : decode bL_pipes 8 = .ok (.lastore, 1) := by decide +kernel
theorem dL_pipes_9 : decode bL_pipes 9 = .ok (.goto 6, 3) := by decide +kernel
theorem dL_pipes_12 : decode bL_pipes 12 = .ok (.astore_n 3, 1) := by decide +kernel
theorem dL_pipes_13 : decode bL_pipes 13 = .ok (.iconst 1, 1) := by decide +kernel
theorem dL_pipes_14 : decode bL_pipes 14 = .ok (.ireturn, 1) := by decide +kernel
theorem dL_pipes_15 : decode bL_pipes 15 = .ok (.iconst 0, 1) := by decide +kernel
theorem dL_pipes_16 : decode bL_pipes 16 = .ok (.ireturn, 1) := by decide +kernel
theorem dL_pipe_0 : decode bL_pipe 0 = .ok (.aload 4, 2) := by decide +kernel
theorem dL_pipe_2 : decode bL_pipe 2 = .ok (.iconst 0, 1) := by decide +kernel
theorem dL_pipe_3 : decode bL_pipe 3 = .ok (.aload_n 0, 1) := by decide +kernel
theorem dL_pipe_4 : decode bL_pipe 4 = .ok (.iload_n 1, 1) := by decide +kernel
theorem dL_pipe_5 : decode bL_pipe 5 = .ok (.iload_n 2, 1) := by decide +kernel
theorem dL_pipe_6 : decode bL_pipe 6 = .ok (.iload_n 3, 1) := by decide +kernel
theorem dL_pipe_7 : decode bL_pipe 7 = .ok (.invokevirtual 44, 3) := by decide +kernel
theorem dL_pipe_10 : decode bL_pipe 10 = .ok (.i2l, 1) := by decide +kernel
theorem dL_pipe_11 : decode bL_pipe 11 = .ok (.lastore, 1) := by decide +kernel
theorem dL_pipe_12 : decode bL_pipe 12 = .ok (.goto 7, 3) := by decide +kernel
theorem dL_pipe_15 : decode bL_pipe 15 = .ok (.astore 5, 2) := by decide +kernel
theorem dL_pipe_17 : decode bL_pipe 17 = .ok (.iconst 1, 1) := by decide +kernel
theorem dL_pipe_18 : decode bL_pipe 18 = .ok (.ireturn, 1) := by decide +kernel
theorem dL_pipe_19 : decode bL_pipe 19 = .ok (.iconst 0, 1) := by decide +kernel
theorem dL_pipe_20 : decode bL_pipe 20 = .ok (.ireturn, 1) := by decide +kernel
theorem dL_lacks_0 : decode bL_lacks 0 = .ok (.aload_n 3, 1) := by decide +kernel
theorem dL_lacks_1 : decode bL_lacks 1 = .ok (.iconst 0, 1) := by decide +kernel
theorem dL_lacks_2 : decode bL_lacks 2 = .ok (.aload_n 0, 1) := by decide +kernel
theorem dL_lacks_3 : decode bL_lacks 3 = .ok (.iload_n 1, 1) := by decide +kernel
theorem dL_lacks_4 : decode bL_lacks 4 = .ok (.iload_n 2, 1) := by decide +kernel
theorem dL_lacks_5 : decode bL_lacks 5 = .ok (.invokevirtual 48, 3) := by decide +kernel
theorem dL_lacks_8 : decode bL_lacks 8 = .ok (.i2l, 1) := by decide +kernel
theorem dL_lacks_9 : decode bL_lacks 9 = .ok (.lastore, 1) := by decide +kernel
theorem dL_lacks_10 : decode bL_lacks 10 = .ok (.goto 7, 3) := by decide +kernel
theorem dL_lacks_13 : decode bL_lacks 13 = .ok (.astore 4, 2) := by decide +kernel
theorem dL_lacks_15 : decode bL_lacks 15 = .ok (.iconst 1, 1) := by decide +kernel
theorem dL_lacks_16 : decode bL_lacks 16 = .ok (.ireturn, 1) := by decide +kernel
theorem dL_lacks_17 : decode bL_lacks 17 = .ok (.iconst 0, 1) := by decide +kernel
theorem dL_lacks_18 : decode bL_lacks 18 = .ok (.ireturn, 1) := by decide +kernel
theorem dL_worst_0 : decode bL_worst 0 = .ok (.aload_n 2, 1) := by decide +kernel
theorem dL_worst_1 : decode bL_worst 1 = .ok (.iconst 0, 1) := by decide +kernel
theorem dL_worst_2 : decode bL_worst 2 = .ok (.aload_n 0, 1) := by decide +kernel
theorem dL_worst_3 : decode bL_worst 3 = .ok (.iload_n 1, 1) := by decide +kernel
theorem dL_worst_4 : decode bL_worst 4 = .ok (.invokevirtual 51, 3) := by decide +kernel
theorem dL_worst_7 : decode bL_worst 7 = .ok (.i2l, 1) := by decide +kernel
theorem dL_worst_8 : decode bL_worst 8 = .ok (.lastore, 1) := by decide +kernel
theorem dL_worst_9 : decode bL_worst 9 = .ok (.goto 6, 3) := by decide +kernel
theorem dL_worst_12 : decode bL_worst 12 = .ok (.astore_n 3, 1) := by decide +kernel
theorem dL_worst_13 : decode bL_worst 13 = .ok (.iconst 1, 1) := by decide +kernel
theorem dL_worst_14 : decode bL_worst 14 = .ok (.ireturn, 1) := by decide +kernel
theorem dL_worst_15 : decode bL_worst 15 = .ok (.iconst 0, 1) := by decide +kernel
theorem dL_worst_16 : decode bL_worst 16 = .ok (.ireturn, 1) := by decide +kernel
theorem dL_law_0 : decode bL_law 0 = .ok (.new 8, 3) := by decide +kernel
theorem dL_law_3 : decode bL_law 3 = .ok (.dup, 1) := by decide +kernel
theorem dL_law_4 : decode bL_law 4 = .ok (.aload_n 0, 1) := by decide +kernel
theorem dL_law_5 : decode bL_law 5 = .ok (.iconst 0, 1) := by decide +kernel
theorem dL_law_6 : decode bL_law 6 = .ok (.invokestatic 54, 3) := by decide +kernel
theorem dL_law_9 : decode bL_law 9 = .ok (.aload_n 0, 1) := by decide +kernel
theorem dL_law_10 : decode bL_law 10 = .ok (.iconst 1, 1) := by decide +kernel
theorem dL_law_11 : decode bL_law 11 = .ok (.invokestatic 54, 3) := by decide +kernel
theorem dL_law_14 : decode bL_law 14 = .ok (.invokespecial 60, 3) := by decide +kernel
theorem dL_law_17 : decode bL_law 17 = .ok (.astore_n 1, 1) := by decide +kernel
theorem dL_law_18 : decode bL_law 18 = .ok (.new 63, 3) := by decide +kernel
theorem dL_law_21 : decode bL_law 21 = .ok (.dup, 1) := by decide +kernel
theorem dL_law_22 : decode bL_law 22 = .ok (.aload_n 0, 1) := by decide +kernel
theorem dL_law_23 : decode bL_law 23 = .ok (.iconst 0, 1) := by decide +kernel
theorem dL_law_24 : decode bL_law 24 = .ok (.invokestatic 54, 3) := by decide +kernel
theorem dL_law_27 : decode bL_law 27 = .ok (.aload_n 0, 1) := by decide +kernel
theorem dL_law_28 : decode bL_law 28 = .ok (.iconst 1, 1) := by decide +kernel
theorem dL_law_29 : decode bL_law 29 = .ok (.invokestatic 54, 3) := by decide +kernel
theorem dL_law_32 : decode bL_law 32 = .ok (.invokespecial 65, 3) := by decide +kernel
theorem dL_law_35 : decode bL_law 35 = .ok (.astore_n 2, 1) := by decide +kernel
theorem dL_law_36 : decode bL_law 36 = .ok (.iconst 1, 1) := by decide +kernel
theorem dL_law_37 : decode bL_law 37 = .ok (.newarray .long, 2) := by decide +kernel
theorem dL_law_39 : decode bL_law 39 = .ok (.astore_n 3, 1) := by decide +kernel
theorem dL_law_40 : decode bL_law 40 = .ok (.iconst 2, 1) := by decide +kernel
theorem dL_law_41 : decode bL_law 41 = .ok (.istore 4, 2) := by decide +kernel
theorem dL_law_43 : decode bL_law 43 = .ok (.iload 4, 2) := by decide +kernel
theorem dL_law_45 : decode bL_law 45 = .ok (.aload_n 0, 1) := by decide +kernel
theorem dL_law_46 : decode bL_law 46 = .ok (.arraylength, 1) := by decide +kernel
theorem dL_law_47 : decode bL_law 47 = .ok (.iconst 5, 1) := by decide +kernel
theorem dL_law_48 : decode bL_law 48 = .ok (.isub, 1) := by decide +kernel
theorem dL_law_49 : decode bL_law 49 = .ok (.if_icmp .gt 928, 3) := by decide +kernel
theorem dL_law_52 : decode bL_law 52 = .ok (.aload_n 0, 1) := by decide +kernel
theorem dL_law_53 : decode bL_law 53 = .ok (.iload 4, 2) := by decide +kernel
theorem dL_law_55 : decode bL_law 55 = .ok (.iaload, 1) := by decide +kernel
theorem dL_law_56 : decode bL_law 56 = .ok (.bipush 15, 2) := by decide +kernel
theorem dL_law_58 : decode bL_law 58 = .ok (.iand, 1) := by decide +kernel
theorem dL_law_59 : decode bL_law 59 = .ok (.tableswitch 912 0 12 #[65, 168, 224, 292, 391, 447, 503, 571, 584, 652, 708, 788, 856], 65) := by decide +kernel
theorem dL_law_124 : decode bL_law 124 = .ok (.aload_n 1, 1) := by decide +kernel
theorem dL_law_125 : decode bL_law 125 = .ok (.aload_n 0, 1) := by decide +kernel
theorem dL_law_126 : decode bL_law 126 = .ok (.iload 4, 2) := by decide +kernel
theorem dL_law_128 : decode bL_law 128 = .ok (.iconst 1, 1) := by decide +kernel
theorem dL_law_129 : decode bL_law 129 = .ok (.iadd, 1) := by decide +kernel
theorem dL_law_130 : decode bL_law 130 = .ok (.iaload, 1) := by decide +kernel
theorem dL_law_131 : decode bL_law 131 = .ok (.aload_n 0, 1) := by decide +kernel
theorem dL_law_132 : decode bL_law 132 = .ok (.iload 4, 2) := by decide +kernel
theorem dL_law_134 : decode bL_law 134 = .ok (.iconst 2, 1) := by decide +kernel
theorem dL_law_135 : decode bL_law 135 = .ok (.iadd, 1) := by decide +kernel
theorem dL_law_136 : decode bL_law 136 = .ok (.iaload, 1) := by decide +kernel
theorem dL_law_137 : decode bL_law 137 = .ok (.aload_n 0, 1) := by decide +kernel
theorem dL_law_138 : decode bL_law 138 = .ok (.iload 4, 2) := by decide +kernel
theorem dL_law_140 : decode bL_law 140 = .ok (.iconst 3, 1) := by decide +kernel
theorem dL_law_141 : decode bL_law 141 = .ok (.iadd, 1) := by decide +kernel
theorem dL_law_142 : decode bL_law 142 = .ok (.iaload, 1) := by decide +kernel
theorem dL_law_143 : decode bL_law 143 = .ok (.ifCond .eq 7, 3) := by decide +kernel
theorem dL_law_146 : decode bL_law 146 = .ok (.iconst 1, 1) := by decide +kernel
theorem dL_law_147 : decode bL_law 147 = .ok (.goto 4, 3) := by decide +kernel
theorem dL_law_150 : decode bL_law 150 = .ok (.iconst 0, 1) := by decide +kernel
theorem dL_law_151 : decode bL_law 151 = .ok (.aload_n 3, 1) := by decide +kernel
theorem dL_law_152 : decode bL_law 152 = .ok (.invokestatic 66, 3) := by decide +kernel
theorem dL_law_155 : decode bL_law 155 = .ok (.istore 5, 2) := by decide +kernel
theorem dL_law_157 : decode bL_law 157 = .ok (.aload_n 2, 1) := by decide +kernel
theorem dL_law_158 : decode bL_law 158 = .ok (.aload_n 0, 1) := by decide +kernel
theorem dL_law_159 : decode bL_law 159 = .ok (.iload 4, 2) := by decide +kernel
theorem dL_law_161 : decode bL_law 161 = .ok (.iconst 1, 1) := by decide +kernel
theorem dL_law_162 : decode bL_law 162 = .ok (.iadd, 1) := by decide +kernel
theorem dL_law_163 : decode bL_law 163 = .ok (.iaload, 1) := by decide +kernel
theorem dL_law_164 : decode bL_law 164 = .ok (.aload_n 0, 1) := by decide +kernel
theorem dL_law_165 : decode bL_law 165 = .ok (.iload 4, 2) := by decide +kernel
theorem dL_law_167 : decode bL_law 167 = .ok (.iconst 2, 1) := by decide +kernel
theorem dL_law_168 : decode bL_law 168 = .ok (.iadd, 1) := by decide +kernel
theorem dL_law_169 : decode bL_law 169 = .ok (.iaload, 1) := by decide +kernel
theorem dL_law_170 : decode bL_law 170 = .ok (.aload_n 0, 1) := by decide +kernel
theorem dL_law_171 : decode bL_law 171 = .ok (.iload 4, 2) := by decide +kernel
theorem dL_law_173 : decode bL_law 173 = .ok (.iconst 3, 1) := by decide +kernel
theorem dL_law_174 : decode bL_law 174 = .ok (.iadd, 1) := by decide +kernel
theorem dL_law_175 : decode bL_law 175 = .ok (.iaload, 1) := by decide +kernel
theorem dL_law_176 : decode bL_law 176 = .ok (.ifCond .eq 7, 3) := by decide +kernel
theorem dL_law_179 : decode bL_law 179 = .ok (.iconst 1, 1) := by decide +kernel
theorem dL_law_180 : decode bL_law 180 = .ok (.goto 4, 3) := by decide +kernel
theorem dL_law_183 : decode bL_law 183 = .ok (.iconst 0, 1) := by decide +kernel
theorem dL_law_184 : decode bL_law 184 = .ok (.invokevirtual 69, 3) := by decide +kernel
theorem dL_law_187 : decode bL_law 187 = .ok (.istore 6, 2) := by decide +kernel
theorem dL_law_189 : decode bL_law 189 = .ok (.aload_n 2, 1) := by decide +kernel
theorem dL_law_190 : decode bL_law 190 = .ok (.invokevirtual 70, 3) := by decide +kernel
theorem dL_law_193 : decode bL_law 193 = .ok (.iload 5, 2) := by decide +kernel
theorem dL_law_195 : decode bL_law 195 = .ok (.if_icmp .eq 5, 3) := by decide +kernel
theorem dL_law_198 : decode bL_law 198 = .ok (.iconst 0, 1) := by decide +kernel
theorem dL_law_199 : decode bL_law 199 = .ok (.ireturn, 1) := by decide +kernel
theorem dL_law_200 : decode bL_law 200 = .ok (.iload 5, 2) := by decide +kernel
theorem dL_law_202 : decode bL_law 202 = .ok (.ifCond .ne 22, 3) := by decide +kernel
theorem dL_law_205 : decode bL_law 205 = .ok (.aload_n 3, 1) := by decide +kernel
theorem dL_law_206 : decode bL_law 206 = .ok (.iconst 0, 1) := by decide +kernel
theorem dL_law_207 : decode bL_law 207 = .ok (.laload, 1) := by decide +kernel
theorem dL_law_208 : decode bL_law 208 = .ok (.iload 6, 2) := by decide +kernel
theorem dL_law_210 : decode bL_law 210 = .ok (.ifCond .eq 7, 3) := by decide +kernel
theorem dL_law_213 : decode bL_law 213 = .ok (.lconst 1, 1) := by decide +kernel
theorem dL_law_214 : decode bL_law 214 = .ok (.goto 4, 3) := by decide +kernel
theorem dL_law_217 : decode bL_law 217 = .ok (.lconst 0, 1) := by decide +kernel
theorem dL_law_218 : decode bL_law 218 = .ok (.lcmp, 1) := by decide +kernel
theorem dL_law_219 : decode bL_law 219 = .ok (.ifCond .eq 5, 3) := by decide +kernel
theorem dL_law_222 : decode bL_law 222 = .ok (.iconst 0, 1) := by decide +kernel
theorem dL_law_223 : decode bL_law 223 = .ok (.ireturn, 1) := by decide +kernel
theorem dL_law_224 : decode bL_law 224 = .ok (.goto 747, 3) := by decide +kernel
theorem dL_law_227 : decode bL_law 227 = .ok (.aload_n 1, 1) := by decide +kernel
theorem dL_law_228 : decode bL_law 228 = .ok (.aload_n 0, 1) := by decide +kernel
theorem dL_law_229 : decode bL_law 229 = .ok (.iload 4, 2) := by decide +kernel
theorem dL_law_231 : decode bL_law 231 = .ok (.iconst 1, 1) := by decide +kernel
theorem dL_law_232 : decode bL_law 232 = .ok (.iadd, 1) := by decide +kernel
theorem dL_law_233 : decode bL_law 233 = .ok (.iaload, 1) := by decide +kernel
theorem dL_law_234 : decode bL_law 234 = .ok (.aload_n 3, 1) := by decide +kernel
theorem dL_law_235 : decode bL_law 235 = .ok (.invokestatic 74, 3) := by decide +kernel
theorem dL_law_238 : decode bL_law 238 = .ok (.istore 5, 2) := by decide +kernel
theorem dL_law_240 : decode bL_law 240 = .ok (.aload_n 2, 1) := by decide +kernel
theorem dL_law_241 : decode bL_law 241 = .ok (.aload_n 0, 1) := by decide +kernel
theorem dL_law_242 : decode bL_law 242 = .ok (.iload 4, 2) := by decide +kernel
theorem dL_law_244 : decode bL_law 244 = .ok (.iconst 1, 1) := by decide +kernel
theorem dL_law_245 : decode bL_law 245 = .ok (.iadd, 1) := by decide +kernel
theorem dL_law_246 : decode bL_law 246 = .ok (.iaload, 1) := by decide +kernel
theorem dL_law_247 : decode bL_law 247 = .ok (.invokevirtual 77, 3) := by decide +kernel
theorem dL_law_250 : decode bL_law 250 = .ok (.istore 6, 2) := by decide +kernel
theorem dL_law_252 : decode bL_law 252 = .ok (.aload_n 2, 1) := by decide +kernel
theorem dL_law_253 : decode bL_law 253 = .ok (.invokevirtual 70, 3) := by decide +kernel
theorem dL_law_256 : decode bL_law 256 = .ok (.iload 5, 2) := by decide +kernel
theorem dL_law_258 : decode bL_law 258 = .ok (.if_icmp .eq 5, 3) := by decide +kernel
theorem dL_law_261 : decode bL_law 261 = .ok (.iconst 0, 1) := by decide +kernel
theorem dL_law_262 : decode bL_law 262 = .ok (.ireturn, 1) := by decide +kernel
theorem dL_law_263 : decode bL_law 263 = .ok (.iload 5, 2) := by decide +kernel
theorem dL_law_265 : decode bL_law 265 = .ok (.ifCond .ne 15, 3) := by decide +kernel
theorem dL_law_268 : decode bL_law 268 = .ok (.aload_n 3, 1) := by decide +kernel
theorem dL_law_269 : decode bL_law 269 = .ok (.iconst 0, 1) := by decide +kernel
theorem dL_law_270 : decode bL_law 270 = .ok (.laload, 1) := by decide +kernel
theorem dL_law_271 : decode bL_law 271 = .ok (.iload 6, 2) := by decide +kernel
theorem dL_law_273 : decode bL_law 273 = .ok (.i2l, 1) := by decide +kernel
theorem dL_law_274 : decode bL_law 274 = .ok (.lcmp, 1) := by decide +kernel
theorem dL_law_275 : decode bL_law 275 = .ok (.ifCond .eq 5, 3) := by decide +kernel
theorem dL_law_278 : decode bL_law 278 = .ok (.iconst 0, 1) := by decide +kernel
theorem dL_law_279 : decode bL_law 279 = .ok (.ireturn, 1) := by decide +kernel
theorem dL_law_280 : decode bL_law 280 = .ok (.goto 691, 3) := by decide +kernel
theorem dL_law_283 : decode bL_law 283 = .ok (.aload_n 1, 1) := by decide +kernel
theorem dL_law_284 : decode bL_law 284 = .ok (.aload_n 0, 1) := by decide +kernel
theorem dL_law_285 : decode bL_law 285 = .ok (.iload 4, 2) := by decide +kernel
theorem dL_law_287 : decode bL_law 287 = .ok (.iconst 1, 1) := by decide +kernel
theorem dL_law_288 : decode bL_law 288 = .ok (.iadd, 1) := by decide +kernel
theorem dL_law_289 : decode bL_law 289 = .ok (.iaload, 1) := by decide +kernel
theorem dL_law_290 : decode bL_law 290 = .ok (.aload_n 0, 1) := by decide +kernel
theorem dL_law_291 : decode bL_law 291 = .ok (.iload 4, 2) := by decide +kernel
theorem dL_law_293 : decode bL_law 293 = .ok (.iconst 2, 1) := by decide +kernel
theorem dL_law_294 : decode bL_law 294 = .ok (.iadd, 1) := by decide +kernel
theorem dL_law_295 : decode bL_law 295 = .ok (.iaload, 1) := by decide +kernel
theorem dL_law_296 : decode bL_law 296 = .ok (.aload_n 3, 1) := by decide +kernel
theorem dL_law_297 : decode bL_law 297 = .ok (.invokestatic 78, 3) := by decide +kernel
theorem dL_law_300 : decode bL_law 300 = .ok (.istore 5, 2) := by decide +kernel
theorem dL_law_302 : decode bL_law 302 = .ok (.aload_n 2, 1) := by decide +kernel
theorem dL_law_303 : decode bL_law 303 = .ok (.aload_n 0, 1) := by decide +kernel
theorem dL_law_304 : decode bL_law 304 = .ok (.iload 4, 2) := by decide +kernel
theorem dL_law_306 : decode bL_law 306 = .ok (.iconst 1, 1) := by decide +kernel
theorem dL_law_307 : decode bL_law 307 = .ok (.iadd, 1) := by decide +kernel
theorem dL_law_308 : decode bL_law 308 = .ok (.iaload, 1) := by decide +kernel
theorem dL_law_309 : decode bL_law 309 = .ok (.aload_n 0, 1) := by decide +kernel
theorem dL_law_310 : decode bL_law 310 = .ok (.iload 4, 2) := by decide +kernel
theorem dL_law_312 : decode bL_law 312 = .ok (.iconst 2, 1) := by decide +kernel
theorem dL_law_313 : decode bL_law 313 = .ok (.iadd, 1) := by decide +kernel
theorem dL_law_314 : decode bL_law 314 = .ok (.iaload, 1) := by decide +kernel
theorem dL_law_315 : decode bL_law 315 = .ok (.invokevirtual 81, 3) := by decide +kernel
theorem dL_law_318 : decode bL_law 318 = .ok (.istore 6, 2) := by decide +kernel
theorem dL_law_320 : decode bL_law 320 = .ok (.aload_n 2, 1) := by decide +kernel
theorem dL_law_321 : decode bL_law 321 = .ok (.invokevirtual 70, 3) := by decide +kernel
theorem dL_law_324 : decode bL_law 324 = .ok (.iload 5, 2) := by decide +kernel
theorem dL_law_326 : decode bL_law 326 = .ok (.if_icmp .eq 5, 3) := by decide +kernel
theorem dL_law_329 : decode bL_law 329 = .ok (.iconst 0, 1) := by decide +kernel
theorem dL_law_330 : decode bL_law 330 = .ok (.ireturn, 1) := by decide +kernel
theorem dL_law_331 : decode bL_law 331 = .ok (.iload 5, 2) := by decide +kernel
theorem dL_law_333 : decode bL_law 333 = .ok (.ifCond .ne 15, 3) := by decide +kernel
theorem dL_law_336 : decode bL_law 336 = .ok (.aload_n 3, 1) := by decide +kernel
theorem dL_law_337 : decode bL_law 337 = .ok (.iconst 0, 1) := by decide +kernel
theorem dL_law_338 : decode bL_law 338 = .ok (.laload, 1) := by decide +kernel
theorem dL_law_339 : decode bL_law 339 = .ok (.iload 6, 2) := by decide +kernel
theorem dL_law_341 : decode bL_law 341 = .ok (.i2l, 1) := by decide +kernel
theorem dL_law_342 : decode bL_law 342 = .ok (.lcmp, 1) := by decide +kernel
theorem dL_law_343 : decode bL_law 343 = .ok (.ifCond .eq 5, 3) := by decide +kernel
theorem dL_law_346 : decode bL_law 346 = .ok (.iconst 0, 1) := by decide +kernel
theorem dL_law_347 : decode bL_law 347 = .ok (.ireturn, 1) := by decide +kernel
theorem dL_law_348 : decode bL_law 348 = .ok (.goto 623, 3) := by decide +kernel
theorem dL_law_351 : decode bL_law 351 = .ok (.aload_n 1, 1) := by decide +kernel
theorem dL_law_352 : decode bL_law 352 = .ok (.aload_n 0, 1) := by decide +kernel
theorem dL_law_353 : decode bL_law 353 = .ok (.iload 4, 2) := by decide +kernel
theorem dL_law_355 : decode bL_law 355 = .ok (.iconst 1, 1) := by decide +kernel
theorem dL_law_356 : decode bL_law 356 = .ok (.iadd, 1) := by decide +kernel
theorem dL_law_357 : decode bL_law 357 = .ok (.iaload, 1) := by decide +kernel
theorem dL_law_358 : decode bL_law 358 = .ok (.aload_n 0, 1) := by decide +kernel
theorem dL_law_359 : decode bL_law 359 = .ok (.iload 4, 2) := by decide +kernel
theorem dL_law_361 : decode bL_law 361 = .ok (.iconst 2, 1) := by decide +kernel
theorem dL_law_362 : decode bL_law 362 = .ok (.iadd, 1) := by decide +kernel
theorem dL_law_363 : decode bL_law 363 = .ok (.iaload, 1) := by decide +kernel
theorem dL_law_364 : decode bL_law 364 = .ok (.aload_n 0, 1) := by decide +kernel
theorem dL_law_365 : decode bL_law 365 = .ok (.iload 4, 2) := by decide +kernel
theorem dL_law_367 : decode bL_law 367 = .ok (.iconst 3, 1) := by decide +kernel
theorem dL_law_368 : decode bL_law 368 = .ok (.iadd, 1) := by decide +kernel
theorem dL_law_369 : decode bL_law 369 = .ok (.iaload, 1) := by decide +kernel
theorem dL_law_370 : decode bL_law 370 = .ok (.aload_n 0, 1) := by decide +kernel
theorem dL_law_371 : decode bL_law 371 = .ok (.iload 4, 2) := by decide +kernel
theorem dL_law_373 : decode bL_law 373 = .ok (.iconst 4, 1) := by decide +kernel
theorem dL_law_374 : decode bL_law 374 = .ok (.iadd, 1) := by decide +kernel
theorem dL_law_375 : decode bL_law 375 = .ok (.iaload, 1) := by decide +kernel
theorem dL_law_376 : decode bL_law 376 = .ok (.aload_n 3, 1) := by decide +kernel
theorem dL_law_377 : decode bL_law 377 = .ok (.invokestatic 82, 3) := by decide +kernel
theorem dL_law_380 : decode bL_law 380 = .ok (.istore 5, 2) := by decide +kernel
theorem dL_law_382 : decode bL_law 382 = .ok (.aload_n 2, 1) := by decide +kernel
theorem dL_law_383 : decode bL_law 383 = .ok (.aload_n 0, 1) := by decide +kernel
theorem dL_law_384 : decode bL_law 384 = .ok (.iload 4, 2) := by decide +kernel
theorem dL_law_386 : decode bL_law 386 = .ok (.iconst 1, 1) := by decide +kernel
theorem dL_law_387 : decode bL_law 387 = .ok (.iadd, 1) := by decide +kernel
theorem dL_law_388 : decode bL_law 388 = .ok (.iaload, 1) := by decide +kernel
theorem dL_law_389 : decode bL_law 389 = .ok (.aload_n 0, 1) := by decide +kernel
theorem dL_law_390 : decode bL_law 390 = .ok (.iload 4, 2) := by decide +kernel
theorem dL_law_392 : decode bL_law 392 = .ok (.iconst 2, 1) := by decide +kernel
theorem dL_law_393 : decode bL_law 393 = .ok (.iadd, 1) := by decide +kernel
theorem dL_law_394 : decode bL_law 394 = .ok (.iaload, 1) := by decide +kernel
theorem dL_law_395 : decode bL_law 395 = .ok (.aload_n 0, 1) := by decide +kernel
theorem dL_law_396 : decode bL_law 396 = .ok (.iload 4, 2) := by decide +kernel
theorem dL_law_398 : decode bL_law 398 = .ok (.iconst 3, 1) := by decide +kernel
theorem dL_law_399 : decode bL_law 399 = .ok (.iadd, 1) := by decide +kernel
theorem dL_law_400 : decode bL_law 400 = .ok (.iaload, 1) := by decide +kernel
theorem dL_law_401 : decode bL_law 401 = .ok (.aload_n 0, 1) := by decide +kernel
theorem dL_law_402 : decode bL_law 402 = .ok (.iload 4, 2) := by decide +kernel
theorem dL_law_404 : decode bL_law 404 = .ok (.iconst 4, 1) := by decide +kernel
theorem dL_law_405 : decode bL_law 405 = .ok (.iadd, 1) := by decide +kernel
theorem dL_law_406 : decode bL_law 406 = .ok (.iaload, 1) := by decide +kernel
theorem dL_law_407 : decode bL_law 407 = .ok (.invokevirtual 85, 3) := by decide +kernel
theorem dL_law_410 : decode bL_law 410 = .ok (.istore 6, 2) := by decide +kernel
theorem dL_law_412 : decode bL_law 412 = .ok (.aload_n 2, 1) := by decide +kernel
theorem dL_law_413 : decode bL_law 413 = .ok (.invokevirtual 70, 3) := by decide +kernel
theorem dL_law_416 : decode bL_law 416 = .ok (.iload 5, 2) := by decide +kernel
theorem dL_law_418 : decode bL_law 418 = .ok (.if_icmp .eq 5, 3) := by decide +kernel
theorem dL_law_421 : decode bL_law 421 = .ok (.iconst 0, 1) := by decide +kernel
theorem dL_law_422 : decode bL_law 422 = .ok (.ireturn, 1) := by decide +kernel
theorem dL_law_423 : decode bL_law 423 = .ok (.iload 5, 2) := by decide +kernel
theorem dL_law_425 : decode bL_law 425 = .ok (.ifCond .ne 22, 3) := by decide +kernel
theorem dL_law_428 : decode bL_law 428 = .ok (.aload_n 3, 1) := by decide +kernel
theorem dL_law_429 : decode bL_law 429 = .ok (.iconst 0, 1) := by decide +kernel
theorem dL_law_430 : decode bL_law 430 = .ok (.laload, 1) := by decide +kernel
theorem dL_law_431 : decode bL_law 431 = .ok (.iload 6, 2) := by decide +kernel
theorem dL_law_433 : decode bL_law 433 = .ok (.ifCond .eq 7, 3) := by decide +kernel
theorem dL_law_436 : decode bL_law 436 = .ok (.lconst 1, 1) := by decide +kernel
theorem dL_law_437 : decode bL_law 437 = .ok (.goto 4, 3) := by decide +kernel
theorem dL_law_440 : decode bL_law 440 = .ok (.lconst 0, 1) := by decide +kernel
theorem dL_law_441 : decode bL_law 441 = .ok (.lcmp, 1) := by decide +kernel
theorem dL_law_442 : decode bL_law 442 = .ok (.ifCond .eq 5, 3) := by decide +kernel
theorem dL_law_445 : decode bL_law 445 = .ok (.iconst 0, 1) := by decide +kernel
theorem dL_law_446 : decode bL_law 446 = .ok (.ireturn, 1) := by decide +kernel
theorem dL_law_447 : decode bL_law 447 = .ok (.goto 524, 3) := by decide +kernel
theorem dL_law_450 : decode bL_law 450 = .ok (.aload_n 1, 1) := by decide +kernel
theorem dL_law_451 : decode bL_law 451 = .ok (.aload_n 0, 1) := by decide +kernel
theorem dL_law_452 : decode bL_law 452 = .ok (.iload 4, 2) := by decide +kernel
theorem dL_law_454 : decode bL_law 454 = .ok (.iconst 1, 1) := by decide +kernel
theorem dL_law_455 : decode bL_law 455 = .ok (.iadd, 1) := by decide +kernel
theorem dL_law_456 : decode bL_law 456 = .ok (.iaload, 1) := by decide +kernel
theorem dL_law_457 : decode bL_law 457 = .ok (.aload_n 3, 1) := by decide +kernel
theorem dL_law_458 : decode bL_law 458 = .ok (.invokestatic 86, 3) := by decide +kernel
theorem dL_law_461 : decode bL_law 461 = .ok (.istore 5, 2) := by decide +kernel
theorem dL_law_463 : decode bL_law 463 = .ok (.aload_n 2, 1) := by decide +kernel
theorem dL_law_464 : decode bL_law 464 = .ok (.aload_n 0, 1) := by decide +kernel
theorem dL_law_465 : decode bL_law 465 = .ok (.iload 4, 2) := by decide +kernel
theorem dL_law_467 : decode bL_law 467 = .ok (.iconst 1, 1) := by decide +kernel
theorem dL_law_468 : decode bL_law 468 = .ok (.iadd, 1) := by decide +kernel
theorem dL_law_469 : decode bL_law 469 = .ok (.iaload, 1) := by decide +kernel
theorem dL_law_470 : decode bL_law 470 = .ok (.invokevirtual 88, 3) := by decide +kernel
theorem dL_law_473 : decode bL_law 473 = .ok (.istore 6, 2) := by decide +kernel
theorem dL_law_475 : decode bL_law 475 = .ok (.aload_n 2, 1) := by decide +kernel
theorem dL_law_476 : decode bL_law 476 = .ok (.invokevirtual 70, 3) := by decide +kernel
theorem dL_law_479 : decode bL_law 479 = .ok (.iload 5, 2) := by decide +kernel
theorem dL_law_481 : decode bL_law 481 = .ok (.if_icmp .eq 5, 3) := by decide +kernel
theorem dL_law_484 : decode bL_law 484 = .ok (.iconst 0, 1) := by decide +kernel
theorem dL_law_485 : decode bL_law 485 = .ok (.ireturn, 1) := by decide +kernel
theorem dL_law_486 : decode bL_law 486 = .ok (.iload 5, 2) := by decide +kernel
theorem dL_law_488 : decode bL_law 488 = .ok (.ifCond .ne 15, 3) := by decide +kernel
theorem dL_law_491 : decode bL_law 491 = .ok (.aload_n 3, 1) := by decide +kernel
theorem dL_law_492 : decode bL_law 492 = .ok (.iconst 0, 1) := by decide +kernel
theorem dL_law_493 : decode bL_law 493 = .ok (.laload, 1) := by decide +kernel
theorem dL_law_494 : decode bL_law 494 = .ok (.iload 6, 2) := by decide +kernel
theorem dL_law_496 : decode bL_law 496 = .ok (.i2l, 1) := by decide +kernel
theorem dL_law_497 : decode bL_law 497 = .ok (.lcmp, 1) := by decide +kernel
theorem dL_law_498 : decode bL_law 498 = .ok (.ifCond .eq 5, 3) := by decide +kernel
theorem dL_law_501 : decode bL_law 501 = .ok (.iconst 0, 1) := by decide +kernel
theorem dL_law_502 : decode bL_law 502 = .ok (.ireturn, 1) := by decide +kernel
theorem dL_law_503 : decode bL_law 503 = .ok (.goto 468, 3) := by decide +kernel
theorem dL_law_506 : decode bL_law 506 = .ok (.aload_n 1, 1) := by decide +kernel
theorem dL_law_507 : decode bL_law 507 = .ok (.aload_n 0, 1) := by decide +kernel
theorem dL_law_508 : decode bL_law 508 = .ok (.iload 4, 2) := by decide +kernel
theorem dL_law_510 : decode bL_law 510 = .ok (.iconst 1, 1) := by decide +kernel
theorem dL_law_511 : decode bL_law 511 = .ok (.iadd, 1) := by decide +kernel
theorem dL_law_512 : decode bL_law 512 = .ok (.iaload, 1) := by decide +kernel
theorem dL_law_513 : decode bL_law 513 = .ok (.aload_n 3, 1) := by decide +kernel
theorem dL_law_514 : decode bL_law 514 = .ok (.invokestatic 89, 3) := by decide +kernel
theorem dL_law_517 : decode bL_law 517 = .ok (.istore 5, 2) := by decide +kernel
theorem dL_law_519 : decode bL_law 519 = .ok (.aload_n 2, 1) := by decide +kernel
theorem dL_law_520 : decode bL_law 520 = .ok (.aload_n 0, 1) := by decide +kernel
theorem dL_law_521 : decode bL_law 521 = .ok (.iload 4, 2) := by decide +kernel
theorem dL_law_523 : decode bL_law 523 = .ok (.iconst 1, 1) := by decide +kernel
theorem dL_law_524 : decode bL_law 524 = .ok (.iadd, 1) := by decide +kernel
theorem dL_law_525 : decode bL_law 525 = .ok (.iaload, 1) := by decide +kernel
theorem dL_law_526 : decode bL_law 526 = .ok (.invokevirtual 91, 3) := by decide +kernel
theorem dL_law_529 : decode bL_law 529 = .ok (.istore 6, 2) := by decide +kernel
theorem dL_law_531 : decode bL_law 531 = .ok (.aload_n 2, 1) := by decide +kernel
theorem dL_law_532 : decode bL_law 532 = .ok (.invokevirtual 70, 3) := by decide +kernel
theorem dL_law_535 : decode bL_law 535 = .ok (.iload 5, 2) := by decide +kernel
theorem dL_law_537 : decode bL_law 537 = .ok (.if_icmp .eq 5, 3) := by decide +kernel
theorem dL_law_540 : decode bL_law 540 = .ok (.iconst 0, 1) := by decide +kernel
theorem dL_law_541 : decode bL_law 541 = .ok (.ireturn, 1) := by decide +kernel
theorem dL_law_542 : decode bL_law 542 = .ok (.iload 5, 2) := by decide +kernel
theorem dL_law_544 : decode bL_law 544 = .ok (.ifCond .ne 15, 3) := by decide +kernel
theorem dL_law_547 : decode bL_law 547 = .ok (.aload_n 3, 1) := by decide +kernel
theorem dL_law_548 : decode bL_law 548 = .ok (.iconst 0, 1) := by decide +kernel
theorem dL_law_549 : decode bL_law 549 = .ok (.laload, 1) := by decide +kernel
theorem dL_law_550 : decode bL_law 550 = .ok (.iload 6, 2) := by decide +kernel
theorem dL_law_552 : decode bL_law 552 = .ok (.i2l, 1) := by decide +kernel
theorem dL_law_553 : decode bL_law 553 = .ok (.lcmp, 1) := by decide +kernel
theorem dL_law_554 : decode bL_law 554 = .ok (.ifCond .eq 5, 3) := by decide +kernel
theorem dL_law_557 : decode bL_law 557 = .ok (.iconst 0, 1) := by decide +kernel
theorem dL_law_558 : decode bL_law 558 = .ok (.ireturn, 1) := by decide +kernel
theorem dL_law_559 : decode bL_law 559 = .ok (.goto 412, 3) := by decide +kernel
theorem dL_law_562 : decode bL_law 562 = .ok (.aload_n 1, 1) := by decide +kernel
theorem dL_law_563 : decode bL_law 563 = .ok (.aload_n 0, 1) := by decide +kernel
theorem dL_law_564 : decode bL_law 564 = .ok (.iload 4, 2) := by decide +kernel
theorem dL_law_566 : decode bL_law 566 = .ok (.iconst 1, 1) := by decide +kernel
theorem dL_law_567 : decode bL_law 567 = .ok (.iadd, 1) := by decide +kernel
theorem dL_law_568 : decode bL_law 568 = .ok (.iaload, 1) := by decide +kernel
theorem dL_law_569 : decode bL_law 569 = .ok (.aload_n 0, 1) := by decide +kernel
theorem dL_law_570 : decode bL_law 570 = .ok (.iload 4, 2) := by decide +kernel
theorem dL_law_572 : decode bL_law 572 = .ok (.iconst 2, 1) := by decide +kernel
theorem dL_law_573 : decode bL_law 573 = .ok (.iadd, 1) := by decide +kernel
theorem dL_law_574 : decode bL_law 574 = .ok (.iaload, 1) := by decide +kernel
theorem dL_law_575 : decode bL_law 575 = .ok (.aload_n 3, 1) := by decide +kernel
theorem dL_law_576 : decode bL_law 576 = .ok (.invokestatic 92, 3) := by decide +kernel
theorem dL_law_579 : decode bL_law 579 = .ok (.istore 5, 2) := by decide +kernel
theorem dL_law_581 : decode bL_law 581 = .ok (.aload_n 2, 1) := by decide +kernel
theorem dL_law_582 : decode bL_law 582 = .ok (.aload_n 0, 1) := by decide +kernel
theorem dL_law_583 : decode bL_law 583 = .ok (.iload 4, 2) := by decide +kernel
theorem dL_law_585 : decode bL_law 585 = .ok (.iconst 1, 1) := by decide +kernel
theorem dL_law_586 : decode bL_law 586 = .ok (.iadd, 1) := by decide +kernel
theorem dL_law_587 : decode bL_law 587 = .ok (.iaload, 1) := by decide +kernel
theorem dL_law_588 : decode bL_law 588 = .ok (.aload_n 0, 1) := by decide +kernel
theorem dL_law_589 : decode bL_law 589 = .ok (.iload 4, 2) := by decide +kernel
theorem dL_law_591 : decode bL_law 591 = .ok (.iconst 2, 1) := by decide +kernel
theorem dL_law_592 : decode bL_law 592 = .ok (.iadd, 1) := by decide +kernel
theorem dL_law_593 : decode bL_law 593 = .ok (.iaload, 1) := by decide +kernel
theorem dL_law_594 : decode bL_law 594 = .ok (.invokevirtual 94, 3) := by decide +kernel
theorem dL_law_597 : decode bL_law 597 = .ok (.istore 6, 2) := by decide +kernel
theorem dL_law_599 : decode bL_law 599 = .ok (.aload_n 2, 1) := by decide +kernel
theorem dL_law_600 : decode bL_law 600 = .ok (.invokevirtual 70, 3) := by decide +kernel
theorem dL_law_603 : decode bL_law 603 = .ok (.iload 5, 2) := by decide +kernel
theorem dL_law_605 : decode bL_law 605 = .ok (.if_icmp .eq 5, 3) := by decide +kernel
theorem dL_law_608 : decode bL_law 608 = .ok (.iconst 0, 1) := by decide +kernel
theorem dL_law_609 : decode bL_law 609 = .ok (.ireturn, 1) := by decide +kernel
theorem dL_law_610 : decode bL_law 610 = .ok (.iload 5, 2) := by decide +kernel
theorem dL_law_612 : decode bL_law 612 = .ok (.ifCond .ne 15, 3) := by decide +kernel
theorem dL_law_615 : decode bL_law 615 = .ok (.aload_n 3, 1) := by decide +kernel
theorem dL_law_616 : decode bL_law 616 = .ok (.iconst 0, 1) := by decide +kernel
theorem dL_law_617 : decode bL_law 617 = .ok (.laload, 1) := by decide +kernel
theorem dL_law_618 : decode bL_law 618 = .ok (.iload 6, 2) := by decide +kernel
theorem dL_law_620 : decode bL_law 620 = .ok (.i2l, 1) := by decide +kernel
theorem dL_law_621 : decode bL_law 621 = .ok (.lcmp, 1) := by decide +kernel
theorem dL_law_622 : decode bL_law 622 = .ok (.ifCond .eq 5, 3) := by decide +kernel
theorem dL_law_625 : decode bL_law 625 = .ok (.iconst 0, 1) := by decide +kernel
theorem dL_law_626 : decode bL_law 626 = .ok (.ireturn, 1) := by decide +kernel
theorem dL_law_627 : decode bL_law 627 = .ok (.goto 344, 3) := by decide +kernel
theorem dL_law_630 : decode bL_law 630 = .ok (.aload_n 1, 1) := by decide +kernel
theorem dL_law_631 : decode bL_law 631 = .ok (.invokevirtual 95, 3) := by decide +kernel
theorem dL_law_634 : decode bL_law 634 = .ok (.aload_n 2, 1) := by decide +kernel
theorem dL_law_635 : decode bL_law 635 = .ok (.invokevirtual 98, 3) := by decide +kernel
theorem dL_law_638 : decode bL_law 638 = .ok (.if_icmp .eq 333, 3) := by decide +kernel
theorem dL_law_641 : decode bL_law 641 = .ok (.iconst 0, 1) := by decide +kernel
theorem dL_law_642 : decode bL_law 642 = .ok (.ireturn, 1) := by decide +kernel
theorem dL_law_643 : decode bL_law 643 = .ok (.aload_n 1, 1) := by decide +kernel
theorem dL_law_644 : decode bL_law 644 = .ok (.aload_n 0, 1) := by decide +kernel
theorem dL_law_645 : decode bL_law 645 = .ok (.iload 4, 2) := by decide +kernel
theorem dL_law_647 : decode bL_law 647 = .ok (.iconst 1, 1) := by decide +kernel
theorem dL_law_648 : decode bL_law 648 = .ok (.iadd, 1) := by decide +kernel
theorem dL_law_649 : decode bL_law 649 = .ok (.iaload, 1) := by decide +kernel
theorem dL_law_650 : decode bL_law 650 = .ok (.aload_n 0, 1) := by decide +kernel
theorem dL_law_651 : decode bL_law 651 = .ok (.iload 4, 2) := by decide +kernel
theorem dL_law_653 : decode bL_law 653 = .ok (.iconst 2, 1) := by decide +kernel
theorem dL_law_654 : decode bL_law 654 = .ok (.iadd, 1) := by decide +kernel
theorem dL_law_655 : decode bL_law 655 = .ok (.iaload, 1) := by decide +kernel
theorem dL_law_656 : decode bL_law 656 = .ok (.aload_n 3, 1) := by decide +kernel
theorem dL_law_657 : decode bL_law 657 = .ok (.invokestatic 99, 3) := by decide +kernel
theorem dL_law_660 : decode bL_law 660 = .ok (.istore 5, 2) := by decide +kernel
theorem dL_law_662 : decode bL_law 662 = .ok (.aload_n 2, 1) := by decide +kernel
theorem dL_law_663 : decode bL_law 663 = .ok (.aload_n 0, 1) := by decide +kernel
theorem dL_law_664 : decode bL_law 664 = .ok (.iload 4, 2) := by decide +kernel
theorem dL_law_666 : decode bL_law 666 = .ok (.iconst 1, 1) := by decide +kernel
theorem dL_law_667 : decode bL_law 667 = .ok (.iadd, 1) := by decide +kernel
theorem dL_law_668 : decode bL_law 668 = .ok (.iaload, 1) := by decide +kernel
theorem dL_law_669 : decode bL_law 669 = .ok (.aload_n 0, 1) := by decide +kernel
theorem dL_law_670 : decode bL_law 670 = .ok (.iload 4, 2) := by decide +kernel
theorem dL_law_672 : decode bL_law 672 = .ok (.iconst 2, 1) := by decide +kernel
theorem dL_law_673 : decode bL_law 673 = .ok (.iadd, 1) := by decide +kernel
theorem dL_law_674 : decode bL_law 674 = .ok (.iaload, 1) := by decide +kernel
theorem dL_law_675 : decode bL_law 675 = .ok (.invokevirtual 101, 3) := by decide +kernel
theorem dL_law_678 : decode bL_law 678 = .ok (.istore 6, 2) := by decide +kernel
theorem dL_law_680 : decode bL_law 680 = .ok (.aload_n 2, 1) := by decide +kernel
theorem dL_law_681 : decode bL_law 681 = .ok (.invokevirtual 70, 3) := by decide +kernel
theorem dL_law_684 : decode bL_law 684 = .ok (.iload 5, 2) := by decide +kernel
theorem dL_law_686 : decode bL_law 686 = .ok (.if_icmp .eq 5, 3) := by decide +kernel
theorem dL_law_689 : decode bL_law 689 = .ok (.iconst 0, 1) := by decide +kernel
theorem dL_law_690 : decode bL_law 690 = .ok (.ireturn, 1) := by decide +kernel
theorem dL_law_691 : decode bL_law 691 = .ok (.iload 5, 2) := by decide +kernel
theorem dL_law_693 : decode bL_law 693 = .ok (.ifCond .ne 15, 3) := by decide +kernel
theorem dL_law_696 : decode bL_law 696 = .ok (.aload_n 3, 1) := by decide +kernel
theorem dL_law_697 : decode bL_law 697 = .ok (.iconst 0, 1) := by decide +kernel
theorem dL_law_698 : decode bL_law 698 = .ok (.laload, 1) := by decide +kernel
theorem dL_law_699 : decode bL_law 699 = .ok (.iload 6, 2) := by decide +kernel
theorem dL_law_701 : decode bL_law 701 = .ok (.i2l, 1) := by decide +kernel
theorem dL_law_702 : decode bL_law 702 = .ok (.lcmp, 1) := by decide +kernel
theorem dL_law_703 : decode bL_law 703 = .ok (.ifCond .eq 5, 3) := by decide +kernel
theorem dL_law_706 : decode bL_law 706 = .ok (.iconst 0, 1) := by decide +kernel
theorem dL_law_707 : decode bL_law 707 = .ok (.ireturn, 1) := by decide +kernel
theorem dL_law_708 : decode bL_law 708 = .ok (.goto 263, 3) := by decide +kernel
theorem dL_law_711 : decode bL_law 711 = .ok (.aload_n 1, 1) := by decide +kernel
theorem dL_law_712 : decode bL_law 712 = .ok (.aload_n 0, 1) := by decide +kernel
theorem dL_law_713 : decode bL_law 713 = .ok (.iload 4, 2) := by decide +kernel
theorem dL_law_715 : decode bL_law 715 = .ok (.iconst 1, 1) := by decide +kernel
theorem dL_law_716 : decode bL_law 716 = .ok (.iadd, 1) := by decide +kernel
theorem dL_law_717 : decode bL_law 717 = .ok (.iaload, 1) := by decide +kernel
theorem dL_law_718 : decode bL_law 718 = .ok (.aload_n 3, 1) := by decide +kernel
theorem dL_law_719 : decode bL_law 719 = .ok (.invokestatic 102, 3) := by decide +kernel
theorem dL_law_722 : decode bL_law 722 = .ok (.istore 5, 2) := by decide +kernel
theorem dL_law_724 : decode bL_law 724 = .ok (.aload_n 2, 1) := by decide +kernel
theorem dL_law_725 : decode bL_law 725 = .ok (.aload_n 0, 1) := by decide +kernel
theorem dL_law_726 : decode bL_law 726 = .ok (.iload 4, 2) := by decide +kernel
theorem dL_law_728 : decode bL_law 728 = .ok (.iconst 1, 1) := by decide +kernel
theorem dL_law_729 : decode bL_law 729 = .ok (.iadd, 1) := by decide +kernel
theorem dL_law_730 : decode bL_law 730 = .ok (.iaload, 1) := by decide +kernel
theorem dL_law_731 : decode bL_law 731 = .ok (.invokevirtual 104, 3) := by decide +kernel
theorem dL_law_734 : decode bL_law 734 = .ok (.istore 6, 2) := by decide +kernel
theorem dL_law_736 : decode bL_law 736 = .ok (.aload_n 2, 1) := by decide +kernel
theorem dL_law_737 : decode bL_law 737 = .ok (.invokevirtual 70, 3) := by decide +kernel
theorem dL_law_740 : decode bL_law 740 = .ok (.iload 5, 2) := by decide +kernel
theorem dL_law_742 : decode bL_law 742 = .ok (.if_icmp .eq 5, 3) := by decide +kernel
theorem dL_law_745 : decode bL_law 745 = .ok (.iconst 0, 1) := by decide +kernel
theorem dL_law_746 : decode bL_law 746 = .ok (.ireturn, 1) := by decide +kernel
theorem dL_law_747 : decode bL_law 747 = .ok (.iload 5, 2) := by decide +kernel
theorem dL_law_749 : decode bL_law 749 = .ok (.ifCond .ne 15, 3) := by decide +kernel
theorem dL_law_752 : decode bL_law 752 = .ok (.aload_n 3, 1) := by decide +kernel
theorem dL_law_753 : decode bL_law 753 = .ok (.iconst 0, 1) := by decide +kernel
theorem dL_law_754 : decode bL_law 754 = .ok (.laload, 1) := by decide +kernel
theorem dL_law_755 : decode bL_law 755 = .ok (.iload 6, 2) := by decide +kernel
theorem dL_law_757 : decode bL_law 757 = .ok (.i2l, 1) := by decide +kernel
theorem dL_law_758 : decode bL_law 758 = .ok (.lcmp, 1) := by decide +kernel
theorem dL_law_759 : decode bL_law 759 = .ok (.ifCond .eq 5, 3) := by decide +kernel
theorem dL_law_762 : decode bL_law 762 = .ok (.iconst 0, 1) := by decide +kernel
theorem dL_law_763 : decode bL_law 763 = .ok (.ireturn, 1) := by decide +kernel
theorem dL_law_764 : decode bL_law 764 = .ok (.goto 207, 3) := by decide +kernel
theorem dL_law_767 : decode bL_law 767 = .ok (.aload_n 1, 1) := by decide +kernel
theorem dL_law_768 : decode bL_law 768 = .ok (.aload_n 0, 1) := by decide +kernel
theorem dL_law_769 : decode bL_law 769 = .ok (.iload 4, 2) := by decide +kernel
theorem dL_law_771 : decode bL_law 771 = .ok (.iconst 1, 1) := by decide +kernel
theorem dL_law_772 : decode bL_law 772 = .ok (.iadd, 1) := by decide +kernel
theorem dL_law_773 : decode bL_law 773 = .ok (.iaload, 1) := by decide +kernel
theorem dL_law_774 : decode bL_law 774 = .ok (.aload_n 0, 1) := by decide +kernel
theorem dL_law_775 : decode bL_law 775 = .ok (.iload 4, 2) := by decide +kernel
theorem dL_law_777 : decode bL_law 777 = .ok (.iconst 2, 1) := by decide +kernel
theorem dL_law_778 : decode bL_law 778 = .ok (.iadd, 1) := by decide +kernel
theorem dL_law_779 : decode bL_law 779 = .ok (.iaload, 1) := by decide +kernel
theorem dL_law_780 : decode bL_law 780 = .ok (.aload_n 0, 1) := by decide +kernel
theorem dL_law_781 : decode bL_law 781 = .ok (.iload 4, 2) := by decide +kernel
theorem dL_law_783 : decode bL_law 783 = .ok (.iconst 3, 1) := by decide +kernel
theorem dL_law_784 : decode bL_law 784 = .ok (.iadd, 1) := by decide +kernel
theorem dL_law_785 : decode bL_law 785 = .ok (.iaload, 1) := by decide +kernel
theorem dL_law_786 : decode bL_law 786 = .ok (.aload_n 3, 1) := by decide +kernel
theorem dL_law_787 : decode bL_law 787 = .ok (.invokestatic 105, 3) := by decide +kernel
theorem dL_law_790 : decode bL_law 790 = .ok (.istore 5, 2) := by decide +kernel
theorem dL_law_792 : decode bL_law 792 = .ok (.aload_n 2, 1) := by decide +kernel
theorem dL_law_793 : decode bL_law 793 = .ok (.aload_n 0, 1) := by decide +kernel
theorem dL_law_794 : decode bL_law 794 = .ok (.iload 4, 2) := by decide +kernel
theorem dL_law_796 : decode bL_law 796 = .ok (.iconst 1, 1) := by decide +kernel
theorem dL_law_797 : decode bL_law 797 = .ok (.iadd, 1) := by decide +kernel
theorem dL_law_798 : decode bL_law 798 = .ok (.iaload, 1) := by decide +kernel
theorem dL_law_799 : decode bL_law 799 = .ok (.aload_n 0, 1) := by decide +kernel
theorem dL_law_800 : decode bL_law 800 = .ok (.iload 4, 2) := by decide +kernel
theorem dL_law_802 : decode bL_law 802 = .ok (.iconst 2, 1) := by decide +kernel
theorem dL_law_803 : decode bL_law 803 = .ok (.iadd, 1) := by decide +kernel
theorem dL_law_804 : decode bL_law 804 = .ok (.iaload, 1) := by decide +kernel
theorem dL_law_805 : decode bL_law 805 = .ok (.aload_n 0, 1) := by decide +kernel
theorem dL_law_806 : decode bL_law 806 = .ok (.iload 4, 2) := by decide +kernel
theorem dL_law_808 : decode bL_law 808 = .ok (.iconst 3, 1) := by decide +kernel
theorem dL_law_809 : decode bL_law 809 = .ok (.iadd, 1) := by decide +kernel
theorem dL_law_810 : decode bL_law 810 = .ok (.iaload, 1) := by decide +kernel
theorem dL_law_811 : decode bL_law 811 = .ok (.invokevirtual 108, 3) := by decide +kernel
theorem dL_law_814 : decode bL_law 814 = .ok (.istore 6, 2) := by decide +kernel
theorem dL_law_816 : decode bL_law 816 = .ok (.aload_n 2, 1) := by decide +kernel
theorem dL_law_817 : decode bL_law 817 = .ok (.invokevirtual 70, 3) := by decide +kernel
theorem dL_law_820 : decode bL_law 820 = .ok (.iload 5, 2) := by decide +kernel
theorem dL_law_822 : decode bL_law 822 = .ok (.if_icmp .eq 5, 3) := by decide +kernel
theorem dL_law_825 : decode bL_law 825 = .ok (.iconst 0, 1) := by decide +kernel
theorem dL_law_826 : decode bL_law 826 = .ok (.ireturn, 1) := by decide +kernel
theorem dL_law_827 : decode bL_law 827 = .ok (.iload 5, 2) := by decide +kernel
theorem dL_law_829 : decode bL_law 829 = .ok (.ifCond .ne 15, 3) := by decide +kernel
theorem dL_law_832 : decode bL_law 832 = .ok (.aload_n 3, 1) := by decide +kernel
theorem dL_law_833 : decode bL_law 833 = .ok (.iconst 0, 1) := by decide +kernel
theorem dL_law_834 : decode bL_law 834 = .ok (.laload, 1) := by decide +kernel
theorem dL_law_835 : decode bL_law 835 = .ok (.iload 6, 2) := by decide +kernel
theorem dL_law_837 : decode bL_law 837 = .ok (.i2l, 1) := by decide +kernel
theorem dL_law_838 : decode bL_law 838 = .ok (.lcmp, 1) := by decide +kernel
theorem dL_law_839 : decode bL_law 839 = .ok (.ifCond .eq 5, 3) := by decide +kernel
theorem dL_law_842 : decode bL_law 842 = .ok (.iconst 0, 1) := by decide +kernel
theorem dL_law_843 : decode bL_law 843 = .ok (.ireturn, 1) := by decide +kernel
theorem dL_law_844 : decode bL_law 844 = .ok (.goto 127, 3) := by decide +kernel
theorem dL_law_847 : decode bL_law 847 = .ok (.aload_n 1, 1) := by decide +kernel
theorem dL_law_848 : decode bL_law 848 = .ok (.aload_n 0, 1) := by decide +kernel
theorem dL_law_849 : decode bL_law 849 = .ok (.iload 4, 2) := by decide +kernel
theorem dL_law_851 : decode bL_law 851 = .ok (.iconst 1, 1) := by decide +kernel
theorem dL_law_852 : decode bL_law 852 = .ok (.iadd, 1) := by decide +kernel
theorem dL_law_853 : decode bL_law 853 = .ok (.iaload, 1) := by decide +kernel
theorem dL_law_854 : decode bL_law 854 = .ok (.aload_n 0, 1) := by decide +kernel
theorem dL_law_855 : decode bL_law 855 = .ok (.iload 4, 2) := by decide +kernel
theorem dL_law_857 : decode bL_law 857 = .ok (.iconst 2, 1) := by decide +kernel
theorem dL_law_858 : decode bL_law 858 = .ok (.iadd, 1) := by decide +kernel
theorem dL_law_859 : decode bL_law 859 = .ok (.iaload, 1) := by decide +kernel
theorem dL_law_860 : decode bL_law 860 = .ok (.aload_n 3, 1) := by decide +kernel
theorem dL_law_861 : decode bL_law 861 = .ok (.invokestatic 109, 3) := by decide +kernel
theorem dL_law_864 : decode bL_law 864 = .ok (.istore 5, 2) := by decide +kernel
theorem dL_law_866 : decode bL_law 866 = .ok (.aload_n 2, 1) := by decide +kernel
theorem dL_law_867 : decode bL_law 867 = .ok (.aload_n 0, 1) := by decide +kernel
theorem dL_law_868 : decode bL_law 868 = .ok (.iload 4, 2) := by decide +kernel
theorem dL_law_870 : decode bL_law 870 = .ok (.iconst 1, 1) := by decide +kernel
theorem dL_law_871 : decode bL_law 871 = .ok (.iadd, 1) := by decide +kernel
theorem dL_law_872 : decode bL_law 872 = .ok (.iaload, 1) := by decide +kernel
theorem dL_law_873 : decode bL_law 873 = .ok (.aload_n 0, 1) := by decide +kernel
theorem dL_law_874 : decode bL_law 874 = .ok (.iload 4, 2) := by decide +kernel
theorem dL_law_876 : decode bL_law 876 = .ok (.iconst 2, 1) := by decide +kernel
theorem dL_law_877 : decode bL_law 877 = .ok (.iadd, 1) := by decide +kernel
theorem dL_law_878 : decode bL_law 878 = .ok (.iaload, 1) := by decide +kernel
theorem dL_law_879 : decode bL_law 879 = .ok (.invokevirtual 111, 3) := by decide +kernel
theorem dL_law_882 : decode bL_law 882 = .ok (.istore 6, 2) := by decide +kernel
theorem dL_law_884 : decode bL_law 884 = .ok (.aload_n 2, 1) := by decide +kernel
theorem dL_law_885 : decode bL_law 885 = .ok (.invokevirtual 70, 3) := by decide +kernel
theorem dL_law_888 : decode bL_law 888 = .ok (.iload 5, 2) := by decide +kernel
theorem dL_law_890 : decode bL_law 890 = .ok (.if_icmp .eq 5, 3) := by decide +kernel
theorem dL_law_893 : decode bL_law 893 = .ok (.iconst 0, 1) := by decide +kernel
theorem dL_law_894 : decode bL_law 894 = .ok (.ireturn, 1) := by decide +kernel
theorem dL_law_895 : decode bL_law 895 = .ok (.iload 5, 2) := by decide +kernel
theorem dL_law_897 : decode bL_law 897 = .ok (.ifCond .ne 15, 3) := by decide +kernel
theorem dL_law_900 : decode bL_law 900 = .ok (.aload_n 3, 1) := by decide +kernel
theorem dL_law_901 : decode bL_law 901 = .ok (.iconst 0, 1) := by decide +kernel
theorem dL_law_902 : decode bL_law 902 = .ok (.laload, 1) := by decide +kernel
theorem dL_law_903 : decode bL_law 903 = .ok (.iload 6, 2) := by decide +kernel
theorem dL_law_905 : decode bL_law 905 = .ok (.i2l, 1) := by decide +kernel
theorem dL_law_906 : decode bL_law 906 = .ok (.lcmp, 1) := by decide +kernel
theorem dL_law_907 : decode bL_law 907 = .ok (.ifCond .eq 5, 3) := by decide +kernel
theorem dL_law_910 : decode bL_law 910 = .ok (.iconst 0, 1) := by decide +kernel
theorem dL_law_911 : decode bL_law 911 = .ok (.ireturn, 1) := by decide +kernel
theorem dL_law_912 : decode bL_law 912 = .ok (.goto 59, 3) := by decide +kernel
theorem dL_law_915 : decode bL_law 915 = .ok (.aload_n 1, 1) := by decide +kernel
theorem dL_law_916 : decode bL_law 916 = .ok (.aload_n 0, 1) := by decide +kernel
theorem dL_law_917 : decode bL_law 917 = .ok (.iload 4, 2) := by decide +kernel
theorem dL_law_919 : decode bL_law 919 = .ok (.iconst 1, 1) := by decide +kernel
theorem dL_law_920 : decode bL_law 920 = .ok (.iadd, 1) := by decide +kernel
theorem dL_law_921 : decode bL_law 921 = .ok (.iaload, 1) := by decide +kernel
theorem dL_law_922 : decode bL_law 922 = .ok (.aload_n 3, 1) := by decide +kernel
theorem dL_law_923 : decode bL_law 923 = .ok (.invokestatic 112, 3) := by decide +kernel
theorem dL_law_926 : decode bL_law 926 = .ok (.istore 5, 2) := by decide +kernel
theorem dL_law_928 : decode bL_law 928 = .ok (.aload_n 2, 1) := by decide +kernel
theorem dL_law_929 : decode bL_law 929 = .ok (.aload_n 0, 1) := by decide +kernel
theorem dL_law_930 : decode bL_law 930 = .ok (.iload 4, 2) := by decide +kernel
theorem dL_law_932 : decode bL_law 932 = .ok (.iconst 1, 1) := by decide +kernel
theorem dL_law_933 : decode bL_law 933 = .ok (.iadd, 1) := by decide +kernel
theorem dL_law_934 : decode bL_law 934 = .ok (.iaload, 1) := by decide +kernel
theorem dL_law_935 : decode bL_law 935 = .ok (.invokevirtual 114, 3) := by decide +kernel
theorem dL_law_938 : decode bL_law 938 = .ok (.istore 6, 2) := by decide +kernel
theorem dL_law_940 : decode bL_law 940 = .ok (.aload_n 2, 1) := by decide +kernel
theorem dL_law_941 : decode bL_law 941 = .ok (.invokevirtual 70, 3) := by decide +kernel
theorem dL_law_944 : decode bL_law 944 = .ok (.iload 5, 2) := by decide +kernel
theorem dL_law_946 : decode bL_law 946 = .ok (.if_icmp .eq 5, 3) := by decide +kernel
theorem dL_law_949 : decode bL_law 949 = .ok (.iconst 0, 1) := by decide +kernel
theorem dL_law_950 : decode bL_law 950 = .ok (.ireturn, 1) := by decide +kernel
theorem dL_law_951 : decode bL_law 951 = .ok (.iload 5, 2) := by decide +kernel
theorem dL_law_953 : decode bL_law 953 = .ok (.ifCond .ne 15, 3) := by decide +kernel
theorem dL_law_956 : decode bL_law 956 = .ok (.aload_n 3, 1) := by decide +kernel
theorem dL_law_957 : decode bL_law 957 = .ok (.iconst 0, 1) := by decide +kernel
theorem dL_law_958 : decode bL_law 958 = .ok (.laload, 1) := by decide +kernel
theorem dL_law_959 : decode bL_law 959 = .ok (.iload 6, 2) := by decide +kernel
theorem dL_law_961 : decode bL_law 961 = .ok (.i2l, 1) := by decide +kernel
theorem dL_law_962 : decode bL_law 962 = .ok (.lcmp, 1) := by decide +kernel
theorem dL_law_963 : decode bL_law 963 = .ok (.ifCond .eq 5, 3) := by decide +kernel
theorem dL_law_966 : decode bL_law 966 = .ok (.iconst 0, 1) := by decide +kernel
theorem dL_law_967 : decode bL_law 967 = .ok (.ireturn, 1) := by decide +kernel
theorem dL_law_968 : decode bL_law 968 = .ok (.goto 3, 3) := by decide +kernel
theorem dL_law_971 : decode bL_law 971 = .ok (.iinc 4 5, 3) := by decide +kernel
theorem dL_law_974 : decode bL_law 974 = .ok (.goto (-931), 3) := by decide +kernel
theorem dL_law_977 : decode bL_law 977 = .ok (.iconst 1, 1) := by decide +kernel
theorem dL_law_978 : decode bL_law 978 = .ok (.ireturn, 1) := by decide +kernel
end
section


def xw (D : va_G) (cl : List vw_C) (ws : va_W) (tys : List (ClassId × FieldType)) (U : State) : Prop := va_P D cl ws U.heap ∧ va_K D cl tys U
theorem xw_blind {D : va_G} {cl : List vw_C} {ws : va_W} {tys : List (ClassId × FieldType)} {av : List Value} : FrameBlind (va_Pc av (xw D cl ws tys)) := fun a U g mk q => by
  obtain ⟨q0, qP, qK⟩ := q
  exact ⟨q0, qP, va_K.moved (u := U) (U := U.calling g mk a) (Vm.Alike.refl U.vm) qK⟩

def xr_Q (post : Int32 → Prop) : Array Value → State → Outcome → State → Prop := fun _ st oc t => (∃ r : Int32, oc = .returned (some (.int r)) ∧ post r) ∧ t.heap = st.heap
def xr_Qv : Array Value → State → Outcome → State → Prop := fun _ st oc t => oc = .returned none ∧ t.heap = st.heap
section XR
variable {p : Program} {l : Launch} {e : Env} {R : Room} {s : State} {m : MethodId} {args : Array Value} {below : List Frame} {meth : Method} {c : Code} {H : Heap} {locs : List Loc} {cells slots : Nat} {Q : State → Prop}
variable {cc : ByteArray} {pc : Nat} {ls : Array Slot} {rest st0 : List Value} {a : Array Value}
theorem xr_go {post : Int32 → Prop} (hr : va_Run p l e R s m args below meth c H locs cells slots 0 0 (F0 m pc ls st0) rest (xr_Q post a) (fun _ => False))
    (kk : ∀ r : Int32, post r → W p l e R s m args below meth c H locs cells slots Q (F0 m (pc + 3) ls (.int r :: rest))) : W p l e R s m args below meth c H locs cells slots Q (F0 m pc ls st0) := by
  intro T hT X
  obtain ⟨v, st₀, t, T', L, h0, X', hL, e1, e2, ⟨⟨r, hv, hp⟩, hh⟩, go⟩ := hr T hT X
  have hL0 : L = [] := by
    cases L with
    | nil => rfl
    | cons q L => exact absurd (hL q List.mem_cons_self) (fun x => x)
  subst hL0
  cases hv
  rw [List.append_nil] at X'
  obtain ⟨t2, a1, b1⟩ := kk r hp T' (by rw [e1, hh, h0]) X'
  exact ⟨t2, go t2 a1, b1⟩
theorem xr_gov (hr : va_Run p l e R s m args below meth c H locs cells slots 0 0 (F0 m pc ls st0) rest (xr_Qv a) (fun _ => False))
    (kk : W p l e R s m args below meth c H locs cells slots Q (F0 m (pc + 3) ls rest)) : W p l e R s m args below meth c H locs cells slots Q (F0 m pc ls st0) := by
  intro T hT X
  obtain ⟨v, st₀, t, T', L, h0, X', hL, e1, e2, ⟨hv, hh⟩, go⟩ := hr T hT X
  have hL0 : L = [] := by
    cases L with
    | nil => rfl
    | cons q L => exact absurd (hL q List.mem_cons_self) (fun x => x)
  subst hL0
  cases hv
  rw [List.append_nil] at X'
  obtain ⟨t2, a1, b1⟩ := kk T' (by rw [e1, hh, h0]) X'
  exact ⟨t2, go t2 a1, b1⟩
end XR
section XA
variable {p : Program} {l : Launch} {e : Env} {R : Room} {s : State} {m : MethodId} {args : Array Value} {below : List Frame} {meth : Method} {c : Code} {H : Heap} {locs : List Loc} {cells slots : Nat} {Q : State → Prop}
variable {cc : ByteArray} {pc : Nat} {ls : Array Slot} {rest : List Value} {D : va_G} {cl : List vw_C} {A : Nat → Prop} {a : Nat} {tys : List (ClassId × FieldType)} {ws : va_W} {H0 : Heap}
theorem xa_iald (hexec : p.tables.exec = Jvm.exec) (hb : c.code = cc) (hK : va_K D cl tys s) (hP : va_P D cl ws H) (q0 t0 : Nat) {cA : ClassId} {n : Nat} {f : Nat → Int32} (ha : ws[q0]? = some (a, .inl (cA, n, .inl f))) (ht : tys[t0]? = some (cA, .int)) {i : Nat} (hi : i < n) (hn : n < 2 ^ 31) (hdg : decode cc pc = .ok (.iaload, 1))
    (kk : W p l e R s m args below meth c H locs cells slots Q (F0 m (pc + 1) ls (.int (f i) :: rest))) : W p l e R s m args below meth c H locs cells slots Q (F0 m pc ls (.int (nI i) :: .ref a :: rest)) :=
  va_iald hexec hb hK hP q0 t0 ha ht (vp_in_nI hi hn) hdg (by rw [nI_clamp (by omega)]; exact kk)
theorem xa_zald (hexec : p.tables.exec = Jvm.exec) (hb : c.code = cc) (hK : va_K D cl tys s) (hP : va_P D cl ws H) (q0 t0 : Nat) {cA : ClassId} {n : Nat} {f : Nat → Int32} (ha : ws[q0]? = some (a, .inl (cA, n, .inl f))) (ht : tys[t0]? = some (cA, .boolean)) {i : Nat} (hi : i < n) (hn : n < 2 ^ 31) (hdg : decode cc pc = .ok (.baload, 1))
    (kk : W p l e R s m args below meth c H locs cells slots Q (F0 m (pc + 1) ls (.int (f i) :: rest))) : W p l e R s m args below meth c H locs cells slots Q (F0 m pc ls (.int (nI i) :: .ref a :: rest)) :=
  va_zald hexec hb hK hP q0 t0 ha ht (vp_in_nI hi hn) hdg (by rw [nI_clamp (by omega)]; exact kk)
theorem xa_iast (hexec : p.tables.exec = Jvm.exec) (hb : c.code = cc) (hK : va_K D cl tys s) (hP : va_P D cl ws H) (hD : va_D A ws) (hS : va_S A H0 H locs) (q0 t0 : Nat) {cA : ClassId} {n : Nat} {f : Nat → Int32} (ha : ws[q0]? = some (a, .inl (cA, n, .inl f))) (ht : tys[t0]? = some (cA, .int)) {i : Nat} {x : Int32} (hi : i < n) (hn : n < 2 ^ 31) (hdg : decode cc pc = .ok (.iastore, 1))
    (kk : ∀ (H1 : Heap) (locs1 : List Loc), va_P D cl (ws.set q0 (a, .inl (cA, n, .inl (upd f i x)))) H1 → va_D A (ws.set q0 (a, .inl (cA, n, .inl (upd f i x)))) → va_S A H0 H1 locs1 → W p l e R s m args below meth c H1 locs1 cells slots Q (F0 m (pc + 1) ls rest)) : W p l e R s m args below meth c H locs cells slots Q (F0 m pc ls (.int x :: .int (nI i) :: .ref a :: rest)) :=
  va_iast hexec hb hK hP hD hS q0 t0 ha ht (vp_in_nI hi hn) hdg (by rw [nI_clamp (by omega)]; exact kk)
theorem xa_zast (hexec : p.tables.exec = Jvm.exec) (hb : c.code = cc) (hK : va_K D cl tys s) (hP : va_P D cl ws H) (hD : va_D A ws) (hS : va_S A H0 H locs) (q0 t0 : Nat) {cA : ClassId} {n : Nat} {f : Nat → Int32} (ha : ws[q0]? = some (a, .inl (cA, n, .inl f))) (ht : tys[t0]? = some (cA, .boolean)) {i : Nat} {x : Int32} (hx : x = 0 ∨ x = 1) (hi : i < n) (hn : n < 2 ^ 31) (hdg : decode cc pc = .ok (.bastore, 1))
    (kk : ∀ (H1 : Heap) (locs1 : List Loc), va_P D cl (ws.set q0 (a, .inl (cA, n, .inl (upd f i x)))) H1 → va_D A (ws.set q0 (a, .inl (cA, n, .inl (upd f i x)))) → va_S A H0 H1 locs1 → W p l e R s m args below meth c H1 locs1 cells slots Q (F0 m (pc + 1) ls rest)) : W p l e R s m args below meth c H locs cells slots Q (F0 m pc ls (.int x :: .int (nI i) :: .ref a :: rest)) :=
  va_zast hexec hb hK hP hD hS q0 t0 ha ht (vp_in_nI hi hn) hdg (by
    have e1 : vp_nar .boolean x = x := by rcases hx with rfl | rfl <;> decide
    rw [nI_clamp (by omega), e1]; exact kk)
end XA
theorem xw_at {D : va_G} {cl : List vw_C} {ws : va_W} {tys : List (ClassId × FieldType)} {s : State} {H : Heap} (hK : va_K D cl tys s) (hP : va_P D cl ws H) : ∀ U : State, U.heap = H → s.WarmedH U.vm → xw D cl ws tys U := fun U hU hW => ⟨by rw [hU]; exact hP, va_K.moved hW.alike hK⟩

def xm (D : va_G) (cl : List vw_C) (ws : va_W) (tys : List (ClassId × FieldType)) (sz : Nat) (U : State) : Prop := U.heap.size = sz ∧ va_P D cl ws U.heap ∧ va_K D cl tys U ∧ va_D (fun _ => True) ws

def xo (D : va_G) (cl : List vw_C) (ws : va_W) (tys : List (ClassId × FieldType)) (A : Nat → Prop) (t : State) : Prop := va_P D cl ws t.heap ∧ va_K D cl tys t ∧ va_D A ws
theorem xm_blind {D : va_G} {cl : List vw_C} {ws : va_W} {tys : List (ClassId × FieldType)} {sz : Nat} {av : List Value} : FrameBlind (va_Pc av (xm D cl ws tys sz)) := fun a U g mk q => by
  obtain ⟨q0, q1, qP, qK, qD⟩ := q
  exact ⟨q0, q1, qP, va_K.moved (u := U) (U := U.calling g mk a) (Vm.Alike.refl U.vm) qK, qD⟩
section XC
variable {p : Program} {l : Launch} {e : Env} {R : Room} {s : State} {m : MethodId} {args : Array Value} {below : List Frame} {meth : Method} {c : Code} {H : Heap} {locs : List Loc} {cells slots : Nat} {Q : State → Prop}
variable {cc : ByteArray} {pc : Nat} {ls : Array Slot} {rest st0 : List Value} {D : va_G} {cl : List vw_C} {tys tc : List (ClassId × FieldType)} {wl wc : va_W}
variable {y : MethodName} {bytes : ByteArray} {maxL nL n index : Nat} {ret : Option FieldType} {ws : List Cond} {rm : Room} {Ts : List Cond} {own C : String} {b : Addr} {As : List Value}
theorem xr_V {post : Int32 → Prop} (S : CallFix p m c cc nL s args Ts own) (hM : Met l y ws rm (va_Pc (.ref b :: As) (xw D cl wc tc)) (xr_Q post) 0 0 (fun _ => False)) (cw : CallW R s args own C index y bytes maxL ret ws rm 0 0 n)
    (hK : va_K D cl tys s) (hP : va_P D cl wl H) (iw it : List Nat) (hiw : iw.filterMap (fun i => wl[i]?) = wc) (hit : it.filterMap (fun i => tys[i]?) = tc) (ci q0 : Nat) {q : vw_C} {fs : List Value} (hc : cl[ci]? = some q) (he : wl[q0]? = some (b, .inr (ci, fs))) (hq : q.1 = C)
    (hn : As.length = n) (hsize : ls.size = nL) (hstack : st0 = As.reverse ++ .ref b :: rest) (hW : (rest.map fun v => v.category).sum ≤ 8) (hdg : decode cc pc = .ok (.invokevirtual index, 3)) (hf : cells ≤ R.cells ∧ slots ≤ R.slots)
    (kk : ∀ r : Int32, post r → W p l e R s m args below meth c H locs cells slots Q (F0 m (pc + 3) ls (.int r :: rest))) : W p l e R s m args below meth c H locs cells slots Q (F0 m pc ls st0) :=
  xr_go (va_runV (As := As) (rest := rest) S hM cw ⟨xw_blind, by rw [← hq]; exact va_recv hK hP hc he, fun U hU hW => ⟨rfl, xw_at (hK.sub it hit) (hP.sub iw hiw) U hU hW⟩⟩ rfl hn hsize hstack (lv_room hW) hdg hf) kk
theorem xr_Vv (S : CallFix p m c cc nL s args Ts own) (hM : Met l y ws rm (va_Pc (.ref b :: As) (xw D cl wc tc)) xr_Qv 0 0 (fun _ => False)) (cw : CallW R s args own C index y bytes maxL ret ws rm 0 0 n)
    (hK : va_K D cl tys s) (hP : va_P D cl wl H) (iw it : List Nat) (hiw : iw.filterMap (fun i => wl[i]?) = wc) (hit : it.filterMap (fun i => tys[i]?) = tc) (ci q0 : Nat) {q : vw_C} {fs : List Value} (hc : cl[ci]? = some q) (he : wl[q0]? = some (b, .inr (ci, fs))) (hq : q.1 = C)
    (hn : As.length = n) (hsize : ls.size = nL) (hstack : st0 = As.reverse ++ .ref b :: rest) (hW : (rest.map fun v => v.category).sum ≤ 8) (hdg : decode cc pc = .ok (.invokevirtual index, 3)) (hf : cells ≤ R.cells ∧ slots ≤ R.slots)
    (kk : W p l e R s m args below meth c H locs cells slots Q (F0 m (pc + 3) ls rest)) : W p l e R s m args below meth c H locs cells slots Q (F0 m pc ls st0) :=
  xr_gov (va_runV (As := As) (rest := rest) S hM cw ⟨xw_blind, by rw [← hq]; exact va_recv hK hP hc he, fun U hU hW => ⟨rfl, xw_at (hK.sub it hit) (hP.sub iw hiw) U hU hW⟩⟩ rfl hn hsize hstack (lv_room hW) hdg hf) kk
theorem xr_S {post : Int32 → Prop} (S : CallFix p m c cc nL s args Ts own) (hM : Met l y ws rm (va_Pc As (xw D cl wc tc)) (xr_Q post) 0 0 (fun _ => False)) (cw : CallB R s args own index y bytes maxL ret ws rm 0 0 n ∧ (Cond.static y).before args s = true)
    (hK : va_K D cl tys s) (hP : va_P D cl wl H) (iw it : List Nat) (hiw : iw.filterMap (fun i => wl[i]?) = wc) (hit : it.filterMap (fun i => tys[i]?) = tc)
    (hn : As.length = n) (hsize : ls.size = nL) (hstack : st0 = As.reverse ++ rest) (hW : (rest.map fun v => v.category).sum ≤ 8) (hdg : decode cc pc = .ok (.invokestatic index, 3)) (hf : cells ≤ R.cells ∧ slots ≤ R.slots)
    (kk : ∀ r : Int32, post r → W p l e R s m args below meth c H locs cells slots Q (F0 m (pc + 3) ls (.int r :: rest))) : W p l e R s m args below meth c H locs cells slots Q (F0 m pc ls st0) :=
  xr_go (va_runS (As := As) (rest := rest) S hM cw ⟨xw_blind, fun U hU hW => ⟨rfl, xw_at (hK.sub it hit) (hP.sub iw hiw) U hU hW⟩⟩ rfl hn hsize hstack (lv_room hW) hdg hf) kk
theorem xm_at {sz : Nat} {A0 : Nat → Prop} (hK : va_K D cl tc s) (hP : va_P D cl wc H) (hD : va_D A0 wc) (hz : H.size = sz) : ∀ U : State, U.heap = H → s.WarmedH U.vm → xm D cl wc tc sz U := fun U hU hW => ⟨by rw [hU]; exact hz, by rw [hU]; exact hP, va_K.moved hW.alike hK, hD.weaken (fun _ _ _ _ => trivial)⟩
theorem xm_iw {iw : List Nat} (h : iw.map (fun i => wl[i]?) = wc.map some) : iw.filterMap (fun i => wl[i]?) = wc := by
  have e1 : iw.filterMap (fun i => wl[i]?) = (iw.map (fun i => wl[i]?)).filterMap id := by rw [List.filterMap_map]; rfl
  rw [e1, h, List.filterMap_map]
  have e2 : (id ∘ (some : (Nat × va_E) → Option (Nat × va_E))) = some := rfl
  rw [e2, List.filterMap_some]

theorem xm_Vv {S : Type} {post : S → Prop} {w1 wz : S → va_W} {wr : va_W} {A0 : Nat → Prop} {H0 : Heap} (Sx : CallFix p m c cc nL s args Ts own) (hM : Met l y ws rm (va_Pc (.ref b :: As) (xm D cl wc tc H.size)) (va_Qv post (fun u => xo D cl (w1 u) tc (va_A wc H.size)) (va_A wc H.size)) 0 0 (va_A wc H.size)) (cw : CallW R s args own C index y bytes maxL ret ws rm 0 0 n)
    (hK : va_K D cl tys s) (hP : va_P D cl wl H) (hD : va_D A0 wl) (hS : va_S A0 H0 H locs) (hA : ∀ q, H0.size ≤ q → A0 q) (iw ir od it : List Nat) (hiw : iw.map (fun i => wl[i]?) = wc.map some) (hir : ir.map (fun i => wl[i]?) = wr.map some) (hod : ∀ u, od.map (fun i => (wr ++ w1 u)[i]?) = (wz u).map some) (hn1 : va_nd iw = true) (hn2 : va_nd ir = true) (hn3 : va_nd od = true) (hdis : ∀ i ∈ ir, i ∉ iw)
    (hit : it.filterMap (fun i => tys[i]?) = tc) (ci q0 : Nat) {q : vw_C} {fs : List Value} (hc : cl[ci]? = some q) (he : wl[q0]? = some (b, .inr (ci, fs))) (hq : q.1 = C)
    (hn : As.length = n) (hsize : ls.size = nL) (hstack : st0 = As.reverse ++ .ref b :: rest) (hW : (rest.map fun v => v.category).sum ≤ 8) (hdg : decode cc pc = .ok (.invokevirtual index, 3)) (hf : cells ≤ R.cells ∧ slots ≤ R.slots)
    (kk : ∀ (u : S) (H1 : Heap) (locs1 : List Loc), post u → va_P D cl (wz u) H1 → va_D A0 (wz u) → va_S A0 H0 H1 locs1 → W p l e R s m args below meth c H1 locs1 cells slots Q (F0 m (pc + 3) ls rest)) : W p l e R s m args below meth c H locs cells slots Q (F0 m pc ls st0) := by
  have hPc := hP.sub iw (xm_iw hiw)
  have hDc := hD.sub iw hn1 hiw
  have hKc := hK.sub it hit
  have hFc := va_free (wc := wc) hD hS hA iw hiw
  refine va_callv (va_runV (As := As) (rest := rest) Sx hM cw ⟨xm_blind, by rw [← hq]; exact va_recv hK hP hc he, fun U hU hW => ⟨rfl, xm_at hKc hPc hDc rfl U hU hW⟩⟩ rfl hn hsize hstack (lv_room hW) hdg hf) hS (fun q _ h => hFc q h) hFc (fun u t H1 locs ht hvm hw hB hz1 hk1 hS => ?_)
  obtain ⟨hP1, hK1, hD1⟩ := hB
  rw [ht] at hP1
  obtain ⟨hP, hD⟩ := va_join (wr := wr) (w1 := w1 u) hP hD iw ir hiw hir hn2 hdis hk1 hFc hP1 hD1
  exact kk u H1 locs hw (hP.sub od (xm_iw (hod u))) (hD.sub od hn3 (hod u)) hS
theorem xm_Vi {S : Type} {post : Int32 → S → Prop} {w1 wz : S → va_W} {wr : va_W} {A0 : Nat → Prop} {H0 : Heap} (Sx : CallFix p m c cc nL s args Ts own) (hM : Met l y ws rm (va_Pc (.ref b :: As) (xm D cl wc tc H.size)) (va_Qi post (fun u => xo D cl (w1 u) tc (va_A wc H.size)) (va_A wc H.size)) 0 0 (va_A wc H.size)) (cw : CallW R s args own C index y bytes maxL ret ws rm 0 0 n)
    (hK : va_K D cl tys s) (hP : va_P D cl wl H) (hD : va_D A0 wl) (hS : va_S A0 H0 H locs) (hA : ∀ q, H0.size ≤ q → A0 q) (iw ir od it : List Nat) (hiw : iw.map (fun i => wl[i]?) = wc.map some) (hir : ir.map (fun i => wl[i]?) = wr.map some) (hod : ∀ u, od.map (fun i => (wr ++ w1 u)[i]?) = (wz u).map some) (hn1 : va_nd iw = true) (hn2 : va_nd ir = true) (hn3 : va_nd od = true) (hdis : ∀ i ∈ ir, i ∉ iw)
    (hit : it.filterMap (fun i => tys[i]?) = tc) (ci q0 : Nat) {q : vw_C} {fs : List Value} (hc : cl[ci]? = some q) (he : wl[q0]? = some (b, .inr (ci, fs))) (hq : q.1 = C)
    (hn : As.length = n) (hsize : ls.size = nL) (hstack : st0 = As.reverse ++ .ref b :: rest) (hW : (rest.map fun v => v.category).sum ≤ 8) (hdg : decode cc pc = .ok (.invokevirtual index, 3)) (hf : cells ≤ R.cells ∧ slots ≤ R.slots)
    (kk : ∀ (r : Int32) (u : S) (H1 : Heap) (locs1 : List Loc), post r u → va_P D cl (wz u) H1 → va_D A0 (wz u) → va_S A0 H0 H1 locs1 → W p l e R s m args below meth c H1 locs1 cells slots Q (F0 m (pc + 3) ls (.int r :: rest))) : W p l e R s m args below meth c H locs cells slots Q (F0 m pc ls st0) := by
  have hPc := hP.sub iw (xm_iw hiw)
  have hDc := hD.sub iw hn1 hiw
  have hKc := hK.sub it hit
  have hFc := va_free (wc := wc) hD hS hA iw hiw
  refine va_calli (va_runV (As := As) (rest := rest) Sx hM cw ⟨xm_blind, by rw [← hq]; exact va_recv hK hP hc he, fun U hU hW => ⟨rfl, xm_at hKc hPc hDc rfl U hU hW⟩⟩ rfl hn hsize hstack (lv_room hW) hdg hf) hS (fun q _ h => hFc q h) hFc (fun r u t H1 locs ht hvm hw hB hz1 hk1 hS => ?_)
  obtain ⟨hP1, hK1, hD1⟩ := hB
  rw [ht] at hP1
  obtain ⟨hP, hD⟩ := va_join (wr := wr) (w1 := w1 u) hP hD iw ir hiw hir hn2 hdis hk1 hFc hP1 hD1
  exact kk r u H1 locs hw (hP.sub od (xm_iw (hod u))) (hD.sub od hn3 (hod u)) hS
theorem xm_Sv {S : Type} {post : S → Prop} {w1 wz : S → va_W} {wr : va_W} {A0 : Nat → Prop} {H0 : Heap} (Sx : CallFix p m c cc nL s args Ts own) (hM : Met l y ws rm (va_Pc As (xm D cl wc tc H.size)) (va_Qv post (fun u => xo D cl (w1 u) tc (va_A wc H.size)) (va_A wc H.size)) 0 0 (va_A wc H.size)) (cw : CallB R s args own index y bytes maxL ret ws rm 0 0 n ∧ (Cond.static y).before args s = true)
    (hK : va_K D cl tys s) (hP : va_P D cl wl H) (hD : va_D A0 wl) (hS : va_S A0 H0 H locs) (hA : ∀ q, H0.size ≤ q → A0 q) (iw ir od it : List Nat) (hiw : iw.map (fun i => wl[i]?) = wc.map some) (hir : ir.map (fun i => wl[i]?) = wr.map some) (hod : ∀ u, od.map (fun i => (wr ++ w1 u)[i]?) = (wz u).map some) (hn1 : va_nd iw = true) (hn2 : va_nd ir = true) (hn3 : va_nd od = true) (hdis : ∀ i ∈ ir, i ∉ iw)
    (hit : it.filterMap (fun i => tys[i]?) = tc)
    (hn : As.length = n) (hsize : ls.size = nL) (hstack : st0 = As.reverse ++ rest) (hW : (rest.map fun v => v.category).sum ≤ 8) (hdg : decode cc pc = .ok (.invokestatic index, 3)) (hf : cells ≤ R.cells ∧ slots ≤ R.slots)
    (kk : ∀ (u : S) (H1 : Heap) (locs1 : List Loc), post u → va_P D cl (wz u) H1 → va_D A0 (wz u) → va_S A0 H0 H1 locs1 → W p l e R s m args below meth c H1 locs1 cells slots Q (F0 m (pc + 3) ls rest)) : W p l e R s m args below meth c H locs cells slots Q (F0 m pc ls st0) := by
  have hPc := hP.sub iw (xm_iw hiw)
  have hDc := hD.sub iw hn1 hiw
  have hKc := hK.sub it hit
  have hFc := va_free (wc := wc) hD hS hA iw hiw
  refine va_callv (va_runS (As := As) (rest := rest) Sx hM cw ⟨xm_blind, fun U hU hW => ⟨rfl, xm_at hKc hPc hDc rfl U hU hW⟩⟩ rfl hn hsize hstack (lv_room hW) hdg hf) hS (fun q _ h => hFc q h) hFc (fun u t H1 locs ht hvm hw hB hz1 hk1 hS => ?_)
  obtain ⟨hP1, hK1, hD1⟩ := hB
  rw [ht] at hP1
  obtain ⟨hP, hD⟩ := va_join (wr := wr) (w1 := w1 u) hP hD iw ir hiw hir hn2 hdis hk1 hFc hP1 hD1
  exact kk u H1 locs hw (hP.sub od (xm_iw (hod u))) (hD.sub od hn3 (hod u)) hS
end XC
end
section
def bz (b : Bool) : Int32 := if b then 1 else 0
theorem bz_0 {b : Bool} (h : bz b = 0) : b = false := by cases b with
  | false => rfl
  | true => exact absurd h (by decide)
theorem bz_1 {b : Bool} (h : ¬ bz b = 0) : b = true := by cases b with
  | false => exact absurd rfl h
  | true => rfl
def sn_hold (x y : Int32) : Bool := decide (¬ (x >>> (y &&& 31)) &&& 1 = 0)
def sn_in (W H : Nat) (x y : Int32) : Bool := !decide (x < 0) && (!decide (nI W ≤ x) && (!decide (y < 0) && !decide (nI H ≤ y)))
def sn_wall (W H : Nat) (f : Nat → Int32) (x y : Int32) : Bool := !sn_in W H x y || decide (¬ f (y * 16 + x).toNatClampNeg = 0)
def sn_near (rs x y u v : Int32) : Bool := !decide (rs < (x - u) * (x - u) + (y - v) * (y - v))
def sn_all (P : Nat) : Int32 := 1 <<< (nI P &&& 31) - 1
def sn_dry (fw fr : Nat → Int32) (st : Int32) (i : Nat) : Bool := decide (fw i = 0) && decide (fr i &&& st = 0)
theorem sn_in_spec {W H : Nat} {x y : Int32} (hW : W ≤ 16) (hH : H ≤ 16) (h : sn_in W H x y = true) : ∃ a b : Nat, a < W ∧ b < H ∧ x = nI a ∧ y = nI b := by
  simp [sn_in] at h
  obtain ⟨h1, h2, h3, h4⟩ := h
  rcases pk_ix x (n := W) (by omega) with q | q | ⟨a, ha, ea⟩
  · exact absurd (Int32.not_lt.mpr h1 q) id
  · exact absurd (Int32.not_le.mpr h2 q) id
  rcases pk_ix y (n := H) (by omega) with q | q | ⟨b, hb, eb⟩
  · exact absurd (Int32.not_lt.mpr h3 q) id
  · exact absurd (Int32.not_le.mpr h4 q) id
  exact ⟨a, b, ha, hb, ea, eb⟩
theorem sn_cell (a b : Nat) : nI b * 16 + nI a = nI (b * 16 + a) := by
  rw [show (16 : Int32) = nI 16 from rfl, pk_mul, nI_add]
theorem sn_ix {W H : Nat} {x y : Int32} (hW : W ≤ 16) (hH : H ≤ 16) (h : sn_in W H x y = true) : vp_in (y * 16 + x) 256 := by
  obtain ⟨a, b, ha, hb, rfl, rfl⟩ := sn_in_spec hW hH h
  rw [sn_cell]
  exact vp_in_nI (by omega) (by decide)
set_option maxHeartbeats 4000000 in
set_option maxRecDepth 100000 in
theorem cN_cellAt (l : Launch) (dC : Nat → ClassId) (dI : Nat → Nat → Nat) (x y : Int32)  : Met l yN_cellAt (kN_cellAt :: WD) { frames := 0, cells := 0, slots := 0, locals := 0 } (va_Pc [.int x, .int y] (xw (dC, dI) snC [] [])) (xr_Q (fun r => r = y * 16 + x)) 0 0 (fun _ => False) := by
  refine Met.ofW (cc := bN_cellAt) (maxL := 2) (ret := (some .int)) (by decide) rfl ?_
  intro p e s m args below meth c s₁ B hml hv
  obtain ⟨rfl, hP, hK⟩ := hv
  have hx := B.exec
  have hb := B.bytes
  have hr := B.returns
  have hts : ∀ w ∈ WD, w.before _ s = true := fun w h => atoms_spec (ws := kN_cellAt :: WD) B.pre w (List.mem_cons_of_mem _ h)
  have hown : s.vm.findClass R_N = some m.cls := findClass_of_methodNamed B.named
  have hlocks := B.notSynchronized
  have hl := lv_entry ([.int x, .int y]) (n := 2) (Nat.le_of_ble_eq_true rfl)
  rw [lg_entry_eq]
  generalize (lg_sl ([.int x, .int y]) ++ List.replicate (2 - (lg_sl ([.int x, .int y])).length) Slot.unset).toArray = ls at hl ⊢
  have hl : lv_has ls 2 [(0, .int x), (1, .int y)] := hl
  refine lv_iload_n hx hb dN_cellAt_0 rfl (lv_at hl 1 rfl) ?_
  refine lv_bipush (v := 16) hx hb dN_cellAt_1 (by decide) ?_
  refine lv_imul hx hb dN_cellAt_3 ?_
  refine lv_iload_n hx hb dN_cellAt_4 rfl (lv_at hl 0 rfl) ?_
  refine lv_iadd hx hb dN_cellAt_5 ?_
  exact W.iret (v := (y * 16) + x) hx hb hr (fun t ht hW => ⟨⟨(y * 16) + x, rfl, rfl⟩, ht⟩) (fun _ h => absurd h List.not_mem_nil) dN_cellAt_6
set_option maxHeartbeats 4000000 in
set_option maxRecDepth 100000 in
theorem cN_holds (l : Launch) (dC : Nat → ClassId) (dI : Nat → Nat → Nat) (x y : Int32)  : Met l yN_holds (kN_holds :: WD) { frames := 0, cells := 0, slots := 0, locals := 0 } (va_Pc [.int x, .int y] (xw (dC, dI) snC [] [])) (xr_Q (fun r => r = bz (sn_hold x y))) 0 0 (fun _ => False) := by
  refine Met.ofW (cc := bN_holds) (maxL := 2) (ret := (some .boolean)) (by decide) rfl ?_
  intro p e s m args below meth c s₁ B hml hv
  obtain ⟨rfl, hP, hK⟩ := hv
  have hx := B.exec
  have hb := B.bytes
  have hr := B.returns
  have hts : ∀ w ∈ WD, w.before _ s = true := fun w h => atoms_spec (ws := kN_holds :: WD) B.pre w (List.mem_cons_of_mem _ h)
  have hown : s.vm.findClass R_N = some m.cls := findClass_of_methodNamed B.named
  have hlocks := B.notSynchronized
  have hl := lv_entry ([.int x, .int y]) (n := 2) (Nat.le_of_ble_eq_true rfl)
  rw [lg_entry_eq]
  generalize (lg_sl ([.int x, .int y]) ++ List.replicate (2 - (lg_sl ([.int x, .int y])).length) Slot.unset).toArray = ls at hl ⊢
  have hl : lv_has ls 2 [(0, .int x), (1, .int y)] := hl
  refine lv_iload_n hx hb dN_holds_0 rfl (lv_at hl 0 rfl) ?_
  refine lv_iload_n hx hb dN_holds_1 rfl (lv_at hl 1 rfl) ?_
  refine lv_ishr hx hb dN_holds_2 ?_
  refine lv_iconst (v := 1) hx hb dN_holds_3 (by decide) ?_
  refine lv_iand hx hb dN_holds_4 ?_
  refine lv_if_eq (tgt := 12) hx hb dN_holds_5 (by decide) (fun c_1 => ?_) (fun c_1 => ?_)
  · refine lv_iconst (v := 0) hx hb dN_holds_12 (by decide) ?_
    exact W.zret (v := 0) hx hb hr (by decide) (fun t ht hW => ⟨⟨0, rfl, (by simp [bz, sn_hold, c_1])⟩, ht⟩) (fun _ h => absurd h List.not_mem_nil) dN_holds_13
  · refine lv_iconst (v := 1) hx hb dN_holds_8 (by decide) ?_
    refine lv_goto (tgt := 13) hx hb dN_holds_9 (by decide) ?_
    exact W.zret (v := 1) hx hb hr (by decide) (fun t ht hW => ⟨⟨1, rfl, (by simp [bz, sn_hold, c_1])⟩, ht⟩) (fun _ h => absurd h List.not_mem_nil) dN_holds_13
set_option maxHeartbeats 4000000 in
set_option maxRecDepth 100000 in
theorem cN_inPlan (l : Launch) (dC : Nat → ClassId) (dI : Nat → Nat → Nat) (h0 a_walls a_placeX a_placeY a_reachers a_lossOf a_upper a_length a_headsOn a_turn a_lack a_joined : Nat) (Wd Ht Pn : Nat) (rs old sc jc : Int32) (x y : Int32)  : Met l yN_inPlan (kN_inPlan :: WD) { frames := 0, cells := 0, slots := 0, locals := 0 } (va_Pc [.ref h0, .int x, .int y] (xw (dC, dI) snC [(h0, .inr (0, [.int (nI Wd), .int (nI Ht), .ref a_walls, .int rs, .ref a_placeX, .ref a_placeY, .int (nI Pn), .ref a_reachers, .int old, .ref a_lossOf, .int sc, .ref a_upper, .ref a_length, .ref a_headsOn, .ref a_turn, .ref a_lack, .ref a_joined, .int jc]))] [])) (xr_Q (fun r => r = bz (sn_in Wd Ht x y))) 0 0 (fun _ => False) := by
  refine Met.ofW (cc := bN_inPlan) (maxL := 3) (ret := (some .boolean)) (by decide) rfl ?_
  intro p e s m args below meth c s₁ B hml hv
  obtain ⟨rfl, hP, hK⟩ := hv
  have hx := B.exec
  have hb := B.bytes
  have hr := B.returns
  have hts : ∀ w ∈ WD, w.before _ s = true := fun w h => atoms_spec (ws := kN_inPlan :: WD) B.pre w (List.mem_cons_of_mem _ h)
  have hown : s.vm.findClass R_N = some m.cls := findClass_of_methodNamed B.named
  have hlocks := B.notSynchronized
  have hl := lv_entry ([.ref h0, .int x, .int y]) (n := 3) (Nat.le_of_ble_eq_true rfl)
  rw [lg_entry_eq]
  generalize (lg_sl ([.ref h0, .int x, .int y]) ++ List.replicate (3 - (lg_sl ([.ref h0, .int x, .int y])).length) Slot.unset).toArray = ls at hl ⊢
  have hl : lv_has ls 3 [(0, .ref h0), (1, .int x), (2, .int y)] := hl
  refine lv_iload_n hx hb dN_inPlan_0 rfl (lv_at hl 1 rfl) ?_
  refine lv_if_lt (tgt := 28) hx hb dN_inPlan_1 (by decide) (fun c_1 => ?_) (fun c_1 => ?_)
  · refine lv_iconst (v := 0) hx hb dN_inPlan_28 (by decide) ?_
    exact W.zret (v := 0) hx hb hr (by decide) (fun t ht hW => ⟨⟨0, rfl, (by simp [bz, sn_in, *])⟩, ht⟩) (fun _ h => absurd h List.not_mem_nil) dN_inPlan_29
  · refine lv_iload_n hx hb dN_inPlan_4 rfl (lv_at hl 1 rfl) ?_
    refine lv_aload_n hx hb dN_inPlan_5 rfl (lv_at hl 0 rfl) ?_
    refine va_get (D := (dC, dI)) (ci := 0) (v := .int (nI Wd)) (C := R_N) (T := T_N) (N := 18) hx hb hts in_N hown hK hP 0 rfl rfl 0 (by decide) (hts _ flN18) (fun _ h9 => h9) rfl dN_inPlan_6 ?_
    refine lv_icmp_ge (tgt := 28) hx hb dN_inPlan_9 (by decide) (fun c_2 => ?_) (fun c_2 => ?_)
    · refine lv_iconst (v := 0) hx hb dN_inPlan_28 (by decide) ?_
      exact W.zret (v := 0) hx hb hr (by decide) (fun t ht hW => ⟨⟨0, rfl, (by simp [bz, sn_in, *])⟩, ht⟩) (fun _ h => absurd h List.not_mem_nil) dN_inPlan_29
    · refine lv_iload_n hx hb dN_inPlan_12 rfl (lv_at hl 2 rfl) ?_
      refine lv_if_lt (tgt := 28) hx hb dN_inPlan_13 (by decide) (fun c_3 => ?_) (fun c_3 => ?_)
      · refine lv_iconst (v := 0) hx hb dN_inPlan_28 (by decide) ?_
        exact W.zret (v := 0) hx hb hr (by decide) (fun t ht hW => ⟨⟨0, rfl, (by simp [bz, sn_in, *])⟩, ht⟩) (fun _ h => absurd h List.not_mem_nil) dN_inPlan_29
      · refine lv_iload_n hx hb dN_inPlan_16 rfl (lv_at hl 2 rfl) ?_
        refine lv_aload_n hx hb dN_inPlan_17 rfl (lv_at hl 0 rfl) ?_
        refine va_get (D := (dC, dI)) (ci := 0) (v := .int (nI Ht)) (C := R_N) (T := T_N) (N := 18) hx hb hts in_N hown hK hP 0 rfl rfl 1 (by decide) (hts _ flN22) (fun _ h9 => h9) rfl dN_inPlan_18 ?_
        refine lv_icmp_ge (tgt := 28) hx hb dN_inPlan_21 (by decide) (fun c_4 => ?_) (fun c_4 => ?_)
        · refine lv_iconst (v := 0) hx hb dN_inPlan_28 (by decide) ?_
          exact W.zret (v := 0) hx hb hr (by decide) (fun t ht hW => ⟨⟨0, rfl, (by simp [bz, sn_in, *])⟩, ht⟩) (fun _ h => absurd h List.not_mem_nil) dN_inPlan_29
        · refine lv_iconst (v := 1) hx hb dN_inPlan_24 (by decide) ?_
          refine lv_goto (tgt := 29) hx hb dN_inPlan_25 (by decide) ?_
          exact W.zret (v := 1) hx hb hr (by decide) (fun t ht hW => ⟨⟨1, rfl, (by simp [bz, sn_in, *])⟩, ht⟩) (fun _ h => absurd h List.not_mem_nil) dN_inPlan_29
set_option maxHeartbeats 4000000 in
set_option maxRecDepth 100000 in
theorem cN_isWall (l : Launch) (dC : Nat → ClassId) (dI : Nat → Nat → Nat) (h0 a_walls a_placeX a_placeY a_reachers a_lossOf a_upper a_length a_headsOn a_turn a_lack a_joined : Nat) (Wd Ht Pn : Nat) (rs old sc jc : Int32) (cZ : ClassId) (f_walls : Nat → Int32) (x y : Int32) (hW : Wd ≤ 16) (hH : Ht ≤ 16) : Met l yN_isWall (kN_isWall :: WD) { frames := 1, cells := 0, slots := 0, locals := 22 } (va_Pc [.ref h0, .int x, .int y] (xw (dC, dI) snC [(h0, .inr (0, [.int (nI Wd), .int (nI Ht), .ref a_walls, .int rs, .ref a_placeX, .ref a_placeY, .int (nI Pn), .ref a_reachers, .int old, .ref a_lossOf, .int sc, .ref a_upper, .ref a_length, .ref a_headsOn, .ref a_turn, .ref a_lack, .ref a_joined, .int jc])), (a_walls, .inl (cZ, 256, .inl f_walls))] [(cZ, .boolean)])) (xr_Q (fun r => r = bz (sn_wall Wd Ht f_walls x y))) 0 0 (fun _ => False) := by
  refine Met.ofW (cc := bN_isWall) (maxL := 3) (ret := (some .boolean)) (by decide) rfl ?_
  intro p e s m args below meth c s₁ B hml hv
  obtain ⟨rfl, hP, hK⟩ := hv
  have hx := B.exec
  have hb := B.bytes
  have hr := B.returns
  have hts : ∀ w ∈ WD, w.before _ s = true := fun w h => atoms_spec (ws := kN_isWall :: WD) B.pre w (List.mem_cons_of_mem _ h)
  have hown : s.vm.findClass R_N = some m.cls := findClass_of_methodNamed B.named
  have hlocks := B.notSynchronized
  have hl := lv_entry ([.ref h0, .int x, .int y]) (n := 3) (Nat.le_of_ble_eq_true rfl)
  rw [lg_entry_eq]
  generalize (lg_sl ([.ref h0, .int x, .int y]) ++ List.replicate (3 - (lg_sl ([.ref h0, .int x, .int y])).length) Slot.unset).toArray = ls at hl ⊢
  have hl : lv_has ls 3 [(0, .ref h0), (1, .int x), (2, .int y)] := hl
  refine lv_aload_n hx hb dN_isWall_0 rfl (lv_at hl 0 rfl) ?_
  refine lv_iload_n hx hb dN_isWall_1 rfl (lv_at hl 1 rfl) ?_
  refine lv_iload_n hx hb dN_isWall_2 rfl (lv_at hl 2 rfl) ?_
  refine xr_V (As := [.int x, .int y]) ⟨hx, hb, hml, hown, hts⟩ (cN_inPlan l dC dI h0 a_walls a_placeX a_placeY a_reachers a_lossOf a_upper a_length a_headsOn a_turn a_lack a_joined Wd Ht Pn rs old sc jc x y) (cwV 2 hts gN159 rfl rfl rfl (by decide +kernel) ⟨Nat.le_of_ble_eq_true rfl, Nat.le_of_ble_eq_true rfl⟩) hK hP [0] [] rfl rfl 0 0 rfl rfl rfl rfl hl.1 rfl (Nat.le_of_ble_eq_true rfl) dN_isWall_3 ⟨Nat.zero_le _, Nat.zero_le _⟩ (fun r_1 hr_1 => ?_)
  subst hr_1
  refine lv_if_eq (tgt := 22) hx hb dN_isWall_6 (by decide) (fun c_2 => ?_) (fun c_2 => ?_)
  · replace c_2 := bz_0 c_2
    refine lv_iconst (v := 1) hx hb dN_isWall_22 (by decide) ?_
    refine lv_goto (tgt := 27) hx hb dN_isWall_23 (by decide) ?_
    exact W.zret (v := 1) hx hb hr (by decide) (fun t ht hW => ⟨⟨1, rfl, (by simp [bz, sn_wall, *])⟩, ht⟩) (fun _ h => absurd h List.not_mem_nil) dN_isWall_27
  · replace c_2 := bz_1 c_2
    refine lv_aload_n hx hb dN_isWall_9 rfl (lv_at hl 0 rfl) ?_
    refine va_get (D := (dC, dI)) (ci := 0) (v := .ref a_walls) (C := R_N) (T := T_N) (N := 18) hx hb hts in_N hown hK hP 0 rfl rfl 2 (by decide) (hts _ flN25) (fun _ h9 => h9) rfl dN_isWall_10 ?_
    refine lv_iload_n hx hb dN_isWall_13 rfl (lv_at hl 1 rfl) ?_
    refine lv_iload_n hx hb dN_isWall_14 rfl (lv_at hl 2 rfl) ?_
    refine xr_S (As := [.int x, .int y]) ⟨hx, hb, hml, hown, hts⟩ (cN_cellAt l dC dI x y) (va_cwS 2 hts gN90 rfl rfl rfl (by decide +kernel) ⟨Nat.le_of_ble_eq_true rfl, Nat.le_of_ble_eq_true rfl⟩) hK hP [] [] rfl rfl rfl hl.1 rfl (Nat.le_of_ble_eq_true rfl) dN_isWall_15 ⟨Nat.zero_le _, Nat.zero_le _⟩ (fun r_3 hr_3 => ?_)
    subst hr_3
    refine va_zald hx hb hK hP 1 0 rfl rfl (sn_ix hW hH c_2) dN_isWall_18 ?_
    refine lv_if_eq (tgt := 26) hx hb dN_isWall_19 (by decide) (fun c_4 => ?_) (fun c_4 => ?_)
    · refine lv_iconst (v := 0) hx hb dN_isWall_26 (by decide) ?_
      exact W.zret (v := 0) hx hb hr (by decide) (fun t ht hW => ⟨⟨0, rfl, (by simp [bz, sn_wall, *])⟩, ht⟩) (fun _ h => absurd h List.not_mem_nil) dN_isWall_27
    · refine lv_iconst (v := 1) hx hb dN_isWall_22 (by decide) ?_
      refine lv_goto (tgt := 27) hx hb dN_isWall_23 (by decide) ?_
      exact W.zret (v := 1) hx hb hr (by decide) (fun t ht hW => ⟨⟨1, rfl, (by simp [bz, sn_wall, *])⟩, ht⟩) (fun _ h => absurd h List.not_mem_nil) dN_isWall_27
set_option maxHeartbeats 4000000 in
set_option maxRecDepth 100000 in
theorem cN_isNear (l : Launch) (dC : Nat → ClassId) (dI : Nat → Nat → Nat) (h0 a_walls a_placeX a_placeY a_reachers a_lossOf a_upper a_length a_headsOn a_turn a_lack a_joined : Nat) (Wd Ht Pn : Nat) (rs old sc jc : Int32) (x y u v : Int32)  : Met l yN_isNear (kN_isNear :: WD) { frames := 0, cells := 0, slots := 0, locals := 0 } (va_Pc [.ref h0, .int x, .int y, .int u, .int v] (xw (dC, dI) snC [(h0, .inr (0, [.int (nI Wd), .int (nI Ht), .ref a_walls, .int rs, .ref a_placeX, .ref a_placeY, .int (nI Pn), .ref a_reachers, .int old, .ref a_lossOf, .int sc, .ref a_upper, .ref a_length, .ref a_headsOn, .ref a_turn, .ref a_lack, .ref a_joined, .int jc]))] [])) (xr_Q (fun r => r = bz (sn_near rs x y u v))) 0 0 (fun _ => False) := by
  refine Met.ofW (cc := bN_isNear) (maxL := 5) (ret := (some .boolean)) (by decide) rfl ?_
  intro p e s m args below meth c s₁ B hml hv
  obtain ⟨rfl, hP, hK⟩ := hv
  have hx := B.exec
  have hb := B.bytes
  have hr := B.returns
  have hts : ∀ w ∈ WD, w.before _ s = true := fun w h => atoms_spec (ws := kN_isNear :: WD) B.pre w (List.mem_cons_of_mem _ h)
  have hown : s.vm.findClass R_N = some m.cls := findClass_of_methodNamed B.named
  have hlocks := B.notSynchronized
  have hl := lv_entry ([.ref h0, .int x, .int y, .int u, .int v]) (n := 5) (Nat.le_of_ble_eq_true rfl)
  rw [lg_entry_eq]
  generalize (lg_sl ([.ref h0, .int x, .int y, .int u, .int v]) ++ List.replicate (5 - (lg_sl ([.ref h0, .int x, .int y, .int u, .int v])).length) Slot.unset).toArray = ls at hl ⊢
  have hl : lv_has ls 5 [(0, .ref h0), (1, .int x), (2, .int y), (3, .int u), (4, .int v)] := hl
  refine lv_iload_n hx hb dN_isNear_0 rfl (lv_at hl 1 rfl) ?_
  refine lv_iload_n hx hb dN_isNear_1 rfl (lv_at hl 3 rfl) ?_
  refine lv_isub hx hb dN_isNear_2 ?_
  refine lv_iload_n hx hb dN_isNear_3 rfl (lv_at hl 1 rfl) ?_
  refine lv_iload_n hx hb dN_isNear_4 rfl (lv_at hl 3 rfl) ?_
  refine lv_isub hx hb dN_isNear_5 ?_
  refine lv_imul hx hb dN_isNear_6 ?_
  refine lv_iload_n hx hb dN_isNear_7 rfl (lv_at hl 2 rfl) ?_
  refine lv_iload hx hb dN_isNear_8 (lv_at hl 4 rfl) ?_
  refine lv_isub hx hb dN_isNear_10 ?_
  refine lv_iload_n hx hb dN_isNear_11 rfl (lv_at hl 2 rfl) ?_
  refine lv_iload hx hb dN_isNear_12 (lv_at hl 4 rfl) ?_
  refine lv_isub hx hb dN_isNear_14 ?_
  refine lv_imul hx hb dN_isNear_15 ?_
  refine lv_iadd hx hb dN_isNear_16 ?_
  refine lv_aload_n hx hb dN_isNear_17 rfl (lv_at hl 0 rfl) ?_
  refine va_get (D := (dC, dI)) (ci := 0) (v := .int rs) (C := R_N) (T := T_N) (N := 18) hx hb hts in_N hown hK hP 0 rfl rfl 3 (by decide) (hts _ flN29) (fun _ h9 => h9) rfl dN_isNear_18 ?_
  refine lv_icmp_gt (tgt := 28) hx hb dN_isNear_21 (by decide) (fun c_1 => ?_) (fun c_1 => ?_)
  · refine lv_iconst (v := 0) hx hb dN_isNear_28 (by decide) ?_
    exact W.zret (v := 0) hx hb hr (by decide) (fun t ht hW => ⟨⟨0, rfl, (by simp [bz, sn_near, *])⟩, ht⟩) (fun _ h => absurd h List.not_mem_nil) dN_isNear_29
  · refine lv_iconst (v := 1) hx hb dN_isNear_24 (by decide) ?_
    refine lv_goto (tgt := 29) hx hb dN_isNear_25 (by decide) ?_
    exact W.zret (v := 1) hx hb hr (by decide) (fun t ht hW => ⟨⟨1, rfl, (by simp [bz, sn_near, *])⟩, ht⟩) (fun _ h => absurd h List.not_mem_nil) dN_isNear_29
set_option maxHeartbeats 4000000 in
set_option maxRecDepth 100000 in
theorem cN_allPlaces (l : Launch) (dC : Nat → ClassId) (dI : Nat → Nat → Nat) (h0 a_walls a_placeX a_placeY a_reachers a_lossOf a_upper a_length a_headsOn a_turn a_lack a_joined : Nat) (Wd Ht Pn : Nat) (rs old sc jc : Int32)  : Met l yN_allPlaces (kN_allPlaces :: WD) { frames := 0, cells := 0, slots := 0, locals := 0 } (va_Pc [.ref h0] (xw (dC, dI) snC [(h0, .inr (0, [.int (nI Wd), .int (nI Ht), .ref a_walls, .int rs, .ref a_placeX, .ref a_placeY, .int (nI Pn), .ref a_reachers, .int old, .ref a_lossOf, .int sc, .ref a_upper, .ref a_length, .ref a_headsOn, .ref a_turn, .ref a_lack, .ref a_joined, .int jc]))] [])) (xr_Q (fun r => r = sn_all Pn)) 0 0 (fun _ => False) := by
  refine Met.ofW (cc := bN_allPlaces) (maxL := 1) (ret := (some .int)) (by decide) rfl ?_
  intro p e s m args below meth c s₁ B hml hv
  obtain ⟨rfl, hP, hK⟩ := hv
  have hx := B.exec
  have hb := B.bytes
  have hr := B.returns
  have hts : ∀ w ∈ WD, w.before _ s = true := fun w h => atoms_spec (ws := kN_allPlaces :: WD) B.pre w (List.mem_cons_of_mem _ h)
  have hown : s.vm.findClass R_N = some m.cls := findClass_of_methodNamed B.named
  have hlocks := B.notSynchronized
  have hl := lv_entry ([.ref h0]) (n := 1) (Nat.le_of_ble_eq_true rfl)
  rw [lg_entry_eq]
  generalize (lg_sl ([.ref h0]) ++ List.replicate (1 - (lg_sl ([.ref h0])).length) Slot.unset).toArray = ls at hl ⊢
  have hl : lv_has ls 1 [(0, .ref h0)] := hl
  refine lv_iconst (v := 1) hx hb dN_allPlaces_0 (by decide) ?_
  refine lv_aload_n hx hb dN_allPlaces_1 rfl (lv_at hl 0 rfl) ?_
  refine va_get (D := (dC, dI)) (ci := 0) (v := .int (nI Pn)) (C := R_N) (T := T_N) (N := 18) hx hb hts in_N hown hK hP 0 rfl rfl 6 (by decide) (hts _ flN39) (fun _ h9 => h9) rfl dN_allPlaces_2 ?_
  refine lv_ishl hx hb dN_allPlaces_5 ?_
  refine lv_iconst (v := 1) hx hb dN_allPlaces_6 (by decide) ?_
  refine lv_isub hx hb dN_allPlaces_7 ?_
  exact W.iret (v := (1 <<< ((nI Pn) &&& 31)) - 1) hx hb hr (fun t ht hW => ⟨⟨(1 <<< ((nI Pn) &&& 31)) - 1, rfl, rfl⟩, ht⟩) (fun _ h => absurd h List.not_mem_nil) dN_allPlaces_8
set_option maxHeartbeats 4000000 in
set_option maxRecDepth 100000 in
theorem cN_isDry (l : Launch) (dC : Nat → ClassId) (dI : Nat → Nat → Nat) (h0 a_walls a_placeX a_placeY a_reachers a_lossOf a_upper a_length a_headsOn a_turn a_lack a_joined : Nat) (Wd Ht Pn : Nat) (rs old sc jc : Int32) (cZ cI : ClassId) (f_walls f_reachers : Nat → Int32) (i : Nat) (st : Int32) (hi : i < 256) : Met l yN_isDry (kN_isDry :: WD) { frames := 0, cells := 0, slots := 0, locals := 0 } (va_Pc [.ref h0, .int (nI i), .int st] (xw (dC, dI) snC [(h0, .inr (0, [.int (nI Wd), .int (nI Ht), .ref a_walls, .int rs, .ref a_placeX, .ref a_placeY, .int (nI Pn), .ref a_reachers, .int old, .ref a_lossOf, .int sc, .ref a_upper, .ref a_length, .ref a_headsOn, .ref a_turn, .ref a_lack, .ref a_joined, .int jc])), (a_walls, .inl (cZ, 256, .inl f_walls)), (a_reachers, .inl (cI, 256, .inl f_reachers))] [(cZ, .boolean), (cI, .int)])) (xr_Q (fun r => r = bz (sn_dry f_walls f_reachers st i))) 0 0 (fun _ => False) := by
  refine Met.ofW (cc := bN_isDry) (maxL := 3) (ret := (some .boolean)) (by decide) rfl ?_
  intro p e s m args below meth c s₁ B hml hv
  obtain ⟨rfl, hP, hK⟩ := hv
  have hx := B.exec
  have hb := B.bytes
  have hr := B.returns
  have hts : ∀ w ∈ WD, w.before _ s = true := fun w h => atoms_spec (ws := kN_isDry :: WD) B.pre w (List.mem_cons_of_mem _ h)
  have hown : s.vm.findClass R_N = some m.cls := findClass_of_methodNamed B.named
  have hlocks := B.notSynchronized
  have hl := lv_entry ([.ref h0, .int (nI i), .int st]) (n := 3) (Nat.le_of_ble_eq_true rfl)
  rw [lg_entry_eq]
  generalize (lg_sl ([.ref h0, .int (nI i), .int st]) ++ List.replicate (3 - (lg_sl ([.ref h0, .int (nI i), .int st])).length) Slot.unset).toArray = ls at hl ⊢
  have hl : lv_has ls 3 [(0, .ref h0), (1, .int (nI i)), (2, .int st)] := hl
  refine lv_aload_n hx hb dN_isDry_0 rfl (lv_at hl 0 rfl) ?_
  refine va_get (D := (dC, dI)) (ci := 0) (v := .ref a_walls) (C := R_N) (T := T_N) (N := 18) hx hb hts in_N hown hK hP 0 rfl rfl 2 (by decide) (hts _ flN25) (fun _ h9 => h9) rfl dN_isDry_1 ?_
  refine lv_iload_n hx hb dN_isDry_4 rfl (lv_at hl 1 rfl) ?_
  refine xa_zald hx hb hK hP 1 0 rfl rfl (i := i) (by omega) (by decide) dN_isDry_5 ?_
  refine lv_if_ne (tgt := 24) hx hb dN_isDry_6 (by decide) (fun c_1 => ?_) (fun c_1 => ?_)
  · refine lv_iconst (v := 0) hx hb dN_isDry_24 (by decide) ?_
    exact W.zret (v := 0) hx hb hr (by decide) (fun t ht hW => ⟨⟨0, rfl, (by simp [bz, sn_dry, *])⟩, ht⟩) (fun _ h => absurd h List.not_mem_nil) dN_isDry_25
  · refine lv_aload_n hx hb dN_isDry_9 rfl (lv_at hl 0 rfl) ?_
    refine va_get (D := (dC, dI)) (ci := 0) (v := .ref a_reachers) (C := R_N) (T := T_N) (N := 18) hx hb hts in_N hown hK hP 0 rfl rfl 7 (by decide) (hts _ flN42) (fun _ h9 => h9) rfl dN_isDry_10 ?_
    refine lv_iload_n hx hb dN_isDry_13 rfl (lv_at hl 1 rfl) ?_
    refine xa_iald hx hb hK hP 2 1 rfl rfl (i := i) (by omega) (by decide) dN_isDry_14 ?_
    refine lv_iload_n hx hb dN_isDry_15 rfl (lv_at hl 2 rfl) ?_
    refine lv_iand hx hb dN_isDry_16 ?_
    refine lv_if_ne (tgt := 24) hx hb dN_isDry_17 (by decide) (fun c_2 => ?_) (fun c_2 => ?_)
    · refine lv_iconst (v := 0) hx hb dN_isDry_24 (by decide) ?_
      exact W.zret (v := 0) hx hb hr (by decide) (fun t ht hW => ⟨⟨0, rfl, (by simp [bz, sn_dry, *])⟩, ht⟩) (fun _ h => absurd h List.not_mem_nil) dN_isDry_25
    · refine lv_iconst (v := 1) hx hb dN_isDry_20 (by decide) ?_
      refine lv_goto (tgt := 25) hx hb dN_isDry_21 (by decide) ?_
      exact W.zret (v := 1) hx hb hr (by decide) (fun t ht hW => ⟨⟨1, rfl, (by simp [bz, sn_dry, *])⟩, ht⟩) (fun _ h => absurd h List.not_mem_nil) dN_isDry_25
end
section
def sn_isp (px py : Nat → Int32) (x y : Int32) : Nat → Nat → Bool
  | 0, _ => false
  | n + 1, i => (decide (px i = x) && decide (py i = y)) || sn_isp px py x y n (i + 1)
def sn_dc (fw fr : Nat → Int32) (st kk : Int32) : Nat → Nat → Int32 → Int32
  | 0, _, _ => -1
  | n + 1, i, b => if sn_dry fw fr st i then (if b = kk then nI i else sn_dc fw fr st kk n (i + 1) (b + 1)) else sn_dc fw fr st kk n (i + 1) b
def sn_no (fl : Nat → Int32) (wt : Int32) : Nat → Nat → Int32 → Int32 → Int32
  | 0, _, nr, _ => nr
  | n + 1, i, nr, lt => if sn_hold wt (nI i) = true ∧ (nr = -1 ∨ ¬ lt ≤ fl i) then sn_no fl wt n (i + 1) (nI i) (fl i) else sn_no fl wt n (i + 1) nr lt
def sn_lf (f : Nat → Int32) (hc : Int32) : Nat → Nat → Int32 → Int32
  | 0, _, g => g
  | n + 1, i, g => if f i = -1 then sn_lf f hc n (i + 1) g else if nI i < hc then sn_lf f hc n (i + 1) (f i) else f i
def nd (a u : Nat) : Nat := (u - a) + (a - u)
theorem nd_lt {a u : Nat} (ha : a < 16) (hu : u < 16) : nd a u < 16 := by unfold nd; omega
theorem sn_abs {a u : Nat} (ha : a < 16) (hu : u < 16) : (if 0 ≤ nI u - nI a then nI u - nI a else 0 - (nI u - nI a)) = nI (nd a u) := by
  have e1 := pk_sub_toInt (a := u) (b := a) (by omega) (by omega)
  by_cases h : a ≤ u
  · rw [if_pos (by rw [Int32.le_iff_toInt_le, e1, Int32.toInt_zero]; omega), pk_sub h]
    congr 1; unfold nd; omega
  · rw [if_neg (by rw [Int32.le_iff_toInt_le, e1, Int32.toInt_zero]; omega)]
    have e2 : (0 : Int32) - (nI u - nI a) = nI a - nI u := by simp [Int32.neg_sub]
    rw [e2, pk_sub (by omega)]
    congr 1; unfold nd; omega
theorem sn_up (i j A B : Nat) : (2 * nI i + 1) * nI B - (2 * nI j + 1) * nI A = nI ((2 * i + 1) * B) - nI ((2 * j + 1) * A) := by
  rw [show (2 : Int32) = nI 2 from rfl, show (1 : Int32) = nI 1 from rfl, pk_mul, pk_mul, nI_add, nI_add, pk_mul, pk_mul]
theorem sn_p31 {i t B : Nat} (hi : i ≤ t) (hB : B < 16) (ht : t ≤ 31 := by omega) : (2 * i + 1) * B < 2 ^ 30 := by
  have h1 : (2 * i + 1) * B ≤ 63 * 16 := Nat.mul_le_mul (by omega) (by omega)
  omega
theorem sn_upgt {p q : Nat} (hp : p < 2 ^ 30) (hq : q < 2 ^ 30) : (0 < nI p - nI q) = (q < p) := by
  rw [Int32.lt_iff_toInt_lt, pk_sub_toInt hp hq, Int32.toInt_zero]
  exact propext ⟨fun h => by omega, fun h => by omega⟩
theorem sn_uplt {p q : Nat} (hp : p < 2 ^ 30) (hq : q < 2 ^ 30) : (nI p - nI q < 0) = (p < q) := by
  rw [Int32.lt_iff_toInt_lt, pk_sub_toInt hp hq, Int32.toInt_zero]
  exact propext ⟨fun h => by omega, fun h => by omega⟩
def sn_line (Wd Ht : Nat) (f : Nat → Int32) (a b A B : Nat) (sx sy : Int32) : Nat → Nat → Nat → Bool
  | 0, _, _ => true
  | n + 1, i, j => if sn_wall Wd Ht f (nI a + nI i * sx) (nI b + nI j * sy) = true then false else if i = A ∧ j = B then true else
    sn_line Wd Ht f a b A B sx sy n (if (2 * j + 1) * A < (2 * i + 1) * B then i else i + 1) (if (2 * i + 1) * B < (2 * j + 1) * A then j else j + 1)
theorem sn_line_step {Wd Ht : Nat} {f : Nat → Int32} {a b A B : Nat} {sx sy : Int32} {n i j : Nat} (h : sn_wall Wd Ht f (nI a + nI i * sx) (nI b + nI j * sy) = false) (hne : ¬ (i = A ∧ j = B)) : sn_line Wd Ht f a b A B sx sy (n + 1) i j = sn_line Wd Ht f a b A B sx sy n (if (2 * j + 1) * A < (2 * i + 1) * B then i else i + 1) (if (2 * i + 1) * B < (2 * j + 1) * A then j else j + 1) := by
  rw [sn_line, if_neg (by rw [h]; decide), if_neg hne]
theorem sn_line_end {Wd Ht : Nat} {f : Nat → Int32} {a b A B : Nat} {sx sy : Int32} {n i j : Nat} (h : sn_wall Wd Ht f (nI a + nI i * sx) (nI b + nI j * sy) = false) (hne : i = A ∧ j = B) : sn_line Wd Ht f a b A B sx sy (n + 1) i j = true := by
  rw [sn_line, if_neg (by rw [h]; decide), if_pos hne]
def sgn (a u : Nat) : Int32 := if a ≤ u then 1 else -1
def sn_sg (a b u v : Nat) (sx sy : Int32) : Prop := sx = sgn a u ∧ sy = sgn b v
def sn_free (Wd Ht : Nat) (f : Nat → Int32) (a b u v : Nat) : Bool := sn_line Wd Ht f a b (nd a u) (nd b v) (sgn a u) (sgn b v) (nd a u + nd b v + 1) 0 0
theorem sn_free_eq (Wd Ht : Nat) (f : Nat → Int32) (a b u v : Nat) : sn_free Wd Ht f a b u v = sn_line Wd Ht f a b (nd a u) (nd b v) (sgn a u) (sgn b v) (nd a u + nd b v + 1) 0 0 := rfl
set_option maxHeartbeats 4000000 in
set_option maxRecDepth 100000 in
theorem cN_isPlace (l : Launch) (dC : Nat → ClassId) (dI : Nat → Nat → Nat) (h0 a_walls a_placeX a_placeY a_reachers a_lossOf a_upper a_length a_headsOn a_turn a_lack a_joined : Nat) (Wd Ht Pn : Nat) (rs old sc jc : Int32) (cI : ClassId) (f_placeX f_placeY : Nat → Int32) (x y : Int32) (hPn : Pn ≤ 12) : Met l yN_isPlace (kN_isPlace :: WD) { frames := 0, cells := 0, slots := 0, locals := 0 } (va_Pc [.ref h0, .int x, .int y] (xw (dC, dI) snC [(h0, .inr (0, [.int (nI Wd), .int (nI Ht), .ref a_walls, .int rs, .ref a_placeX, .ref a_placeY, .int (nI Pn), .ref a_reachers, .int old, .ref a_lossOf, .int sc, .ref a_upper, .ref a_length, .ref a_headsOn, .ref a_turn, .ref a_lack, .ref a_joined, .int jc])), (a_placeX, .inl (cI, 12, .inl f_placeX)), (a_placeY, .inl (cI, 12, .inl f_placeY))] [(cI, .int)])) (xr_Q (fun r => r = bz (sn_isp f_placeX f_placeY x y Pn 0))) 0 0 (fun _ => False) := by
  refine Met.ofW (cc := bN_isPlace) (maxL := 4) (ret := (some .boolean)) (by decide) rfl ?_
  intro p e s m args below meth c s₁ B hml hv
  obtain ⟨rfl, hP, hK⟩ := hv
  have hx := B.exec
  have hb := B.bytes
  have hr := B.returns
  have hts : ∀ w ∈ WD, w.before _ s = true := fun w h => atoms_spec (ws := kN_isPlace :: WD) B.pre w (List.mem_cons_of_mem _ h)
  have hown : s.vm.findClass R_N = some m.cls := findClass_of_methodNamed B.named
  have hlocks := B.notSynchronized
  have hl := lv_entry ([.ref h0, .int x, .int y]) (n := 4) (Nat.le_of_ble_eq_true rfl)
  rw [lg_entry_eq]
  generalize (lg_sl ([.ref h0, .int x, .int y]) ++ List.replicate (4 - (lg_sl ([.ref h0, .int x, .int y])).length) Slot.unset).toArray = ls at hl ⊢
  have hl : lv_has ls 4 [(0, .ref h0), (1, .int x), (2, .int y)] := hl
  have lp2 : ∀ (k n : Nat) (i : Nat), n < k → i + n = Pn → sn_isp f_placeX f_placeY x y n i = sn_isp f_placeX f_placeY x y Pn 0 → ∀ ls : Array Slot, lv_has ls 4 [(3, .int (nI i)), (0, .ref h0), (1, .int x), (2, .int y)] → W p l e (headSpec (kN_isPlace :: WD) { frames := 0, cells := 0, slots := 0, locals := 0 }).room s m ([.ref h0, .int x, .int y]).toArray below meth c s.heap [] 0 0 (MQ below (xr_Q (fun r => r = bz (sn_isp f_placeX f_placeY x y Pn 0))) ([.ref h0, .int x, .int y]).toArray s 0 0 (fun _ => False)) (F0 m 2 ls []) := by
    intro k
    induction k with
    | zero => exact fun n _ h => absurd h (Nat.not_lt_zero n)
    | succ k ih =>
      intro n i hk hin hT ls hl
      refine lv_iload_n hx hb dN_isPlace_2 rfl (lv_at hl 0 rfl) ?_
      refine lv_bipush (v := (nI 12)) hx hb dN_isPlace_3 (by decide) ?_
      refine lv_icmp_ge (tgt := 44) hx hb dN_isPlace_5 (by decide) (fun c_1 => ?_) (fun c_1 => ?_)
      · have hz := (nI_leI (by omega) (by omega)).mp c_1
        obtain rfl : n = 0 := by omega
        refine lv_iconst (v := 0) hx hb dN_isPlace_44 (by decide) ?_
        exact W.zret (v := 0) hx hb hr (by decide) (fun t ht hW => ⟨⟨0, rfl, (by rw [← hT]; simp [bz, sn_isp, c_1])⟩, ht⟩) (fun _ h => absurd h List.not_mem_nil) dN_isPlace_45
      · refine lv_iload_n hx hb dN_isPlace_8 rfl (lv_at hl 0 rfl) ?_
        refine lv_aload_n hx hb dN_isPlace_9 rfl (lv_at hl 1 rfl) ?_
        refine va_get (D := (dC, dI)) (ci := 0) (v := .int (nI Pn)) (C := R_N) (T := T_N) (N := 18) hx hb hts in_N hown hK hP 0 rfl rfl 6 (by decide) (hts _ flN39) (fun _ h9 => h9) rfl dN_isPlace_10 ?_
        refine lv_icmp_ge (tgt := 44) hx hb dN_isPlace_13 (by decide) (fun c_2 => ?_) (fun c_2 => ?_)
        · have hz := (nI_leI (by omega) (by omega)).mp c_2
          obtain rfl : n = 0 := by omega
          refine lv_iconst (v := 0) hx hb dN_isPlace_44 (by decide) ?_
          exact W.zret (v := 0) hx hb hr (by decide) (fun t ht hW => ⟨⟨0, rfl, (by rw [← hT]; simp [bz, sn_isp, c_1, c_2])⟩, ht⟩) (fun _ h => absurd h List.not_mem_nil) dN_isPlace_45
        · have hz : i < Pn := by have h9 := mt (nI_leI (by omega) (by omega)).mpr c_2; omega
          obtain ⟨n, rfl⟩ : ∃ n', n = n' + 1 := ⟨n - 1, by omega⟩
          refine lv_aload_n hx hb dN_isPlace_16 rfl (lv_at hl 1 rfl) ?_
          refine va_get (D := (dC, dI)) (ci := 0) (v := .ref a_placeX) (C := R_N) (T := T_N) (N := 18) hx hb hts in_N hown hK hP 0 rfl rfl 4 (by decide) (hts _ flN32) (fun _ h9 => h9) rfl dN_isPlace_17 ?_
          refine lv_iload_n hx hb dN_isPlace_20 rfl (lv_at hl 0 rfl) ?_
          refine xa_iald hx hb hK hP 1 0 rfl rfl (i := i) (by omega) (by decide) dN_isPlace_21 ?_
          refine lv_iload_n hx hb dN_isPlace_22 rfl (lv_at hl 2 rfl) ?_
          refine lv_icmp_ne (tgt := 38) hx hb dN_isPlace_23 (by decide) (fun c_3 => ?_) (fun c_3 => ?_)
          · refine lv_iinc (v := (nI (i + 1))) (lv' := [(3, .int (nI (i + 1))), (0, .ref h0), (1, .int x), (2, .int y)]) hx hb dN_isPlace_38 hl (k := 0) rfl (nI_1 i) (by decide) rfl (fun ls hl => ?_)
            refine lv_goto (tgt := 2) hx hb dN_isPlace_41 (by decide) ?_
            exact ih n (i + 1) (by omega) (by omega) (by rw [← hT]; simp [sn_isp, c_1, c_2, c_3]) ls (lv_sub hl [0, 1, 2, 3] rfl)
          · refine lv_aload_n hx hb dN_isPlace_26 rfl (lv_at hl 1 rfl) ?_
            refine va_get (D := (dC, dI)) (ci := 0) (v := .ref a_placeY) (C := R_N) (T := T_N) (N := 18) hx hb hts in_N hown hK hP 0 rfl rfl 5 (by decide) (hts _ flN36) (fun _ h9 => h9) rfl dN_isPlace_27 ?_
            refine lv_iload_n hx hb dN_isPlace_30 rfl (lv_at hl 0 rfl) ?_
            refine xa_iald hx hb hK hP 2 0 rfl rfl (i := i) (by omega) (by decide) dN_isPlace_31 ?_
            refine lv_iload_n hx hb dN_isPlace_32 rfl (lv_at hl 3 rfl) ?_
            refine lv_icmp_ne (tgt := 38) hx hb dN_isPlace_33 (by decide) (fun c_4 => ?_) (fun c_4 => ?_)
            · refine lv_iinc (v := (nI (i + 1))) (lv' := [(3, .int (nI (i + 1))), (0, .ref h0), (1, .int x), (2, .int y)]) hx hb dN_isPlace_38 hl (k := 0) rfl (nI_1 i) (by decide) rfl (fun ls hl => ?_)
              refine lv_goto (tgt := 2) hx hb dN_isPlace_41 (by decide) ?_
              exact ih n (i + 1) (by omega) (by omega) (by rw [← hT]; simp [sn_isp, c_1, c_2, c_3, c_4]) ls (lv_sub hl [0, 1, 2, 3] rfl)
            · refine lv_iconst (v := 1) hx hb dN_isPlace_36 (by decide) ?_
              exact W.zret (v := 1) hx hb hr (by decide) (fun t ht hW => ⟨⟨1, rfl, (by rw [← hT]; simp [bz, sn_isp, c_1, c_2, c_3, c_4])⟩, ht⟩) (fun _ h => absurd h List.not_mem_nil) dN_isPlace_37
  refine lv_iconst (v := 0) hx hb dN_isPlace_0 (by decide) ?_
  refine lv_istore_n (lv' := [(3, .int 0), (0, .ref h0), (1, .int x), (2, .int y)]) hx hb dN_isPlace_1 rfl hl (by decide) rfl (fun ls hl => ?_)
  exact lp2 (Pn + 1) Pn 0 (by omega) (by omega) rfl ls (lv_sub hl [0, 1, 2, 3] rfl)
set_option maxHeartbeats 4000000 in
set_option maxRecDepth 100000 in
theorem cN_dryCell (l : Launch) (dC : Nat → ClassId) (dI : Nat → Nat → Nat) (h0 a_walls a_placeX a_placeY a_reachers a_lossOf a_upper a_length a_headsOn a_turn a_lack a_joined : Nat) (Wd Ht Pn : Nat) (rs old sc jc : Int32) (cZ cI : ClassId) (f_walls f_reachers : Nat → Int32) (st kk : Int32)  : Met l yN_dryCell (kN_dryCell :: WD) { frames := 1, cells := 0, slots := 0, locals := 22 } (va_Pc [.ref h0, .int st, .int kk] (xw (dC, dI) snC [(h0, .inr (0, [.int (nI Wd), .int (nI Ht), .ref a_walls, .int rs, .ref a_placeX, .ref a_placeY, .int (nI Pn), .ref a_reachers, .int old, .ref a_lossOf, .int sc, .ref a_upper, .ref a_length, .ref a_headsOn, .ref a_turn, .ref a_lack, .ref a_joined, .int jc])), (a_walls, .inl (cZ, 256, .inl f_walls)), (a_reachers, .inl (cI, 256, .inl f_reachers))] [(cZ, .boolean), (cI, .int)])) (xr_Q (fun r => r = sn_dc f_walls f_reachers st kk 256 0 0)) 0 0 (fun _ => False) := by
  refine Met.ofW (cc := bN_dryCell) (maxL := 5) (ret := (some .int)) (by decide) rfl ?_
  intro p e s m args below meth c s₁ B hml hv
  obtain ⟨rfl, hP, hK⟩ := hv
  have hx := B.exec
  have hb := B.bytes
  have hr := B.returns
  have hts : ∀ w ∈ WD, w.before _ s = true := fun w h => atoms_spec (ws := kN_dryCell :: WD) B.pre w (List.mem_cons_of_mem _ h)
  have hown : s.vm.findClass R_N = some m.cls := findClass_of_methodNamed B.named
  have hlocks := B.notSynchronized
  have hl := lv_entry ([.ref h0, .int st, .int kk]) (n := 5) (Nat.le_of_ble_eq_true rfl)
  rw [lg_entry_eq]
  generalize (lg_sl ([.ref h0, .int st, .int kk]) ++ List.replicate (5 - (lg_sl ([.ref h0, .int st, .int kk])).length) Slot.unset).toArray = ls at hl ⊢
  have hl : lv_has ls 5 [(0, .ref h0), (1, .int st), (2, .int kk)] := hl
  have lp5 : ∀ (k n : Nat) (i : Nat) (b : Int32), n < k → i + n = 256 → sn_dc f_walls f_reachers st kk n i b = sn_dc f_walls f_reachers st kk 256 0 0 → ∀ ls : Array Slot, lv_has ls 5 [(4, .int (nI i)), (3, .int b), (0, .ref h0), (1, .int st), (2, .int kk)] → W p l e (headSpec (kN_dryCell :: WD) { frames := 1, cells := 0, slots := 0, locals := 22 }).room s m ([.ref h0, .int st, .int kk]).toArray below meth c s.heap [] 0 0 (MQ below (xr_Q (fun r => r = sn_dc f_walls f_reachers st kk 256 0 0)) ([.ref h0, .int st, .int kk]).toArray s 0 0 (fun _ => False)) (F0 m 5 ls []) := by
    intro k
    induction k with
    | zero => exact fun n _ _ h => absurd h (Nat.not_lt_zero n)
    | succ k ih =>
      intro n i b hk hin hT ls hl
      refine lv_iload hx hb dN_dryCell_5 (lv_at hl 0 rfl) ?_
      refine lv_aload_n hx hb dN_dryCell_7 rfl (lv_at hl 2 rfl) ?_
      refine va_get (D := (dC, dI)) (ci := 0) (v := .ref a_walls) (C := R_N) (T := T_N) (N := 18) hx hb hts in_N hown hK hP 0 rfl rfl 2 (by decide) (hts _ flN25) (fun _ h9 => h9) rfl dN_dryCell_8 ?_
      refine va_alen (v := (nI 256)) hx hb hK hP 1 0 rfl rfl rfl dN_dryCell_11 ?_
      refine lv_icmp_ge (tgt := 42) hx hb dN_dryCell_12 (by decide) (fun c_1 => ?_) (fun c_1 => ?_)
      · have hz := (nI_leI (by omega) (by omega)).mp c_1
        obtain rfl : n = 0 := by omega
        refine lv_iconst (v := (-1)) hx hb dN_dryCell_42 (by decide) ?_
        exact W.iret (v := (-1)) hx hb hr (fun t ht hW => ⟨⟨(-1), rfl, (by rw [← hT]; simp [sn_dc, c_1])⟩, ht⟩) (fun _ h => absurd h List.not_mem_nil) dN_dryCell_43
      · have hz : i < 256 := by have h9 := mt (nI_leI (by omega) (by omega)).mpr c_1; omega
        obtain ⟨n, rfl⟩ : ∃ n', n = n' + 1 := ⟨n - 1, by omega⟩
        refine lv_aload_n hx hb dN_dryCell_15 rfl (lv_at hl 2 rfl) ?_
        refine lv_iload hx hb dN_dryCell_16 (lv_at hl 0 rfl) ?_
        refine lv_iload_n hx hb dN_dryCell_18 rfl (lv_at hl 3 rfl) ?_
        refine xr_V (As := [.int (nI i), .int st]) ⟨hx, hb, hml, hown, hts⟩ (cN_isDry l dC dI h0 a_walls a_placeX a_placeY a_reachers a_lossOf a_upper a_length a_headsOn a_turn a_lack a_joined Wd Ht Pn rs old sc jc cZ cI f_walls f_reachers i st (by omega)) (cwV 2 hts gN129 rfl rfl rfl (by decide +kernel) ⟨Nat.le_of_ble_eq_true rfl, Nat.le_of_ble_eq_true rfl⟩) hK hP [0, 1, 2] [0, 1] rfl rfl 0 0 rfl rfl rfl rfl hl.1 rfl (Nat.le_of_ble_eq_true rfl) dN_dryCell_19 ⟨Nat.zero_le _, Nat.zero_le _⟩ (fun r_2 hr_2 => ?_)
        subst hr_2
        refine lv_if_eq (tgt := 36) hx hb dN_dryCell_22 (by decide) (fun c_3 => ?_) (fun c_3 => ?_)
        · replace c_3 := bz_0 c_3
          refine lv_iinc (v := (nI (i + 1))) (lv' := [(4, .int (nI (i + 1))), (3, .int b), (0, .ref h0), (1, .int st), (2, .int kk)]) hx hb dN_dryCell_36 hl (k := 0) rfl (nI_1 i) (by decide) rfl (fun ls hl => ?_)
          refine lv_goto (tgt := 5) hx hb dN_dryCell_39 (by decide) ?_
          exact ih n (i + 1) b (by omega) (by omega) (by rw [← hT]; simp [sn_dc, c_1, c_3]) ls (lv_sub hl [0, 1, 2, 3, 4] rfl)
        · replace c_3 := bz_1 c_3
          refine lv_iload_n hx hb dN_dryCell_25 rfl (lv_at hl 1 rfl) ?_
          refine lv_iload_n hx hb dN_dryCell_26 rfl (lv_at hl 4 rfl) ?_
          refine lv_icmp_ne (tgt := 33) hx hb dN_dryCell_27 (by decide) (fun c_4 => ?_) (fun c_4 => ?_)
          · refine lv_iinc (v := (b + 1)) (lv' := [(3, .int (b + 1)), (4, .int (nI i)), (0, .ref h0), (1, .int st), (2, .int kk)]) hx hb dN_dryCell_33 hl (k := 1) rfl rfl (by decide) rfl (fun ls hl => ?_)
            refine lv_iinc (v := (nI (i + 1))) (lv' := [(4, .int (nI (i + 1))), (3, .int (b + 1)), (0, .ref h0), (1, .int st), (2, .int kk)]) hx hb dN_dryCell_36 hl (k := 1) rfl (nI_1 i) (by decide) rfl (fun ls hl => ?_)
            refine lv_goto (tgt := 5) hx hb dN_dryCell_39 (by decide) ?_
            exact ih n (i + 1) (b + 1) (by omega) (by omega) (by rw [← hT]; simp [sn_dc, c_1, c_3, c_4]) ls (lv_sub hl [0, 1, 2, 3, 4] rfl)
          · refine lv_iload hx hb dN_dryCell_30 (lv_at hl 0 rfl) ?_
            exact W.iret (v := nI i) hx hb hr (fun t ht hW => ⟨⟨nI i, rfl, (by rw [← hT]; simp [sn_dc, c_1, c_3, c_4])⟩, ht⟩) (fun _ h => absurd h List.not_mem_nil) dN_dryCell_32
  refine lv_iconst (v := 0) hx hb dN_dryCell_0 (by decide) ?_
  refine lv_istore_n (lv' := [(3, .int 0), (0, .ref h0), (1, .int st), (2, .int kk)]) hx hb dN_dryCell_1 rfl hl (by decide) rfl (fun ls hl => ?_)
  refine lv_iconst (v := 0) hx hb dN_dryCell_2 (by decide) ?_
  refine lv_istore (lv' := [(4, .int 0), (3, .int 0), (0, .ref h0), (1, .int st), (2, .int kk)]) hx hb dN_dryCell_3 hl (by decide) rfl (fun ls hl => ?_)
  exact lp5 257 256 0 0 (by omega) (by omega) rfl ls (lv_sub hl [0, 1, 2, 3, 4] rfl)
set_option maxHeartbeats 4000000 in
set_option maxRecDepth 100000 in
theorem cN_nearestOf (l : Launch) (dC : Nat → ClassId) (dI : Nat → Nat → Nat) (h0 a_walls a_placeX a_placeY a_reachers a_lossOf a_upper a_length a_headsOn a_turn a_lack a_joined : Nat) (Wd Ht Pn : Nat) (rs old sc jc : Int32) (cI : ClassId) (f_length : Nat → Int32) (wt : Int32)  : Met l yN_nearestOf (kN_nearestOf :: WD) { frames := 1, cells := 0, slots := 0, locals := 21 } (va_Pc [.ref h0, .int wt] (xw (dC, dI) snC [(h0, .inr (0, [.int (nI Wd), .int (nI Ht), .ref a_walls, .int rs, .ref a_placeX, .ref a_placeY, .int (nI Pn), .ref a_reachers, .int old, .ref a_lossOf, .int sc, .ref a_upper, .ref a_length, .ref a_headsOn, .ref a_turn, .ref a_lack, .ref a_joined, .int jc])), (a_length, .inl (cI, 12, .inl f_length))] [(cI, .int)])) (xr_Q (fun r => r = sn_no f_length wt 12 0 (-1) 0)) 0 0 (fun _ => False) := by
  refine Met.ofW (cc := bN_nearestOf) (maxL := 5) (ret := (some .int)) (by decide) rfl ?_
  intro p e s m args below meth c s₁ B hml hv
  obtain ⟨rfl, hP, hK⟩ := hv
  have hx := B.exec
  have hb := B.bytes
  have hr := B.returns
  have hts : ∀ w ∈ WD, w.before _ s = true := fun w h => atoms_spec (ws := kN_nearestOf :: WD) B.pre w (List.mem_cons_of_mem _ h)
  have hown : s.vm.findClass R_N = some m.cls := findClass_of_methodNamed B.named
  have hlocks := B.notSynchronized
  have hl := lv_entry ([.ref h0, .int wt]) (n := 5) (Nat.le_of_ble_eq_true rfl)
  rw [lg_entry_eq]
  generalize (lg_sl ([.ref h0, .int wt]) ++ List.replicate (5 - (lg_sl ([.ref h0, .int wt])).length) Slot.unset).toArray = ls at hl ⊢
  have hl : lv_has ls 5 [(0, .ref h0), (1, .int wt)] := hl
  have lp7 : ∀ (k n : Nat) (i : Nat) (nr lt : Int32), n < k → i + n = 12 → sn_no f_length wt n i nr lt = sn_no f_length wt 12 0 (-1) 0 → ∀ ls : Array Slot, lv_has ls 5 [(4, .int (nI i)), (2, .int nr), (3, .int lt), (0, .ref h0), (1, .int wt)] → W p l e (headSpec (kN_nearestOf :: WD) { frames := 1, cells := 0, slots := 0, locals := 21 }).room s m ([.ref h0, .int wt]).toArray below meth c s.heap [] 0 0 (MQ below (xr_Q (fun r => r = sn_no f_length wt 12 0 (-1) 0)) ([.ref h0, .int wt]).toArray s 0 0 (fun _ => False)) (F0 m 7 ls []) := by
    intro k
    induction k with
    | zero => exact fun n _ _ _ h => absurd h (Nat.not_lt_zero n)
    | succ k ih =>
      intro n i nr lt hk hin hT ls hl
      refine lv_iload hx hb dN_nearestOf_7 (lv_at hl 0 rfl) ?_
      refine lv_bipush (v := (nI 12)) hx hb dN_nearestOf_9 (by decide) ?_
      refine lv_icmp_ge (tgt := 56) hx hb dN_nearestOf_11 (by decide) (fun c_1 => ?_) (fun c_1 => ?_)
      · have hz := (nI_leI (by omega) (by omega)).mp c_1
        obtain rfl : n = 0 := by omega
        refine lv_iload_n hx hb dN_nearestOf_56 rfl (lv_at hl 1 rfl) ?_
        exact W.iret (v := nr) hx hb hr (fun t ht hW => ⟨⟨nr, rfl, (by rw [← hT]; simp [sn_no, c_1])⟩, ht⟩) (fun _ h => absurd h List.not_mem_nil) dN_nearestOf_57
      · have hz : i < 12 := by have h9 := mt (nI_leI (by omega) (by omega)).mpr c_1; omega
        obtain ⟨n, rfl⟩ : ∃ n', n = n' + 1 := ⟨n - 1, by omega⟩
        refine lv_iload_n hx hb dN_nearestOf_14 rfl (lv_at hl 4 rfl) ?_
        refine lv_iload hx hb dN_nearestOf_15 (lv_at hl 0 rfl) ?_
        refine xr_S (As := [.int wt, .int (nI i)]) ⟨hx, hb, hml, hown, hts⟩ (cN_holds l dC dI wt (nI i)) (va_cwS 2 hts gN123 rfl rfl rfl (by decide +kernel) ⟨Nat.le_of_ble_eq_true rfl, Nat.le_of_ble_eq_true rfl⟩) hK hP [] [] rfl rfl rfl hl.1 rfl (Nat.le_of_ble_eq_true rfl) dN_nearestOf_17 ⟨Nat.zero_le _, Nat.zero_le _⟩ (fun r_2 hr_2 => ?_)
        subst hr_2
        refine lv_if_eq (tgt := 50) hx hb dN_nearestOf_20 (by decide) (fun c_3 => ?_) (fun c_3 => ?_)
        · replace c_3 := bz_0 c_3
          refine lv_iinc (v := (nI (i + 1))) (lv' := [(4, .int (nI (i + 1))), (2, .int nr), (3, .int lt), (0, .ref h0), (1, .int wt)]) hx hb dN_nearestOf_50 hl (k := 0) rfl (nI_1 i) (by decide) rfl (fun ls hl => ?_)
          refine lv_goto (tgt := 7) hx hb dN_nearestOf_53 (by decide) ?_
          exact ih n (i + 1) nr lt (by omega) (by omega) (by rw [← hT]; simp [sn_no, c_1, c_3]) ls (lv_sub hl [0, 1, 2, 3, 4] rfl)
        · replace c_3 := bz_1 c_3
          refine lv_iload_n hx hb dN_nearestOf_23 rfl (lv_at hl 1 rfl) ?_
          refine lv_iconst (v := (-1)) hx hb dN_nearestOf_24 (by decide) ?_
          refine lv_icmp_eq (tgt := 39) hx hb dN_nearestOf_25 (by decide) (fun c_4 => ?_) (fun c_4 => ?_)
          · refine lv_iload hx hb dN_nearestOf_39 (lv_at hl 0 rfl) ?_
            refine lv_istore_n (lv' := [(2, .int (nI i)), (4, .int (nI i)), (3, .int lt), (0, .ref h0), (1, .int wt)]) hx hb dN_nearestOf_41 rfl hl (by decide) rfl (fun ls hl => ?_)
            refine lv_aload_n hx hb dN_nearestOf_42 rfl (lv_at hl 3 rfl) ?_
            refine va_get (D := (dC, dI)) (ci := 0) (v := .ref a_length) (C := R_N) (T := T_N) (N := 18) hx hb hts in_N hown hK hP 0 rfl rfl 12 (by decide) (hts _ flN64) (fun _ h9 => h9) rfl dN_nearestOf_43 ?_
            refine lv_iload hx hb dN_nearestOf_46 (lv_at hl 1 rfl) ?_
            refine xa_iald hx hb hK hP 1 0 rfl rfl (i := i) (by omega) (by decide) dN_nearestOf_48 ?_
            refine lv_istore_n (lv' := [(3, .int (f_length i)), (2, .int (nI i)), (4, .int (nI i)), (0, .ref h0), (1, .int wt)]) hx hb dN_nearestOf_49 rfl hl (by decide) rfl (fun ls hl => ?_)
            refine lv_iinc (v := (nI (i + 1))) (lv' := [(4, .int (nI (i + 1))), (3, .int (f_length i)), (2, .int (nI i)), (0, .ref h0), (1, .int wt)]) hx hb dN_nearestOf_50 hl (k := 2) rfl (nI_1 i) (by decide) rfl (fun ls hl => ?_)
            refine lv_goto (tgt := 7) hx hb dN_nearestOf_53 (by decide) ?_
            exact ih n (i + 1) (nI i) (f_length i) (by omega) (by omega) (by rw [← hT]; simp [sn_no, c_1, c_3, c_4]) ls (lv_sub hl [0, 2, 1, 3, 4] rfl)
          · refine lv_aload_n hx hb dN_nearestOf_28 rfl (lv_at hl 3 rfl) ?_
            refine va_get (D := (dC, dI)) (ci := 0) (v := .ref a_length) (C := R_N) (T := T_N) (N := 18) hx hb hts in_N hown hK hP 0 rfl rfl 12 (by decide) (hts _ flN64) (fun _ h9 => h9) rfl dN_nearestOf_29 ?_
            refine lv_iload hx hb dN_nearestOf_32 (lv_at hl 0 rfl) ?_
            refine xa_iald hx hb hK hP 1 0 rfl rfl (i := i) (by omega) (by decide) dN_nearestOf_34 ?_
            refine lv_iload_n hx hb dN_nearestOf_35 rfl (lv_at hl 2 rfl) ?_
            refine lv_icmp_ge (tgt := 50) hx hb dN_nearestOf_36 (by decide) (fun c_5 => ?_) (fun c_5 => ?_)
            · refine lv_iinc (v := (nI (i + 1))) (lv' := [(4, .int (nI (i + 1))), (2, .int nr), (3, .int lt), (0, .ref h0), (1, .int wt)]) hx hb dN_nearestOf_50 hl (k := 0) rfl (nI_1 i) (by decide) rfl (fun ls hl => ?_)
              refine lv_goto (tgt := 7) hx hb dN_nearestOf_53 (by decide) ?_
              exact ih n (i + 1) nr lt (by omega) (by omega) (by rw [← hT]; simp [sn_no, c_1, c_3, c_4, c_5]) ls (lv_sub hl [0, 1, 2, 3, 4] rfl)
            · refine lv_iload hx hb dN_nearestOf_39 (lv_at hl 0 rfl) ?_
              refine lv_istore_n (lv' := [(2, .int (nI i)), (4, .int (nI i)), (3, .int lt), (0, .ref h0), (1, .int wt)]) hx hb dN_nearestOf_41 rfl hl (by decide) rfl (fun ls hl => ?_)
              refine lv_aload_n hx hb dN_nearestOf_42 rfl (lv_at hl 3 rfl) ?_
              refine va_get (D := (dC, dI)) (ci := 0) (v := .ref a_length) (C := R_N) (T := T_N) (N := 18) hx hb hts in_N hown hK hP 0 rfl rfl 12 (by decide) (hts _ flN64) (fun _ h9 => h9) rfl dN_nearestOf_43 ?_
              refine lv_iload hx hb dN_nearestOf_46 (lv_at hl 1 rfl) ?_
              refine xa_iald hx hb hK hP 1 0 rfl rfl (i := i) (by omega) (by decide) dN_nearestOf_48 ?_
              refine lv_istore_n (lv' := [(3, .int (f_length i)), (2, .int (nI i)), (4, .int (nI i)), (0, .ref h0), (1, .int wt)]) hx hb dN_nearestOf_49 rfl hl (by decide) rfl (fun ls hl => ?_)
              refine lv_iinc (v := (nI (i + 1))) (lv' := [(4, .int (nI (i + 1))), (3, .int (f_length i)), (2, .int (nI i)), (0, .ref h0), (1, .int wt)]) hx hb dN_nearestOf_50 hl (k := 2) rfl (nI_1 i) (by decide) rfl (fun ls hl => ?_)
              refine lv_goto (tgt := 7) hx hb dN_nearestOf_53 (by decide) ?_
              exact ih n (i + 1) (nI i) (f_length i) (by omega) (by omega) (by rw [← hT]; simp [sn_no, c_1, c_3, c_4, c_5]) ls (lv_sub hl [0, 2, 1, 3, 4] rfl)
  refine lv_iconst (v := (-1)) hx hb dN_nearestOf_0 (by decide) ?_
  refine lv_istore_n (lv' := [(2, .int (-1)), (0, .ref h0), (1, .int wt)]) hx hb dN_nearestOf_1 rfl hl (by decide) rfl (fun ls hl => ?_)
  refine lv_iconst (v := 0) hx hb dN_nearestOf_2 (by decide) ?_
  refine lv_istore_n (lv' := [(3, .int 0), (2, .int (-1)), (0, .ref h0), (1, .int wt)]) hx hb dN_nearestOf_3 rfl hl (by decide) rfl (fun ls hl => ?_)
  refine lv_iconst (v := 0) hx hb dN_nearestOf_4 (by decide) ?_
  refine lv_istore (lv' := [(4, .int 0), (3, .int 0), (2, .int (-1)), (0, .ref h0), (1, .int wt)]) hx hb dN_nearestOf_5 hl (by decide) rfl (fun ls hl => ?_)
  exact lp7 13 12 0 (-1) 0 (by omega) (by omega) rfl ls (lv_sub hl [0, 2, 1, 3, 4] rfl)
set_option maxHeartbeats 4000000 in
set_option maxRecDepth 100000 in
theorem cN_lossFor (l : Launch) (dC : Nat → ClassId) (dI : Nat → Nat → Nat) (h0 a_walls a_placeX a_placeY a_reachers a_lossOf a_upper a_length a_headsOn a_turn a_lack a_joined : Nat) (Wd Ht Pn : Nat) (rs old sc jc : Int32) (cI : ClassId) (f_lossOf : Nat → Int32) (hc : Int32)  : Met l yN_lossFor (kN_lossFor :: WD) { frames := 0, cells := 0, slots := 0, locals := 0 } (va_Pc [.ref h0, .int hc] (xw (dC, dI) snC [(h0, .inr (0, [.int (nI Wd), .int (nI Ht), .ref a_walls, .int rs, .ref a_placeX, .ref a_placeY, .int (nI Pn), .ref a_reachers, .int old, .ref a_lossOf, .int sc, .ref a_upper, .ref a_length, .ref a_headsOn, .ref a_turn, .ref a_lack, .ref a_joined, .int jc])), (a_lossOf, .inl (cI, 13, .inl f_lossOf))] [(cI, .int)])) (xr_Q (fun r => r = sn_lf f_lossOf hc 12 1 0)) 0 0 (fun _ => False) := by
  refine Met.ofW (cc := bN_lossFor) (maxL := 4) (ret := (some .int)) (by decide) rfl ?_
  intro p e s m args below meth c s₁ B hml hv
  obtain ⟨rfl, hP, hK⟩ := hv
  have hx := B.exec
  have hb := B.bytes
  have hr := B.returns
  have hts : ∀ w ∈ WD, w.before _ s = true := fun w h => atoms_spec (ws := kN_lossFor :: WD) B.pre w (List.mem_cons_of_mem _ h)
  have hown : s.vm.findClass R_N = some m.cls := findClass_of_methodNamed B.named
  have hlocks := B.notSynchronized
  have hl := lv_entry ([.ref h0, .int hc]) (n := 4) (Nat.le_of_ble_eq_true rfl)
  rw [lg_entry_eq]
  generalize (lg_sl ([.ref h0, .int hc]) ++ List.replicate (4 - (lg_sl ([.ref h0, .int hc])).length) Slot.unset).toArray = ls at hl ⊢
  have hl : lv_has ls 4 [(0, .ref h0), (1, .int hc)] := hl
  have lp4 : ∀ (k n : Nat) (i : Nat) (g : Int32), n < k → i + n = 13 → sn_lf f_lossOf hc n i g = sn_lf f_lossOf hc 12 1 0 → ∀ ls : Array Slot, lv_has ls 4 [(3, .int (nI i)), (2, .int g), (0, .ref h0), (1, .int hc)] → W p l e (headSpec (kN_lossFor :: WD) { frames := 0, cells := 0, slots := 0, locals := 0 }).room s m ([.ref h0, .int hc]).toArray below meth c s.heap [] 0 0 (MQ below (xr_Q (fun r => r = sn_lf f_lossOf hc 12 1 0)) ([.ref h0, .int hc]).toArray s 0 0 (fun _ => False)) (F0 m 4 ls []) := by
    intro k
    induction k with
    | zero => exact fun n _ _ h => absurd h (Nat.not_lt_zero n)
    | succ k ih =>
      intro n i g hk hin hT ls hl
      refine lv_iload_n hx hb dN_lossFor_4 rfl (lv_at hl 0 rfl) ?_
      refine lv_bipush (v := (nI 12)) hx hb dN_lossFor_5 (by decide) ?_
      refine lv_icmp_gt (tgt := 40) hx hb dN_lossFor_7 (by decide) (fun c_1 => ?_) (fun c_1 => ?_)
      · have hz := (nI_ltI (by omega) (by omega)).mp c_1
        obtain rfl : n = 0 := by omega
        refine lv_iload_n hx hb dN_lossFor_40 rfl (lv_at hl 1 rfl) ?_
        exact W.iret (v := g) hx hb hr (fun t ht hW => ⟨⟨g, rfl, (by rw [← hT]; simp [sn_lf, c_1])⟩, ht⟩) (fun _ h => absurd h List.not_mem_nil) dN_lossFor_41
      · have hz : i ≤ 12 := by have h9 := mt (nI_ltI (by omega) (by omega)).mpr c_1; omega
        obtain ⟨n, rfl⟩ : ∃ n', n = n' + 1 := ⟨n - 1, by omega⟩
        refine lv_aload_n hx hb dN_lossFor_10 rfl (lv_at hl 2 rfl) ?_
        refine va_get (D := (dC, dI)) (ci := 0) (v := .ref a_lossOf) (C := R_N) (T := T_N) (N := 18) hx hb hts in_N hown hK hP 0 rfl rfl 9 (by decide) (hts _ flN49) (fun _ h9 => h9) rfl dN_lossFor_11 ?_
        refine lv_iload_n hx hb dN_lossFor_14 rfl (lv_at hl 0 rfl) ?_
        refine xa_iald hx hb hK hP 1 0 rfl rfl (i := i) (by omega) (by decide) dN_lossFor_15 ?_
        refine lv_iconst (v := (-1)) hx hb dN_lossFor_16 (by decide) ?_
        refine lv_icmp_eq (tgt := 34) hx hb dN_lossFor_17 (by decide) (fun c_2 => ?_) (fun c_2 => ?_)
        · refine lv_iinc (v := (nI (i + 1))) (lv' := [(3, .int (nI (i + 1))), (2, .int g), (0, .ref h0), (1, .int hc)]) hx hb dN_lossFor_34 hl (k := 0) rfl (nI_1 i) (by decide) rfl (fun ls hl => ?_)
          refine lv_goto (tgt := 4) hx hb dN_lossFor_37 (by decide) ?_
          exact ih n (i + 1) g (by omega) (by omega) (by rw [← hT]; simp [sn_lf, c_1, c_2]) ls (lv_sub hl [0, 1, 2, 3] rfl)
        · refine lv_aload_n hx hb dN_lossFor_20 rfl (lv_at hl 2 rfl) ?_
          refine va_get (D := (dC, dI)) (ci := 0) (v := .ref a_lossOf) (C := R_N) (T := T_N) (N := 18) hx hb hts in_N hown hK hP 0 rfl rfl 9 (by decide) (hts _ flN49) (fun _ h9 => h9) rfl dN_lossFor_21 ?_
          refine lv_iload_n hx hb dN_lossFor_24 rfl (lv_at hl 0 rfl) ?_
          refine xa_iald hx hb hK hP 1 0 rfl rfl (i := i) (by omega) (by decide) dN_lossFor_25 ?_
          refine lv_istore_n (lv' := [(2, .int (f_lossOf i)), (3, .int (nI i)), (0, .ref h0), (1, .int hc)]) hx hb dN_lossFor_26 rfl hl (by decide) rfl (fun ls hl => ?_)
          refine lv_iload_n hx hb dN_lossFor_27 rfl (lv_at hl 1 rfl) ?_
          refine lv_iload_n hx hb dN_lossFor_28 rfl (lv_at hl 3 rfl) ?_
          refine lv_icmp_lt (tgt := 34) hx hb dN_lossFor_29 (by decide) (fun c_3 => ?_) (fun c_3 => ?_)
          · refine lv_iinc (v := (nI (i + 1))) (lv' := [(3, .int (nI (i + 1))), (2, .int (f_lossOf i)), (0, .ref h0), (1, .int hc)]) hx hb dN_lossFor_34 hl (k := 1) rfl (nI_1 i) (by decide) rfl (fun ls hl => ?_)
            refine lv_goto (tgt := 4) hx hb dN_lossFor_37 (by decide) ?_
            exact ih n (i + 1) (f_lossOf i) (by omega) (by omega) (by rw [← hT]; simp [sn_lf, c_1, c_2, c_3]) ls (lv_sub hl [0, 1, 2, 3] rfl)
          · refine lv_iload_n hx hb dN_lossFor_32 rfl (lv_at hl 0 rfl) ?_
            exact W.iret (v := f_lossOf i) hx hb hr (fun t ht hW => ⟨⟨f_lossOf i, rfl, (by rw [← hT]; simp [sn_lf, c_1, c_2, c_3])⟩, ht⟩) (fun _ h => absurd h List.not_mem_nil) dN_lossFor_33
  refine lv_iconst (v := 0) hx hb dN_lossFor_0 (by decide) ?_
  refine lv_istore_n (lv' := [(2, .int 0), (0, .ref h0), (1, .int hc)]) hx hb dN_lossFor_1 rfl hl (by decide) rfl (fun ls hl => ?_)
  refine lv_iconst (v := 1) hx hb dN_lossFor_2 (by decide) ?_
  refine lv_istore_n (lv' := [(3, .int 1), (2, .int 0), (0, .ref h0), (1, .int hc)]) hx hb dN_lossFor_3 rfl hl (by decide) rfl (fun ls hl => ?_)
  exact lp4 13 12 1 0 (by omega) (by omega) rfl ls (lv_sub hl [0, 1, 2, 3] rfl)
set_option maxHeartbeats 4000000 in
set_option maxRecDepth 100000 in
theorem cN_lineIsFree (l : Launch) (dC : Nat → ClassId) (dI : Nat → Nat → Nat) (h0 a_walls a_placeX a_placeY a_reachers a_lossOf a_upper a_length a_headsOn a_turn a_lack a_joined : Nat) (Wd Ht Pn : Nat) (rs old sc jc : Int32) (cZ : ClassId) (f_walls : Nat → Int32) (a b u v : Nat) (hW : Wd ≤ 16) (hH : Ht ≤ 16) (ha : a < 16) (hb0 : b < 16) (hu : u < 16) (hv0 : v < 16) : Met l yN_lineIsFree (kN_lineIsFree :: WD) { frames := 2, cells := 0, slots := 0, locals := 44 } (va_Pc [.ref h0, .int (nI a), .int (nI b), .int (nI u), .int (nI v)] (xw (dC, dI) snC [(h0, .inr (0, [.int (nI Wd), .int (nI Ht), .ref a_walls, .int rs, .ref a_placeX, .ref a_placeY, .int (nI Pn), .ref a_reachers, .int old, .ref a_lossOf, .int sc, .ref a_upper, .ref a_length, .ref a_headsOn, .ref a_turn, .ref a_lack, .ref a_joined, .int jc])), (a_walls, .inl (cZ, 256, .inl f_walls))] [(cZ, .boolean)])) (xr_Q (fun r => r = bz (sn_free Wd Ht f_walls a b u v))) 0 0 (fun _ => False) := by
  refine Met.ofW (cc := bN_lineIsFree) (maxL := 13) (ret := (some .boolean)) (by decide) rfl ?_
  intro p e s m args below meth c s₁ B hml hv
  obtain ⟨rfl, hP, hK⟩ := hv
  have hx := B.exec
  have hb := B.bytes
  have hr := B.returns
  have hts : ∀ w ∈ WD, w.before _ s = true := fun w h => atoms_spec (ws := kN_lineIsFree :: WD) B.pre w (List.mem_cons_of_mem _ h)
  have hown : s.vm.findClass R_N = some m.cls := findClass_of_methodNamed B.named
  have hlocks := B.notSynchronized
  have hl := lv_entry ([.ref h0, .int (nI a), .int (nI b), .int (nI u), .int (nI v)]) (n := 13) (Nat.le_of_ble_eq_true rfl)
  rw [lg_entry_eq]
  generalize (lg_sl ([.ref h0, .int (nI a), .int (nI b), .int (nI u), .int (nI v)]) ++ List.replicate (13 - (lg_sl ([.ref h0, .int (nI a), .int (nI b), .int (nI u), .int (nI v)])).length) Slot.unset).toArray = ls at hl ⊢
  have hl : lv_has ls 13 [(0, .ref h0), (1, .int (nI a)), (2, .int (nI b)), (3, .int (nI u)), (4, .int (nI v))] := hl
  have hA := nd_lt ha hu
  have hB := nd_lt hb0 hv0
  have hc0 := sn_free_eq Wd Ht f_walls a b u v
  have lp51 : ∀ (k n : Nat) (t i j : Nat) (sx sy : Int32), n < k → t + n = nd a u + nd b v + 1 → i ≤ t → j ≤ t → sn_sg a b u v sx sy → sn_line Wd Ht f_walls a b (nd a u) (nd b v) sx sy n i j = sn_line Wd Ht f_walls a b (nd a u) (nd b v) sx sy (nd a u + nd b v + 1) 0 0 → ∀ ls : Array Slot, lv_has ls 13 [(11, .int (nI t)), (9, .int (nI i)), (10, .int (nI j)), (7, .int sx), (8, .int sy), (5, .int (nI (nd a u))), (6, .int (nI (nd b v))), (0, .ref h0), (1, .int (nI a)), (2, .int (nI b))] → W p l e (headSpec (kN_lineIsFree :: WD) { frames := 2, cells := 0, slots := 0, locals := 44 }).room s m ([.ref h0, .int (nI a), .int (nI b), .int (nI u), .int (nI v)]).toArray below meth c s.heap [] 0 0 (MQ below (xr_Q (fun r => r = bz (sn_free Wd Ht f_walls a b u v))) ([.ref h0, .int (nI a), .int (nI b), .int (nI u), .int (nI v)]).toArray s 0 0 (fun _ => False)) (F0 m 51 ls []) := by
    intro k
    induction k with
    | zero => exact fun n _ _ _ _ _ h => absurd h (Nat.not_lt_zero n)
    | succ k ih =>
      intro n t i j sx sy hk hin hit hjt hsx hT ls hl
      refine lv_iload hx hb dN_lineIsFree_51 (lv_at hl 0 rfl) ?_
      refine lv_iload hx hb dN_lineIsFree_53 (lv_at hl 5 rfl) ?_
      refine lv_iload hx hb dN_lineIsFree_55 (lv_at hl 6 rfl) ?_
      refine lv_iadd hx hb dN_lineIsFree_57 ?_
      refine lv_icmp_gt (tgt := 143) hx hb dN_lineIsFree_58 (by decide) (fun c_1 => ?_) (fun c_1 => ?_)
      · rw [nI_add] at c_1
        have hz := (nI_ltI (by omega) (by omega)).mp c_1
        obtain rfl : n = 0 := by omega
        refine lv_iconst (v := 1) hx hb dN_lineIsFree_143 (by decide) ?_
        exact W.zret (v := 1) hx hb hr (by decide) (fun t ht hW => ⟨⟨1, rfl, (by rw [hc0, ← hsx.1, ← hsx.2, ← hT]; simp [bz, sn_line, c_1])⟩, ht⟩) (fun _ h => absurd h List.not_mem_nil) dN_lineIsFree_144
      · rw [nI_add] at c_1
        have hz : t ≤ nd a u + nd b v := by have h9 := mt (nI_ltI (by omega) (by omega)).mpr c_1; omega
        obtain ⟨n, rfl⟩ : ∃ n', n = n' + 1 := ⟨n - 1, by omega⟩
        refine lv_aload_n hx hb dN_lineIsFree_61 rfl (lv_at hl 7 rfl) ?_
        refine lv_iload_n hx hb dN_lineIsFree_62 rfl (lv_at hl 8 rfl) ?_
        refine lv_iload hx hb dN_lineIsFree_63 (lv_at hl 1 rfl) ?_
        refine lv_iload hx hb dN_lineIsFree_65 (lv_at hl 3 rfl) ?_
        refine lv_imul hx hb dN_lineIsFree_67 ?_
        refine lv_iadd hx hb dN_lineIsFree_68 ?_
        refine lv_iload_n hx hb dN_lineIsFree_69 rfl (lv_at hl 9 rfl) ?_
        refine lv_iload hx hb dN_lineIsFree_70 (lv_at hl 2 rfl) ?_
        refine lv_iload hx hb dN_lineIsFree_72 (lv_at hl 4 rfl) ?_
        refine lv_imul hx hb dN_lineIsFree_74 ?_
        refine lv_iadd hx hb dN_lineIsFree_75 ?_
        refine xr_V (As := [.int ((nI a) + ((nI i) * sx)), .int ((nI b) + ((nI j) * sy))]) ⟨hx, hb, hml, hown, hts⟩ (cN_isWall l dC dI h0 a_walls a_placeX a_placeY a_reachers a_lossOf a_upper a_length a_headsOn a_turn a_lack a_joined Wd Ht Pn rs old sc jc cZ f_walls ((nI a) + ((nI i) * sx)) ((nI b) + ((nI j) * sy)) hW hH) (cwV 2 hts gN86 rfl rfl rfl (by decide +kernel) ⟨Nat.le_of_ble_eq_true rfl, Nat.le_of_ble_eq_true rfl⟩) hK hP [0, 1] [0] rfl rfl 0 0 rfl rfl rfl rfl hl.1 rfl (Nat.le_of_ble_eq_true rfl) dN_lineIsFree_76 ⟨Nat.zero_le _, Nat.zero_le _⟩ (fun r_2 hr_2 => ?_)
        subst hr_2
        refine lv_if_eq (tgt := 84) hx hb dN_lineIsFree_79 (by decide) (fun c_3 => ?_) (fun c_3 => ?_)
        · replace c_3 := bz_0 c_3
          have hw0 := c_3
          refine lv_iload hx hb dN_lineIsFree_84 (lv_at hl 1 rfl) ?_
          refine lv_iload hx hb dN_lineIsFree_86 (lv_at hl 5 rfl) ?_
          refine lv_icmp_ne (tgt := 100) hx hb dN_lineIsFree_88 (by decide) (fun c_4 => ?_) (fun c_4 => ?_)
          · rw [nI_eq (by omega) (by omega)] at c_4
            have hne : ¬ (i = nd a u ∧ j = nd b v) := fun h => c_4 h.1
            refine lv_iconst (v := 2) hx hb dN_lineIsFree_100 (by decide) ?_
            refine lv_iload hx hb dN_lineIsFree_101 (lv_at hl 1 rfl) ?_
            refine lv_imul hx hb dN_lineIsFree_103 ?_
            refine lv_iconst (v := 1) hx hb dN_lineIsFree_104 (by decide) ?_
            refine lv_iadd hx hb dN_lineIsFree_105 ?_
            refine lv_iload hx hb dN_lineIsFree_106 (lv_at hl 6 rfl) ?_
            refine lv_imul hx hb dN_lineIsFree_108 ?_
            refine lv_iconst (v := 2) hx hb dN_lineIsFree_109 (by decide) ?_
            refine lv_iload hx hb dN_lineIsFree_110 (lv_at hl 2 rfl) ?_
            refine lv_imul hx hb dN_lineIsFree_112 ?_
            refine lv_iconst (v := 1) hx hb dN_lineIsFree_113 (by decide) ?_
            refine lv_iadd hx hb dN_lineIsFree_114 ?_
            refine lv_iload hx hb dN_lineIsFree_115 (lv_at hl 5 rfl) ?_
            refine lv_imul hx hb dN_lineIsFree_117 ?_
            refine lv_isub hx hb dN_lineIsFree_118 ?_
            rw [show ((((2 * (nI i)) + 1) * (nI (nd b v))) - (((2 * (nI j)) + 1) * (nI (nd a u))) : Int32) = nI ((2 * i + 1) * nd b v) - nI ((2 * j + 1) * nd a u) from sn_up i j (nd a u) (nd b v)]
            refine lv_istore (lv' := [(12, .int (nI ((2 * i + 1) * nd b v) - nI ((2 * j + 1) * nd a u))), (11, .int (nI t)), (9, .int (nI i)), (10, .int (nI j)), (7, .int sx), (8, .int sy), (5, .int (nI (nd a u))), (6, .int (nI (nd b v))), (0, .ref h0), (1, .int (nI a)), (2, .int (nI b))]) hx hb dN_lineIsFree_119 hl (by decide) rfl (fun ls hl => ?_)
            refine lv_iload hx hb dN_lineIsFree_121 (lv_at hl 0 rfl) ?_
            refine lv_if_gt (tgt := 129) hx hb dN_lineIsFree_123 (by decide) (fun c_5 => ?_) (fun c_5 => ?_)
            · rw [sn_upgt (sn_p31 hit hB) (sn_p31 hjt hA)] at c_5
              refine lv_iload hx hb dN_lineIsFree_129 (lv_at hl 0 rfl) ?_
              refine lv_if_lt (tgt := 137) hx hb dN_lineIsFree_131 (by decide) (fun c_6 => ?_) (fun c_6 => ?_)
              · rw [sn_uplt (sn_p31 hit hB) (sn_p31 hjt hA)] at c_6
                refine lv_iinc (v := (nI (t + 1))) (lv' := [(11, .int (nI (t + 1))), (12, .int (nI ((2 * i + 1) * nd b v) - nI ((2 * j + 1) * nd a u))), (9, .int (nI i)), (10, .int (nI j)), (7, .int sx), (8, .int sy), (5, .int (nI (nd a u))), (6, .int (nI (nd b v))), (0, .ref h0), (1, .int (nI a)), (2, .int (nI b))]) hx hb dN_lineIsFree_137 hl (k := 1) rfl (nI_1 t) (by decide) rfl (fun ls hl => ?_)
                refine lv_goto (tgt := 51) hx hb dN_lineIsFree_140 (by decide) ?_
                exact ih n (t + 1) i j sx sy (by omega) (by omega) (by omega) (by omega) hsx (by rw [← hT, sn_line_step hw0 hne]; simp [c_5, c_6]) ls (lv_sub hl [0, 2, 3, 4, 5, 6, 7, 8, 9, 10] rfl)
              · rw [sn_uplt (sn_p31 hit hB) (sn_p31 hjt hA)] at c_6
                refine lv_iinc (v := (nI (j + 1))) (lv' := [(10, .int (nI (j + 1))), (12, .int (nI ((2 * i + 1) * nd b v) - nI ((2 * j + 1) * nd a u))), (11, .int (nI t)), (9, .int (nI i)), (7, .int sx), (8, .int sy), (5, .int (nI (nd a u))), (6, .int (nI (nd b v))), (0, .ref h0), (1, .int (nI a)), (2, .int (nI b))]) hx hb dN_lineIsFree_134 hl (k := 3) rfl (nI_1 j) (by decide) rfl (fun ls hl => ?_)
                refine lv_iinc (v := (nI (t + 1))) (lv' := [(11, .int (nI (t + 1))), (10, .int (nI (j + 1))), (12, .int (nI ((2 * i + 1) * nd b v) - nI ((2 * j + 1) * nd a u))), (9, .int (nI i)), (7, .int sx), (8, .int sy), (5, .int (nI (nd a u))), (6, .int (nI (nd b v))), (0, .ref h0), (1, .int (nI a)), (2, .int (nI b))]) hx hb dN_lineIsFree_137 hl (k := 2) rfl (nI_1 t) (by decide) rfl (fun ls hl => ?_)
                refine lv_goto (tgt := 51) hx hb dN_lineIsFree_140 (by decide) ?_
                exact ih n (t + 1) i (j + 1) sx sy (by omega) (by omega) (by omega) (by omega) hsx (by rw [← hT, sn_line_step hw0 hne]; simp [c_5, c_6]) ls (lv_sub hl [0, 3, 1, 4, 5, 6, 7, 8, 9, 10] rfl)
            · rw [sn_upgt (sn_p31 hit hB) (sn_p31 hjt hA)] at c_5
              refine lv_iinc (v := (nI (i + 1))) (lv' := [(9, .int (nI (i + 1))), (12, .int (nI ((2 * i + 1) * nd b v) - nI ((2 * j + 1) * nd a u))), (11, .int (nI t)), (10, .int (nI j)), (7, .int sx), (8, .int sy), (5, .int (nI (nd a u))), (6, .int (nI (nd b v))), (0, .ref h0), (1, .int (nI a)), (2, .int (nI b))]) hx hb dN_lineIsFree_126 hl (k := 2) rfl (nI_1 i) (by decide) rfl (fun ls hl => ?_)
              refine lv_iload hx hb dN_lineIsFree_129 (lv_at hl 1 rfl) ?_
              refine lv_if_lt (tgt := 137) hx hb dN_lineIsFree_131 (by decide) (fun c_7 => ?_) (fun c_7 => ?_)
              · rw [sn_uplt (sn_p31 hit hB) (sn_p31 hjt hA)] at c_7
                refine lv_iinc (v := (nI (t + 1))) (lv' := [(11, .int (nI (t + 1))), (9, .int (nI (i + 1))), (12, .int (nI ((2 * i + 1) * nd b v) - nI ((2 * j + 1) * nd a u))), (10, .int (nI j)), (7, .int sx), (8, .int sy), (5, .int (nI (nd a u))), (6, .int (nI (nd b v))), (0, .ref h0), (1, .int (nI a)), (2, .int (nI b))]) hx hb dN_lineIsFree_137 hl (k := 2) rfl (nI_1 t) (by decide) rfl (fun ls hl => ?_)
                refine lv_goto (tgt := 51) hx hb dN_lineIsFree_140 (by decide) ?_
                exact ih n (t + 1) (i + 1) j sx sy (by omega) (by omega) (by omega) (by omega) hsx (by rw [← hT, sn_line_step hw0 hne]; simp [c_5, c_7]) ls (lv_sub hl [0, 1, 3, 4, 5, 6, 7, 8, 9, 10] rfl)
              · rw [sn_uplt (sn_p31 hit hB) (sn_p31 hjt hA)] at c_7
                refine lv_iinc (v := (nI (j + 1))) (lv' := [(10, .int (nI (j + 1))), (9, .int (nI (i + 1))), (12, .int (nI ((2 * i + 1) * nd b v) - nI ((2 * j + 1) * nd a u))), (11, .int (nI t)), (7, .int sx), (8, .int sy), (5, .int (nI (nd a u))), (6, .int (nI (nd b v))), (0, .ref h0), (1, .int (nI a)), (2, .int (nI b))]) hx hb dN_lineIsFree_134 hl (k := 3) rfl (nI_1 j) (by decide) rfl (fun ls hl => ?_)
                refine lv_iinc (v := (nI (t + 1))) (lv' := [(11, .int (nI (t + 1))), (10, .int (nI (j + 1))), (9, .int (nI (i + 1))), (12, .int (nI ((2 * i + 1) * nd b v) - nI ((2 * j + 1) * nd a u))), (7, .int sx), (8, .int sy), (5, .int (nI (nd a u))), (6, .int (nI (nd b v))), (0, .ref h0), (1, .int (nI a)), (2, .int (nI b))]) hx hb dN_lineIsFree_137 hl (k := 3) rfl (nI_1 t) (by decide) rfl (fun ls hl => ?_)
                refine lv_goto (tgt := 51) hx hb dN_lineIsFree_140 (by decide) ?_
                exact ih n (t + 1) (i + 1) (j + 1) sx sy (by omega) (by omega) (by omega) (by omega) hsx (by rw [← hT, sn_line_step hw0 hne]; simp [c_5, c_7]) ls (lv_sub hl [0, 2, 1, 4, 5, 6, 7, 8, 9, 10] rfl)
          · rw [nI_eq (by omega) (by omega)] at c_4
            refine lv_iload hx hb dN_lineIsFree_91 (lv_at hl 2 rfl) ?_
            refine lv_iload hx hb dN_lineIsFree_93 (lv_at hl 6 rfl) ?_
            refine lv_icmp_ne (tgt := 100) hx hb dN_lineIsFree_95 (by decide) (fun c_8 => ?_) (fun c_8 => ?_)
            · rw [nI_eq (by omega) (by omega)] at c_8
              have hne : ¬ (i = nd a u ∧ j = nd b v) := fun h => c_8 h.2
              refine lv_iconst (v := 2) hx hb dN_lineIsFree_100 (by decide) ?_
              refine lv_iload hx hb dN_lineIsFree_101 (lv_at hl 1 rfl) ?_
              refine lv_imul hx hb dN_lineIsFree_103 ?_
              refine lv_iconst (v := 1) hx hb dN_lineIsFree_104 (by decide) ?_
              refine lv_iadd hx hb dN_lineIsFree_105 ?_
              refine lv_iload hx hb dN_lineIsFree_106 (lv_at hl 6 rfl) ?_
              refine lv_imul hx hb dN_lineIsFree_108 ?_
              refine lv_iconst (v := 2) hx hb dN_lineIsFree_109 (by decide) ?_
              refine lv_iload hx hb dN_lineIsFree_110 (lv_at hl 2 rfl) ?_
              refine lv_imul hx hb dN_lineIsFree_112 ?_
              refine lv_iconst (v := 1) hx hb dN_lineIsFree_113 (by decide) ?_
              refine lv_iadd hx hb dN_lineIsFree_114 ?_
              refine lv_iload hx hb dN_lineIsFree_115 (lv_at hl 5 rfl) ?_
              refine lv_imul hx hb dN_lineIsFree_117 ?_
              refine lv_isub hx hb dN_lineIsFree_118 ?_
              rw [show ((((2 * (nI i)) + 1) * (nI (nd b v))) - (((2 * (nI j)) + 1) * (nI (nd a u))) : Int32) = nI ((2 * i + 1) * nd b v) - nI ((2 * j + 1) * nd a u) from sn_up i j (nd a u) (nd b v)]
              refine lv_istore (lv' := [(12, .int (nI ((2 * i + 1) * nd b v) - nI ((2 * j + 1) * nd a u))), (11, .int (nI t)), (9, .int (nI i)), (10, .int (nI j)), (7, .int sx), (8, .int sy), (5, .int (nI (nd a u))), (6, .int (nI (nd b v))), (0, .ref h0), (1, .int (nI a)), (2, .int (nI b))]) hx hb dN_lineIsFree_119 hl (by decide) rfl (fun ls hl => ?_)
              refine lv_iload hx hb dN_lineIsFree_121 (lv_at hl 0 rfl) ?_
              refine lv_if_gt (tgt := 129) hx hb dN_lineIsFree_123 (by decide) (fun c_9 => ?_) (fun c_9 => ?_)
              · rw [sn_upgt (sn_p31 hit hB) (sn_p31 hjt hA)] at c_9
                refine lv_iload hx hb dN_lineIsFree_129 (lv_at hl 0 rfl) ?_
                refine lv_if_lt (tgt := 137) hx hb dN_lineIsFree_131 (by decide) (fun c_10 => ?_) (fun c_10 => ?_)
                · rw [sn_uplt (sn_p31 hit hB) (sn_p31 hjt hA)] at c_10
                  refine lv_iinc (v := (nI (t + 1))) (lv' := [(11, .int (nI (t + 1))), (12, .int (nI ((2 * i + 1) * nd b v) - nI ((2 * j + 1) * nd a u))), (9, .int (nI i)), (10, .int (nI j)), (7, .int sx), (8, .int sy), (5, .int (nI (nd a u))), (6, .int (nI (nd b v))), (0, .ref h0), (1, .int (nI a)), (2, .int (nI b))]) hx hb dN_lineIsFree_137 hl (k := 1) rfl (nI_1 t) (by decide) rfl (fun ls hl => ?_)
                  refine lv_goto (tgt := 51) hx hb dN_lineIsFree_140 (by decide) ?_
                  exact ih n (t + 1) i j sx sy (by omega) (by omega) (by omega) (by omega) hsx (by rw [← hT, sn_line_step hw0 hne]; simp [c_9, c_10]) ls (lv_sub hl [0, 2, 3, 4, 5, 6, 7, 8, 9, 10] rfl)
                · rw [sn_uplt (sn_p31 hit hB) (sn_p31 hjt hA)] at c_10
                  refine lv_iinc (v := (nI (j + 1))) (lv' := [(10, .int (nI (j + 1))), (12, .int (nI ((2 * i + 1) * nd b v) - nI ((2 * j + 1) * nd a u))), (11, .int (nI t)), (9, .int (nI i)), (7, .int sx), (8, .int sy), (5, .int (nI (nd a u))), (6, .int (nI (nd b v))), (0, .ref h0), (1, .int (nI a)), (2, .int (nI b))]) hx hb dN_lineIsFree_134 hl (k := 3) rfl (nI_1 j) (by decide) rfl (fun ls hl => ?_)
                  refine lv_iinc (v := (nI (t + 1))) (lv' := [(11, .int (nI (t + 1))), (10, .int (nI (j + 1))), (12, .int (nI ((2 * i + 1) * nd b v) - nI ((2 * j + 1) * nd a u))), (9, .int (nI i)), (7, .int sx), (8, .int sy), (5, .int (nI (nd a u))), (6, .int (nI (nd b v))), (0, .ref h0), (1, .int (nI a)), (2, .int (nI b))]) hx hb dN_lineIsFree_137 hl (k := 2) rfl (nI_1 t) (by decide) rfl (fun ls hl => ?_)
                  refine lv_goto (tgt := 51) hx hb dN_lineIsFree_140 (by decide) ?_
                  exact ih n (t + 1) i (j + 1) sx sy (by omega) (by omega) (by omega) (by omega) hsx (by rw [← hT, sn_line_step hw0 hne]; simp [c_9, c_10]) ls (lv_sub hl [0, 3, 1, 4, 5, 6, 7, 8, 9, 10] rfl)
              · rw [sn_upgt (sn_p31 hit hB) (sn_p31 hjt hA)] at c_9
                refine lv_iinc (v := (nI (i + 1))) (lv' := [(9, .int (nI (i + 1))), (12, .int (nI ((2 * i + 1) * nd b v) - nI ((2 * j + 1) * nd a u))), (11, .int (nI t)), (10, .int (nI j)), (7, .int sx), (8, .int sy), (5, .int (nI (nd a u))), (6, .int (nI (nd b v))), (0, .ref h0), (1, .int (nI a)), (2, .int (nI b))]) hx hb dN_lineIsFree_126 hl (k := 2) rfl (nI_1 i) (by decide) rfl (fun ls hl => ?_)
                refine lv_iload hx hb dN_lineIsFree_129 (lv_at hl 1 rfl) ?_
                refine lv_if_lt (tgt := 137) hx hb dN_lineIsFree_131 (by decide) (fun c_11 => ?_) (fun c_11 => ?_)
                · rw [sn_uplt (sn_p31 hit hB) (sn_p31 hjt hA)] at c_11
                  refine lv_iinc (v := (nI (t + 1))) (lv' := [(11, .int (nI (t + 1))), (9, .int (nI (i + 1))), (12, .int (nI ((2 * i + 1) * nd b v) - nI ((2 * j + 1) * nd a u))), (10, .int (nI j)), (7, .int sx), (8, .int sy), (5, .int (nI (nd a u))), (6, .int (nI (nd b v))), (0, .ref h0), (1, .int (nI a)), (2, .int (nI b))]) hx hb dN_lineIsFree_137 hl (k := 2) rfl (nI_1 t) (by decide) rfl (fun ls hl => ?_)
                  refine lv_goto (tgt := 51) hx hb dN_lineIsFree_140 (by decide) ?_
                  exact ih n (t + 1) (i + 1) j sx sy (by omega) (by omega) (by omega) (by omega) hsx (by rw [← hT, sn_line_step hw0 hne]; simp [c_9, c_11]) ls (lv_sub hl [0, 1, 3, 4, 5, 6, 7, 8, 9, 10] rfl)
                · rw [sn_uplt (sn_p31 hit hB) (sn_p31 hjt hA)] at c_11
                  refine lv_iinc (v := (nI (j + 1))) (lv' := [(10, .int (nI (j + 1))), (9, .int (nI (i + 1))), (12, .int (nI ((2 * i + 1) * nd b v) - nI ((2 * j + 1) * nd a u))), (11, .int (nI t)), (7, .int sx), (8, .int sy), (5, .int (nI (nd a u))), (6, .int (nI (nd b v))), (0, .ref h0), (1, .int (nI a)), (2, .int (nI b))]) hx hb dN_lineIsFree_134 hl (k := 3) rfl (nI_1 j) (by decide) rfl (fun ls hl => ?_)
                  refine lv_iinc (v := (nI (t + 1))) (lv' := [(11, .int (nI (t + 1))), (10, .int (nI (j + 1))), (9, .int (nI (i + 1))), (12, .int (nI ((2 * i + 1) * nd b v) - nI ((2 * j + 1) * nd a u))), (7, .int sx), (8, .int sy), (5, .int (nI (nd a u))), (6, .int (nI (nd b v))), (0, .ref h0), (1, .int (nI a)), (2, .int (nI b))]) hx hb dN_lineIsFree_137 hl (k := 3) rfl (nI_1 t) (by decide) rfl (fun ls hl => ?_)
                  refine lv_goto (tgt := 51) hx hb dN_lineIsFree_140 (by decide) ?_
                  exact ih n (t + 1) (i + 1) (j + 1) sx sy (by omega) (by omega) (by omega) (by omega) hsx (by rw [← hT, sn_line_step hw0 hne]; simp [c_9, c_11]) ls (lv_sub hl [0, 2, 1, 4, 5, 6, 7, 8, 9, 10] rfl)
            · rw [nI_eq (by omega) (by omega)] at c_8
              have hend : i = nd a u ∧ j = nd b v := ⟨by assumption, c_8⟩
              refine lv_iconst (v := 1) hx hb dN_lineIsFree_98 (by decide) ?_
              exact W.zret (v := 1) hx hb hr (by decide) (fun t ht hW => ⟨⟨1, rfl, (by rw [hc0, ← hsx.1, ← hsx.2, ← hT, sn_line_end hw0 hend]; rfl)⟩, ht⟩) (fun _ h => absurd h List.not_mem_nil) dN_lineIsFree_99
        · replace c_3 := bz_1 c_3
          refine lv_iconst (v := 0) hx hb dN_lineIsFree_82 (by decide) ?_
          exact W.zret (v := 0) hx hb hr (by decide) (fun t ht hW => ⟨⟨0, rfl, (by rw [hc0, ← hsx.1, ← hsx.2, ← hT]; simp [bz, sn_line, c_1, c_3])⟩, ht⟩) (fun _ h => absurd h List.not_mem_nil) dN_lineIsFree_83
  refine lv_iload_n hx hb dN_lineIsFree_0 rfl (lv_at hl 3 rfl) ?_
  refine lv_iload_n hx hb dN_lineIsFree_1 rfl (lv_at hl 1 rfl) ?_
  refine lv_isub hx hb dN_lineIsFree_2 ?_
  refine va_mabs hx hb (hml.trans hl.1.symm) hown (hts _ mlN168) (hts _ smH_abs) (hts _ iniH) (hts _ kwH_abs) (Nat.le_of_ble_eq_true rfl) (Nat.le_of_ble_eq_true rfl) (Nat.zero_le _) (Nat.zero_le _) dN_lineIsFree_3 ?_
  rw [show (if 0 ≤ ((nI u) - (nI a)) then ((nI u) - (nI a)) else 0 - ((nI u) - (nI a)) : Int32) = nI (nd a u) from sn_abs ha hu]
  refine lv_istore (lv' := [(5, .int (nI (nd a u))), (0, .ref h0), (1, .int (nI a)), (2, .int (nI b)), (3, .int (nI u)), (4, .int (nI v))]) hx hb dN_lineIsFree_6 hl (by decide) rfl (fun ls hl => ?_)
  refine lv_iload hx hb dN_lineIsFree_8 (lv_at hl 5 rfl) ?_
  refine lv_iload_n hx hb dN_lineIsFree_10 rfl (lv_at hl 3 rfl) ?_
  refine lv_isub hx hb dN_lineIsFree_11 ?_
  refine va_mabs hx hb (hml.trans hl.1.symm) hown (hts _ mlN168) (hts _ smH_abs) (hts _ iniH) (hts _ kwH_abs) (Nat.le_of_ble_eq_true rfl) (Nat.le_of_ble_eq_true rfl) (Nat.zero_le _) (Nat.zero_le _) dN_lineIsFree_12 ?_
  rw [show (if 0 ≤ ((nI v) - (nI b)) then ((nI v) - (nI b)) else 0 - ((nI v) - (nI b)) : Int32) = nI (nd b v) from sn_abs hb0 hv0]
  refine lv_istore (lv' := [(6, .int (nI (nd b v))), (5, .int (nI (nd a u))), (0, .ref h0), (1, .int (nI a)), (2, .int (nI b)), (3, .int (nI u)), (4, .int (nI v))]) hx hb dN_lineIsFree_15 hl (by decide) rfl (fun ls hl => ?_)
  refine lv_iload_n hx hb dN_lineIsFree_17 rfl (lv_at hl 5 rfl) ?_
  refine lv_iload_n hx hb dN_lineIsFree_18 rfl (lv_at hl 3 rfl) ?_
  refine lv_icmp_ge (tgt := 26) hx hb dN_lineIsFree_19 (by decide) (fun c_1 => ?_) (fun c_1 => ?_)
  · rw [nI_leI (by omega) (by omega)] at c_1
    refine lv_iconst (v := 1) hx hb dN_lineIsFree_26 (by decide) ?_
    refine lv_istore (lv' := [(7, .int 1), (6, .int (nI (nd b v))), (5, .int (nI (nd a u))), (0, .ref h0), (1, .int (nI a)), (2, .int (nI b)), (3, .int (nI u)), (4, .int (nI v))]) hx hb dN_lineIsFree_27 hl (by decide) rfl (fun ls hl => ?_)
    refine lv_iload hx hb dN_lineIsFree_29 (lv_at hl 7 rfl) ?_
    refine lv_iload_n hx hb dN_lineIsFree_31 rfl (lv_at hl 5 rfl) ?_
    refine lv_icmp_ge (tgt := 39) hx hb dN_lineIsFree_32 (by decide) (fun c_2 => ?_) (fun c_2 => ?_)
    · rw [nI_leI (by omega) (by omega)] at c_2
      refine lv_iconst (v := 1) hx hb dN_lineIsFree_39 (by decide) ?_
      refine lv_istore (lv' := [(8, .int 1), (7, .int 1), (6, .int (nI (nd b v))), (5, .int (nI (nd a u))), (0, .ref h0), (1, .int (nI a)), (2, .int (nI b)), (3, .int (nI u)), (4, .int (nI v))]) hx hb dN_lineIsFree_40 hl (by decide) rfl (fun ls hl => ?_)
      refine lv_iconst (v := 0) hx hb dN_lineIsFree_42 (by decide) ?_
      refine lv_istore (lv' := [(9, .int 0), (8, .int 1), (7, .int 1), (6, .int (nI (nd b v))), (5, .int (nI (nd a u))), (0, .ref h0), (1, .int (nI a)), (2, .int (nI b)), (3, .int (nI u)), (4, .int (nI v))]) hx hb dN_lineIsFree_43 hl (by decide) rfl (fun ls hl => ?_)
      refine lv_iconst (v := 0) hx hb dN_lineIsFree_45 (by decide) ?_
      refine lv_istore (lv' := [(10, .int 0), (9, .int 0), (8, .int 1), (7, .int 1), (6, .int (nI (nd b v))), (5, .int (nI (nd a u))), (0, .ref h0), (1, .int (nI a)), (2, .int (nI b)), (3, .int (nI u)), (4, .int (nI v))]) hx hb dN_lineIsFree_46 hl (by decide) rfl (fun ls hl => ?_)
      refine lv_iconst (v := 0) hx hb dN_lineIsFree_48 (by decide) ?_
      refine lv_istore (lv' := [(11, .int 0), (10, .int 0), (9, .int 0), (8, .int 1), (7, .int 1), (6, .int (nI (nd b v))), (5, .int (nI (nd a u))), (0, .ref h0), (1, .int (nI a)), (2, .int (nI b)), (3, .int (nI u)), (4, .int (nI v))]) hx hb dN_lineIsFree_49 hl (by decide) rfl (fun ls hl => ?_)
      exact lp51 (nd a u + nd b v + 2) (nd a u + nd b v + 1) 0 0 0 1 1 (by omega) (by omega) (by omega) (by omega) (by simp [sn_sg, sgn, c_1, c_2]) rfl ls (lv_sub hl [0, 2, 1, 4, 3, 6, 5, 7, 8, 9] rfl)
    · rw [nI_leI (by omega) (by omega)] at c_2
      refine lv_iconst (v := (-1)) hx hb dN_lineIsFree_35 (by decide) ?_
      refine lv_goto (tgt := 40) hx hb dN_lineIsFree_36 (by decide) ?_
      refine lv_istore (lv' := [(8, .int (-1)), (7, .int 1), (6, .int (nI (nd b v))), (5, .int (nI (nd a u))), (0, .ref h0), (1, .int (nI a)), (2, .int (nI b)), (3, .int (nI u)), (4, .int (nI v))]) hx hb dN_lineIsFree_40 hl (by decide) rfl (fun ls hl => ?_)
      refine lv_iconst (v := 0) hx hb dN_lineIsFree_42 (by decide) ?_
      refine lv_istore (lv' := [(9, .int 0), (8, .int (-1)), (7, .int 1), (6, .int (nI (nd b v))), (5, .int (nI (nd a u))), (0, .ref h0), (1, .int (nI a)), (2, .int (nI b)), (3, .int (nI u)), (4, .int (nI v))]) hx hb dN_lineIsFree_43 hl (by decide) rfl (fun ls hl => ?_)
      refine lv_iconst (v := 0) hx hb dN_lineIsFree_45 (by decide) ?_
      refine lv_istore (lv' := [(10, .int 0), (9, .int 0), (8, .int (-1)), (7, .int 1), (6, .int (nI (nd b v))), (5, .int (nI (nd a u))), (0, .ref h0), (1, .int (nI a)), (2, .int (nI b)), (3, .int (nI u)), (4, .int (nI v))]) hx hb dN_lineIsFree_46 hl (by decide) rfl (fun ls hl => ?_)
      refine lv_iconst (v := 0) hx hb dN_lineIsFree_48 (by decide) ?_
      refine lv_istore (lv' := [(11, .int 0), (10, .int 0), (9, .int 0), (8, .int (-1)), (7, .int 1), (6, .int (nI (nd b v))), (5, .int (nI (nd a u))), (0, .ref h0), (1, .int (nI a)), (2, .int (nI b)), (3, .int (nI u)), (4, .int (nI v))]) hx hb dN_lineIsFree_49 hl (by decide) rfl (fun ls hl => ?_)
      exact lp51 (nd a u + nd b v + 2) (nd a u + nd b v + 1) 0 0 0 1 (-1) (by omega) (by omega) (by omega) (by omega) (by simp [sn_sg, sgn, c_1, c_2]) rfl ls (lv_sub hl [0, 2, 1, 4, 3, 6, 5, 7, 8, 9] rfl)
  · rw [nI_leI (by omega) (by omega)] at c_1
    refine lv_iconst (v := (-1)) hx hb dN_lineIsFree_22 (by decide) ?_
    refine lv_goto (tgt := 27) hx hb dN_lineIsFree_23 (by decide) ?_
    refine lv_istore (lv' := [(7, .int (-1)), (6, .int (nI (nd b v))), (5, .int (nI (nd a u))), (0, .ref h0), (1, .int (nI a)), (2, .int (nI b)), (3, .int (nI u)), (4, .int (nI v))]) hx hb dN_lineIsFree_27 hl (by decide) rfl (fun ls hl => ?_)
    refine lv_iload hx hb dN_lineIsFree_29 (lv_at hl 7 rfl) ?_
    refine lv_iload_n hx hb dN_lineIsFree_31 rfl (lv_at hl 5 rfl) ?_
    refine lv_icmp_ge (tgt := 39) hx hb dN_lineIsFree_32 (by decide) (fun c_3 => ?_) (fun c_3 => ?_)
    · rw [nI_leI (by omega) (by omega)] at c_3
      refine lv_iconst (v := 1) hx hb dN_lineIsFree_39 (by decide) ?_
      refine lv_istore (lv' := [(8, .int 1), (7, .int (-1)), (6, .int (nI (nd b v))), (5, .int (nI (nd a u))), (0, .ref h0), (1, .int (nI a)), (2, .int (nI b)), (3, .int (nI u)), (4, .int (nI v))]) hx hb dN_lineIsFree_40 hl (by decide) rfl (fun ls hl => ?_)
      refine lv_iconst (v := 0) hx hb dN_lineIsFree_42 (by decide) ?_
      refine lv_istore (lv' := [(9, .int 0), (8, .int 1), (7, .int (-1)), (6, .int (nI (nd b v))), (5, .int (nI (nd a u))), (0, .ref h0), (1, .int (nI a)), (2, .int (nI b)), (3, .int (nI u)), (4, .int (nI v))]) hx hb dN_lineIsFree_43 hl (by decide) rfl (fun ls hl => ?_)
      refine lv_iconst (v := 0) hx hb dN_lineIsFree_45 (by decide) ?_
      refine lv_istore (lv' := [(10, .int 0), (9, .int 0), (8, .int 1), (7, .int (-1)), (6, .int (nI (nd b v))), (5, .int (nI (nd a u))), (0, .ref h0), (1, .int (nI a)), (2, .int (nI b)), (3, .int (nI u)), (4, .int (nI v))]) hx hb dN_lineIsFree_46 hl (by decide) rfl (fun ls hl => ?_)
      refine lv_iconst (v := 0) hx hb dN_lineIsFree_48 (by decide) ?_
      refine lv_istore (lv' := [(11, .int 0), (10, .int 0), (9, .int 0), (8, .int 1), (7, .int (-1)), (6, .int (nI (nd b v))), (5, .int (nI (nd a u))), (0, .ref h0), (1, .int (nI a)), (2, .int (nI b)), (3, .int (nI u)), (4, .int (nI v))]) hx hb dN_lineIsFree_49 hl (by decide) rfl (fun ls hl => ?_)
      exact lp51 (nd a u + nd b v + 2) (nd a u + nd b v + 1) 0 0 0 (-1) 1 (by omega) (by omega) (by omega) (by omega) (by simp [sn_sg, sgn, c_1, c_3]) rfl ls (lv_sub hl [0, 2, 1, 4, 3, 6, 5, 7, 8, 9] rfl)
    · rw [nI_leI (by omega) (by omega)] at c_3
      refine lv_iconst (v := (-1)) hx hb dN_lineIsFree_35 (by decide) ?_
      refine lv_goto (tgt := 40) hx hb dN_lineIsFree_36 (by decide) ?_
      refine lv_istore (lv' := [(8, .int (-1)), (7, .int (-1)), (6, .int (nI (nd b v))), (5, .int (nI (nd a u))), (0, .ref h0), (1, .int (nI a)), (2, .int (nI b)), (3, .int (nI u)), (4, .int (nI v))]) hx hb dN_lineIsFree_40 hl (by decide) rfl (fun ls hl => ?_)
      refine lv_iconst (v := 0) hx hb dN_lineIsFree_42 (by decide) ?_
      refine lv_istore (lv' := [(9, .int 0), (8, .int (-1)), (7, .int (-1)), (6, .int (nI (nd b v))), (5, .int (nI (nd a u))), (0, .ref h0), (1, .int (nI a)), (2, .int (nI b)), (3, .int (nI u)), (4, .int (nI v))]) hx hb dN_lineIsFree_43 hl (by decide) rfl (fun ls hl => ?_)
      refine lv_iconst (v := 0) hx hb dN_lineIsFree_45 (by decide) ?_
      refine lv_istore (lv' := [(10, .int 0), (9, .int 0), (8, .int (-1)), (7, .int (-1)), (6, .int (nI (nd b v))), (5, .int (nI (nd a u))), (0, .ref h0), (1, .int (nI a)), (2, .int (nI b)), (3, .int (nI u)), (4, .int (nI v))]) hx hb dN_lineIsFree_46 hl (by decide) rfl (fun ls hl => ?_)
      refine lv_iconst (v := 0) hx hb dN_lineIsFree_48 (by decide) ?_
      refine lv_istore (lv' := [(11, .int 0), (10, .int 0), (9, .int 0), (8, .int (-1)), (7, .int (-1)), (6, .int (nI (nd b v))), (5, .int (nI (nd a u))), (0, .ref h0), (1, .int (nI a)), (2, .int (nI b)), (3, .int (nI u)), (4, .int (nI v))]) hx hb dN_lineIsFree_49 hl (by decide) rfl (fun ls hl => ?_)
      exact lp51 (nd a u + nd b v + 2) (nd a u + nd b v + 1) 0 0 0 (-1) (-1) (by omega) (by omega) (by omega) (by omega) (by simp [sn_sg, sgn, c_1, c_3]) rfl ls (lv_sub hl [0, 2, 1, 4, 3, 6, 5, 7, 8, 9] rfl)
end
section
def sn_fill (x : Int32) : Nat → Nat → (Nat → Int32) → Nat → Int32
  | 0, _, f => f
  | n + 1, i, f => sn_fill x n (i + 1) (upd f i x)
def sn_bit (p : Nat) : Int32 := 1 <<< (nI p &&& 31)
def sn_ari (Wd Ht : Nat) (fw : Nat → Int32) (rs bit : Int32) (a b v : Nat) : Nat → Nat → (Nat → Int32) → Nat → Int32
  | 0, _, f => f
  | n + 1, u, f => sn_ari Wd Ht fw rs bit a b v n (u + 1) (if sn_near rs (nI a) (nI b) (nI u) (nI v) = true ∧ sn_free Wd Ht fw a b u v = true then upd f (v * 16 + u) (f (v * 16 + u) ||| bit) else f)
def sn_aro (Wd Ht : Nat) (fw : Nat → Int32) (rs bit : Int32) (a b : Nat) : Nat → Nat → (Nat → Int32) → Nat → Int32
  | 0, _, f => f
  | n + 1, v, f => sn_aro Wd Ht fw rs bit a b n (v + 1) (sn_ari Wd Ht fw rs bit a b v Wd 0 f)
def sn_fr (Wd Ht : Nat) (fw : Nat → Int32) (rs : Int32) (X Y : Nat → Nat) : Nat → Nat → (Nat → Int32) → Nat → Int32
  | 0, _, f => f
  | n + 1, i, f => sn_fr Wd Ht fw rs X Y n (i + 1) (sn_aro Wd Ht fw rs (sn_bit i) (X i) (Y i) Ht 0 f)
def sn_find (Wd Ht : Nat) (fw : Nat → Int32) (rs : Int32) (X Y : Nat → Nat) (Pn : Nat) (old : Int32) (f : Nat → Int32) : Nat → Int32 := if old = 0 then f else sn_fr Wd Ht fw rs X Y Pn 0 (sn_fill 0 256 0 f)
set_option maxHeartbeats 4000000 in
set_option maxRecDepth 100000 in
theorem cA_fill (l : Launch) (dC : Nat → ClassId) (dI : Nat → Nat → Nat) (aa : Nat) (cI : ClassId) (n0 : Nat) (f : Nat → Int32) (x : Int32) (sz : Nat) (hn0 : n0 < 2 ^ 31) : Met l yA_fill (kA_fill :: WD) { frames := 0, cells := 0, slots := 0, locals := 0 } (va_Pc [.ref aa, .int x] (xm (dC, dI) snC [(aa, .inl (cI, n0, .inl f))] [(cI, .int)] sz)) (va_Qv (fun _ : Unit => True) (fun _ => xo (dC, dI) snC [(aa, .inl (cI, n0, .inl (sn_fill x n0 0 f)))] [(cI, .int)] (va_A [(aa, .inl (cI, n0, .inl f))] sz)) (va_A [(aa, .inl (cI, n0, .inl f))] sz)) 0 0 (va_A [(aa, .inl (cI, n0, .inl f))] sz) := by
  refine Met.ofW (cc := bA_fill) (maxL := 4) (ret := none) (by decide) rfl ?_
  intro p e s m args below meth c s₁ B hml hv
  obtain ⟨rfl, hsz, hP, hK, hD0⟩ := hv
  have hx := B.exec
  have hb := B.bytes
  have hr := B.returns
  have hts : ∀ w ∈ WD, w.before _ s = true := fun w h => atoms_spec (ws := kA_fill :: WD) B.pre w (List.mem_cons_of_mem _ h)
  have hown : s.vm.findClass R_A = some m.cls := findClass_of_methodNamed B.named
  have hlocks := B.notSynchronized
  subst hsz
  have hD := hD0.self (sz := s.heap.size)
  generalize hAe : va_A [(aa, .inl (cI, n0, .inl f))] s.heap.size = A at hD ⊢
  have hA : ∀ q : Nat, s.heap.size ≤ q → A q := fun q h => by rw [← hAe]; exact Or.inr h
  have hS : va_S A s.heap s.heap [] := va_S.rf
  have hl := lv_entry ([.ref aa, .int x]) (n := 4) (Nat.le_of_ble_eq_true rfl)
  rw [lg_entry_eq]
  generalize (lg_sl ([.ref aa, .int x]) ++ List.replicate (4 - (lg_sl ([.ref aa, .int x])).length) Slot.unset).toArray = ls at hl ⊢
  have hl : lv_has ls 4 [(0, .ref aa), (1, .int x)] := hl
  have lp5 : ∀ (k n : Nat) (i : Nat) (g : Nat → Int32), n < k → i + n = n0 → sn_fill x n i g = sn_fill x n0 0 f → ∀ (H : Heap) (locs : List Loc), va_P (dC, dI) snC [(aa, .inl (cI, n0, .inl g))] H → va_D A [(aa, .inl (cI, n0, .inl g))] → va_S A s.heap H locs → ∀ ls : Array Slot, lv_has ls 4 [(2, .int (nI i)), (3, .int (nI n0)), (0, .ref aa), (1, .int x)] → W p l e (headSpec (kA_fill :: WD) { frames := 0, cells := 0, slots := 0, locals := 0 }).room s m ([.ref aa, .int x]).toArray below meth c H locs 0 0 (MQ below (va_Qv (fun _ : Unit => True) (fun _ => xo (dC, dI) snC [(aa, .inl (cI, n0, .inl (sn_fill x n0 0 f)))] [(cI, .int)] A) A) ([.ref aa, .int x]).toArray s 0 0 (A)) (F0 m 5 ls []) := by
    intro k
    induction k with
    | zero => exact fun n _ _ h => absurd h (Nat.not_lt_zero n)
    | succ k ih =>
      intro n i g hk hin hT H locs hP hD hS ls hl
      refine lv_iload_n hx hb dA_fill_5 rfl (lv_at hl 0 rfl) ?_
      refine lv_iload_n hx hb dA_fill_6 rfl (lv_at hl 1 rfl) ?_
      refine lv_icmp_ge (tgt := 20) hx hb dA_fill_7 (by decide) (fun c_1 => ?_) (fun c_1 => ?_)
      · have hz := (nI_leI (by omega) (by omega)).mp c_1
        obtain rfl : n = 0 := by omega
        rw [show sn_fill x n0 0 f = g from by rw [← hT]; simp [sn_fill]]
        exact W.vret hx hb hr (fun t ht hW => ⟨⟨(), rfl, trivial, by rw [ht]; exact hP, va_K.moved hW.alike hK, hD⟩, hS.F ht⟩) hS.2.2 dA_fill_20
      · have hz : i < n0 := by have h9 := mt (nI_leI (by omega) (by omega)).mpr c_1; omega
        obtain ⟨n, rfl⟩ : ∃ n', n = n' + 1 := ⟨n - 1, by omega⟩
        refine lv_aload_n hx hb dA_fill_10 rfl (lv_at hl 2 rfl) ?_
        refine lv_iload_n hx hb dA_fill_11 rfl (lv_at hl 0 rfl) ?_
        refine lv_iload_n hx hb dA_fill_12 rfl (lv_at hl 3 rfl) ?_
        refine xa_iast hx hb hK hP hD hS 0 0 rfl rfl (i := i) (x := x) (by omega) (by first | decide | omega) dA_fill_13 (fun H locs hP hD hS => ?_)
        have hP : va_P (dC, dI) snC [(aa, .inl (cI, n0, .inl (upd g i x)))] H := hP
        have hD : va_D A [(aa, .inl (cI, n0, .inl (upd g i x)))] := hD
        refine lv_iinc (v := (nI (i + 1))) (lv' := [(2, .int (nI (i + 1))), (3, .int (nI n0)), (0, .ref aa), (1, .int x)]) hx hb dA_fill_14 hl (k := 0) rfl (nI_1 i) (by decide) rfl (fun ls hl => ?_)
        refine lv_goto (tgt := 5) hx hb dA_fill_17 (by decide) ?_
        exact ih n (i + 1) (upd g i x) (by omega) (by omega) (by rw [← hT]; simp [sn_fill]) _ _ hP hD hS ls (lv_sub hl [0, 1, 2, 3] rfl)
  refine lv_iconst (v := 0) hx hb dA_fill_0 (by decide) ?_
  refine lv_istore_n (lv' := [(2, .int 0), (0, .ref aa), (1, .int x)]) hx hb dA_fill_1 rfl hl (by decide) rfl (fun ls hl => ?_)
  refine lv_aload_n hx hb dA_fill_2 rfl (lv_at hl 1 rfl) ?_
  refine va_alen (v := (nI n0)) hx hb hK hP 0 0 rfl rfl rfl dA_fill_3 ?_
  refine lv_istore_n (lv' := [(3, .int (nI n0)), (2, .int 0), (0, .ref aa), (1, .int x)]) hx hb dA_fill_4 rfl hl (by decide) rfl (fun ls hl => ?_)
  exact lp5 (n0 + 1) n0 0 f (by omega) (by omega) rfl _ _ hP hD hS ls (lv_sub hl [1, 0, 2, 3] rfl)
set_option maxHeartbeats 4000000 in
set_option maxRecDepth 100000 in
theorem cN_addReacher (l : Launch) (dC : Nat → ClassId) (dI : Nat → Nat → Nat) (h0 a_walls a_placeX a_placeY a_reachers a_lossOf a_upper a_length a_headsOn a_turn a_lack a_joined : Nat) (Wd Ht Pn : Nat) (rs old sc jc : Int32) (cZ cI : ClassId) (f_walls f_reachers : Nat → Int32) (pl a b : Nat) (sz : Nat) (hW : Wd ≤ 16) (hH : Ht ≤ 16) (ha : a < 16) (hb0 : b < 16) : Met l yN_addReacher (kN_addReacher :: WD) { frames := 3, cells := 0, slots := 0, locals := 76 } (va_Pc [.ref h0, .int (nI pl), .int (nI a), .int (nI b)] (xm (dC, dI) snC [(h0, .inr (0, [.int (nI Wd), .int (nI Ht), .ref a_walls, .int rs, .ref a_placeX, .ref a_placeY, .int (nI Pn), .ref a_reachers, .int old, .ref a_lossOf, .int sc, .ref a_upper, .ref a_length, .ref a_headsOn, .ref a_turn, .ref a_lack, .ref a_joined, .int jc])), (a_walls, .inl (cZ, 256, .inl f_walls)), (a_reachers, .inl (cI, 256, .inl f_reachers))] [(cZ, .boolean), (cI, .int)] sz)) (va_Qv (fun _ : Unit => True) (fun _ => xo (dC, dI) snC [(h0, .inr (0, [.int (nI Wd), .int (nI Ht), .ref a_walls, .int rs, .ref a_placeX, .ref a_placeY, .int (nI Pn), .ref a_reachers, .int old, .ref a_lossOf, .int sc, .ref a_upper, .ref a_length, .ref a_headsOn, .ref a_turn, .ref a_lack, .ref a_joined, .int jc])), (a_walls, .inl (cZ, 256, .inl f_walls)), (a_reachers, .inl (cI, 256, .inl (sn_aro Wd Ht f_walls rs (sn_bit pl) a b Ht 0 f_reachers)))] [(cZ, .boolean), (cI, .int)] (va_A [(h0, .inr (0, [.int (nI Wd), .int (nI Ht), .ref a_walls, .int rs, .ref a_placeX, .ref a_placeY, .int (nI Pn), .ref a_reachers, .int old, .ref a_lossOf, .int sc, .ref a_upper, .ref a_length, .ref a_headsOn, .ref a_turn, .ref a_lack, .ref a_joined, .int jc])), (a_walls, .inl (cZ, 256, .inl f_walls)), (a_reachers, .inl (cI, 256, .inl f_reachers))] sz)) (va_A [(h0, .inr (0, [.int (nI Wd), .int (nI Ht), .ref a_walls, .int rs, .ref a_placeX, .ref a_placeY, .int (nI Pn), .ref a_reachers, .int old, .ref a_lossOf, .int sc, .ref a_upper, .ref a_length, .ref a_headsOn, .ref a_turn, .ref a_lack, .ref a_joined, .int jc])), (a_walls, .inl (cZ, 256, .inl f_walls)), (a_reachers, .inl (cI, 256, .inl f_reachers))] sz)) 0 0 (va_A [(h0, .inr (0, [.int (nI Wd), .int (nI Ht), .ref a_walls, .int rs, .ref a_placeX, .ref a_placeY, .int (nI Pn), .ref a_reachers, .int old, .ref a_lossOf, .int sc, .ref a_upper, .ref a_length, .ref a_headsOn, .ref a_turn, .ref a_lack, .ref a_joined, .int jc])), (a_walls, .inl (cZ, 256, .inl f_walls)), (a_reachers, .inl (cI, 256, .inl f_reachers))] sz) := by
  refine Met.ofW (cc := bN_addReacher) (maxL := 6) (ret := none) (by decide) rfl ?_
  intro p e s m args below meth c s₁ B hml hv
  obtain ⟨rfl, hsz, hP, hK, hD0⟩ := hv
  have hx := B.exec
  have hb := B.bytes
  have hr := B.returns
  have hts : ∀ w ∈ WD, w.before _ s = true := fun w h => atoms_spec (ws := kN_addReacher :: WD) B.pre w (List.mem_cons_of_mem _ h)
  have hown : s.vm.findClass R_N = some m.cls := findClass_of_methodNamed B.named
  have hlocks := B.notSynchronized
  subst hsz
  have hD := hD0.self (sz := s.heap.size)
  generalize hAe : va_A [(h0, .inr (0, [.int (nI Wd), .int (nI Ht), .ref a_walls, .int rs, .ref a_placeX, .ref a_placeY, .int (nI Pn), .ref a_reachers, .int old, .ref a_lossOf, .int sc, .ref a_upper, .ref a_length, .ref a_headsOn, .ref a_turn, .ref a_lack, .ref a_joined, .int jc])), (a_walls, .inl (cZ, 256, .inl f_walls)), (a_reachers, .inl (cI, 256, .inl f_reachers))] s.heap.size = A at hD ⊢
  have hA : ∀ q : Nat, s.heap.size ≤ q → A q := fun q h => by rw [← hAe]; exact Or.inr h
  have hS : va_S A s.heap s.heap [] := va_S.rf
  have hl := lv_entry ([.ref h0, .int (nI pl), .int (nI a), .int (nI b)]) (n := 6) (Nat.le_of_ble_eq_true rfl)
  rw [lg_entry_eq]
  generalize (lg_sl ([.ref h0, .int (nI pl), .int (nI a), .int (nI b)]) ++ List.replicate (6 - (lg_sl ([.ref h0, .int (nI pl), .int (nI a), .int (nI b)])).length) Slot.unset).toArray = ls at hl ⊢
  have hl : lv_has ls 6 [(0, .ref h0), (1, .int (nI pl)), (2, .int (nI a)), (3, .int (nI b))] := hl
  have lp15 : ∀ (k n : Nat) (v u : Nat) (g g9 : Nat → Int32), n < k → v < Ht → u + n = Wd → sn_ari Wd Ht f_walls rs (sn_bit pl) a b v n u g = g9 → (∀ (H : Heap) (locs : List Loc), va_P (dC, dI) snC [(h0, .inr (0, [.int (nI Wd), .int (nI Ht), .ref a_walls, .int rs, .ref a_placeX, .ref a_placeY, .int (nI Pn), .ref a_reachers, .int old, .ref a_lossOf, .int sc, .ref a_upper, .ref a_length, .ref a_headsOn, .ref a_turn, .ref a_lack, .ref a_joined, .int jc])), (a_walls, .inl (cZ, 256, .inl f_walls)), (a_reachers, .inl (cI, 256, .inl g9))] H → va_D A [(h0, .inr (0, [.int (nI Wd), .int (nI Ht), .ref a_walls, .int rs, .ref a_placeX, .ref a_placeY, .int (nI Pn), .ref a_reachers, .int old, .ref a_lossOf, .int sc, .ref a_upper, .ref a_length, .ref a_headsOn, .ref a_turn, .ref a_lack, .ref a_joined, .int jc])), (a_walls, .inl (cZ, 256, .inl f_walls)), (a_reachers, .inl (cI, 256, .inl g9))] → va_S A s.heap H locs → ∀ ls : Array Slot, lv_has ls 6 [(4, .int (nI v)), (0, .ref h0), (1, .int (nI pl)), (2, .int (nI a)), (3, .int (nI b))] → W p l e (headSpec (kN_addReacher :: WD) { frames := 3, cells := 0, slots := 0, locals := 76 }).room s m ([.ref h0, .int (nI pl), .int (nI a), .int (nI b)]).toArray below meth c H locs 0 0 (MQ below (va_Qv (fun _ : Unit => True) (fun _ => xo (dC, dI) snC [(h0, .inr (0, [.int (nI Wd), .int (nI Ht), .ref a_walls, .int rs, .ref a_placeX, .ref a_placeY, .int (nI Pn), .ref a_reachers, .int old, .ref a_lossOf, .int sc, .ref a_upper, .ref a_length, .ref a_headsOn, .ref a_turn, .ref a_lack, .ref a_joined, .int jc])), (a_walls, .inl (cZ, 256, .inl f_walls)), (a_reachers, .inl (cI, 256, .inl (sn_aro Wd Ht f_walls rs (sn_bit pl) a b Ht 0 f_reachers)))] [(cZ, .boolean), (cI, .int)] A) A) ([.ref h0, .int (nI pl), .int (nI a), .int (nI b)]).toArray s 0 0 (A)) (F0 m 74 ls [])) → ∀ (H : Heap) (locs : List Loc), va_P (dC, dI) snC [(h0, .inr (0, [.int (nI Wd), .int (nI Ht), .ref a_walls, .int rs, .ref a_placeX, .ref a_placeY, .int (nI Pn), .ref a_reachers, .int old, .ref a_lossOf, .int sc, .ref a_upper, .ref a_length, .ref a_headsOn, .ref a_turn, .ref a_lack, .ref a_joined, .int jc])), (a_walls, .inl (cZ, 256, .inl f_walls)), (a_reachers, .inl (cI, 256, .inl g))] H → va_D A [(h0, .inr (0, [.int (nI Wd), .int (nI Ht), .ref a_walls, .int rs, .ref a_placeX, .ref a_placeY, .int (nI Pn), .ref a_reachers, .int old, .ref a_lossOf, .int sc, .ref a_upper, .ref a_length, .ref a_headsOn, .ref a_turn, .ref a_lack, .ref a_joined, .int jc])), (a_walls, .inl (cZ, 256, .inl f_walls)), (a_reachers, .inl (cI, 256, .inl g))] → va_S A s.heap H locs → ∀ ls : Array Slot, lv_has ls 6 [(5, .int (nI u)), (4, .int (nI v)), (0, .ref h0), (1, .int (nI pl)), (2, .int (nI a)), (3, .int (nI b))] → W p l e (headSpec (kN_addReacher :: WD) { frames := 3, cells := 0, slots := 0, locals := 76 }).room s m ([.ref h0, .int (nI pl), .int (nI a), .int (nI b)]).toArray below meth c H locs 0 0 (MQ below (va_Qv (fun _ : Unit => True) (fun _ => xo (dC, dI) snC [(h0, .inr (0, [.int (nI Wd), .int (nI Ht), .ref a_walls, .int rs, .ref a_placeX, .ref a_placeY, .int (nI Pn), .ref a_reachers, .int old, .ref a_lossOf, .int sc, .ref a_upper, .ref a_length, .ref a_headsOn, .ref a_turn, .ref a_lack, .ref a_joined, .int jc])), (a_walls, .inl (cZ, 256, .inl f_walls)), (a_reachers, .inl (cI, 256, .inl (sn_aro Wd Ht f_walls rs (sn_bit pl) a b Ht 0 f_reachers)))] [(cZ, .boolean), (cI, .int)] A) A) ([.ref h0, .int (nI pl), .int (nI a), .int (nI b)]).toArray s 0 0 (A)) (F0 m 15 ls []) := by
    intro k
    induction k with
    | zero => exact fun n _ _ _ _ h => absurd h (Nat.not_lt_zero n)
    | succ k ih =>
      intro n v u g g9 hk hv9 hin hT hend H locs hP hD hS ls hl
      refine lv_iload hx hb dN_addReacher_15 (lv_at hl 0 rfl) ?_
      refine lv_aload_n hx hb dN_addReacher_17 rfl (lv_at hl 2 rfl) ?_
      refine va_get (D := (dC, dI)) (ci := 0) (v := .int (nI Wd)) (C := R_N) (T := T_N) (N := 18) hx hb hts in_N hown hK hP 0 rfl rfl 0 (by decide) (hts _ flN18) (fun _ h9 => h9) rfl dN_addReacher_18 ?_
      refine lv_icmp_ge (tgt := 74) hx hb dN_addReacher_21 (by decide) (fun c_1 => ?_) (fun c_1 => ?_)
      · have hz := (nI_leI (by omega) (by omega)).mp c_1
        obtain rfl : n = 0 := by omega
        obtain rfl : g = g9 := by rw [← hT]; simp [sn_ari]
        exact hend _ _ hP hD hS ls (lv_sub hl [1, 2, 3, 4, 5] rfl)
      · have hz : u < Wd := by have h9 := mt (nI_leI (by omega) (by omega)).mpr c_1; omega
        obtain ⟨n, rfl⟩ : ∃ n', n = n' + 1 := ⟨n - 1, by omega⟩
        refine lv_aload_n hx hb dN_addReacher_24 rfl (lv_at hl 2 rfl) ?_
        refine lv_iload_n hx hb dN_addReacher_25 rfl (lv_at hl 4 rfl) ?_
        refine lv_iload_n hx hb dN_addReacher_26 rfl (lv_at hl 5 rfl) ?_
        refine lv_iload hx hb dN_addReacher_27 (lv_at hl 0 rfl) ?_
        refine lv_iload hx hb dN_addReacher_29 (lv_at hl 1 rfl) ?_
        refine xr_V (As := [.int (nI a), .int (nI b), .int (nI u), .int (nI v)]) ⟨hx, hb, hml, hown, hts⟩ (cN_isNear l dC dI h0 a_walls a_placeX a_placeY a_reachers a_lossOf a_upper a_length a_headsOn a_turn a_lack a_joined Wd Ht Pn rs old sc jc (nI a) (nI b) (nI u) (nI v)) (cwV 4 hts gN175 rfl rfl rfl (by decide +kernel) ⟨Nat.le_of_ble_eq_true rfl, Nat.le_of_ble_eq_true rfl⟩) hK hP [0] [] rfl rfl 0 0 rfl rfl rfl rfl hl.1 rfl (Nat.le_of_ble_eq_true rfl) dN_addReacher_31 ⟨Nat.zero_le _, Nat.zero_le _⟩ (fun r_2 hr_2 => ?_)
        subst hr_2
        refine lv_if_eq (tgt := 68) hx hb dN_addReacher_34 (by decide) (fun c_3 => ?_) (fun c_3 => ?_)
        · replace c_3 := bz_0 c_3
          refine lv_iinc (v := (nI (u + 1))) (lv' := [(5, .int (nI (u + 1))), (4, .int (nI v)), (0, .ref h0), (1, .int (nI pl)), (2, .int (nI a)), (3, .int (nI b))]) hx hb dN_addReacher_68 hl (k := 0) rfl (nI_1 u) (by decide) rfl (fun ls hl => ?_)
          refine lv_goto (tgt := 15) hx hb dN_addReacher_71 (by decide) ?_
          exact ih n v (u + 1) g g9 (by omega) hv9 (by omega) (by rw [← hT]; simp [sn_ari, c_1, c_3]) hend _ _ hP hD hS ls (lv_sub hl [0, 1, 2, 3, 4, 5] rfl)
        · replace c_3 := bz_1 c_3
          refine lv_aload_n hx hb dN_addReacher_37 rfl (lv_at hl 2 rfl) ?_
          refine lv_iload_n hx hb dN_addReacher_38 rfl (lv_at hl 4 rfl) ?_
          refine lv_iload_n hx hb dN_addReacher_39 rfl (lv_at hl 5 rfl) ?_
          refine lv_iload hx hb dN_addReacher_40 (lv_at hl 0 rfl) ?_
          refine lv_iload hx hb dN_addReacher_42 (lv_at hl 1 rfl) ?_
          refine xr_V (As := [.int (nI a), .int (nI b), .int (nI u), .int (nI v)]) ⟨hx, hb, hml, hown, hts⟩ (cN_lineIsFree l dC dI h0 a_walls a_placeX a_placeY a_reachers a_lossOf a_upper a_length a_headsOn a_turn a_lack a_joined Wd Ht Pn rs old sc jc cZ f_walls a b u v hW hH (by omega) (by omega) (by omega) (by omega)) (cwV 4 hts gN112 rfl rfl rfl (by decide +kernel) ⟨Nat.le_of_ble_eq_true rfl, Nat.le_of_ble_eq_true rfl⟩) hK hP [0, 1] [0] rfl rfl 0 0 rfl rfl rfl rfl hl.1 rfl (Nat.le_of_ble_eq_true rfl) dN_addReacher_44 ⟨Nat.zero_le _, Nat.zero_le _⟩ (fun r_4 hr_4 => ?_)
          subst hr_4
          refine lv_if_eq (tgt := 68) hx hb dN_addReacher_47 (by decide) (fun c_5 => ?_) (fun c_5 => ?_)
          · replace c_5 := bz_0 c_5
            refine lv_iinc (v := (nI (u + 1))) (lv' := [(5, .int (nI (u + 1))), (4, .int (nI v)), (0, .ref h0), (1, .int (nI pl)), (2, .int (nI a)), (3, .int (nI b))]) hx hb dN_addReacher_68 hl (k := 0) rfl (nI_1 u) (by decide) rfl (fun ls hl => ?_)
            refine lv_goto (tgt := 15) hx hb dN_addReacher_71 (by decide) ?_
            exact ih n v (u + 1) g g9 (by omega) hv9 (by omega) (by rw [← hT]; simp [sn_ari, c_1, c_3, c_5]) hend _ _ hP hD hS ls (lv_sub hl [0, 1, 2, 3, 4, 5] rfl)
          · replace c_5 := bz_1 c_5
            refine lv_aload_n hx hb dN_addReacher_50 rfl (lv_at hl 2 rfl) ?_
            refine va_get (D := (dC, dI)) (ci := 0) (v := .ref a_reachers) (C := R_N) (T := T_N) (N := 18) hx hb hts in_N hown hK hP 0 rfl rfl 7 (by decide) (hts _ flN42) (fun _ h9 => h9) rfl dN_addReacher_51 ?_
            refine lv_iload hx hb dN_addReacher_54 (lv_at hl 0 rfl) ?_
            refine lv_iload hx hb dN_addReacher_56 (lv_at hl 1 rfl) ?_
            refine xr_S (As := [.int (nI u), .int (nI v)]) ⟨hx, hb, hml, hown, hts⟩ (cN_cellAt l dC dI (nI u) (nI v)) (va_cwS 2 hts gN90 rfl rfl rfl (by decide +kernel) ⟨Nat.le_of_ble_eq_true rfl, Nat.le_of_ble_eq_true rfl⟩) hK hP [] [] rfl rfl rfl hl.1 rfl (Nat.le_of_ble_eq_true rfl) dN_addReacher_58 ⟨Nat.zero_le _, Nat.zero_le _⟩ (fun r_6 hr_6 => ?_)
            subst hr_6
            rw [show ((nI v) * 16 + (nI u) : Int32) = nI (v * 16 + u) from sn_cell u v]
            refine lv_dup2_11 hx hb dN_addReacher_61 rfl rfl ?_
            refine xa_iald hx hb hK hP 2 1 rfl rfl (i := (v * 16 + u)) (by omega) (by first | decide | omega) dN_addReacher_62 ?_
            refine lv_iconst (v := 1) hx hb dN_addReacher_63 (by decide) ?_
            refine lv_iload_n hx hb dN_addReacher_64 rfl (lv_at hl 3 rfl) ?_
            refine lv_ishl hx hb dN_addReacher_65 ?_
            rw [show (1 <<< ((nI pl) &&& 31) : Int32) = sn_bit pl from rfl]
            refine lv_ior hx hb dN_addReacher_66 ?_
            refine xa_iast hx hb hK hP hD hS 2 1 rfl rfl (i := (v * 16 + u)) (x := (g (v * 16 + u)) ||| (sn_bit pl)) (by omega) (by first | decide | omega) dN_addReacher_67 (fun H locs hP hD hS => ?_)
            have hP : va_P (dC, dI) snC [(h0, .inr (0, [.int (nI Wd), .int (nI Ht), .ref a_walls, .int rs, .ref a_placeX, .ref a_placeY, .int (nI Pn), .ref a_reachers, .int old, .ref a_lossOf, .int sc, .ref a_upper, .ref a_length, .ref a_headsOn, .ref a_turn, .ref a_lack, .ref a_joined, .int jc])), (a_walls, .inl (cZ, 256, .inl f_walls)), (a_reachers, .inl (cI, 256, .inl (upd g (v * 16 + u) ((g (v * 16 + u)) ||| (sn_bit pl)))))] H := hP
            have hD : va_D A [(h0, .inr (0, [.int (nI Wd), .int (nI Ht), .ref a_walls, .int rs, .ref a_placeX, .ref a_placeY, .int (nI Pn), .ref a_reachers, .int old, .ref a_lossOf, .int sc, .ref a_upper, .ref a_length, .ref a_headsOn, .ref a_turn, .ref a_lack, .ref a_joined, .int jc])), (a_walls, .inl (cZ, 256, .inl f_walls)), (a_reachers, .inl (cI, 256, .inl (upd g (v * 16 + u) ((g (v * 16 + u)) ||| (sn_bit pl)))))] := hD
            refine lv_iinc (v := (nI (u + 1))) (lv' := [(5, .int (nI (u + 1))), (4, .int (nI v)), (0, .ref h0), (1, .int (nI pl)), (2, .int (nI a)), (3, .int (nI b))]) hx hb dN_addReacher_68 hl (k := 0) rfl (nI_1 u) (by decide) rfl (fun ls hl => ?_)
            refine lv_goto (tgt := 15) hx hb dN_addReacher_71 (by decide) ?_
            exact ih n v (u + 1) (upd g (v * 16 + u) ((g (v * 16 + u)) ||| (sn_bit pl))) g9 (by omega) hv9 (by omega) (by rw [← hT]; simp [sn_ari, c_1, c_3, c_5]) hend _ _ hP hD hS ls (lv_sub hl [0, 1, 2, 3, 4, 5] rfl)
  have lp3 : ∀ (k n : Nat) (v : Nat) (g : Nat → Int32), n < k → v + n = Ht → sn_aro Wd Ht f_walls rs (sn_bit pl) a b n v g = sn_aro Wd Ht f_walls rs (sn_bit pl) a b Ht 0 f_reachers → ∀ (H : Heap) (locs : List Loc), va_P (dC, dI) snC [(h0, .inr (0, [.int (nI Wd), .int (nI Ht), .ref a_walls, .int rs, .ref a_placeX, .ref a_placeY, .int (nI Pn), .ref a_reachers, .int old, .ref a_lossOf, .int sc, .ref a_upper, .ref a_length, .ref a_headsOn, .ref a_turn, .ref a_lack, .ref a_joined, .int jc])), (a_walls, .inl (cZ, 256, .inl f_walls)), (a_reachers, .inl (cI, 256, .inl g))] H → va_D A [(h0, .inr (0, [.int (nI Wd), .int (nI Ht), .ref a_walls, .int rs, .ref a_placeX, .ref a_placeY, .int (nI Pn), .ref a_reachers, .int old, .ref a_lossOf, .int sc, .ref a_upper, .ref a_length, .ref a_headsOn, .ref a_turn, .ref a_lack, .ref a_joined, .int jc])), (a_walls, .inl (cZ, 256, .inl f_walls)), (a_reachers, .inl (cI, 256, .inl g))] → va_S A s.heap H locs → ∀ ls : Array Slot, lv_has ls 6 [(4, .int (nI v)), (0, .ref h0), (1, .int (nI pl)), (2, .int (nI a)), (3, .int (nI b))] → W p l e (headSpec (kN_addReacher :: WD) { frames := 3, cells := 0, slots := 0, locals := 76 }).room s m ([.ref h0, .int (nI pl), .int (nI a), .int (nI b)]).toArray below meth c H locs 0 0 (MQ below (va_Qv (fun _ : Unit => True) (fun _ => xo (dC, dI) snC [(h0, .inr (0, [.int (nI Wd), .int (nI Ht), .ref a_walls, .int rs, .ref a_placeX, .ref a_placeY, .int (nI Pn), .ref a_reachers, .int old, .ref a_lossOf, .int sc, .ref a_upper, .ref a_length, .ref a_headsOn, .ref a_turn, .ref a_lack, .ref a_joined, .int jc])), (a_walls, .inl (cZ, 256, .inl f_walls)), (a_reachers, .inl (cI, 256, .inl (sn_aro Wd Ht f_walls rs (sn_bit pl) a b Ht 0 f_reachers)))] [(cZ, .boolean), (cI, .int)] A) A) ([.ref h0, .int (nI pl), .int (nI a), .int (nI b)]).toArray s 0 0 (A)) (F0 m 3 ls []) := by
    intro k
    induction k with
    | zero => exact fun n _ _ h => absurd h (Nat.not_lt_zero n)
    | succ k ih =>
      intro n v g hk hin hT H locs hP hD hS ls hl
      refine lv_iload hx hb dN_addReacher_3 (lv_at hl 0 rfl) ?_
      refine lv_aload_n hx hb dN_addReacher_5 rfl (lv_at hl 1 rfl) ?_
      refine va_get (D := (dC, dI)) (ci := 0) (v := .int (nI Ht)) (C := R_N) (T := T_N) (N := 18) hx hb hts in_N hown hK hP 0 rfl rfl 1 (by decide) (hts _ flN22) (fun _ h9 => h9) rfl dN_addReacher_6 ?_
      refine lv_icmp_ge (tgt := 80) hx hb dN_addReacher_9 (by decide) (fun c_1 => ?_) (fun c_1 => ?_)
      · have hz := (nI_leI (by omega) (by omega)).mp c_1
        obtain rfl : n = 0 := by omega
        rw [show sn_aro Wd Ht f_walls rs (sn_bit pl) a b Ht 0 f_reachers = g from by rw [← hT]; simp [sn_aro]]
        exact W.vret hx hb hr (fun t ht hW => ⟨⟨(), rfl, trivial, by rw [ht]; exact hP, va_K.moved hW.alike hK, hD⟩, hS.F ht⟩) hS.2.2 dN_addReacher_80
      · have hz : v < Ht := by have h9 := mt (nI_leI (by omega) (by omega)).mpr c_1; omega
        obtain ⟨n, rfl⟩ : ∃ n', n = n' + 1 := ⟨n - 1, by omega⟩
        refine lv_iconst (v := 0) hx hb dN_addReacher_12 (by decide) ?_
        refine lv_istore (lv' := [(5, .int 0), (4, .int (nI v)), (0, .ref h0), (1, .int (nI pl)), (2, .int (nI a)), (3, .int (nI b))]) hx hb dN_addReacher_13 hl (by decide) rfl (fun ls hl => ?_)
        refine lp15 (Wd + 1) Wd v 0 g _ (by omega) (by omega) (by omega) rfl ?_ _ _ hP hD hS ls (lv_sub hl [0, 1, 2, 3, 4, 5] rfl)
        intro H locs hP hD hS ls hl
        refine lv_iinc (v := (nI (v + 1))) (lv' := [(4, .int (nI (v + 1))), (0, .ref h0), (1, .int (nI pl)), (2, .int (nI a)), (3, .int (nI b))]) hx hb dN_addReacher_74 hl (k := 0) rfl (nI_1 v) (by decide) rfl (fun ls hl => ?_)
        refine lv_goto (tgt := 3) hx hb dN_addReacher_77 (by decide) ?_
        exact ih n (v + 1) (sn_ari Wd Ht f_walls rs (sn_bit pl) a b v Wd 0 g) (by omega) (by omega) (by rw [← hT]; simp [sn_aro]) _ _ hP hD hS ls (lv_sub hl [0, 1, 2, 3, 4] rfl)
  refine lv_iconst (v := 0) hx hb dN_addReacher_0 (by decide) ?_
  refine lv_istore (lv' := [(4, .int 0), (0, .ref h0), (1, .int (nI pl)), (2, .int (nI a)), (3, .int (nI b))]) hx hb dN_addReacher_1 hl (by decide) rfl (fun ls hl => ?_)
  exact lp3 (Ht + 1) Ht 0 f_reachers (by omega) (by omega) rfl _ _ hP hD hS ls (lv_sub hl [0, 1, 2, 3, 4] rfl)
set_option maxHeartbeats 4000000 in
set_option maxRecDepth 100000 in
theorem cN_findReachers (l : Launch) (dC : Nat → ClassId) (dI : Nat → Nat → Nat) (h0 a_walls a_placeX a_placeY a_reachers a_lossOf a_upper a_length a_headsOn a_turn a_lack a_joined : Nat) (Wd Ht Pn : Nat) (rs old sc jc : Int32) (cZ cI : ClassId) (f_walls f_placeX f_placeY f_reachers : Nat → Int32) (X Y : Nat → Nat) (sz : Nat) (hW : Wd ≤ 16) (hH : Ht ≤ 16) (hPn : Pn ≤ 12) (hXY : ∀ i, i < Pn → f_placeX i = nI (X i) ∧ f_placeY i = nI (Y i) ∧ X i < 16 ∧ Y i < 16) : Met l yN_findReachers (kN_findReachers :: WD) { frames := 4, cells := 0, slots := 0, locals := 101 } (va_Pc [.ref h0] (xm (dC, dI) snC [(h0, .inr (0, [.int (nI Wd), .int (nI Ht), .ref a_walls, .int rs, .ref a_placeX, .ref a_placeY, .int (nI Pn), .ref a_reachers, .int old, .ref a_lossOf, .int sc, .ref a_upper, .ref a_length, .ref a_headsOn, .ref a_turn, .ref a_lack, .ref a_joined, .int jc])), (a_walls, .inl (cZ, 256, .inl f_walls)), (a_placeX, .inl (cI, 12, .inl f_placeX)), (a_placeY, .inl (cI, 12, .inl f_placeY)), (a_reachers, .inl (cI, 256, .inl f_reachers))] [(cZ, .boolean), (cI, .int)] sz)) (va_Qv (fun _ : Unit => True) (fun _ => xo (dC, dI) snC [(h0, .inr (0, [.int (nI Wd), .int (nI Ht), .ref a_walls, .int rs, .ref a_placeX, .ref a_placeY, .int (nI Pn), .ref a_reachers, .int 0, .ref a_lossOf, .int sc, .ref a_upper, .ref a_length, .ref a_headsOn, .ref a_turn, .ref a_lack, .ref a_joined, .int jc])), (a_walls, .inl (cZ, 256, .inl f_walls)), (a_placeX, .inl (cI, 12, .inl f_placeX)), (a_placeY, .inl (cI, 12, .inl f_placeY)), (a_reachers, .inl (cI, 256, .inl (sn_find Wd Ht f_walls rs X Y Pn old f_reachers)))] [(cZ, .boolean), (cI, .int)] (va_A [(h0, .inr (0, [.int (nI Wd), .int (nI Ht), .ref a_walls, .int rs, .ref a_placeX, .ref a_placeY, .int (nI Pn), .ref a_reachers, .int old, .ref a_lossOf, .int sc, .ref a_upper, .ref a_length, .ref a_headsOn, .ref a_turn, .ref a_lack, .ref a_joined, .int jc])), (a_walls, .inl (cZ, 256, .inl f_walls)), (a_placeX, .inl (cI, 12, .inl f_placeX)), (a_placeY, .inl (cI, 12, .inl f_placeY)), (a_reachers, .inl (cI, 256, .inl f_reachers))] sz)) (va_A [(h0, .inr (0, [.int (nI Wd), .int (nI Ht), .ref a_walls, .int rs, .ref a_placeX, .ref a_placeY, .int (nI Pn), .ref a_reachers, .int old, .ref a_lossOf, .int sc, .ref a_upper, .ref a_length, .ref a_headsOn, .ref a_turn, .ref a_lack, .ref a_joined, .int jc])), (a_walls, .inl (cZ, 256, .inl f_walls)), (a_placeX, .inl (cI, 12, .inl f_placeX)), (a_placeY, .inl (cI, 12, .inl f_placeY)), (a_reachers, .inl (cI, 256, .inl f_reachers))] sz)) 0 0 (va_A [(h0, .inr (0, [.int (nI Wd), .int (nI Ht), .ref a_walls, .int rs, .ref a_placeX, .ref a_placeY, .int (nI Pn), .ref a_reachers, .int old, .ref a_lossOf, .int sc, .ref a_upper, .ref a_length, .ref a_headsOn, .ref a_turn, .ref a_lack, .ref a_joined, .int jc])), (a_walls, .inl (cZ, 256, .inl f_walls)), (a_placeX, .inl (cI, 12, .inl f_placeX)), (a_placeY, .inl (cI, 12, .inl f_placeY)), (a_reachers, .inl (cI, 256, .inl f_reachers))] sz) := by
  refine Met.ofW (cc := bN_findReachers) (maxL := 2) (ret := none) (by decide) rfl ?_
  intro p e s m args below meth c s₁ B hml hv
  obtain ⟨rfl, hsz, hP, hK, hD0⟩ := hv
  have hx := B.exec
  have hb := B.bytes
  have hr := B.returns
  have hts : ∀ w ∈ WD, w.before _ s = true := fun w h => atoms_spec (ws := kN_findReachers :: WD) B.pre w (List.mem_cons_of_mem _ h)
  have hown : s.vm.findClass R_N = some m.cls := findClass_of_methodNamed B.named
  have hlocks := B.notSynchronized
  subst hsz
  have hD := hD0.self (sz := s.heap.size)
  generalize hAe : va_A [(h0, .inr (0, [.int (nI Wd), .int (nI Ht), .ref a_walls, .int rs, .ref a_placeX, .ref a_placeY, .int (nI Pn), .ref a_reachers, .int old, .ref a_lossOf, .int sc, .ref a_upper, .ref a_length, .ref a_headsOn, .ref a_turn, .ref a_lack, .ref a_joined, .int jc])), (a_walls, .inl (cZ, 256, .inl f_walls)), (a_placeX, .inl (cI, 12, .inl f_placeX)), (a_placeY, .inl (cI, 12, .inl f_placeY)), (a_reachers, .inl (cI, 256, .inl f_reachers))] s.heap.size = A at hD ⊢
  have hA : ∀ q : Nat, s.heap.size ≤ q → A q := fun q h => by rw [← hAe]; exact Or.inr h
  have hS : va_S A s.heap s.heap [] := va_S.rf
  have hl := lv_entry ([.ref h0]) (n := 2) (Nat.le_of_ble_eq_true rfl)
  rw [lg_entry_eq]
  generalize (lg_sl ([.ref h0]) ++ List.replicate (2 - (lg_sl ([.ref h0])).length) Slot.unset).toArray = ls at hl ⊢
  have hl : lv_has ls 2 [(0, .ref h0)] := hl
  have lp18 : ∀ (k n : Nat) (i : Nat) (g : Nat → Int32), n < k → i + n = Pn → sn_fr Wd Ht f_walls rs X Y n i g = sn_fr Wd Ht f_walls rs X Y Pn 0 (sn_fill 0 256 0 f_reachers) → ¬ old = 0 → ∀ (H : Heap) (locs : List Loc), va_P (dC, dI) snC [(h0, .inr (0, [.int (nI Wd), .int (nI Ht), .ref a_walls, .int rs, .ref a_placeX, .ref a_placeY, .int (nI Pn), .ref a_reachers, .int old, .ref a_lossOf, .int sc, .ref a_upper, .ref a_length, .ref a_headsOn, .ref a_turn, .ref a_lack, .ref a_joined, .int jc])), (a_walls, .inl (cZ, 256, .inl f_walls)), (a_placeX, .inl (cI, 12, .inl f_placeX)), (a_placeY, .inl (cI, 12, .inl f_placeY)), (a_reachers, .inl (cI, 256, .inl g))] H → va_D A [(h0, .inr (0, [.int (nI Wd), .int (nI Ht), .ref a_walls, .int rs, .ref a_placeX, .ref a_placeY, .int (nI Pn), .ref a_reachers, .int old, .ref a_lossOf, .int sc, .ref a_upper, .ref a_length, .ref a_headsOn, .ref a_turn, .ref a_lack, .ref a_joined, .int jc])), (a_walls, .inl (cZ, 256, .inl f_walls)), (a_placeX, .inl (cI, 12, .inl f_placeX)), (a_placeY, .inl (cI, 12, .inl f_placeY)), (a_reachers, .inl (cI, 256, .inl g))] → va_S A s.heap H locs → ∀ ls : Array Slot, lv_has ls 2 [(1, .int (nI i)), (0, .ref h0)] → W p l e (headSpec (kN_findReachers :: WD) { frames := 4, cells := 0, slots := 0, locals := 101 }).room s m ([.ref h0]).toArray below meth c H locs 0 0 (MQ below (va_Qv (fun _ : Unit => True) (fun _ => xo (dC, dI) snC [(h0, .inr (0, [.int (nI Wd), .int (nI Ht), .ref a_walls, .int rs, .ref a_placeX, .ref a_placeY, .int (nI Pn), .ref a_reachers, .int 0, .ref a_lossOf, .int sc, .ref a_upper, .ref a_length, .ref a_headsOn, .ref a_turn, .ref a_lack, .ref a_joined, .int jc])), (a_walls, .inl (cZ, 256, .inl f_walls)), (a_placeX, .inl (cI, 12, .inl f_placeX)), (a_placeY, .inl (cI, 12, .inl f_placeY)), (a_reachers, .inl (cI, 256, .inl (sn_find Wd Ht f_walls rs X Y Pn old f_reachers)))] [(cZ, .boolean), (cI, .int)] A) A) ([.ref h0]).toArray s 0 0 (A)) (F0 m 18 ls []) := by
    intro k
    induction k with
    | zero => exact fun n _ _ h => absurd h (Nat.not_lt_zero n)
    | succ k ih =>
      intro n i g hk hin hT hold H locs hP hD hS ls hl
      refine lv_iload_n hx hb dN_findReachers_18 rfl (lv_at hl 0 rfl) ?_
      refine lv_bipush (v := (nI 12)) hx hb dN_findReachers_19 (by decide) ?_
      refine lv_icmp_ge (tgt := 55) hx hb dN_findReachers_21 (by decide) (fun c_1 => ?_) (fun c_1 => ?_)
      · have hz := (nI_leI (by omega) (by omega)).mp c_1
        obtain rfl : n = 0 := by omega
        refine lv_aload_n hx hb dN_findReachers_55 rfl (lv_at hl 1 rfl) ?_
        refine lv_iconst (v := 0) hx hb dN_findReachers_56 (by decide) ?_
        refine va_put (D := (dC, dI)) (ci := 0) (v := .int 0) (ty := .boolean) (C := R_N) (T := T_N) (N := 18) hx hb hts in_N t_N tok_N n_N hown hK hP hD hS 0 rfl rfl 8 (by decide) (hts _ flN45) (fun _ h9 => h9) rfl (by decide +kernel) rfl rfl (Nat.le_of_ble_eq_true rfl) dN_findReachers_57 (fun H locs hP hD hS => ?_)
        have hP : va_P (dC, dI) snC [(h0, .inr (0, [.int (nI Wd), .int (nI Ht), .ref a_walls, .int rs, .ref a_placeX, .ref a_placeY, .int (nI Pn), .ref a_reachers, .int 0, .ref a_lossOf, .int sc, .ref a_upper, .ref a_length, .ref a_headsOn, .ref a_turn, .ref a_lack, .ref a_joined, .int jc])), (a_walls, .inl (cZ, 256, .inl f_walls)), (a_placeX, .inl (cI, 12, .inl f_placeX)), (a_placeY, .inl (cI, 12, .inl f_placeY)), (a_reachers, .inl (cI, 256, .inl g))] H := hP
        have hD : va_D A [(h0, .inr (0, [.int (nI Wd), .int (nI Ht), .ref a_walls, .int rs, .ref a_placeX, .ref a_placeY, .int (nI Pn), .ref a_reachers, .int 0, .ref a_lossOf, .int sc, .ref a_upper, .ref a_length, .ref a_headsOn, .ref a_turn, .ref a_lack, .ref a_joined, .int jc])), (a_walls, .inl (cZ, 256, .inl f_walls)), (a_placeX, .inl (cI, 12, .inl f_placeX)), (a_placeY, .inl (cI, 12, .inl f_placeY)), (a_reachers, .inl (cI, 256, .inl g))] := hD
        rw [show sn_find Wd Ht f_walls rs X Y Pn old f_reachers = g from by rw [sn_find, if_neg hold, ← hT]; simp [sn_fr]]
        exact W.vret hx hb hr (fun t ht hW => ⟨⟨(), rfl, trivial, by rw [ht]; exact hP, va_K.moved hW.alike hK, hD⟩, hS.F ht⟩) hS.2.2 dN_findReachers_60
      · refine lv_iload_n hx hb dN_findReachers_24 rfl (lv_at hl 0 rfl) ?_
        refine lv_aload_n hx hb dN_findReachers_25 rfl (lv_at hl 1 rfl) ?_
        refine va_get (D := (dC, dI)) (ci := 0) (v := .int (nI Pn)) (C := R_N) (T := T_N) (N := 18) hx hb hts in_N hown hK hP 0 rfl rfl 6 (by decide) (hts _ flN39) (fun _ h9 => h9) rfl dN_findReachers_26 ?_
        refine lv_icmp_ge (tgt := 55) hx hb dN_findReachers_29 (by decide) (fun c_2 => ?_) (fun c_2 => ?_)
        · have hz := (nI_leI (by omega) (by omega)).mp c_2
          obtain rfl : n = 0 := by omega
          refine lv_aload_n hx hb dN_findReachers_55 rfl (lv_at hl 1 rfl) ?_
          refine lv_iconst (v := 0) hx hb dN_findReachers_56 (by decide) ?_
          refine va_put (D := (dC, dI)) (ci := 0) (v := .int 0) (ty := .boolean) (C := R_N) (T := T_N) (N := 18) hx hb hts in_N t_N tok_N n_N hown hK hP hD hS 0 rfl rfl 8 (by decide) (hts _ flN45) (fun _ h9 => h9) rfl (by decide +kernel) rfl rfl (Nat.le_of_ble_eq_true rfl) dN_findReachers_57 (fun H locs hP hD hS => ?_)
          have hP : va_P (dC, dI) snC [(h0, .inr (0, [.int (nI Wd), .int (nI Ht), .ref a_walls, .int rs, .ref a_placeX, .ref a_placeY, .int (nI Pn), .ref a_reachers, .int 0, .ref a_lossOf, .int sc, .ref a_upper, .ref a_length, .ref a_headsOn, .ref a_turn, .ref a_lack, .ref a_joined, .int jc])), (a_walls, .inl (cZ, 256, .inl f_walls)), (a_placeX, .inl (cI, 12, .inl f_placeX)), (a_placeY, .inl (cI, 12, .inl f_placeY)), (a_reachers, .inl (cI, 256, .inl g))] H := hP
          have hD : va_D A [(h0, .inr (0, [.int (nI Wd), .int (nI Ht), .ref a_walls, .int rs, .ref a_placeX, .ref a_placeY, .int (nI Pn), .ref a_reachers, .int 0, .ref a_lossOf, .int sc, .ref a_upper, .ref a_length, .ref a_headsOn, .ref a_turn, .ref a_lack, .ref a_joined, .int jc])), (a_walls, .inl (cZ, 256, .inl f_walls)), (a_placeX, .inl (cI, 12, .inl f_placeX)), (a_placeY, .inl (cI, 12, .inl f_placeY)), (a_reachers, .inl (cI, 256, .inl g))] := hD
          rw [show sn_find Wd Ht f_walls rs X Y Pn old f_reachers = g from by rw [sn_find, if_neg hold, ← hT]; simp [sn_fr]]
          exact W.vret hx hb hr (fun t ht hW => ⟨⟨(), rfl, trivial, by rw [ht]; exact hP, va_K.moved hW.alike hK, hD⟩, hS.F ht⟩) hS.2.2 dN_findReachers_60
        · have hz : i < Pn := by have h9 := mt (nI_leI (by omega) (by omega)).mpr c_2; omega
          obtain ⟨n, rfl⟩ : ∃ n', n = n' + 1 := ⟨n - 1, by omega⟩
          have hxy := hXY i hz
          refine lv_aload_n hx hb dN_findReachers_32 rfl (lv_at hl 1 rfl) ?_
          refine lv_iload_n hx hb dN_findReachers_33 rfl (lv_at hl 0 rfl) ?_
          refine lv_aload_n hx hb dN_findReachers_34 rfl (lv_at hl 1 rfl) ?_
          refine va_get (D := (dC, dI)) (ci := 0) (v := .ref a_placeX) (C := R_N) (T := T_N) (N := 18) hx hb hts in_N hown hK hP 0 rfl rfl 4 (by decide) (hts _ flN32) (fun _ h9 => h9) rfl dN_findReachers_35 ?_
          refine lv_iload_n hx hb dN_findReachers_38 rfl (lv_at hl 0 rfl) ?_
          refine xa_iald hx hb hK hP 2 1 rfl rfl (i := i) (by omega) (by first | decide | omega) dN_findReachers_39 ?_
          rw [show (f_placeX i : Int32) = nI (X i) from (hXY i hz).1]
          refine lv_aload_n hx hb dN_findReachers_40 rfl (lv_at hl 1 rfl) ?_
          refine va_get (D := (dC, dI)) (ci := 0) (v := .ref a_placeY) (C := R_N) (T := T_N) (N := 18) hx hb hts in_N hown hK hP 0 rfl rfl 5 (by decide) (hts _ flN36) (fun _ h9 => h9) rfl dN_findReachers_41 ?_
          refine lv_iload_n hx hb dN_findReachers_44 rfl (lv_at hl 0 rfl) ?_
          refine xa_iald hx hb hK hP 3 1 rfl rfl (i := i) (by omega) (by first | decide | omega) dN_findReachers_45 ?_
          rw [show (f_placeY i : Int32) = nI (Y i) from (hXY i hz).2.1]
          refine xm_Vv (S := Unit) (As := [.int (nI i), .int (nI (X i)), .int (nI (Y i))]) (w1 := fun _ => [(h0, .inr (0, [.int (nI Wd), .int (nI Ht), .ref a_walls, .int rs, .ref a_placeX, .ref a_placeY, .int (nI Pn), .ref a_reachers, .int old, .ref a_lossOf, .int sc, .ref a_upper, .ref a_length, .ref a_headsOn, .ref a_turn, .ref a_lack, .ref a_joined, .int jc])), (a_walls, .inl (cZ, 256, .inl f_walls)), (a_reachers, .inl (cI, 256, .inl (sn_aro Wd Ht f_walls rs (sn_bit i) (X i) (Y i) Ht 0 g)))]) (wz := fun _ => [(h0, .inr (0, [.int (nI Wd), .int (nI Ht), .ref a_walls, .int rs, .ref a_placeX, .ref a_placeY, .int (nI Pn), .ref a_reachers, .int old, .ref a_lossOf, .int sc, .ref a_upper, .ref a_length, .ref a_headsOn, .ref a_turn, .ref a_lack, .ref a_joined, .int jc])), (a_walls, .inl (cZ, 256, .inl f_walls)), (a_placeX, .inl (cI, 12, .inl f_placeX)), (a_placeY, .inl (cI, 12, .inl f_placeY)), (a_reachers, .inl (cI, 256, .inl (sn_aro Wd Ht f_walls rs (sn_bit i) (X i) (Y i) Ht 0 g)))]) (wr := [(a_placeX, .inl (cI, 12, .inl f_placeX)), (a_placeY, .inl (cI, 12, .inl f_placeY))]) ⟨hx, hb, hml, hown, hts⟩ (cN_addReacher l dC dI h0 a_walls a_placeX a_placeY a_reachers a_lossOf a_upper a_length a_headsOn a_turn a_lack a_joined Wd Ht Pn rs old sc jc cZ cI f_walls g i (X i) (Y i) _ hW hH (by omega) (by omega)) (cwV 3 hts gN171 rfl rfl rfl (by decide +kernel) ⟨Nat.le_of_ble_eq_true rfl, Nat.le_of_ble_eq_true rfl⟩) hK hP hD hS hA [0, 1, 4] [2, 3] [2, 3, 0, 1, 4] [0, 1] rfl rfl (fun _ => rfl) (by decide) (by decide) (by decide) (by decide) rfl 0 0 rfl rfl rfl rfl hl.1 rfl (Nat.le_of_ble_eq_true rfl) dN_findReachers_46 ⟨Nat.zero_le _, Nat.zero_le _⟩ (fun u H locs hr_3 hP hD hS => ?_)
          refine lv_iinc (v := (nI (i + 1))) (lv' := [(1, .int (nI (i + 1))), (0, .ref h0)]) hx hb dN_findReachers_49 hl (k := 0) rfl (nI_1 i) (by decide) rfl (fun ls hl => ?_)
          refine lv_goto (tgt := 18) hx hb dN_findReachers_52 (by decide) ?_
          exact ih n (i + 1) (sn_aro Wd Ht f_walls rs (sn_bit i) (X i) (Y i) Ht 0 g) (by omega) (by omega) (by rw [← hT]; simp [sn_fr]) hold _ _ hP hD hS ls (lv_sub hl [0, 1] rfl)
  refine lv_aload_n hx hb dN_findReachers_0 rfl (lv_at hl 0 rfl) ?_
  refine va_get (D := (dC, dI)) (ci := 0) (v := .int old) (C := R_N) (T := T_N) (N := 18) hx hb hts in_N hown hK hP 0 rfl rfl 8 (by decide) (hts _ flN45) (fun _ h9 => h9) rfl dN_findReachers_1 ?_
  refine lv_if_ne (tgt := 8) hx hb dN_findReachers_4 (by decide) (fun c_1 => ?_) (fun c_1 => ?_)
  · have hold := c_1
    refine lv_aload_n hx hb dN_findReachers_8 rfl (lv_at hl 0 rfl) ?_
    refine va_get (D := (dC, dI)) (ci := 0) (v := .ref a_reachers) (C := R_N) (T := T_N) (N := 18) hx hb hts in_N hown hK hP 0 rfl rfl 7 (by decide) (hts _ flN42) (fun _ h9 => h9) rfl dN_findReachers_9 ?_
    refine lv_iconst (v := 0) hx hb dN_findReachers_12 (by decide) ?_
    refine xm_Sv (S := Unit) (As := [.ref a_reachers, .int 0]) (w1 := fun _ => [(a_reachers, .inl (cI, 256, .inl (sn_fill 0 256 0 f_reachers)))]) (wz := fun _ => [(h0, .inr (0, [.int (nI Wd), .int (nI Ht), .ref a_walls, .int rs, .ref a_placeX, .ref a_placeY, .int (nI Pn), .ref a_reachers, .int old, .ref a_lossOf, .int sc, .ref a_upper, .ref a_length, .ref a_headsOn, .ref a_turn, .ref a_lack, .ref a_joined, .int jc])), (a_walls, .inl (cZ, 256, .inl f_walls)), (a_placeX, .inl (cI, 12, .inl f_placeX)), (a_placeY, .inl (cI, 12, .inl f_placeY)), (a_reachers, .inl (cI, 256, .inl (sn_fill 0 256 0 f_reachers)))]) (wr := [(h0, .inr (0, [.int (nI Wd), .int (nI Ht), .ref a_walls, .int rs, .ref a_placeX, .ref a_placeY, .int (nI Pn), .ref a_reachers, .int old, .ref a_lossOf, .int sc, .ref a_upper, .ref a_length, .ref a_headsOn, .ref a_turn, .ref a_lack, .ref a_joined, .int jc])), (a_walls, .inl (cZ, 256, .inl f_walls)), (a_placeX, .inl (cI, 12, .inl f_placeX)), (a_placeY, .inl (cI, 12, .inl f_placeY))]) ⟨hx, hb, hml, hown, hts⟩ (cA_fill l dC dI a_reachers cI 256 f_reachers 0 _ (by decide)) (va_cwS 2 hts gN52 rfl rfl rfl (by decide +kernel) ⟨Nat.le_of_ble_eq_true rfl, Nat.le_of_ble_eq_true rfl⟩) hK hP hD hS hA [4] [0, 1, 2, 3] [0, 1, 2, 3, 4] [1] rfl rfl (fun _ => rfl) (by decide) (by decide) (by decide) (by decide) rfl rfl hl.1 rfl (Nat.le_of_ble_eq_true rfl) dN_findReachers_13 ⟨Nat.zero_le _, Nat.zero_le _⟩ (fun u H locs hr_2 hP hD hS => ?_)
    refine lv_iconst (v := 0) hx hb dN_findReachers_16 (by decide) ?_
    refine lv_istore_n (lv' := [(1, .int 0), (0, .ref h0)]) hx hb dN_findReachers_17 rfl hl (by decide) rfl (fun ls hl => ?_)
    exact lp18 (Pn + 1) Pn 0 (sn_fill 0 256 0 f_reachers) (by omega) (by omega) rfl hold _ _ hP hD hS ls (lv_sub hl [0, 1] rfl)
  · subst c_1
    rw [show sn_find Wd Ht f_walls rs X Y Pn 0 f_reachers = f_reachers from rfl]
    exact W.vret hx hb hr (fun t ht hW => ⟨⟨(), rfl, trivial, by rw [ht]; exact hP, va_K.moved hW.alike hK, hD⟩, hS.F ht⟩) hS.2.2 dN_findReachers_7
end
section
def sn_ab (x : Int32) : Int32 := if 0 ≤ x then x else 0 - x
def sn_way (px py : Nat → Int32) (q i : Nat) : Int32 := sn_ab (px i - px q) + sn_ab (py i - py q)
def sn_ou (px py : Nat → Int32) (q : Nat) (wt : Int32) : Nat → Nat → (Nat → Int32) → (Nat → Int32) → (Nat → Int32) × (Nat → Int32)
  | 0, _, u, l => (u, l)
  | n + 1, i, u, l => if sn_hold wt (nI i) = true ∧ ¬ l i ≤ sn_way px py q i then sn_ou px py q wt n (i + 1) (upd u i (nI q)) (upd l i (sn_way px py q i)) else sn_ou px py q wt n (i + 1) u l
def sn_j0 (px py : Nat → Int32) : Nat → Nat → (Nat → Int32) → (Nat → Int32) → (Nat → Int32) × (Nat → Int32)
  | 0, _, u, l => (u, l)
  | n + 1, i, u, l => sn_j0 px py n (i + 1) (upd u i (-1)) (upd l i (px i + py i))
def sn_drop (wt : Int32) (q : Nat) : Int32 := wt &&& ((1 <<< (nI q &&& 31)) ^^^ (-1))
def sn_jp (px py : Nat → Int32) : Nat → Nat → Int32 → (Nat → Int32) → (Nat → Int32) → (Nat → Int32) → (Nat → Int32) → Int32 → (Nat → Int32) × (Nat → Int32) × (Nat → Int32) × (Nat → Int32) × Int32
  | 0, _, _, u, l, t, j, c => (u, l, t, j, c)
  | n + 1, i, wt, u, l, t, j, c => if sn_no l wt 12 0 (-1) 0 = -1 then (u, l, t, j, c) else
    sn_jp px py n (i + 1) (sn_drop wt (sn_no l wt 12 0 (-1) 0).toNatClampNeg) (sn_ou px py (sn_no l wt 12 0 (-1) 0).toNatClampNeg (sn_drop wt (sn_no l wt 12 0 (-1) 0).toNatClampNeg) 12 0 u l).1 (sn_ou px py (sn_no l wt 12 0 (-1) 0).toNatClampNeg (sn_drop wt (sn_no l wt 12 0 (-1) 0).toNatClampNeg) 12 0 u l).2 (upd t (sn_no l wt 12 0 (-1) 0).toNatClampNeg (nI i)) (upd j i (sn_no l wt 12 0 (-1) 0)) (nI (i + 1))
def sn_join (px py : Nat → Int32) (set : Int32) (u l t j : Nat → Int32) : (Nat → Int32) × (Nat → Int32) × (Nat → Int32) × (Nat → Int32) × Int32 := sn_jp px py 12 0 set (sn_j0 px py 12 0 u l).1 (sn_j0 px py 12 0 u l).2 t j 0
theorem sn_jp_step {px py : Nat → Int32} {n i q : Nat} {wt c : Int32} {u l t j : Nat → Int32} (h : sn_no l wt 12 0 (-1) 0 = nI q) (hq : q < 12 := by assumption) : sn_jp px py (n + 1) i wt u l t j c = sn_jp px py n (i + 1) (sn_drop wt q) (sn_ou px py q (sn_drop wt q) 12 0 u l).1 (sn_ou px py q (sn_drop wt q) 12 0 u l).2 (upd t q (nI i)) (upd j i (nI q)) (nI (i + 1)) := by
  have e1 : ¬ (nI q = -1) := fun e => by
    have := congrArg Int32.toInt e
    rw [nI_toInt (by omega)] at this
    have e2 : (-1 : Int32).toInt = -1 := by decide
    omega
  rw [sn_jp, h, if_neg e1, nI_clamp (by omega)]
theorem sn_no_run (l : Nat → Int32) (wt : Int32) : ∀ (n i : Nat) (nr lt : Int32), i + n ≤ 12 → (nr = -1 ∨ ∃ q, q < 12 ∧ nr = nI q) → sn_no l wt n i nr lt = -1 ∨ ∃ q, q < 12 ∧ sn_no l wt n i nr lt = nI q := by
  intro n
  induction n with
  | zero => intro i nr lt _ h; exact h
  | succ n ih =>
    intro i nr lt hi h
    rw [sn_no]
    split
    · exact ih (i + 1) (nI i) (l i) (by omega) (Or.inr ⟨i, by omega, rfl⟩)
    · exact ih (i + 1) nr lt (by omega) h
theorem sn_no_spec {l : Nat → Int32} {wt : Int32} (h : ¬ sn_no l wt 12 0 (-1) 0 = -1) : ∃ q, q < 12 ∧ sn_no l wt 12 0 (-1) 0 = nI q := (sn_no_run l wt 12 0 (-1) 0 (by omega) (Or.inl rfl)).resolve_left h
set_option maxHeartbeats 4000000 in
set_option maxRecDepth 100000 in
theorem cN_offerUpper (l : Launch) (dC : Nat → ClassId) (dI : Nat → Nat → Nat) (h0 a_walls a_placeX a_placeY a_reachers a_lossOf a_upper a_length a_headsOn a_turn a_lack a_joined : Nat) (Wd Ht Pn : Nat) (rs old sc jc : Int32) (cI : ClassId) (f_placeX f_placeY f_upper f_length : Nat → Int32) (q : Nat) (wt : Int32) (sz : Nat) (hq : q < 12) : Met l yN_offerUpper (kN_offerUpper :: WD) { frames := 1, cells := 0, slots := 0, locals := 21 } (va_Pc [.ref h0, .int (nI q), .int wt] (xm (dC, dI) snC [(h0, .inr (0, [.int (nI Wd), .int (nI Ht), .ref a_walls, .int rs, .ref a_placeX, .ref a_placeY, .int (nI Pn), .ref a_reachers, .int old, .ref a_lossOf, .int sc, .ref a_upper, .ref a_length, .ref a_headsOn, .ref a_turn, .ref a_lack, .ref a_joined, .int jc])), (a_placeX, .inl (cI, 12, .inl f_placeX)), (a_placeY, .inl (cI, 12, .inl f_placeY)), (a_upper, .inl (cI, 12, .inl f_upper)), (a_length, .inl (cI, 12, .inl f_length))] [(cI, .int)] sz)) (va_Qv (fun _ : Unit => True) (fun _ => xo (dC, dI) snC [(h0, .inr (0, [.int (nI Wd), .int (nI Ht), .ref a_walls, .int rs, .ref a_placeX, .ref a_placeY, .int (nI Pn), .ref a_reachers, .int old, .ref a_lossOf, .int sc, .ref a_upper, .ref a_length, .ref a_headsOn, .ref a_turn, .ref a_lack, .ref a_joined, .int jc])), (a_placeX, .inl (cI, 12, .inl f_placeX)), (a_placeY, .inl (cI, 12, .inl f_placeY)), (a_upper, .inl (cI, 12, .inl ((sn_ou f_placeX f_placeY q wt 12 0 f_upper f_length).1))), (a_length, .inl (cI, 12, .inl ((sn_ou f_placeX f_placeY q wt 12 0 f_upper f_length).2)))] [(cI, .int)] (va_A [(h0, .inr (0, [.int (nI Wd), .int (nI Ht), .ref a_walls, .int rs, .ref a_placeX, .ref a_placeY, .int (nI Pn), .ref a_reachers, .int old, .ref a_lossOf, .int sc, .ref a_upper, .ref a_length, .ref a_headsOn, .ref a_turn, .ref a_lack, .ref a_joined, .int jc])), (a_placeX, .inl (cI, 12, .inl f_placeX)), (a_placeY, .inl (cI, 12, .inl f_placeY)), (a_upper, .inl (cI, 12, .inl f_upper)), (a_length, .inl (cI, 12, .inl f_length))] sz)) (va_A [(h0, .inr (0, [.int (nI Wd), .int (nI Ht), .ref a_walls, .int rs, .ref a_placeX, .ref a_placeY, .int (nI Pn), .ref a_reachers, .int old, .ref a_lossOf, .int sc, .ref a_upper, .ref a_length, .ref a_headsOn, .ref a_turn, .ref a_lack, .ref a_joined, .int jc])), (a_placeX, .inl (cI, 12, .inl f_placeX)), (a_placeY, .inl (cI, 12, .inl f_placeY)), (a_upper, .inl (cI, 12, .inl f_upper)), (a_length, .inl (cI, 12, .inl f_length))] sz)) 0 0 (va_A [(h0, .inr (0, [.int (nI Wd), .int (nI Ht), .ref a_walls, .int rs, .ref a_placeX, .ref a_placeY, .int (nI Pn), .ref a_reachers, .int old, .ref a_lossOf, .int sc, .ref a_upper, .ref a_length, .ref a_headsOn, .ref a_turn, .ref a_lack, .ref a_joined, .int jc])), (a_placeX, .inl (cI, 12, .inl f_placeX)), (a_placeY, .inl (cI, 12, .inl f_placeY)), (a_upper, .inl (cI, 12, .inl f_upper)), (a_length, .inl (cI, 12, .inl f_length))] sz) := by
  refine Met.ofW (cc := bN_offerUpper) (maxL := 5) (ret := none) (by decide) rfl ?_
  intro p e s m args below meth c s₁ B hml hv
  obtain ⟨rfl, hsz, hP, hK, hD0⟩ := hv
  have hx := B.exec
  have hb := B.bytes
  have hr := B.returns
  have hts : ∀ w ∈ WD, w.before _ s = true := fun w h => atoms_spec (ws := kN_offerUpper :: WD) B.pre w (List.mem_cons_of_mem _ h)
  have hown : s.vm.findClass R_N = some m.cls := findClass_of_methodNamed B.named
  have hlocks := B.notSynchronized
  subst hsz
  have hD := hD0.self (sz := s.heap.size)
  generalize hAe : va_A [(h0, .inr (0, [.int (nI Wd), .int (nI Ht), .ref a_walls, .int rs, .ref a_placeX, .ref a_placeY, .int (nI Pn), .ref a_reachers, .int old, .ref a_lossOf, .int sc, .ref a_upper, .ref a_length, .ref a_headsOn, .ref a_turn, .ref a_lack, .ref a_joined, .int jc])), (a_placeX, .inl (cI, 12, .inl f_placeX)), (a_placeY, .inl (cI, 12, .inl f_placeY)), (a_upper, .inl (cI, 12, .inl f_upper)), (a_length, .inl (cI, 12, .inl f_length))] s.heap.size = A at hD ⊢
  have hA : ∀ q : Nat, s.heap.size ≤ q → A q := fun q h => by rw [← hAe]; exact Or.inr h
  have hS : va_S A s.heap s.heap [] := va_S.rf
  have hl := lv_entry ([.ref h0, .int (nI q), .int wt]) (n := 5) (Nat.le_of_ble_eq_true rfl)
  rw [lg_entry_eq]
  generalize (lg_sl ([.ref h0, .int (nI q), .int wt]) ++ List.replicate (5 - (lg_sl ([.ref h0, .int (nI q), .int wt])).length) Slot.unset).toArray = ls at hl ⊢
  have hl : lv_has ls 5 [(0, .ref h0), (1, .int (nI q)), (2, .int wt)] := hl
  have lp2 : ∀ (k n : Nat) (i : Nat) (g1 g2 : Nat → Int32), n < k → i + n = 12 → sn_ou f_placeX f_placeY q wt n i g1 g2 = sn_ou f_placeX f_placeY q wt 12 0 f_upper f_length → ∀ (H : Heap) (locs : List Loc), va_P (dC, dI) snC [(h0, .inr (0, [.int (nI Wd), .int (nI Ht), .ref a_walls, .int rs, .ref a_placeX, .ref a_placeY, .int (nI Pn), .ref a_reachers, .int old, .ref a_lossOf, .int sc, .ref a_upper, .ref a_length, .ref a_headsOn, .ref a_turn, .ref a_lack, .ref a_joined, .int jc])), (a_placeX, .inl (cI, 12, .inl f_placeX)), (a_placeY, .inl (cI, 12, .inl f_placeY)), (a_upper, .inl (cI, 12, .inl g1)), (a_length, .inl (cI, 12, .inl g2))] H → va_D A [(h0, .inr (0, [.int (nI Wd), .int (nI Ht), .ref a_walls, .int rs, .ref a_placeX, .ref a_placeY, .int (nI Pn), .ref a_reachers, .int old, .ref a_lossOf, .int sc, .ref a_upper, .ref a_length, .ref a_headsOn, .ref a_turn, .ref a_lack, .ref a_joined, .int jc])), (a_placeX, .inl (cI, 12, .inl f_placeX)), (a_placeY, .inl (cI, 12, .inl f_placeY)), (a_upper, .inl (cI, 12, .inl g1)), (a_length, .inl (cI, 12, .inl g2))] → va_S A s.heap H locs → ∀ ls : Array Slot, lv_has ls 5 [(3, .int (nI i)), (0, .ref h0), (1, .int (nI q)), (2, .int wt)] → W p l e (headSpec (kN_offerUpper :: WD) { frames := 1, cells := 0, slots := 0, locals := 21 }).room s m ([.ref h0, .int (nI q), .int wt]).toArray below meth c H locs 0 0 (MQ below (va_Qv (fun _ : Unit => True) (fun _ => xo (dC, dI) snC [(h0, .inr (0, [.int (nI Wd), .int (nI Ht), .ref a_walls, .int rs, .ref a_placeX, .ref a_placeY, .int (nI Pn), .ref a_reachers, .int old, .ref a_lossOf, .int sc, .ref a_upper, .ref a_length, .ref a_headsOn, .ref a_turn, .ref a_lack, .ref a_joined, .int jc])), (a_placeX, .inl (cI, 12, .inl f_placeX)), (a_placeY, .inl (cI, 12, .inl f_placeY)), (a_upper, .inl (cI, 12, .inl ((sn_ou f_placeX f_placeY q wt 12 0 f_upper f_length).1))), (a_length, .inl (cI, 12, .inl ((sn_ou f_placeX f_placeY q wt 12 0 f_upper f_length).2)))] [(cI, .int)] A) A) ([.ref h0, .int (nI q), .int wt]).toArray s 0 0 (A)) (F0 m 2 ls []) := by
    intro k
    induction k with
    | zero => exact fun n _ _ _ h => absurd h (Nat.not_lt_zero n)
    | succ k ih =>
      intro n i g1 g2 hk hin hT H locs hP hD hS ls hl
      refine lv_iload_n hx hb dN_offerUpper_2 rfl (lv_at hl 0 rfl) ?_
      refine lv_bipush (v := (nI 12)) hx hb dN_offerUpper_3 (by decide) ?_
      refine lv_icmp_ge (tgt := 83) hx hb dN_offerUpper_5 (by decide) (fun c_1 => ?_) (fun c_1 => ?_)
      · have hz := (nI_leI (by omega) (by omega)).mp c_1
        obtain rfl : n = 0 := by omega
        rw [show sn_ou f_placeX f_placeY q wt 12 0 f_upper f_length = (g1, g2) from by rw [← hT]; simp [sn_ou]]
        exact W.vret hx hb hr (fun t ht hW => ⟨⟨(), rfl, trivial, by rw [ht]; exact hP, va_K.moved hW.alike hK, hD⟩, hS.F ht⟩) hS.2.2 dN_offerUpper_83
      · have hz : i < 12 := by have h9 := mt (nI_leI (by omega) (by omega)).mpr c_1; omega
        obtain ⟨n, rfl⟩ : ∃ n', n = n' + 1 := ⟨n - 1, by omega⟩
        refine lv_aload_n hx hb dN_offerUpper_8 rfl (lv_at hl 1 rfl) ?_
        refine va_get (D := (dC, dI)) (ci := 0) (v := .ref a_placeX) (C := R_N) (T := T_N) (N := 18) hx hb hts in_N hown hK hP 0 rfl rfl 4 (by decide) (hts _ flN32) (fun _ h9 => h9) rfl dN_offerUpper_9 ?_
        refine lv_iload_n hx hb dN_offerUpper_12 rfl (lv_at hl 0 rfl) ?_
        refine xa_iald hx hb hK hP 1 0 rfl rfl (i := i) (by omega) (by first | decide | omega) dN_offerUpper_13 ?_
        refine lv_aload_n hx hb dN_offerUpper_14 rfl (lv_at hl 1 rfl) ?_
        refine va_get (D := (dC, dI)) (ci := 0) (v := .ref a_placeX) (C := R_N) (T := T_N) (N := 18) hx hb hts in_N hown hK hP 0 rfl rfl 4 (by decide) (hts _ flN32) (fun _ h9 => h9) rfl dN_offerUpper_15 ?_
        refine lv_iload_n hx hb dN_offerUpper_18 rfl (lv_at hl 2 rfl) ?_
        refine xa_iald hx hb hK hP 1 0 rfl rfl (i := q) (by omega) (by first | decide | omega) dN_offerUpper_19 ?_
        refine lv_isub hx hb dN_offerUpper_20 ?_
        refine va_mabs hx hb (hml.trans hl.1.symm) hown (hts _ mlN168) (hts _ smH_abs) (hts _ iniH) (hts _ kwH_abs) (Nat.le_of_ble_eq_true rfl) (Nat.le_of_ble_eq_true rfl) (Nat.zero_le _) (Nat.zero_le _) dN_offerUpper_21 ?_
        rw [show (if 0 ≤ ((f_placeX i) - (f_placeX q)) then ((f_placeX i) - (f_placeX q)) else 0 - ((f_placeX i) - (f_placeX q)) : Int32) = sn_ab (f_placeX i - f_placeX q) from rfl]
        refine lv_aload_n hx hb dN_offerUpper_24 rfl (lv_at hl 1 rfl) ?_
        refine va_get (D := (dC, dI)) (ci := 0) (v := .ref a_placeY) (C := R_N) (T := T_N) (N := 18) hx hb hts in_N hown hK hP 0 rfl rfl 5 (by decide) (hts _ flN36) (fun _ h9 => h9) rfl dN_offerUpper_25 ?_
        refine lv_iload_n hx hb dN_offerUpper_28 rfl (lv_at hl 0 rfl) ?_
        refine xa_iald hx hb hK hP 2 0 rfl rfl (i := i) (by omega) (by first | decide | omega) dN_offerUpper_29 ?_
        refine lv_aload_n hx hb dN_offerUpper_30 rfl (lv_at hl 1 rfl) ?_
        refine va_get (D := (dC, dI)) (ci := 0) (v := .ref a_placeY) (C := R_N) (T := T_N) (N := 18) hx hb hts in_N hown hK hP 0 rfl rfl 5 (by decide) (hts _ flN36) (fun _ h9 => h9) rfl dN_offerUpper_31 ?_
        refine lv_iload_n hx hb dN_offerUpper_34 rfl (lv_at hl 2 rfl) ?_
        refine xa_iald hx hb hK hP 2 0 rfl rfl (i := q) (by omega) (by first | decide | omega) dN_offerUpper_35 ?_
        refine lv_isub hx hb dN_offerUpper_36 ?_
        refine va_mabs hx hb (hml.trans hl.1.symm) hown (hts _ mlN168) (hts _ smH_abs) (hts _ iniH) (hts _ kwH_abs) (Nat.le_of_ble_eq_true rfl) (Nat.le_of_ble_eq_true rfl) (Nat.zero_le _) (Nat.zero_le _) dN_offerUpper_37 ?_
        rw [show (if 0 ≤ ((f_placeY i) - (f_placeY q)) then ((f_placeY i) - (f_placeY q)) else 0 - ((f_placeY i) - (f_placeY q)) : Int32) = sn_ab (f_placeY i - f_placeY q) from rfl]
        refine lv_iadd hx hb dN_offerUpper_40 ?_
        rw [show ((sn_ab (f_placeX i - f_placeX q)) + (sn_ab (f_placeY i - f_placeY q)) : Int32) = sn_way f_placeX f_placeY q i from rfl]
        refine lv_istore (lv' := [(4, .int (sn_way f_placeX f_placeY q i)), (3, .int (nI i)), (0, .ref h0), (1, .int (nI q)), (2, .int wt)]) hx hb dN_offerUpper_41 hl (by decide) rfl (fun ls hl => ?_)
        refine lv_iload_n hx hb dN_offerUpper_43 rfl (lv_at hl 4 rfl) ?_
        refine lv_iload_n hx hb dN_offerUpper_44 rfl (lv_at hl 1 rfl) ?_
        refine xr_S (As := [.int wt, .int (nI i)]) ⟨hx, hb, hml, hown, hts⟩ (cN_holds l dC dI wt (nI i)) (va_cwS 2 hts gN123 rfl rfl rfl (by decide +kernel) ⟨Nat.le_of_ble_eq_true rfl, Nat.le_of_ble_eq_true rfl⟩) hK hP [] [] rfl rfl rfl hl.1 rfl (Nat.le_of_ble_eq_true rfl) dN_offerUpper_45 ⟨Nat.zero_le _, Nat.zero_le _⟩ (fun r_2 hr_2 => ?_)
        subst hr_2
        refine lv_if_eq (tgt := 77) hx hb dN_offerUpper_48 (by decide) (fun c_3 => ?_) (fun c_3 => ?_)
        · replace c_3 := bz_0 c_3
          refine lv_iinc (v := (nI (i + 1))) (lv' := [(3, .int (nI (i + 1))), (4, .int (sn_way f_placeX f_placeY q i)), (0, .ref h0), (1, .int (nI q)), (2, .int wt)]) hx hb dN_offerUpper_77 hl (k := 1) rfl (nI_1 i) (by decide) rfl (fun ls hl => ?_)
          refine lv_goto (tgt := 2) hx hb dN_offerUpper_80 (by decide) ?_
          exact ih n (i + 1) g1 g2 (by omega) (by omega) (by rw [← hT]; simp [sn_ou, c_1, c_3]) _ _ hP hD hS ls (lv_sub hl [0, 2, 3, 4] rfl)
        · replace c_3 := bz_1 c_3
          refine lv_iload hx hb dN_offerUpper_51 (lv_at hl 0 rfl) ?_
          refine lv_aload_n hx hb dN_offerUpper_53 rfl (lv_at hl 2 rfl) ?_
          refine va_get (D := (dC, dI)) (ci := 0) (v := .ref a_length) (C := R_N) (T := T_N) (N := 18) hx hb hts in_N hown hK hP 0 rfl rfl 12 (by decide) (hts _ flN64) (fun _ h9 => h9) rfl dN_offerUpper_54 ?_
          refine lv_iload_n hx hb dN_offerUpper_57 rfl (lv_at hl 1 rfl) ?_
          refine xa_iald hx hb hK hP 4 0 rfl rfl (i := i) (by omega) (by first | decide | omega) dN_offerUpper_58 ?_
          refine lv_icmp_ge (tgt := 77) hx hb dN_offerUpper_59 (by decide) (fun c_4 => ?_) (fun c_4 => ?_)
          · refine lv_iinc (v := (nI (i + 1))) (lv' := [(3, .int (nI (i + 1))), (4, .int (sn_way f_placeX f_placeY q i)), (0, .ref h0), (1, .int (nI q)), (2, .int wt)]) hx hb dN_offerUpper_77 hl (k := 1) rfl (nI_1 i) (by decide) rfl (fun ls hl => ?_)
            refine lv_goto (tgt := 2) hx hb dN_offerUpper_80 (by decide) ?_
            exact ih n (i + 1) g1 g2 (by omega) (by omega) (by rw [← hT]; simp [sn_ou, c_1, c_3, c_4]) _ _ hP hD hS ls (lv_sub hl [0, 2, 3, 4] rfl)
          · refine lv_aload_n hx hb dN_offerUpper_62 rfl (lv_at hl 2 rfl) ?_
            refine va_get (D := (dC, dI)) (ci := 0) (v := .ref a_upper) (C := R_N) (T := T_N) (N := 18) hx hb hts in_N hown hK hP 0 rfl rfl 11 (by decide) (hts _ flN61) (fun _ h9 => h9) rfl dN_offerUpper_63 ?_
            refine lv_iload_n hx hb dN_offerUpper_66 rfl (lv_at hl 1 rfl) ?_
            refine lv_iload_n hx hb dN_offerUpper_67 rfl (lv_at hl 3 rfl) ?_
            refine xa_iast hx hb hK hP hD hS 3 0 rfl rfl (i := i) (x := nI q) (by omega) (by first | decide | omega) dN_offerUpper_68 (fun H locs hP hD hS => ?_)
            have hP : va_P (dC, dI) snC [(h0, .inr (0, [.int (nI Wd), .int (nI Ht), .ref a_walls, .int rs, .ref a_placeX, .ref a_placeY, .int (nI Pn), .ref a_reachers, .int old, .ref a_lossOf, .int sc, .ref a_upper, .ref a_length, .ref a_headsOn, .ref a_turn, .ref a_lack, .ref a_joined, .int jc])), (a_placeX, .inl (cI, 12, .inl f_placeX)), (a_placeY, .inl (cI, 12, .inl f_placeY)), (a_upper, .inl (cI, 12, .inl (upd g1 i (nI q)))), (a_length, .inl (cI, 12, .inl g2))] H := hP
            have hD : va_D A [(h0, .inr (0, [.int (nI Wd), .int (nI Ht), .ref a_walls, .int rs, .ref a_placeX, .ref a_placeY, .int (nI Pn), .ref a_reachers, .int old, .ref a_lossOf, .int sc, .ref a_upper, .ref a_length, .ref a_headsOn, .ref a_turn, .ref a_lack, .ref a_joined, .int jc])), (a_placeX, .inl (cI, 12, .inl f_placeX)), (a_placeY, .inl (cI, 12, .inl f_placeY)), (a_upper, .inl (cI, 12, .inl (upd g1 i (nI q)))), (a_length, .inl (cI, 12, .inl g2))] := hD
            refine lv_aload_n hx hb dN_offerUpper_69 rfl (lv_at hl 2 rfl) ?_
            refine va_get (D := (dC, dI)) (ci := 0) (v := .ref a_length) (C := R_N) (T := T_N) (N := 18) hx hb hts in_N hown hK hP 0 rfl rfl 12 (by decide) (hts _ flN64) (fun _ h9 => h9) rfl dN_offerUpper_70 ?_
            refine lv_iload_n hx hb dN_offerUpper_73 rfl (lv_at hl 1 rfl) ?_
            refine lv_iload hx hb dN_offerUpper_74 (lv_at hl 0 rfl) ?_
            refine xa_iast hx hb hK hP hD hS 4 0 rfl rfl (i := i) (x := sn_way f_placeX f_placeY q i) (by omega) (by first | decide | omega) dN_offerUpper_76 (fun H locs hP hD hS => ?_)
            have hP : va_P (dC, dI) snC [(h0, .inr (0, [.int (nI Wd), .int (nI Ht), .ref a_walls, .int rs, .ref a_placeX, .ref a_placeY, .int (nI Pn), .ref a_reachers, .int old, .ref a_lossOf, .int sc, .ref a_upper, .ref a_length, .ref a_headsOn, .ref a_turn, .ref a_lack, .ref a_joined, .int jc])), (a_placeX, .inl (cI, 12, .inl f_placeX)), (a_placeY, .inl (cI, 12, .inl f_placeY)), (a_upper, .inl (cI, 12, .inl (upd g1 i (nI q)))), (a_length, .inl (cI, 12, .inl (upd g2 i (sn_way f_placeX f_placeY q i))))] H := hP
            have hD : va_D A [(h0, .inr (0, [.int (nI Wd), .int (nI Ht), .ref a_walls, .int rs, .ref a_placeX, .ref a_placeY, .int (nI Pn), .ref a_reachers, .int old, .ref a_lossOf, .int sc, .ref a_upper, .ref a_length, .ref a_headsOn, .ref a_turn, .ref a_lack, .ref a_joined, .int jc])), (a_placeX, .inl (cI, 12, .inl f_placeX)), (a_placeY, .inl (cI, 12, .inl f_placeY)), (a_upper, .inl (cI, 12, .inl (upd g1 i (nI q)))), (a_length, .inl (cI, 12, .inl (upd g2 i (sn_way f_placeX f_placeY q i))))] := hD
            refine lv_iinc (v := (nI (i + 1))) (lv' := [(3, .int (nI (i + 1))), (4, .int (sn_way f_placeX f_placeY q i)), (0, .ref h0), (1, .int (nI q)), (2, .int wt)]) hx hb dN_offerUpper_77 hl (k := 1) rfl (nI_1 i) (by decide) rfl (fun ls hl => ?_)
            refine lv_goto (tgt := 2) hx hb dN_offerUpper_80 (by decide) ?_
            exact ih n (i + 1) (upd g1 i (nI q)) (upd g2 i (sn_way f_placeX f_placeY q i)) (by omega) (by omega) (by rw [← hT]; simp [sn_ou, c_1, c_3, c_4]) _ _ hP hD hS ls (lv_sub hl [0, 2, 3, 4] rfl)
  refine lv_iconst (v := 0) hx hb dN_offerUpper_0 (by decide) ?_
  refine lv_istore_n (lv' := [(3, .int 0), (0, .ref h0), (1, .int (nI q)), (2, .int wt)]) hx hb dN_offerUpper_1 rfl hl (by decide) rfl (fun ls hl => ?_)
  exact lp2 13 12 0 f_upper f_length (by omega) (by omega) rfl _ _ hP hD hS ls (lv_sub hl [0, 1, 2, 3] rfl)
set_option maxHeartbeats 4000000 in
set_option maxRecDepth 100000 in
theorem cN_joinPlaces (l : Launch) (dC : Nat → ClassId) (dI : Nat → Nat → Nat) (h0 a_walls a_placeX a_placeY a_reachers a_lossOf a_upper a_length a_headsOn a_turn a_lack a_joined : Nat) (Wd Ht Pn : Nat) (rs old sc jc : Int32) (cI : ClassId) (f_placeX f_placeY f_upper f_length f_turn f_joined : Nat → Int32) (set : Int32) (sz : Nat)  : Met l yN_joinPlaces (kN_joinPlaces :: WD) { frames := 2, cells := 0, slots := 0, locals := 45 } (va_Pc [.ref h0, .int set] (xm (dC, dI) snC [(h0, .inr (0, [.int (nI Wd), .int (nI Ht), .ref a_walls, .int rs, .ref a_placeX, .ref a_placeY, .int (nI Pn), .ref a_reachers, .int old, .ref a_lossOf, .int sc, .ref a_upper, .ref a_length, .ref a_headsOn, .ref a_turn, .ref a_lack, .ref a_joined, .int jc])), (a_placeX, .inl (cI, 12, .inl f_placeX)), (a_placeY, .inl (cI, 12, .inl f_placeY)), (a_upper, .inl (cI, 12, .inl f_upper)), (a_length, .inl (cI, 12, .inl f_length)), (a_turn, .inl (cI, 12, .inl f_turn)), (a_joined, .inl (cI, 12, .inl f_joined))] [(cI, .int)] sz)) (va_Qv (fun _ : Unit => True) (fun _ => xo (dC, dI) snC [(h0, .inr (0, [.int (nI Wd), .int (nI Ht), .ref a_walls, .int rs, .ref a_placeX, .ref a_placeY, .int (nI Pn), .ref a_reachers, .int old, .ref a_lossOf, .int sc, .ref a_upper, .ref a_length, .ref a_headsOn, .ref a_turn, .ref a_lack, .ref a_joined, .int ((sn_join f_placeX f_placeY set f_upper f_length f_turn f_joined).2.2.2.2)])), (a_placeX, .inl (cI, 12, .inl f_placeX)), (a_placeY, .inl (cI, 12, .inl f_placeY)), (a_upper, .inl (cI, 12, .inl ((sn_join f_placeX f_placeY set f_upper f_length f_turn f_joined).1))), (a_length, .inl (cI, 12, .inl ((sn_join f_placeX f_placeY set f_upper f_length f_turn f_joined).2.1))), (a_turn, .inl (cI, 12, .inl ((sn_join f_placeX f_placeY set f_upper f_length f_turn f_joined).2.2.1))), (a_joined, .inl (cI, 12, .inl ((sn_join f_placeX f_placeY set f_upper f_length f_turn f_joined).2.2.2.1)))] [(cI, .int)] (va_A [(h0, .inr (0, [.int (nI Wd), .int (nI Ht), .ref a_walls, .int rs, .ref a_placeX, .ref a_placeY, .int (nI Pn), .ref a_reachers, .int old, .ref a_lossOf, .int sc, .ref a_upper, .ref a_length, .ref a_headsOn, .ref a_turn, .ref a_lack, .ref a_joined, .int jc])), (a_placeX, .inl (cI, 12, .inl f_placeX)), (a_placeY, .inl (cI, 12, .inl f_placeY)), (a_upper, .inl (cI, 12, .inl f_upper)), (a_length, .inl (cI, 12, .inl f_length)), (a_turn, .inl (cI, 12, .inl f_turn)), (a_joined, .inl (cI, 12, .inl f_joined))] sz)) (va_A [(h0, .inr (0, [.int (nI Wd), .int (nI Ht), .ref a_walls, .int rs, .ref a_placeX, .ref a_placeY, .int (nI Pn), .ref a_reachers, .int old, .ref a_lossOf, .int sc, .ref a_upper, .ref a_length, .ref a_headsOn, .ref a_turn, .ref a_lack, .ref a_joined, .int jc])), (a_placeX, .inl (cI, 12, .inl f_placeX)), (a_placeY, .inl (cI, 12, .inl f_placeY)), (a_upper, .inl (cI, 12, .inl f_upper)), (a_length, .inl (cI, 12, .inl f_length)), (a_turn, .inl (cI, 12, .inl f_turn)), (a_joined, .inl (cI, 12, .inl f_joined))] sz)) 0 0 (va_A [(h0, .inr (0, [.int (nI Wd), .int (nI Ht), .ref a_walls, .int rs, .ref a_placeX, .ref a_placeY, .int (nI Pn), .ref a_reachers, .int old, .ref a_lossOf, .int sc, .ref a_upper, .ref a_length, .ref a_headsOn, .ref a_turn, .ref a_lack, .ref a_joined, .int jc])), (a_placeX, .inl (cI, 12, .inl f_placeX)), (a_placeY, .inl (cI, 12, .inl f_placeY)), (a_upper, .inl (cI, 12, .inl f_upper)), (a_length, .inl (cI, 12, .inl f_length)), (a_turn, .inl (cI, 12, .inl f_turn)), (a_joined, .inl (cI, 12, .inl f_joined))] sz) := by
  refine Met.ofW (cc := bN_joinPlaces) (maxL := 5) (ret := none) (by decide) rfl ?_
  intro p e s m args below meth c s₁ B hml hv
  obtain ⟨rfl, hsz, hP, hK, hD0⟩ := hv
  have hx := B.exec
  have hb := B.bytes
  have hr := B.returns
  have hts : ∀ w ∈ WD, w.before _ s = true := fun w h => atoms_spec (ws := kN_joinPlaces :: WD) B.pre w (List.mem_cons_of_mem _ h)
  have hown : s.vm.findClass R_N = some m.cls := findClass_of_methodNamed B.named
  have hlocks := B.notSynchronized
  subst hsz
  have hD := hD0.self (sz := s.heap.size)
  generalize hAe : va_A [(h0, .inr (0, [.int (nI Wd), .int (nI Ht), .ref a_walls, .int rs, .ref a_placeX, .ref a_placeY, .int (nI Pn), .ref a_reachers, .int old, .ref a_lossOf, .int sc, .ref a_upper, .ref a_length, .ref a_headsOn, .ref a_turn, .ref a_lack, .ref a_joined, .int jc])), (a_placeX, .inl (cI, 12, .inl f_placeX)), (a_placeY, .inl (cI, 12, .inl f_placeY)), (a_upper, .inl (cI, 12, .inl f_upper)), (a_length, .inl (cI, 12, .inl f_length)), (a_turn, .inl (cI, 12, .inl f_turn)), (a_joined, .inl (cI, 12, .inl f_joined))] s.heap.size = A at hD ⊢
  have hA : ∀ q : Nat, s.heap.size ≤ q → A q := fun q h => by rw [← hAe]; exact Or.inr h
  have hS : va_S A s.heap s.heap [] := va_S.rf
  have hl := lv_entry ([.ref h0, .int set]) (n := 5) (Nat.le_of_ble_eq_true rfl)
  rw [lg_entry_eq]
  generalize (lg_sl ([.ref h0, .int set]) ++ List.replicate (5 - (lg_sl ([.ref h0, .int set])).length) Slot.unset).toArray = ls at hl ⊢
  have hl : lv_has ls 5 [(0, .ref h0), (1, .int set)] := hl
  have lp49 : ∀ (k n : Nat) (i : Nat) (wt : Int32) (g1 g2 g3 g4 : Nat → Int32) (jj : Int32), n < k → i + n = 12 → sn_jp f_placeX f_placeY n i wt g1 g2 g3 g4 jj = sn_join f_placeX f_placeY set f_upper f_length f_turn f_joined → ∀ (H : Heap) (locs : List Loc), va_P (dC, dI) snC [(h0, .inr (0, [.int (nI Wd), .int (nI Ht), .ref a_walls, .int rs, .ref a_placeX, .ref a_placeY, .int (nI Pn), .ref a_reachers, .int old, .ref a_lossOf, .int sc, .ref a_upper, .ref a_length, .ref a_headsOn, .ref a_turn, .ref a_lack, .ref a_joined, .int jj])), (a_placeX, .inl (cI, 12, .inl f_placeX)), (a_placeY, .inl (cI, 12, .inl f_placeY)), (a_upper, .inl (cI, 12, .inl g1)), (a_length, .inl (cI, 12, .inl g2)), (a_turn, .inl (cI, 12, .inl g3)), (a_joined, .inl (cI, 12, .inl g4))] H → va_D A [(h0, .inr (0, [.int (nI Wd), .int (nI Ht), .ref a_walls, .int rs, .ref a_placeX, .ref a_placeY, .int (nI Pn), .ref a_reachers, .int old, .ref a_lossOf, .int sc, .ref a_upper, .ref a_length, .ref a_headsOn, .ref a_turn, .ref a_lack, .ref a_joined, .int jj])), (a_placeX, .inl (cI, 12, .inl f_placeX)), (a_placeY, .inl (cI, 12, .inl f_placeY)), (a_upper, .inl (cI, 12, .inl g1)), (a_length, .inl (cI, 12, .inl g2)), (a_turn, .inl (cI, 12, .inl g3)), (a_joined, .inl (cI, 12, .inl g4))] → va_S A s.heap H locs → ∀ ls : Array Slot, lv_has ls 5 [(3, .int (nI i)), (2, .int wt), (0, .ref h0), (1, .int set)] → W p l e (headSpec (kN_joinPlaces :: WD) { frames := 2, cells := 0, slots := 0, locals := 45 }).room s m ([.ref h0, .int set]).toArray below meth c H locs 0 0 (MQ below (va_Qv (fun _ : Unit => True) (fun _ => xo (dC, dI) snC [(h0, .inr (0, [.int (nI Wd), .int (nI Ht), .ref a_walls, .int rs, .ref a_placeX, .ref a_placeY, .int (nI Pn), .ref a_reachers, .int old, .ref a_lossOf, .int sc, .ref a_upper, .ref a_length, .ref a_headsOn, .ref a_turn, .ref a_lack, .ref a_joined, .int ((sn_join f_placeX f_placeY set f_upper f_length f_turn f_joined).2.2.2.2)])), (a_placeX, .inl (cI, 12, .inl f_placeX)), (a_placeY, .inl (cI, 12, .inl f_placeY)), (a_upper, .inl (cI, 12, .inl ((sn_join f_placeX f_placeY set f_upper f_length f_turn f_joined).1))), (a_length, .inl (cI, 12, .inl ((sn_join f_placeX f_placeY set f_upper f_length f_turn f_joined).2.1))), (a_turn, .inl (cI, 12, .inl ((sn_join f_placeX f_placeY set f_upper f_length f_turn f_joined).2.2.1))), (a_joined, .inl (cI, 12, .inl ((sn_join f_placeX f_placeY set f_upper f_length f_turn f_joined).2.2.2.1)))] [(cI, .int)] A) A) ([.ref h0, .int set]).toArray s 0 0 (A)) (F0 m 49 ls []) := by
    intro k
    induction k with
    | zero => exact fun n _ _ _ _ _ _ _ h => absurd h (Nat.not_lt_zero n)
    | succ k ih =>
      intro n i wt g1 g2 g3 g4 jj hk hin hT H locs hP hD hS ls hl
      refine lv_iload_n hx hb dN_joinPlaces_49 rfl (lv_at hl 0 rfl) ?_
      refine lv_bipush (v := (nI 12)) hx hb dN_joinPlaces_50 (by decide) ?_
      refine lv_icmp_ge (tgt := 114) hx hb dN_joinPlaces_52 (by decide) (fun c_1 => ?_) (fun c_1 => ?_)
      · have hz := (nI_leI (by omega) (by omega)).mp c_1
        obtain rfl : n = 0 := by omega
        rw [show sn_join f_placeX f_placeY set f_upper f_length f_turn f_joined = (g1, g2, g3, g4, jj) from by rw [← hT]; simp [sn_jp]]
        exact W.vret hx hb hr (fun t ht hW => ⟨⟨(), rfl, trivial, by rw [ht]; exact hP, va_K.moved hW.alike hK, hD⟩, hS.F ht⟩) hS.2.2 dN_joinPlaces_114
      · have hz : i < 12 := by have h9 := mt (nI_leI (by omega) (by omega)).mpr c_1; omega
        obtain ⟨n, rfl⟩ : ∃ n', n = n' + 1 := ⟨n - 1, by omega⟩
        refine lv_aload_n hx hb dN_joinPlaces_55 rfl (lv_at hl 2 rfl) ?_
        refine lv_iload_n hx hb dN_joinPlaces_56 rfl (lv_at hl 1 rfl) ?_
        refine xr_V (As := [.int wt]) ⟨hx, hb, hml, hown, hts⟩ (cN_nearestOf l dC dI h0 a_walls a_placeX a_placeY a_reachers a_lossOf a_upper a_length a_headsOn a_turn a_lack a_joined Wd Ht Pn rs old sc jj cI g2 wt) (cwV 1 hts gN187 rfl rfl rfl (by decide +kernel) ⟨Nat.le_of_ble_eq_true rfl, Nat.le_of_ble_eq_true rfl⟩) hK hP [0, 4] [0] rfl rfl 0 0 rfl rfl rfl rfl hl.1 rfl (Nat.le_of_ble_eq_true rfl) dN_joinPlaces_57 ⟨Nat.zero_le _, Nat.zero_le _⟩ (fun nx hnx => ?_)
        refine lv_istore (lv' := [(4, .int nx), (3, .int (nI i)), (2, .int wt), (0, .ref h0), (1, .int set)]) hx hb dN_joinPlaces_60 hl (by decide) rfl (fun ls hl => ?_)
        refine lv_iload hx hb dN_joinPlaces_62 (lv_at hl 0 rfl) ?_
        refine lv_iconst (v := (-1)) hx hb dN_joinPlaces_64 (by decide) ?_
        refine lv_icmp_ne (tgt := 69) hx hb dN_joinPlaces_65 (by decide) (fun c_2 => ?_) (fun c_2 => ?_)
        · obtain ⟨q, hq, eq⟩ := sn_no_spec (hnx ▸ c_2 : ¬ sn_no g2 wt 12 0 (-1) 0 = -1)
          obtain rfl : nx = nI q := hnx.trans eq
          have hnq : sn_no g2 wt 12 0 (-1) 0 = nI q := eq
          refine lv_aload_n hx hb dN_joinPlaces_69 rfl (lv_at hl 3 rfl) ?_
          refine va_get (D := (dC, dI)) (ci := 0) (v := .ref a_joined) (C := R_N) (T := T_N) (N := 18) hx hb hts in_N hown hK hP 0 rfl rfl 16 (by decide) (hts _ flN76) (fun _ h9 => h9) rfl dN_joinPlaces_70 ?_
          refine lv_iload_n hx hb dN_joinPlaces_73 rfl (lv_at hl 1 rfl) ?_
          refine lv_iload hx hb dN_joinPlaces_74 (lv_at hl 0 rfl) ?_
          refine xa_iast hx hb hK hP hD hS 6 0 rfl rfl (i := i) (x := (nI q)) (by omega) (by first | decide | omega) dN_joinPlaces_76 (fun H locs hP hD hS => ?_)
          have hP : va_P (dC, dI) snC [(h0, .inr (0, [.int (nI Wd), .int (nI Ht), .ref a_walls, .int rs, .ref a_placeX, .ref a_placeY, .int (nI Pn), .ref a_reachers, .int old, .ref a_lossOf, .int sc, .ref a_upper, .ref a_length, .ref a_headsOn, .ref a_turn, .ref a_lack, .ref a_joined, .int jj])), (a_placeX, .inl (cI, 12, .inl f_placeX)), (a_placeY, .inl (cI, 12, .inl f_placeY)), (a_upper, .inl (cI, 12, .inl g1)), (a_length, .inl (cI, 12, .inl g2)), (a_turn, .inl (cI, 12, .inl g3)), (a_joined, .inl (cI, 12, .inl (upd g4 i (nI q))))] H := hP
          have hD : va_D A [(h0, .inr (0, [.int (nI Wd), .int (nI Ht), .ref a_walls, .int rs, .ref a_placeX, .ref a_placeY, .int (nI Pn), .ref a_reachers, .int old, .ref a_lossOf, .int sc, .ref a_upper, .ref a_length, .ref a_headsOn, .ref a_turn, .ref a_lack, .ref a_joined, .int jj])), (a_placeX, .inl (cI, 12, .inl f_placeX)), (a_placeY, .inl (cI, 12, .inl f_placeY)), (a_upper, .inl (cI, 12, .inl g1)), (a_length, .inl (cI, 12, .inl g2)), (a_turn, .inl (cI, 12, .inl g3)), (a_joined, .inl (cI, 12, .inl (upd g4 i (nI q))))] := hD
          refine lv_aload_n hx hb dN_joinPlaces_77 rfl (lv_at hl 3 rfl) ?_
          refine va_get (D := (dC, dI)) (ci := 0) (v := .ref a_turn) (C := R_N) (T := T_N) (N := 18) hx hb hts in_N hown hK hP 0 rfl rfl 14 (by decide) (hts _ flN70) (fun _ h9 => h9) rfl dN_joinPlaces_78 ?_
          refine lv_iload hx hb dN_joinPlaces_81 (lv_at hl 0 rfl) ?_
          refine lv_iload_n hx hb dN_joinPlaces_83 rfl (lv_at hl 1 rfl) ?_
          refine xa_iast hx hb hK hP hD hS 5 0 rfl rfl (i := q) (x := nI i) (by omega) (by first | decide | omega) dN_joinPlaces_84 (fun H locs hP hD hS => ?_)
          have hP : va_P (dC, dI) snC [(h0, .inr (0, [.int (nI Wd), .int (nI Ht), .ref a_walls, .int rs, .ref a_placeX, .ref a_placeY, .int (nI Pn), .ref a_reachers, .int old, .ref a_lossOf, .int sc, .ref a_upper, .ref a_length, .ref a_headsOn, .ref a_turn, .ref a_lack, .ref a_joined, .int jj])), (a_placeX, .inl (cI, 12, .inl f_placeX)), (a_placeY, .inl (cI, 12, .inl f_placeY)), (a_upper, .inl (cI, 12, .inl g1)), (a_length, .inl (cI, 12, .inl g2)), (a_turn, .inl (cI, 12, .inl (upd g3 q (nI i)))), (a_joined, .inl (cI, 12, .inl (upd g4 i (nI q))))] H := hP
          have hD : va_D A [(h0, .inr (0, [.int (nI Wd), .int (nI Ht), .ref a_walls, .int rs, .ref a_placeX, .ref a_placeY, .int (nI Pn), .ref a_reachers, .int old, .ref a_lossOf, .int sc, .ref a_upper, .ref a_length, .ref a_headsOn, .ref a_turn, .ref a_lack, .ref a_joined, .int jj])), (a_placeX, .inl (cI, 12, .inl f_placeX)), (a_placeY, .inl (cI, 12, .inl f_placeY)), (a_upper, .inl (cI, 12, .inl g1)), (a_length, .inl (cI, 12, .inl g2)), (a_turn, .inl (cI, 12, .inl (upd g3 q (nI i)))), (a_joined, .inl (cI, 12, .inl (upd g4 i (nI q))))] := hD
          refine lv_aload_n hx hb dN_joinPlaces_85 rfl (lv_at hl 3 rfl) ?_
          refine lv_iload_n hx hb dN_joinPlaces_86 rfl (lv_at hl 1 rfl) ?_
          refine lv_iconst (v := 1) hx hb dN_joinPlaces_87 (by decide) ?_
          refine lv_iadd hx hb dN_joinPlaces_88 ?_
          rw [show ((nI i) + 1 : Int32) = nI (i + 1) from (nI_1 i)]
          refine va_put (D := (dC, dI)) (ci := 0) (v := .int (nI (i + 1))) (ty := .int) (C := R_N) (T := T_N) (N := 18) hx hb hts in_N t_N tok_N n_N hown hK hP hD hS 0 rfl rfl 17 (by decide) (hts _ flN79) (fun _ h9 => h9) rfl (by decide +kernel) rfl rfl (Nat.le_of_ble_eq_true rfl) dN_joinPlaces_89 (fun H locs hP hD hS => ?_)
          have hP : va_P (dC, dI) snC [(h0, .inr (0, [.int (nI Wd), .int (nI Ht), .ref a_walls, .int rs, .ref a_placeX, .ref a_placeY, .int (nI Pn), .ref a_reachers, .int old, .ref a_lossOf, .int sc, .ref a_upper, .ref a_length, .ref a_headsOn, .ref a_turn, .ref a_lack, .ref a_joined, .int (nI (i + 1))])), (a_placeX, .inl (cI, 12, .inl f_placeX)), (a_placeY, .inl (cI, 12, .inl f_placeY)), (a_upper, .inl (cI, 12, .inl g1)), (a_length, .inl (cI, 12, .inl g2)), (a_turn, .inl (cI, 12, .inl (upd g3 q (nI i)))), (a_joined, .inl (cI, 12, .inl (upd g4 i (nI q))))] H := hP
          have hD : va_D A [(h0, .inr (0, [.int (nI Wd), .int (nI Ht), .ref a_walls, .int rs, .ref a_placeX, .ref a_placeY, .int (nI Pn), .ref a_reachers, .int old, .ref a_lossOf, .int sc, .ref a_upper, .ref a_length, .ref a_headsOn, .ref a_turn, .ref a_lack, .ref a_joined, .int (nI (i + 1))])), (a_placeX, .inl (cI, 12, .inl f_placeX)), (a_placeY, .inl (cI, 12, .inl f_placeY)), (a_upper, .inl (cI, 12, .inl g1)), (a_length, .inl (cI, 12, .inl g2)), (a_turn, .inl (cI, 12, .inl (upd g3 q (nI i)))), (a_joined, .inl (cI, 12, .inl (upd g4 i (nI q))))] := hD
          refine lv_iload_n hx hb dN_joinPlaces_92 rfl (lv_at hl 2 rfl) ?_
          refine lv_iconst (v := 1) hx hb dN_joinPlaces_93 (by decide) ?_
          refine lv_iload hx hb dN_joinPlaces_94 (lv_at hl 0 rfl) ?_
          refine lv_ishl hx hb dN_joinPlaces_96 ?_
          refine lv_iconst (v := (-1)) hx hb dN_joinPlaces_97 (by decide) ?_
          refine lv_ixor hx hb dN_joinPlaces_98 ?_
          refine lv_iand hx hb dN_joinPlaces_99 ?_
          rw [show (wt &&& ((1 <<< ((nI q) &&& 31)) ^^^ (-1)) : Int32) = sn_drop wt q from rfl]
          refine lv_istore_n (lv' := [(2, .int (sn_drop wt q)), (4, .int (nI q)), (3, .int (nI i)), (0, .ref h0), (1, .int set)]) hx hb dN_joinPlaces_100 rfl hl (by decide) rfl (fun ls hl => ?_)
          refine lv_aload_n hx hb dN_joinPlaces_101 rfl (lv_at hl 3 rfl) ?_
          refine lv_iload hx hb dN_joinPlaces_102 (lv_at hl 1 rfl) ?_
          refine lv_iload_n hx hb dN_joinPlaces_104 rfl (lv_at hl 0 rfl) ?_
          refine xm_Vv (S := Unit) (As := [.int (nI q), .int (sn_drop wt q)]) (w1 := fun _ => [(h0, .inr (0, [.int (nI Wd), .int (nI Ht), .ref a_walls, .int rs, .ref a_placeX, .ref a_placeY, .int (nI Pn), .ref a_reachers, .int old, .ref a_lossOf, .int sc, .ref a_upper, .ref a_length, .ref a_headsOn, .ref a_turn, .ref a_lack, .ref a_joined, .int (nI (i + 1))])), (a_placeX, .inl (cI, 12, .inl f_placeX)), (a_placeY, .inl (cI, 12, .inl f_placeY)), (a_upper, .inl (cI, 12, .inl ((sn_ou f_placeX f_placeY q (sn_drop wt q) 12 0 g1 g2).1))), (a_length, .inl (cI, 12, .inl ((sn_ou f_placeX f_placeY q (sn_drop wt q) 12 0 g1 g2).2)))]) (wz := fun _ => [(h0, .inr (0, [.int (nI Wd), .int (nI Ht), .ref a_walls, .int rs, .ref a_placeX, .ref a_placeY, .int (nI Pn), .ref a_reachers, .int old, .ref a_lossOf, .int sc, .ref a_upper, .ref a_length, .ref a_headsOn, .ref a_turn, .ref a_lack, .ref a_joined, .int (nI (i + 1))])), (a_placeX, .inl (cI, 12, .inl f_placeX)), (a_placeY, .inl (cI, 12, .inl f_placeY)), (a_upper, .inl (cI, 12, .inl ((sn_ou f_placeX f_placeY q (sn_drop wt q) 12 0 g1 g2).1))), (a_length, .inl (cI, 12, .inl ((sn_ou f_placeX f_placeY q (sn_drop wt q) 12 0 g1 g2).2))), (a_turn, .inl (cI, 12, .inl (upd g3 q (nI i)))), (a_joined, .inl (cI, 12, .inl (upd g4 i (nI q))))]) (wr := [(a_turn, .inl (cI, 12, .inl (upd g3 q (nI i)))), (a_joined, .inl (cI, 12, .inl (upd g4 i (nI q))))]) ⟨hx, hb, hml, hown, hts⟩ (cN_offerUpper l dC dI h0 a_walls a_placeX a_placeY a_reachers a_lossOf a_upper a_length a_headsOn a_turn a_lack a_joined Wd Ht Pn rs old sc (nI (i + 1)) cI f_placeX f_placeY g1 g2 q (sn_drop wt q) _ (by omega)) (cwV 2 hts gN190 rfl rfl rfl (by decide +kernel) ⟨Nat.le_of_ble_eq_true rfl, Nat.le_of_ble_eq_true rfl⟩) hK hP hD hS hA [0, 1, 2, 3, 4] [5, 6] [2, 3, 4, 5, 6, 0, 1] [0] rfl rfl (fun _ => rfl) (by decide) (by decide) (by decide) (by decide) rfl 0 0 rfl rfl rfl rfl hl.1 rfl (Nat.le_of_ble_eq_true rfl) dN_joinPlaces_105 ⟨Nat.zero_le _, Nat.zero_le _⟩ (fun u H locs hr_3 hP hD hS => ?_)
          refine lv_iinc (v := (nI (i + 1))) (lv' := [(3, .int (nI (i + 1))), (2, .int (sn_drop wt q)), (4, .int (nI q)), (0, .ref h0), (1, .int set)]) hx hb dN_joinPlaces_108 hl (k := 2) rfl (nI_1 i) (by decide) rfl (fun ls hl => ?_)
          refine lv_goto (tgt := 49) hx hb dN_joinPlaces_111 (by decide) ?_
          exact ih n (i + 1) (sn_drop wt q) ((sn_ou f_placeX f_placeY q (sn_drop wt q) 12 0 g1 g2).1) ((sn_ou f_placeX f_placeY q (sn_drop wt q) 12 0 g1 g2).2) (upd g3 q (nI i)) (upd g4 i (nI q)) (nI (i + 1)) (by omega) (by omega) (by rw [← hT, sn_jp_step hnq]) _ _ hP hD hS ls (lv_sub hl [0, 1, 3, 4] rfl)
        · rw [show sn_join f_placeX f_placeY set f_upper f_length f_turn f_joined = (g1, g2, g3, g4, jj) from by rw [← hT]; simp [sn_jp, c_1, c_2, ← hnx]]
          exact W.vret hx hb hr (fun t ht hW => ⟨⟨(), rfl, trivial, by rw [ht]; exact hP, va_K.moved hW.alike hK, hD⟩, hS.F ht⟩) hS.2.2 dN_joinPlaces_68
  have lp2 : ∀ (k n : Nat) (i : Nat) (g1 g2 : Nat → Int32), n < k → i + n = 12 → sn_j0 f_placeX f_placeY n i g1 g2 = sn_j0 f_placeX f_placeY 12 0 f_upper f_length → ∀ (H : Heap) (locs : List Loc), va_P (dC, dI) snC [(h0, .inr (0, [.int (nI Wd), .int (nI Ht), .ref a_walls, .int rs, .ref a_placeX, .ref a_placeY, .int (nI Pn), .ref a_reachers, .int old, .ref a_lossOf, .int sc, .ref a_upper, .ref a_length, .ref a_headsOn, .ref a_turn, .ref a_lack, .ref a_joined, .int jc])), (a_placeX, .inl (cI, 12, .inl f_placeX)), (a_placeY, .inl (cI, 12, .inl f_placeY)), (a_upper, .inl (cI, 12, .inl g1)), (a_length, .inl (cI, 12, .inl g2)), (a_turn, .inl (cI, 12, .inl f_turn)), (a_joined, .inl (cI, 12, .inl f_joined))] H → va_D A [(h0, .inr (0, [.int (nI Wd), .int (nI Ht), .ref a_walls, .int rs, .ref a_placeX, .ref a_placeY, .int (nI Pn), .ref a_reachers, .int old, .ref a_lossOf, .int sc, .ref a_upper, .ref a_length, .ref a_headsOn, .ref a_turn, .ref a_lack, .ref a_joined, .int jc])), (a_placeX, .inl (cI, 12, .inl f_placeX)), (a_placeY, .inl (cI, 12, .inl f_placeY)), (a_upper, .inl (cI, 12, .inl g1)), (a_length, .inl (cI, 12, .inl g2)), (a_turn, .inl (cI, 12, .inl f_turn)), (a_joined, .inl (cI, 12, .inl f_joined))] → va_S A s.heap H locs → ∀ ls : Array Slot, lv_has ls 5 [(2, .int (nI i)), (0, .ref h0), (1, .int set)] → W p l e (headSpec (kN_joinPlaces :: WD) { frames := 2, cells := 0, slots := 0, locals := 45 }).room s m ([.ref h0, .int set]).toArray below meth c H locs 0 0 (MQ below (va_Qv (fun _ : Unit => True) (fun _ => xo (dC, dI) snC [(h0, .inr (0, [.int (nI Wd), .int (nI Ht), .ref a_walls, .int rs, .ref a_placeX, .ref a_placeY, .int (nI Pn), .ref a_reachers, .int old, .ref a_lossOf, .int sc, .ref a_upper, .ref a_length, .ref a_headsOn, .ref a_turn, .ref a_lack, .ref a_joined, .int ((sn_join f_placeX f_placeY set f_upper f_length f_turn f_joined).2.2.2.2)])), (a_placeX, .inl (cI, 12, .inl f_placeX)), (a_placeY, .inl (cI, 12, .inl f_placeY)), (a_upper, .inl (cI, 12, .inl ((sn_join f_placeX f_placeY set f_upper f_length f_turn f_joined).1))), (a_length, .inl (cI, 12, .inl ((sn_join f_placeX f_placeY set f_upper f_length f_turn f_joined).2.1))), (a_turn, .inl (cI, 12, .inl ((sn_join f_placeX f_placeY set f_upper f_length f_turn f_joined).2.2.1))), (a_joined, .inl (cI, 12, .inl ((sn_join f_placeX f_placeY set f_upper f_length f_turn f_joined).2.2.2.1)))] [(cI, .int)] A) A) ([.ref h0, .int set]).toArray s 0 0 (A)) (F0 m 2 ls []) := by
    intro k
    induction k with
    | zero => exact fun n _ _ _ h => absurd h (Nat.not_lt_zero n)
    | succ k ih =>
      intro n i g1 g2 hk hin hT H locs hP hD hS ls hl
      refine lv_iload_n hx hb dN_joinPlaces_2 rfl (lv_at hl 0 rfl) ?_
      refine lv_bipush (v := (nI 12)) hx hb dN_joinPlaces_3 (by decide) ?_
      refine lv_icmp_ge (tgt := 40) hx hb dN_joinPlaces_5 (by decide) (fun c_1 => ?_) (fun c_1 => ?_)
      · have hz := (nI_leI (by omega) (by omega)).mp c_1
        obtain rfl : n = 0 := by omega
        refine lv_aload_n hx hb dN_joinPlaces_40 rfl (lv_at hl 1 rfl) ?_
        refine lv_iconst (v := 0) hx hb dN_joinPlaces_41 (by decide) ?_
        refine va_put (D := (dC, dI)) (ci := 0) (v := .int 0) (ty := .int) (C := R_N) (T := T_N) (N := 18) hx hb hts in_N t_N tok_N n_N hown hK hP hD hS 0 rfl rfl 17 (by decide) (hts _ flN79) (fun _ h9 => h9) rfl (by decide +kernel) rfl rfl (Nat.le_of_ble_eq_true rfl) dN_joinPlaces_42 (fun H locs hP hD hS => ?_)
        have hP : va_P (dC, dI) snC [(h0, .inr (0, [.int (nI Wd), .int (nI Ht), .ref a_walls, .int rs, .ref a_placeX, .ref a_placeY, .int (nI Pn), .ref a_reachers, .int old, .ref a_lossOf, .int sc, .ref a_upper, .ref a_length, .ref a_headsOn, .ref a_turn, .ref a_lack, .ref a_joined, .int 0])), (a_placeX, .inl (cI, 12, .inl f_placeX)), (a_placeY, .inl (cI, 12, .inl f_placeY)), (a_upper, .inl (cI, 12, .inl g1)), (a_length, .inl (cI, 12, .inl g2)), (a_turn, .inl (cI, 12, .inl f_turn)), (a_joined, .inl (cI, 12, .inl f_joined))] H := hP
        have hD : va_D A [(h0, .inr (0, [.int (nI Wd), .int (nI Ht), .ref a_walls, .int rs, .ref a_placeX, .ref a_placeY, .int (nI Pn), .ref a_reachers, .int old, .ref a_lossOf, .int sc, .ref a_upper, .ref a_length, .ref a_headsOn, .ref a_turn, .ref a_lack, .ref a_joined, .int 0])), (a_placeX, .inl (cI, 12, .inl f_placeX)), (a_placeY, .inl (cI, 12, .inl f_placeY)), (a_upper, .inl (cI, 12, .inl g1)), (a_length, .inl (cI, 12, .inl g2)), (a_turn, .inl (cI, 12, .inl f_turn)), (a_joined, .inl (cI, 12, .inl f_joined))] := hD
        refine lv_iload_n hx hb dN_joinPlaces_45 rfl (lv_at hl 2 rfl) ?_
        refine lv_istore_n (lv' := [(2, .int set), (0, .ref h0), (1, .int set)]) hx hb dN_joinPlaces_46 rfl hl (by decide) rfl (fun ls hl => ?_)
        refine lv_iconst (v := 0) hx hb dN_joinPlaces_47 (by decide) ?_
        refine lv_istore_n (lv' := [(3, .int 0), (2, .int set), (0, .ref h0), (1, .int set)]) hx hb dN_joinPlaces_48 rfl hl (by decide) rfl (fun ls hl => ?_)
        exact lp49 13 12 0 set g1 g2 f_turn f_joined 0 (by omega) (by omega) (by rw [sn_join, ← hT]; simp [sn_j0]) _ _ hP hD hS ls (lv_sub hl [0, 1, 2, 3] rfl)
      · have hz : i < 12 := by have h9 := mt (nI_leI (by omega) (by omega)).mpr c_1; omega
        obtain ⟨n, rfl⟩ : ∃ n', n = n' + 1 := ⟨n - 1, by omega⟩
        refine lv_aload_n hx hb dN_joinPlaces_8 rfl (lv_at hl 1 rfl) ?_
        refine va_get (D := (dC, dI)) (ci := 0) (v := .ref a_upper) (C := R_N) (T := T_N) (N := 18) hx hb hts in_N hown hK hP 0 rfl rfl 11 (by decide) (hts _ flN61) (fun _ h9 => h9) rfl dN_joinPlaces_9 ?_
        refine lv_iload_n hx hb dN_joinPlaces_12 rfl (lv_at hl 0 rfl) ?_
        refine lv_iconst (v := (-1)) hx hb dN_joinPlaces_13 (by decide) ?_
        refine xa_iast hx hb hK hP hD hS 3 0 rfl rfl (i := i) (x := (-1)) (by omega) (by first | decide | omega) dN_joinPlaces_14 (fun H locs hP hD hS => ?_)
        have hP : va_P (dC, dI) snC [(h0, .inr (0, [.int (nI Wd), .int (nI Ht), .ref a_walls, .int rs, .ref a_placeX, .ref a_placeY, .int (nI Pn), .ref a_reachers, .int old, .ref a_lossOf, .int sc, .ref a_upper, .ref a_length, .ref a_headsOn, .ref a_turn, .ref a_lack, .ref a_joined, .int jc])), (a_placeX, .inl (cI, 12, .inl f_placeX)), (a_placeY, .inl (cI, 12, .inl f_placeY)), (a_upper, .inl (cI, 12, .inl (upd g1 i (-1)))), (a_length, .inl (cI, 12, .inl g2)), (a_turn, .inl (cI, 12, .inl f_turn)), (a_joined, .inl (cI, 12, .inl f_joined))] H := hP
        have hD : va_D A [(h0, .inr (0, [.int (nI Wd), .int (nI Ht), .ref a_walls, .int rs, .ref a_placeX, .ref a_placeY, .int (nI Pn), .ref a_reachers, .int old, .ref a_lossOf, .int sc, .ref a_upper, .ref a_length, .ref a_headsOn, .ref a_turn, .ref a_lack, .ref a_joined, .int jc])), (a_placeX, .inl (cI, 12, .inl f_placeX)), (a_placeY, .inl (cI, 12, .inl f_placeY)), (a_upper, .inl (cI, 12, .inl (upd g1 i (-1)))), (a_length, .inl (cI, 12, .inl g2)), (a_turn, .inl (cI, 12, .inl f_turn)), (a_joined, .inl (cI, 12, .inl f_joined))] := hD
        refine lv_aload_n hx hb dN_joinPlaces_15 rfl (lv_at hl 1 rfl) ?_
        refine va_get (D := (dC, dI)) (ci := 0) (v := .ref a_length) (C := R_N) (T := T_N) (N := 18) hx hb hts in_N hown hK hP 0 rfl rfl 12 (by decide) (hts _ flN64) (fun _ h9 => h9) rfl dN_joinPlaces_16 ?_
        refine lv_iload_n hx hb dN_joinPlaces_19 rfl (lv_at hl 0 rfl) ?_
        refine lv_aload_n hx hb dN_joinPlaces_20 rfl (lv_at hl 1 rfl) ?_
        refine va_get (D := (dC, dI)) (ci := 0) (v := .ref a_placeX) (C := R_N) (T := T_N) (N := 18) hx hb hts in_N hown hK hP 0 rfl rfl 4 (by decide) (hts _ flN32) (fun _ h9 => h9) rfl dN_joinPlaces_21 ?_
        refine lv_iload_n hx hb dN_joinPlaces_24 rfl (lv_at hl 0 rfl) ?_
        refine xa_iald hx hb hK hP 1 0 rfl rfl (i := i) (by omega) (by first | decide | omega) dN_joinPlaces_25 ?_
        refine lv_aload_n hx hb dN_joinPlaces_26 rfl (lv_at hl 1 rfl) ?_
        refine va_get (D := (dC, dI)) (ci := 0) (v := .ref a_placeY) (C := R_N) (T := T_N) (N := 18) hx hb hts in_N hown hK hP 0 rfl rfl 5 (by decide) (hts _ flN36) (fun _ h9 => h9) rfl dN_joinPlaces_27 ?_
        refine lv_iload_n hx hb dN_joinPlaces_30 rfl (lv_at hl 0 rfl) ?_
        refine xa_iald hx hb hK hP 2 0 rfl rfl (i := i) (by omega) (by first | decide | omega) dN_joinPlaces_31 ?_
        refine lv_iadd hx hb dN_joinPlaces_32 ?_
        refine xa_iast hx hb hK hP hD hS 4 0 rfl rfl (i := i) (x := (f_placeX i) + (f_placeY i)) (by omega) (by first | decide | omega) dN_joinPlaces_33 (fun H locs hP hD hS => ?_)
        have hP : va_P (dC, dI) snC [(h0, .inr (0, [.int (nI Wd), .int (nI Ht), .ref a_walls, .int rs, .ref a_placeX, .ref a_placeY, .int (nI Pn), .ref a_reachers, .int old, .ref a_lossOf, .int sc, .ref a_upper, .ref a_length, .ref a_headsOn, .ref a_turn, .ref a_lack, .ref a_joined, .int jc])), (a_placeX, .inl (cI, 12, .inl f_placeX)), (a_placeY, .inl (cI, 12, .inl f_placeY)), (a_upper, .inl (cI, 12, .inl (upd g1 i (-1)))), (a_length, .inl (cI, 12, .inl (upd g2 i ((f_placeX i) + (f_placeY i))))), (a_turn, .inl (cI, 12, .inl f_turn)), (a_joined, .inl (cI, 12, .inl f_joined))] H := hP
        have hD : va_D A [(h0, .inr (0, [.int (nI Wd), .int (nI Ht), .ref a_walls, .int rs, .ref a_placeX, .ref a_placeY, .int (nI Pn), .ref a_reachers, .int old, .ref a_lossOf, .int sc, .ref a_upper, .ref a_length, .ref a_headsOn, .ref a_turn, .ref a_lack, .ref a_joined, .int jc])), (a_placeX, .inl (cI, 12, .inl f_placeX)), (a_placeY, .inl (cI, 12, .inl f_placeY)), (a_upper, .inl (cI, 12, .inl (upd g1 i (-1)))), (a_length, .inl (cI, 12, .inl (upd g2 i ((f_placeX i) + (f_placeY i))))), (a_turn, .inl (cI, 12, .inl f_turn)), (a_joined, .inl (cI, 12, .inl f_joined))] := hD
        refine lv_iinc (v := (nI (i + 1))) (lv' := [(2, .int (nI (i + 1))), (0, .ref h0), (1, .int set)]) hx hb dN_joinPlaces_34 hl (k := 0) rfl (nI_1 i) (by decide) rfl (fun ls hl => ?_)
        refine lv_goto (tgt := 2) hx hb dN_joinPlaces_37 (by decide) ?_
        exact ih n (i + 1) (upd g1 i (-1)) (upd g2 i ((f_placeX i) + (f_placeY i))) (by omega) (by omega) (by rw [← hT]; simp [sn_j0]) _ _ hP hD hS ls (lv_sub hl [0, 1, 2] rfl)
  refine lv_iconst (v := 0) hx hb dN_joinPlaces_0 (by decide) ?_
  refine lv_istore_n (lv' := [(2, .int 0), (0, .ref h0), (1, .int set)]) hx hb dN_joinPlaces_1 rfl hl (by decide) rfl (fun ls hl => ?_)
  exact lp2 13 12 0 f_upper f_length (by omega) (by omega) rfl _ _ hP hD hS ls (lv_sub hl [0, 1, 2] rfl)
end
section
theorem sn_dec (x : Int32) : x + Int32.ofInt (-1) = x - 1 := by rw [Int32.sub_eq_add_neg]; rfl
theorem sn_m1lt {n : Nat} (hn : n < 2 ^ 30) (h : nI n - 1 < 0) : n = 0 := by
  rw [show (1 : Int32) = nI 1 from rfl, Int32.lt_iff_toInt_lt, pk_sub_toInt hn (by decide), Int32.toInt_zero] at h
  omega
theorem sn_m1lt0 {n : Nat} (h : n = 0) : nI n - 1 < 0 := by subst h; decide
theorem sn_vp12 {x : Int32} (h1 : ¬ x < 0) (h2 : ¬ 12 ≤ x) : vp_in x 12 := by
  rcases pk_ix x (n := 12) (by decide) with q | q | ⟨j, hj, rfl⟩
  · exact absurd q h1
  · exact absurd q h2
  · exact vp_in_nI hj (by decide)
theorem sn_min12 {J : Nat} (h : J ≤ 12) : (if 12 < nI J then 12 else nI J) = nI J := by
  rw [if_neg]
  rw [show (12 : Int32) = nI 12 from rfl, nI_ltI (by decide) (by omega)]
  omega
def sn_ch (up jo : Nat → Int32) : Nat → (Nat → Int32) → Nat → Int32
  | 0, h => h
  | n + 1, h => if ¬ up (jo n).toNatClampNeg < 0 ∧ ¬ 12 ≤ up (jo n).toNatClampNeg then sn_ch up jo n (upd h (up (jo n).toNatClampNeg).toNatClampNeg (h (up (jo n).toNatClampNeg).toNatClampNeg + h (jo n).toNatClampNeg)) else sn_ch up jo n h
def sn_lost (lo le ho : Nat → Int32) (q : Nat) : Int32 := le q * sn_lf lo (ho q) 12 1 0 * ho q
def sn_al (lo up le ho jo : Nat → Int32) : Nat → Nat → (Nat → Int32) → Nat → Int32
  | 0, _, k => k
  | n + 1, i, k => if ¬ up (jo i).toNatClampNeg < 0 ∧ ¬ 12 ≤ up (jo i).toNatClampNeg then sn_al lo up le ho jo n (i + 1) (upd k (jo i).toNatClampNeg (k (up (jo i).toNatClampNeg).toNatClampNeg + sn_lost lo le ho (jo i).toNatClampNeg)) else sn_al lo up le ho jo n (i + 1) (upd k (jo i).toNatClampNeg (sn_lost lo le ho (jo i).toNatClampNeg))
theorem sn_jp_spec (px py : Nat → Int32) : ∀ (n i : Nat) (wt : Int32) (u l t j : Nat → Int32) (c : Int32), i + n = 12 → c = nI i → (∀ z, z < i → vp_in (j z) 12) → ∃ J, J ≤ 12 ∧ (sn_jp px py n i wt u l t j c).2.2.2.2 = nI J ∧ ∀ z, z < J → vp_in ((sn_jp px py n i wt u l t j c).2.2.2.1 z) 12 := by
  intro n
  induction n with
  | zero => intro i wt u l t j c hi hc hj; exact ⟨i, by omega, hc, hj⟩
  | succ n ih =>
    intro i wt u l t j c hi hc hj
    by_cases h : sn_no l wt 12 0 (-1) 0 = -1
    · rw [sn_jp, if_pos h]; exact ⟨i, by omega, hc, hj⟩
    · obtain ⟨q, hq, e⟩ := sn_no_spec h
      rw [sn_jp_step e]
      refine ih (i + 1) _ _ _ _ _ _ (by omega) rfl (fun z hz => ?_)
      by_cases hz2 : z = i
      · subst hz2; rw [pk_us]; exact vp_in_nI hq (by decide)
      · rw [pk_un hz2]; exact hj z (by omega)
theorem sn_join_spec (px py : Nat → Int32) (set : Int32) (u l t j : Nat → Int32) : ∃ J, J ≤ 12 ∧ (sn_join px py set u l t j).2.2.2.2 = nI J ∧ ∀ z, z < J → vp_in ((sn_join px py set u l t j).2.2.2.1 z) 12 :=
  sn_jp_spec px py 12 0 set _ _ _ _ 0 (by omega) rfl (fun z h => absurd h (Nat.not_lt_zero z))
set_option maxHeartbeats 4000000 in
set_option maxRecDepth 100000 in
theorem cN_countHeads (l : Launch) (dC : Nat → ClassId) (dI : Nat → Nat → Nat) (h0 a_walls a_placeX a_placeY a_reachers a_lossOf a_upper a_length a_headsOn a_turn a_lack a_joined : Nat) (Wd Ht Pn : Nat) (rs old sc : Int32) (J : Nat) (cI : ClassId) (f_upper f_headsOn f_joined : Nat → Int32) (sz : Nat) (hJ : J ≤ 12) (hj : ∀ i, i < J → vp_in (f_joined i) 12) : Met l yN_countHeads (kN_countHeads :: WD) { frames := 1, cells := 0, slots := 0, locals := 23 } (va_Pc [.ref h0] (xm (dC, dI) snC [(h0, .inr (0, [.int (nI Wd), .int (nI Ht), .ref a_walls, .int rs, .ref a_placeX, .ref a_placeY, .int (nI Pn), .ref a_reachers, .int old, .ref a_lossOf, .int sc, .ref a_upper, .ref a_length, .ref a_headsOn, .ref a_turn, .ref a_lack, .ref a_joined, .int (nI J)])), (a_upper, .inl (cI, 12, .inl f_upper)), (a_headsOn, .inl (cI, 12, .inl f_headsOn)), (a_joined, .inl (cI, 12, .inl f_joined))] [(cI, .int)] sz)) (va_Qv (fun _ : Unit => True) (fun _ => xo (dC, dI) snC [(h0, .inr (0, [.int (nI Wd), .int (nI Ht), .ref a_walls, .int rs, .ref a_placeX, .ref a_placeY, .int (nI Pn), .ref a_reachers, .int old, .ref a_lossOf, .int sc, .ref a_upper, .ref a_length, .ref a_headsOn, .ref a_turn, .ref a_lack, .ref a_joined, .int (nI J)])), (a_upper, .inl (cI, 12, .inl f_upper)), (a_headsOn, .inl (cI, 12, .inl (sn_ch f_upper f_joined J (sn_fill 1 12 0 f_headsOn)))), (a_joined, .inl (cI, 12, .inl f_joined))] [(cI, .int)] (va_A [(h0, .inr (0, [.int (nI Wd), .int (nI Ht), .ref a_walls, .int rs, .ref a_placeX, .ref a_placeY, .int (nI Pn), .ref a_reachers, .int old, .ref a_lossOf, .int sc, .ref a_upper, .ref a_length, .ref a_headsOn, .ref a_turn, .ref a_lack, .ref a_joined, .int (nI J)])), (a_upper, .inl (cI, 12, .inl f_upper)), (a_headsOn, .inl (cI, 12, .inl f_headsOn)), (a_joined, .inl (cI, 12, .inl f_joined))] sz)) (va_A [(h0, .inr (0, [.int (nI Wd), .int (nI Ht), .ref a_walls, .int rs, .ref a_placeX, .ref a_placeY, .int (nI Pn), .ref a_reachers, .int old, .ref a_lossOf, .int sc, .ref a_upper, .ref a_length, .ref a_headsOn, .ref a_turn, .ref a_lack, .ref a_joined, .int (nI J)])), (a_upper, .inl (cI, 12, .inl f_upper)), (a_headsOn, .inl (cI, 12, .inl f_headsOn)), (a_joined, .inl (cI, 12, .inl f_joined))] sz)) 0 0 (va_A [(h0, .inr (0, [.int (nI Wd), .int (nI Ht), .ref a_walls, .int rs, .ref a_placeX, .ref a_placeY, .int (nI Pn), .ref a_reachers, .int old, .ref a_lossOf, .int sc, .ref a_upper, .ref a_length, .ref a_headsOn, .ref a_turn, .ref a_lack, .ref a_joined, .int (nI J)])), (a_upper, .inl (cI, 12, .inl f_upper)), (a_headsOn, .inl (cI, 12, .inl f_headsOn)), (a_joined, .inl (cI, 12, .inl f_joined))] sz) := by
  refine Met.ofW (cc := bN_countHeads) (maxL := 4) (ret := none) (by decide) rfl ?_
  intro p e s m args below meth c s₁ B hml hv
  obtain ⟨rfl, hsz, hP, hK, hD0⟩ := hv
  have hx := B.exec
  have hb := B.bytes
  have hr := B.returns
  have hts : ∀ w ∈ WD, w.before _ s = true := fun w h => atoms_spec (ws := kN_countHeads :: WD) B.pre w (List.mem_cons_of_mem _ h)
  have hown : s.vm.findClass R_N = some m.cls := findClass_of_methodNamed B.named
  have hlocks := B.notSynchronized
  subst hsz
  have hD := hD0.self (sz := s.heap.size)
  generalize hAe : va_A [(h0, .inr (0, [.int (nI Wd), .int (nI Ht), .ref a_walls, .int rs, .ref a_placeX, .ref a_placeY, .int (nI Pn), .ref a_reachers, .int old, .ref a_lossOf, .int sc, .ref a_upper, .ref a_length, .ref a_headsOn, .ref a_turn, .ref a_lack, .ref a_joined, .int (nI J)])), (a_upper, .inl (cI, 12, .inl f_upper)), (a_headsOn, .inl (cI, 12, .inl f_headsOn)), (a_joined, .inl (cI, 12, .inl f_joined))] s.heap.size = A at hD ⊢
  have hA : ∀ q : Nat, s.heap.size ≤ q → A q := fun q h => by rw [← hAe]; exact Or.inr h
  have hS : va_S A s.heap s.heap [] := va_S.rf
  have hl := lv_entry ([.ref h0]) (n := 4) (Nat.le_of_ble_eq_true rfl)
  rw [lg_entry_eq]
  generalize (lg_sl ([.ref h0]) ++ List.replicate (4 - (lg_sl ([.ref h0])).length) Slot.unset).toArray = ls at hl ⊢
  have hl : lv_has ls 4 [(0, .ref h0)] := hl
  have lp20 : ∀ (k n : Nat) (g : Nat → Int32), n < k → n ≤ J → sn_ch f_upper f_joined n g = sn_ch f_upper f_joined J (sn_fill 1 12 0 f_headsOn) → ∀ (H : Heap) (locs : List Loc), va_P (dC, dI) snC [(h0, .inr (0, [.int (nI Wd), .int (nI Ht), .ref a_walls, .int rs, .ref a_placeX, .ref a_placeY, .int (nI Pn), .ref a_reachers, .int old, .ref a_lossOf, .int sc, .ref a_upper, .ref a_length, .ref a_headsOn, .ref a_turn, .ref a_lack, .ref a_joined, .int (nI J)])), (a_upper, .inl (cI, 12, .inl f_upper)), (a_headsOn, .inl (cI, 12, .inl g)), (a_joined, .inl (cI, 12, .inl f_joined))] H → va_D A [(h0, .inr (0, [.int (nI Wd), .int (nI Ht), .ref a_walls, .int rs, .ref a_placeX, .ref a_placeY, .int (nI Pn), .ref a_reachers, .int old, .ref a_lossOf, .int sc, .ref a_upper, .ref a_length, .ref a_headsOn, .ref a_turn, .ref a_lack, .ref a_joined, .int (nI J)])), (a_upper, .inl (cI, 12, .inl f_upper)), (a_headsOn, .inl (cI, 12, .inl g)), (a_joined, .inl (cI, 12, .inl f_joined))] → va_S A s.heap H locs → ∀ ls : Array Slot, lv_has ls 4 [(1, .int (nI n - 1)), (0, .ref h0)] → W p l e (headSpec (kN_countHeads :: WD) { frames := 1, cells := 0, slots := 0, locals := 23 }).room s m ([.ref h0]).toArray below meth c H locs 0 0 (MQ below (va_Qv (fun _ : Unit => True) (fun _ => xo (dC, dI) snC [(h0, .inr (0, [.int (nI Wd), .int (nI Ht), .ref a_walls, .int rs, .ref a_placeX, .ref a_placeY, .int (nI Pn), .ref a_reachers, .int old, .ref a_lossOf, .int sc, .ref a_upper, .ref a_length, .ref a_headsOn, .ref a_turn, .ref a_lack, .ref a_joined, .int (nI J)])), (a_upper, .inl (cI, 12, .inl f_upper)), (a_headsOn, .inl (cI, 12, .inl (sn_ch f_upper f_joined J (sn_fill 1 12 0 f_headsOn)))), (a_joined, .inl (cI, 12, .inl f_joined))] [(cI, .int)] A) A) ([.ref h0]).toArray s 0 0 (A)) (F0 m 20 ls []) := by
    intro k
    induction k with
    | zero => exact fun n _ h => absurd h (Nat.not_lt_zero n)
    | succ k ih =>
      intro n g hk hin hT H locs hP hD hS ls hl
      refine lv_iload_n hx hb dN_countHeads_20 rfl (lv_at hl 0 rfl) ?_
      refine lv_if_lt (tgt := 69) hx hb dN_countHeads_21 (by decide) (fun c_1 => ?_) (fun c_1 => ?_)
      · obtain rfl : n = 0 := by have := sn_m1lt (by omega) c_1; omega
        rw [show sn_ch f_upper f_joined J (sn_fill 1 12 0 f_headsOn) = g from by rw [← hT]; simp [sn_ch]]
        exact W.vret hx hb hr (fun t ht hW => ⟨⟨(), rfl, trivial, by rw [ht]; exact hP, va_K.moved hW.alike hK, hD⟩, hS.F ht⟩) hS.2.2 dN_countHeads_69
      · obtain ⟨n, rfl⟩ : ∃ z, n = z + 1 := ⟨n - 1, by have := mt sn_m1lt0 c_1; omega⟩
        rw [nI_pred] at hl
        refine lv_aload_n hx hb dN_countHeads_24 rfl (lv_at hl 1 rfl) ?_
        refine va_get (D := (dC, dI)) (ci := 0) (v := .ref a_joined) (C := R_N) (T := T_N) (N := 18) hx hb hts in_N hown hK hP 0 rfl rfl 16 (by decide) (hts _ flN76) (fun _ h9 => h9) rfl dN_countHeads_25 ?_
        refine lv_iload_n hx hb dN_countHeads_28 rfl (lv_at hl 0 rfl) ?_
        refine xa_iald hx hb hK hP 3 0 rfl rfl (i := n) (by omega) (by first | decide | omega) dN_countHeads_29 ?_
        refine lv_istore_n (lv' := [(2, .int (f_joined n)), (1, .int (nI n)), (0, .ref h0)]) hx hb dN_countHeads_30 rfl hl (by decide) rfl (fun ls hl => ?_)
        refine lv_aload_n hx hb dN_countHeads_31 rfl (lv_at hl 2 rfl) ?_
        refine va_get (D := (dC, dI)) (ci := 0) (v := .ref a_upper) (C := R_N) (T := T_N) (N := 18) hx hb hts in_N hown hK hP 0 rfl rfl 11 (by decide) (hts _ flN61) (fun _ h9 => h9) rfl dN_countHeads_32 ?_
        refine lv_iload_n hx hb dN_countHeads_35 rfl (lv_at hl 0 rfl) ?_
        refine va_iald hx hb hK hP 1 0 rfl rfl (hj n (by omega)) dN_countHeads_36 ?_
        refine lv_istore_n (lv' := [(3, .int (f_upper (f_joined n).toNatClampNeg)), (2, .int (f_joined n)), (1, .int (nI n)), (0, .ref h0)]) hx hb dN_countHeads_37 rfl hl (by decide) rfl (fun ls hl => ?_)
        refine lv_iload_n hx hb dN_countHeads_38 rfl (lv_at hl 0 rfl) ?_
        refine lv_if_lt (tgt := 63) hx hb dN_countHeads_39 (by decide) (fun c_2 => ?_) (fun c_2 => ?_)
        · refine lv_iinc (v := ((nI n) - 1)) (lv' := [(1, .int ((nI n) - 1)), (3, .int (f_upper (f_joined n).toNatClampNeg)), (2, .int (f_joined n)), (0, .ref h0)]) hx hb dN_countHeads_63 hl (k := 2) rfl (sn_dec _) (by decide) rfl (fun ls hl => ?_)
          refine lv_goto (tgt := 20) hx hb dN_countHeads_66 (by decide) ?_
          exact ih n g (by omega) (by omega) (by rw [← hT]; simp [sn_ch, c_1, c_2]) _ _ hP hD hS ls (lv_sub hl [0, 3] rfl)
        · refine lv_iload_n hx hb dN_countHeads_42 rfl (lv_at hl 0 rfl) ?_
          refine lv_bipush (v := 12) hx hb dN_countHeads_43 (by decide) ?_
          refine lv_icmp_ge (tgt := 63) hx hb dN_countHeads_45 (by decide) (fun c_3 => ?_) (fun c_3 => ?_)
          · refine lv_iinc (v := ((nI n) - 1)) (lv' := [(1, .int ((nI n) - 1)), (3, .int (f_upper (f_joined n).toNatClampNeg)), (2, .int (f_joined n)), (0, .ref h0)]) hx hb dN_countHeads_63 hl (k := 2) rfl (sn_dec _) (by decide) rfl (fun ls hl => ?_)
            refine lv_goto (tgt := 20) hx hb dN_countHeads_66 (by decide) ?_
            exact ih n g (by omega) (by omega) (by rw [← hT]; simp [sn_ch, c_1, c_2, c_3]) _ _ hP hD hS ls (lv_sub hl [0, 3] rfl)
          · refine lv_aload_n hx hb dN_countHeads_48 rfl (lv_at hl 3 rfl) ?_
            refine va_get (D := (dC, dI)) (ci := 0) (v := .ref a_headsOn) (C := R_N) (T := T_N) (N := 18) hx hb hts in_N hown hK hP 0 rfl rfl 13 (by decide) (hts _ flN67) (fun _ h9 => h9) rfl dN_countHeads_49 ?_
            refine lv_iload_n hx hb dN_countHeads_52 rfl (lv_at hl 0 rfl) ?_
            refine lv_dup2_11 hx hb dN_countHeads_53 rfl rfl ?_
            refine va_iald hx hb hK hP 2 0 rfl rfl (sn_vp12 (by assumption) (by assumption)) dN_countHeads_54 ?_
            refine lv_aload_n hx hb dN_countHeads_55 rfl (lv_at hl 3 rfl) ?_
            refine va_get (D := (dC, dI)) (ci := 0) (v := .ref a_headsOn) (C := R_N) (T := T_N) (N := 18) hx hb hts in_N hown hK hP 0 rfl rfl 13 (by decide) (hts _ flN67) (fun _ h9 => h9) rfl dN_countHeads_56 ?_
            refine lv_iload_n hx hb dN_countHeads_59 rfl (lv_at hl 1 rfl) ?_
            refine va_iald hx hb hK hP 2 0 rfl rfl (hj n (by omega)) dN_countHeads_60 ?_
            refine lv_iadd hx hb dN_countHeads_61 ?_
            refine va_iast hx hb hK hP hD hS 2 0 rfl rfl (sn_vp12 (by assumption) (by assumption)) dN_countHeads_62 (fun H locs hP hD hS => ?_)
            have hP : va_P (dC, dI) snC [(h0, .inr (0, [.int (nI Wd), .int (nI Ht), .ref a_walls, .int rs, .ref a_placeX, .ref a_placeY, .int (nI Pn), .ref a_reachers, .int old, .ref a_lossOf, .int sc, .ref a_upper, .ref a_length, .ref a_headsOn, .ref a_turn, .ref a_lack, .ref a_joined, .int (nI J)])), (a_upper, .inl (cI, 12, .inl f_upper)), (a_headsOn, .inl (cI, 12, .inl (upd g (f_upper (f_joined n).toNatClampNeg).toNatClampNeg ((g (f_upper (f_joined n).toNatClampNeg).toNatClampNeg) + (g (f_joined n).toNatClampNeg))))), (a_joined, .inl (cI, 12, .inl f_joined))] H := hP
            have hD : va_D A [(h0, .inr (0, [.int (nI Wd), .int (nI Ht), .ref a_walls, .int rs, .ref a_placeX, .ref a_placeY, .int (nI Pn), .ref a_reachers, .int old, .ref a_lossOf, .int sc, .ref a_upper, .ref a_length, .ref a_headsOn, .ref a_turn, .ref a_lack, .ref a_joined, .int (nI J)])), (a_upper, .inl (cI, 12, .inl f_upper)), (a_headsOn, .inl (cI, 12, .inl (upd g (f_upper (f_joined n).toNatClampNeg).toNatClampNeg ((g (f_upper (f_joined n).toNatClampNeg).toNatClampNeg) + (g (f_joined n).toNatClampNeg))))), (a_joined, .inl (cI, 12, .inl f_joined))] := hD
            refine lv_iinc (v := ((nI n) - 1)) (lv' := [(1, .int ((nI n) - 1)), (3, .int (f_upper (f_joined n).toNatClampNeg)), (2, .int (f_joined n)), (0, .ref h0)]) hx hb dN_countHeads_63 hl (k := 2) rfl (sn_dec _) (by decide) rfl (fun ls hl => ?_)
            refine lv_goto (tgt := 20) hx hb dN_countHeads_66 (by decide) ?_
            exact ih n (upd g (f_upper (f_joined n).toNatClampNeg).toNatClampNeg ((g (f_upper (f_joined n).toNatClampNeg).toNatClampNeg) + (g (f_joined n).toNatClampNeg))) (by omega) (by omega) (by rw [← hT]; simp [sn_ch, c_1, c_2, c_3]) _ _ hP hD hS ls (lv_sub hl [0, 3] rfl)
  refine lv_aload_n hx hb dN_countHeads_0 rfl (lv_at hl 0 rfl) ?_
  refine va_get (D := (dC, dI)) (ci := 0) (v := .ref a_headsOn) (C := R_N) (T := T_N) (N := 18) hx hb hts in_N hown hK hP 0 rfl rfl 13 (by decide) (hts _ flN67) (fun _ h9 => h9) rfl dN_countHeads_1 ?_
  refine lv_iconst (v := 1) hx hb dN_countHeads_4 (by decide) ?_
  refine xm_Sv (S := Unit) (As := [.ref a_headsOn, .int 1]) (w1 := fun _ => [(a_headsOn, .inl (cI, 12, .inl (sn_fill 1 12 0 f_headsOn)))]) (wz := fun _ => [(h0, .inr (0, [.int (nI Wd), .int (nI Ht), .ref a_walls, .int rs, .ref a_placeX, .ref a_placeY, .int (nI Pn), .ref a_reachers, .int old, .ref a_lossOf, .int sc, .ref a_upper, .ref a_length, .ref a_headsOn, .ref a_turn, .ref a_lack, .ref a_joined, .int (nI J)])), (a_upper, .inl (cI, 12, .inl f_upper)), (a_headsOn, .inl (cI, 12, .inl (sn_fill 1 12 0 f_headsOn))), (a_joined, .inl (cI, 12, .inl f_joined))]) (wr := [(h0, .inr (0, [.int (nI Wd), .int (nI Ht), .ref a_walls, .int rs, .ref a_placeX, .ref a_placeY, .int (nI Pn), .ref a_reachers, .int old, .ref a_lossOf, .int sc, .ref a_upper, .ref a_length, .ref a_headsOn, .ref a_turn, .ref a_lack, .ref a_joined, .int (nI J)])), (a_upper, .inl (cI, 12, .inl f_upper)), (a_joined, .inl (cI, 12, .inl f_joined))]) ⟨hx, hb, hml, hown, hts⟩ (cA_fill l dC dI a_headsOn cI 12 f_headsOn 1 _ (by decide)) (va_cwS 2 hts gN52 rfl rfl rfl (by decide +kernel) ⟨Nat.le_of_ble_eq_true rfl, Nat.le_of_ble_eq_true rfl⟩) hK hP hD hS hA [2] [0, 1, 3] [0, 1, 3, 2] [0] rfl rfl (fun _ => rfl) (by decide) (by decide) (by decide) (by decide) rfl rfl hl.1 rfl (Nat.le_of_ble_eq_true rfl) dN_countHeads_5 ⟨Nat.zero_le _, Nat.zero_le _⟩ (fun u H locs hr_1 hP hD hS => ?_)
  refine lv_aload_n hx hb dN_countHeads_8 rfl (lv_at hl 0 rfl) ?_
  refine va_get (D := (dC, dI)) (ci := 0) (v := .int (nI J)) (C := R_N) (T := T_N) (N := 18) hx hb hts in_N hown hK hP 0 rfl rfl 17 (by decide) (hts _ flN79) (fun _ h9 => h9) rfl dN_countHeads_9 ?_
  refine lv_bipush (v := 12) hx hb dN_countHeads_12 (by decide) ?_
  refine va_mmin hx hb (hml.trans hl.1.symm) hown (hts _ mlN9) (hts _ smH_min) (hts _ iniH) (hts _ kwH_min) (Nat.le_of_ble_eq_true rfl) (Nat.le_of_ble_eq_true rfl) (Nat.zero_le _) (Nat.zero_le _) dN_countHeads_14 ?_
  rw [show (if 12 < (nI J) then 12 else (nI J) : Int32) = nI J from sn_min12 hJ]
  refine lv_iconst (v := 1) hx hb dN_countHeads_17 (by decide) ?_
  refine lv_isub hx hb dN_countHeads_18 ?_
  refine lv_istore_n (lv' := [(1, .int ((nI J) - 1)), (0, .ref h0)]) hx hb dN_countHeads_19 rfl hl (by decide) rfl (fun ls hl => ?_)
  exact lp20 (J + 1) J (sn_fill 1 12 0 f_headsOn) (by omega) (by omega) rfl _ _ hP hD hS ls (lv_sub hl [0, 1] rfl)
set_option maxHeartbeats 4000000 in
set_option maxRecDepth 100000 in
theorem cN_addLacks (l : Launch) (dC : Nat → ClassId) (dI : Nat → Nat → Nat) (h0 a_walls a_placeX a_placeY a_reachers a_lossOf a_upper a_length a_headsOn a_turn a_lack a_joined : Nat) (Wd Ht Pn : Nat) (rs old sc : Int32) (J : Nat) (cI : ClassId) (f_lossOf f_upper f_length f_headsOn f_lack f_joined : Nat → Int32) (sz : Nat) (hJ : J ≤ 12) (hj : ∀ i, i < J → vp_in (f_joined i) 12) : Met l yN_addLacks (kN_addLacks :: WD) { frames := 1, cells := 0, slots := 0, locals := 23 } (va_Pc [.ref h0] (xm (dC, dI) snC [(h0, .inr (0, [.int (nI Wd), .int (nI Ht), .ref a_walls, .int rs, .ref a_placeX, .ref a_placeY, .int (nI Pn), .ref a_reachers, .int old, .ref a_lossOf, .int sc, .ref a_upper, .ref a_length, .ref a_headsOn, .ref a_turn, .ref a_lack, .ref a_joined, .int (nI J)])), (a_lossOf, .inl (cI, 13, .inl f_lossOf)), (a_upper, .inl (cI, 12, .inl f_upper)), (a_length, .inl (cI, 12, .inl f_length)), (a_headsOn, .inl (cI, 12, .inl f_headsOn)), (a_lack, .inl (cI, 12, .inl f_lack)), (a_joined, .inl (cI, 12, .inl f_joined))] [(cI, .int)] sz)) (va_Qv (fun _ : Unit => True) (fun _ => xo (dC, dI) snC [(h0, .inr (0, [.int (nI Wd), .int (nI Ht), .ref a_walls, .int rs, .ref a_placeX, .ref a_placeY, .int (nI Pn), .ref a_reachers, .int old, .ref a_lossOf, .int sc, .ref a_upper, .ref a_length, .ref a_headsOn, .ref a_turn, .ref a_lack, .ref a_joined, .int (nI J)])), (a_lossOf, .inl (cI, 13, .inl f_lossOf)), (a_upper, .inl (cI, 12, .inl f_upper)), (a_length, .inl (cI, 12, .inl f_length)), (a_headsOn, .inl (cI, 12, .inl f_headsOn)), (a_lack, .inl (cI, 12, .inl (sn_al f_lossOf f_upper f_length f_headsOn f_joined J 0 f_lack))), (a_joined, .inl (cI, 12, .inl f_joined))] [(cI, .int)] (va_A [(h0, .inr (0, [.int (nI Wd), .int (nI Ht), .ref a_walls, .int rs, .ref a_placeX, .ref a_placeY, .int (nI Pn), .ref a_reachers, .int old, .ref a_lossOf, .int sc, .ref a_upper, .ref a_length, .ref a_headsOn, .ref a_turn, .ref a_lack, .ref a_joined, .int (nI J)])), (a_lossOf, .inl (cI, 13, .inl f_lossOf)), (a_upper, .inl (cI, 12, .inl f_upper)), (a_length, .inl (cI, 12, .inl f_length)), (a_headsOn, .inl (cI, 12, .inl f_headsOn)), (a_lack, .inl (cI, 12, .inl f_lack)), (a_joined, .inl (cI, 12, .inl f_joined))] sz)) (va_A [(h0, .inr (0, [.int (nI Wd), .int (nI Ht), .ref a_walls, .int rs, .ref a_placeX, .ref a_placeY, .int (nI Pn), .ref a_reachers, .int old, .ref a_lossOf, .int sc, .ref a_upper, .ref a_length, .ref a_headsOn, .ref a_turn, .ref a_lack, .ref a_joined, .int (nI J)])), (a_lossOf, .inl (cI, 13, .inl f_lossOf)), (a_upper, .inl (cI, 12, .inl f_upper)), (a_length, .inl (cI, 12, .inl f_length)), (a_headsOn, .inl (cI, 12, .inl f_headsOn)), (a_lack, .inl (cI, 12, .inl f_lack)), (a_joined, .inl (cI, 12, .inl f_joined))] sz)) 0 0 (va_A [(h0, .inr (0, [.int (nI Wd), .int (nI Ht), .ref a_walls, .int rs, .ref a_placeX, .ref a_placeY, .int (nI Pn), .ref a_reachers, .int old, .ref a_lossOf, .int sc, .ref a_upper, .ref a_length, .ref a_headsOn, .ref a_turn, .ref a_lack, .ref a_joined, .int (nI J)])), (a_lossOf, .inl (cI, 13, .inl f_lossOf)), (a_upper, .inl (cI, 12, .inl f_upper)), (a_length, .inl (cI, 12, .inl f_length)), (a_headsOn, .inl (cI, 12, .inl f_headsOn)), (a_lack, .inl (cI, 12, .inl f_lack)), (a_joined, .inl (cI, 12, .inl f_joined))] sz) := by
  refine Met.ofW (cc := bN_addLacks) (maxL := 5) (ret := none) (by decide) rfl ?_
  intro p e s m args below meth c s₁ B hml hv
  obtain ⟨rfl, hsz, hP, hK, hD0⟩ := hv
  have hx := B.exec
  have hb := B.bytes
  have hr := B.returns
  have hts : ∀ w ∈ WD, w.before _ s = true := fun w h => atoms_spec (ws := kN_addLacks :: WD) B.pre w (List.mem_cons_of_mem _ h)
  have hown : s.vm.findClass R_N = some m.cls := findClass_of_methodNamed B.named
  have hlocks := B.notSynchronized
  subst hsz
  have hD := hD0.self (sz := s.heap.size)
  generalize hAe : va_A [(h0, .inr (0, [.int (nI Wd), .int (nI Ht), .ref a_walls, .int rs, .ref a_placeX, .ref a_placeY, .int (nI Pn), .ref a_reachers, .int old, .ref a_lossOf, .int sc, .ref a_upper, .ref a_length, .ref a_headsOn, .ref a_turn, .ref a_lack, .ref a_joined, .int (nI J)])), (a_lossOf, .inl (cI, 13, .inl f_lossOf)), (a_upper, .inl (cI, 12, .inl f_upper)), (a_length, .inl (cI, 12, .inl f_length)), (a_headsOn, .inl (cI, 12, .inl f_headsOn)), (a_lack, .inl (cI, 12, .inl f_lack)), (a_joined, .inl (cI, 12, .inl f_joined))] s.heap.size = A at hD ⊢
  have hA : ∀ q : Nat, s.heap.size ≤ q → A q := fun q h => by rw [← hAe]; exact Or.inr h
  have hS : va_S A s.heap s.heap [] := va_S.rf
  have hl := lv_entry ([.ref h0]) (n := 5) (Nat.le_of_ble_eq_true rfl)
  rw [lg_entry_eq]
  generalize (lg_sl ([.ref h0]) ++ List.replicate (5 - (lg_sl ([.ref h0])).length) Slot.unset).toArray = ls at hl ⊢
  have hl : lv_has ls 5 [(0, .ref h0)] := hl
  have lp2 : ∀ (k n : Nat) (i : Nat) (g : Nat → Int32), n < k → i + n = J → sn_al f_lossOf f_upper f_length f_headsOn f_joined n i g = sn_al f_lossOf f_upper f_length f_headsOn f_joined J 0 f_lack → ∀ (H : Heap) (locs : List Loc), va_P (dC, dI) snC [(h0, .inr (0, [.int (nI Wd), .int (nI Ht), .ref a_walls, .int rs, .ref a_placeX, .ref a_placeY, .int (nI Pn), .ref a_reachers, .int old, .ref a_lossOf, .int sc, .ref a_upper, .ref a_length, .ref a_headsOn, .ref a_turn, .ref a_lack, .ref a_joined, .int (nI J)])), (a_lossOf, .inl (cI, 13, .inl f_lossOf)), (a_upper, .inl (cI, 12, .inl f_upper)), (a_length, .inl (cI, 12, .inl f_length)), (a_headsOn, .inl (cI, 12, .inl f_headsOn)), (a_lack, .inl (cI, 12, .inl g)), (a_joined, .inl (cI, 12, .inl f_joined))] H → va_D A [(h0, .inr (0, [.int (nI Wd), .int (nI Ht), .ref a_walls, .int rs, .ref a_placeX, .ref a_placeY, .int (nI Pn), .ref a_reachers, .int old, .ref a_lossOf, .int sc, .ref a_upper, .ref a_length, .ref a_headsOn, .ref a_turn, .ref a_lack, .ref a_joined, .int (nI J)])), (a_lossOf, .inl (cI, 13, .inl f_lossOf)), (a_upper, .inl (cI, 12, .inl f_upper)), (a_length, .inl (cI, 12, .inl f_length)), (a_headsOn, .inl (cI, 12, .inl f_headsOn)), (a_lack, .inl (cI, 12, .inl g)), (a_joined, .inl (cI, 12, .inl f_joined))] → va_S A s.heap H locs → ∀ ls : Array Slot, lv_has ls 5 [(1, .int (nI i)), (0, .ref h0)] → W p l e (headSpec (kN_addLacks :: WD) { frames := 1, cells := 0, slots := 0, locals := 23 }).room s m ([.ref h0]).toArray below meth c H locs 0 0 (MQ below (va_Qv (fun _ : Unit => True) (fun _ => xo (dC, dI) snC [(h0, .inr (0, [.int (nI Wd), .int (nI Ht), .ref a_walls, .int rs, .ref a_placeX, .ref a_placeY, .int (nI Pn), .ref a_reachers, .int old, .ref a_lossOf, .int sc, .ref a_upper, .ref a_length, .ref a_headsOn, .ref a_turn, .ref a_lack, .ref a_joined, .int (nI J)])), (a_lossOf, .inl (cI, 13, .inl f_lossOf)), (a_upper, .inl (cI, 12, .inl f_upper)), (a_length, .inl (cI, 12, .inl f_length)), (a_headsOn, .inl (cI, 12, .inl f_headsOn)), (a_lack, .inl (cI, 12, .inl (sn_al f_lossOf f_upper f_length f_headsOn f_joined J 0 f_lack))), (a_joined, .inl (cI, 12, .inl f_joined))] [(cI, .int)] A) A) ([.ref h0]).toArray s 0 0 (A)) (F0 m 2 ls []) := by
    intro k
    induction k with
    | zero => exact fun n _ _ h => absurd h (Nat.not_lt_zero n)
    | succ k ih =>
      intro n i g hk hin hT H locs hP hD hS ls hl
      refine lv_iload_n hx hb dN_addLacks_2 rfl (lv_at hl 0 rfl) ?_
      refine lv_bipush (v := (nI 12)) hx hb dN_addLacks_3 (by decide) ?_
      refine lv_icmp_ge (tgt := 92) hx hb dN_addLacks_5 (by decide) (fun c_1 => ?_) (fun c_1 => ?_)
      · have hz := (nI_leI (by omega) (by omega)).mp c_1
        obtain rfl : n = 0 := by omega
        rw [show sn_al f_lossOf f_upper f_length f_headsOn f_joined J 0 f_lack = g from by rw [← hT]; simp [sn_al]]
        exact W.vret hx hb hr (fun t ht hW => ⟨⟨(), rfl, trivial, by rw [ht]; exact hP, va_K.moved hW.alike hK, hD⟩, hS.F ht⟩) hS.2.2 dN_addLacks_92
      · refine lv_iload_n hx hb dN_addLacks_8 rfl (lv_at hl 0 rfl) ?_
        refine lv_aload_n hx hb dN_addLacks_9 rfl (lv_at hl 1 rfl) ?_
        refine va_get (D := (dC, dI)) (ci := 0) (v := .int (nI J)) (C := R_N) (T := T_N) (N := 18) hx hb hts in_N hown hK hP 0 rfl rfl 17 (by decide) (hts _ flN79) (fun _ h9 => h9) rfl dN_addLacks_10 ?_
        refine lv_icmp_ge (tgt := 92) hx hb dN_addLacks_13 (by decide) (fun c_2 => ?_) (fun c_2 => ?_)
        · have hz := (nI_leI (by omega) (by omega)).mp c_2
          obtain rfl : n = 0 := by omega
          rw [show sn_al f_lossOf f_upper f_length f_headsOn f_joined J 0 f_lack = g from by rw [← hT]; simp [sn_al]]
          exact W.vret hx hb hr (fun t ht hW => ⟨⟨(), rfl, trivial, by rw [ht]; exact hP, va_K.moved hW.alike hK, hD⟩, hS.F ht⟩) hS.2.2 dN_addLacks_92
        · have hz : i < J := by have h9 := mt (nI_leI (by omega) (by omega)).mpr c_2; omega
          obtain ⟨n, rfl⟩ : ∃ n', n = n' + 1 := ⟨n - 1, by omega⟩
          refine lv_aload_n hx hb dN_addLacks_16 rfl (lv_at hl 1 rfl) ?_
          refine va_get (D := (dC, dI)) (ci := 0) (v := .ref a_joined) (C := R_N) (T := T_N) (N := 18) hx hb hts in_N hown hK hP 0 rfl rfl 16 (by decide) (hts _ flN76) (fun _ h9 => h9) rfl dN_addLacks_17 ?_
          refine lv_iload_n hx hb dN_addLacks_20 rfl (lv_at hl 0 rfl) ?_
          refine xa_iald hx hb hK hP 6 0 rfl rfl (i := i) (by omega) (by first | decide | omega) dN_addLacks_21 ?_
          refine lv_istore_n (lv' := [(2, .int (f_joined i)), (1, .int (nI i)), (0, .ref h0)]) hx hb dN_addLacks_22 rfl hl (by decide) rfl (fun ls hl => ?_)
          refine lv_aload_n hx hb dN_addLacks_23 rfl (lv_at hl 2 rfl) ?_
          refine va_get (D := (dC, dI)) (ci := 0) (v := .ref a_upper) (C := R_N) (T := T_N) (N := 18) hx hb hts in_N hown hK hP 0 rfl rfl 11 (by decide) (hts _ flN61) (fun _ h9 => h9) rfl dN_addLacks_24 ?_
          refine lv_iload_n hx hb dN_addLacks_27 rfl (lv_at hl 0 rfl) ?_
          refine va_iald hx hb hK hP 2 0 rfl rfl (hj i (by omega)) dN_addLacks_28 ?_
          refine lv_istore_n (lv' := [(3, .int (f_upper (f_joined i).toNatClampNeg)), (2, .int (f_joined i)), (1, .int (nI i)), (0, .ref h0)]) hx hb dN_addLacks_29 rfl hl (by decide) rfl (fun ls hl => ?_)
          refine lv_aload_n hx hb dN_addLacks_30 rfl (lv_at hl 3 rfl) ?_
          refine va_get (D := (dC, dI)) (ci := 0) (v := .ref a_length) (C := R_N) (T := T_N) (N := 18) hx hb hts in_N hown hK hP 0 rfl rfl 12 (by decide) (hts _ flN64) (fun _ h9 => h9) rfl dN_addLacks_31 ?_
          refine lv_iload_n hx hb dN_addLacks_34 rfl (lv_at hl 1 rfl) ?_
          refine va_iald hx hb hK hP 3 0 rfl rfl (hj i (by omega)) dN_addLacks_35 ?_
          refine lv_aload_n hx hb dN_addLacks_36 rfl (lv_at hl 3 rfl) ?_
          refine lv_aload_n hx hb dN_addLacks_37 rfl (lv_at hl 3 rfl) ?_
          refine va_get (D := (dC, dI)) (ci := 0) (v := .ref a_headsOn) (C := R_N) (T := T_N) (N := 18) hx hb hts in_N hown hK hP 0 rfl rfl 13 (by decide) (hts _ flN67) (fun _ h9 => h9) rfl dN_addLacks_38 ?_
          refine lv_iload_n hx hb dN_addLacks_41 rfl (lv_at hl 1 rfl) ?_
          refine va_iald hx hb hK hP 4 0 rfl rfl (hj i (by omega)) dN_addLacks_42 ?_
          refine xr_V (As := [.int (f_headsOn (f_joined i).toNatClampNeg)]) ⟨hx, hb, hml, hown, hts⟩ (cN_lossFor l dC dI h0 a_walls a_placeX a_placeY a_reachers a_lossOf a_upper a_length a_headsOn a_turn a_lack a_joined Wd Ht Pn rs old sc (nI J) cI f_lossOf (f_headsOn (f_joined i).toNatClampNeg)) (cwV 1 hts gN156 rfl rfl rfl (by decide +kernel) ⟨Nat.le_of_ble_eq_true rfl, Nat.le_of_ble_eq_true rfl⟩) hK hP [0, 1] [0] rfl rfl 0 0 rfl rfl rfl rfl hl.1 rfl (Nat.le_of_ble_eq_true rfl) dN_addLacks_43 ⟨Nat.zero_le _, Nat.zero_le _⟩ (fun r_3 hr_3 => ?_)
          subst hr_3
          refine lv_imul hx hb dN_addLacks_46 ?_
          refine lv_aload_n hx hb dN_addLacks_47 rfl (lv_at hl 3 rfl) ?_
          refine va_get (D := (dC, dI)) (ci := 0) (v := .ref a_headsOn) (C := R_N) (T := T_N) (N := 18) hx hb hts in_N hown hK hP 0 rfl rfl 13 (by decide) (hts _ flN67) (fun _ h9 => h9) rfl dN_addLacks_48 ?_
          refine lv_iload_n hx hb dN_addLacks_51 rfl (lv_at hl 1 rfl) ?_
          refine va_iald hx hb hK hP 4 0 rfl rfl (hj i (by omega)) dN_addLacks_52 ?_
          refine lv_imul hx hb dN_addLacks_53 ?_
          rw [show (((f_length (f_joined i).toNatClampNeg) * (sn_lf f_lossOf (f_headsOn (f_joined i).toNatClampNeg) 12 1 0)) * (f_headsOn (f_joined i).toNatClampNeg) : Int32) = sn_lost f_lossOf f_length f_headsOn (f_joined i).toNatClampNeg from rfl]
          refine lv_istore (lv' := [(4, .int (sn_lost f_lossOf f_length f_headsOn (f_joined i).toNatClampNeg)), (3, .int (f_upper (f_joined i).toNatClampNeg)), (2, .int (f_joined i)), (1, .int (nI i)), (0, .ref h0)]) hx hb dN_addLacks_54 hl (by decide) rfl (fun ls hl => ?_)
          refine lv_aload_n hx hb dN_addLacks_56 rfl (lv_at hl 4 rfl) ?_
          refine va_get (D := (dC, dI)) (ci := 0) (v := .ref a_lack) (C := R_N) (T := T_N) (N := 18) hx hb hts in_N hown hK hP 0 rfl rfl 15 (by decide) (hts _ flN73) (fun _ h9 => h9) rfl dN_addLacks_57 ?_
          refine lv_iload_n hx hb dN_addLacks_60 rfl (lv_at hl 2 rfl) ?_
          refine lv_iload_n hx hb dN_addLacks_61 rfl (lv_at hl 1 rfl) ?_
          refine lv_if_lt (tgt := 83) hx hb dN_addLacks_62 (by decide) (fun c_4 => ?_) (fun c_4 => ?_)
          · refine lv_iload hx hb dN_addLacks_83 (lv_at hl 0 rfl) ?_
            refine va_iast hx hb hK hP hD hS 5 0 rfl rfl (hj i (by omega)) dN_addLacks_85 (fun H locs hP hD hS => ?_)
            have hP : va_P (dC, dI) snC [(h0, .inr (0, [.int (nI Wd), .int (nI Ht), .ref a_walls, .int rs, .ref a_placeX, .ref a_placeY, .int (nI Pn), .ref a_reachers, .int old, .ref a_lossOf, .int sc, .ref a_upper, .ref a_length, .ref a_headsOn, .ref a_turn, .ref a_lack, .ref a_joined, .int (nI J)])), (a_lossOf, .inl (cI, 13, .inl f_lossOf)), (a_upper, .inl (cI, 12, .inl f_upper)), (a_length, .inl (cI, 12, .inl f_length)), (a_headsOn, .inl (cI, 12, .inl f_headsOn)), (a_lack, .inl (cI, 12, .inl (upd g (f_joined i).toNatClampNeg (sn_lost f_lossOf f_length f_headsOn (f_joined i).toNatClampNeg)))), (a_joined, .inl (cI, 12, .inl f_joined))] H := hP
            have hD : va_D A [(h0, .inr (0, [.int (nI Wd), .int (nI Ht), .ref a_walls, .int rs, .ref a_placeX, .ref a_placeY, .int (nI Pn), .ref a_reachers, .int old, .ref a_lossOf, .int sc, .ref a_upper, .ref a_length, .ref a_headsOn, .ref a_turn, .ref a_lack, .ref a_joined, .int (nI J)])), (a_lossOf, .inl (cI, 13, .inl f_lossOf)), (a_upper, .inl (cI, 12, .inl f_upper)), (a_length, .inl (cI, 12, .inl f_length)), (a_headsOn, .inl (cI, 12, .inl f_headsOn)), (a_lack, .inl (cI, 12, .inl (upd g (f_joined i).toNatClampNeg (sn_lost f_lossOf f_length f_headsOn (f_joined i).toNatClampNeg)))), (a_joined, .inl (cI, 12, .inl f_joined))] := hD
            refine lv_iinc (v := (nI (i + 1))) (lv' := [(1, .int (nI (i + 1))), (4, .int (sn_lost f_lossOf f_length f_headsOn (f_joined i).toNatClampNeg)), (3, .int (f_upper (f_joined i).toNatClampNeg)), (2, .int (f_joined i)), (0, .ref h0)]) hx hb dN_addLacks_86 hl (k := 3) rfl (nI_1 i) (by decide) rfl (fun ls hl => ?_)
            refine lv_goto (tgt := 2) hx hb dN_addLacks_89 (by decide) ?_
            exact ih n (i + 1) (upd g (f_joined i).toNatClampNeg (sn_lost f_lossOf f_length f_headsOn (f_joined i).toNatClampNeg)) (by omega) (by omega) (by rw [← hT]; simp [sn_al, c_1, c_2, c_4]) _ _ hP hD hS ls (lv_sub hl [0, 4] rfl)
          · refine lv_iload_n hx hb dN_addLacks_65 rfl (lv_at hl 1 rfl) ?_
            refine lv_bipush (v := 12) hx hb dN_addLacks_66 (by decide) ?_
            refine lv_icmp_ge (tgt := 83) hx hb dN_addLacks_68 (by decide) (fun c_5 => ?_) (fun c_5 => ?_)
            · refine lv_iload hx hb dN_addLacks_83 (lv_at hl 0 rfl) ?_
              refine va_iast hx hb hK hP hD hS 5 0 rfl rfl (hj i (by omega)) dN_addLacks_85 (fun H locs hP hD hS => ?_)
              have hP : va_P (dC, dI) snC [(h0, .inr (0, [.int (nI Wd), .int (nI Ht), .ref a_walls, .int rs, .ref a_placeX, .ref a_placeY, .int (nI Pn), .ref a_reachers, .int old, .ref a_lossOf, .int sc, .ref a_upper, .ref a_length, .ref a_headsOn, .ref a_turn, .ref a_lack, .ref a_joined, .int (nI J)])), (a_lossOf, .inl (cI, 13, .inl f_lossOf)), (a_upper, .inl (cI, 12, .inl f_upper)), (a_length, .inl (cI, 12, .inl f_length)), (a_headsOn, .inl (cI, 12, .inl f_headsOn)), (a_lack, .inl (cI, 12, .inl (upd g (f_joined i).toNatClampNeg (sn_lost f_lossOf f_length f_headsOn (f_joined i).toNatClampNeg)))), (a_joined, .inl (cI, 12, .inl f_joined))] H := hP
              have hD : va_D A [(h0, .inr (0, [.int (nI Wd), .int (nI Ht), .ref a_walls, .int rs, .ref a_placeX, .ref a_placeY, .int (nI Pn), .ref a_reachers, .int old, .ref a_lossOf, .int sc, .ref a_upper, .ref a_length, .ref a_headsOn, .ref a_turn, .ref a_lack, .ref a_joined, .int (nI J)])), (a_lossOf, .inl (cI, 13, .inl f_lossOf)), (a_upper, .inl (cI, 12, .inl f_upper)), (a_length, .inl (cI, 12, .inl f_length)), (a_headsOn, .inl (cI, 12, .inl f_headsOn)), (a_lack, .inl (cI, 12, .inl (upd g (f_joined i).toNatClampNeg (sn_lost f_lossOf f_length f_headsOn (f_joined i).toNatClampNeg)))), (a_joined, .inl (cI, 12, .inl f_joined))] := hD
              refine lv_iinc (v := (nI (i + 1))) (lv' := [(1, .int (nI (i + 1))), (4, .int (sn_lost f_lossOf f_length f_headsOn (f_joined i).toNatClampNeg)), (3, .int (f_upper (f_joined i).toNatClampNeg)), (2, .int (f_joined i)), (0, .ref h0)]) hx hb dN_addLacks_86 hl (k := 3) rfl (nI_1 i) (by decide) rfl (fun ls hl => ?_)
              refine lv_goto (tgt := 2) hx hb dN_addLacks_89 (by decide) ?_
              exact ih n (i + 1) (upd g (f_joined i).toNatClampNeg (sn_lost f_lossOf f_length f_headsOn (f_joined i).toNatClampNeg)) (by omega) (by omega) (by rw [← hT]; simp [sn_al, c_1, c_2, c_4, c_5]) _ _ hP hD hS ls (lv_sub hl [0, 4] rfl)
            · refine lv_aload_n hx hb dN_addLacks_71 rfl (lv_at hl 4 rfl) ?_
              refine va_get (D := (dC, dI)) (ci := 0) (v := .ref a_lack) (C := R_N) (T := T_N) (N := 18) hx hb hts in_N hown hK hP 0 rfl rfl 15 (by decide) (hts _ flN73) (fun _ h9 => h9) rfl dN_addLacks_72 ?_
              refine lv_iload_n hx hb dN_addLacks_75 rfl (lv_at hl 1 rfl) ?_
              refine va_iald hx hb hK hP 5 0 rfl rfl (sn_vp12 (by assumption) (by assumption)) dN_addLacks_76 ?_
              refine lv_iload hx hb dN_addLacks_77 (lv_at hl 0 rfl) ?_
              refine lv_iadd hx hb dN_addLacks_79 ?_
              refine lv_goto (tgt := 85) hx hb dN_addLacks_80 (by decide) ?_
              refine va_iast hx hb hK hP hD hS 5 0 rfl rfl (hj i (by omega)) dN_addLacks_85 (fun H locs hP hD hS => ?_)
              have hP : va_P (dC, dI) snC [(h0, .inr (0, [.int (nI Wd), .int (nI Ht), .ref a_walls, .int rs, .ref a_placeX, .ref a_placeY, .int (nI Pn), .ref a_reachers, .int old, .ref a_lossOf, .int sc, .ref a_upper, .ref a_length, .ref a_headsOn, .ref a_turn, .ref a_lack, .ref a_joined, .int (nI J)])), (a_lossOf, .inl (cI, 13, .inl f_lossOf)), (a_upper, .inl (cI, 12, .inl f_upper)), (a_length, .inl (cI, 12, .inl f_length)), (a_headsOn, .inl (cI, 12, .inl f_headsOn)), (a_lack, .inl (cI, 12, .inl (upd g (f_joined i).toNatClampNeg ((g (f_upper (f_joined i).toNatClampNeg).toNatClampNeg) + (sn_lost f_lossOf f_length f_headsOn (f_joined i).toNatClampNeg))))), (a_joined, .inl (cI, 12, .inl f_joined))] H := hP
              have hD : va_D A [(h0, .inr (0, [.int (nI Wd), .int (nI Ht), .ref a_walls, .int rs, .ref a_placeX, .ref a_placeY, .int (nI Pn), .ref a_reachers, .int old, .ref a_lossOf, .int sc, .ref a_upper, .ref a_length, .ref a_headsOn, .ref a_turn, .ref a_lack, .ref a_joined, .int (nI J)])), (a_lossOf, .inl (cI, 13, .inl f_lossOf)), (a_upper, .inl (cI, 12, .inl f_upper)), (a_length, .inl (cI, 12, .inl f_length)), (a_headsOn, .inl (cI, 12, .inl f_headsOn)), (a_lack, .inl (cI, 12, .inl (upd g (f_joined i).toNatClampNeg ((g (f_upper (f_joined i).toNatClampNeg).toNatClampNeg) + (sn_lost f_lossOf f_length f_headsOn (f_joined i).toNatClampNeg))))), (a_joined, .inl (cI, 12, .inl f_joined))] := hD
              refine lv_iinc (v := (nI (i + 1))) (lv' := [(1, .int (nI (i + 1))), (4, .int (sn_lost f_lossOf f_length f_headsOn (f_joined i).toNatClampNeg)), (3, .int (f_upper (f_joined i).toNatClampNeg)), (2, .int (f_joined i)), (0, .ref h0)]) hx hb dN_addLacks_86 hl (k := 3) rfl (nI_1 i) (by decide) rfl (fun ls hl => ?_)
              refine lv_goto (tgt := 2) hx hb dN_addLacks_89 (by decide) ?_
              exact ih n (i + 1) (upd g (f_joined i).toNatClampNeg ((g (f_upper (f_joined i).toNatClampNeg).toNatClampNeg) + (sn_lost f_lossOf f_length f_headsOn (f_joined i).toNatClampNeg))) (by omega) (by omega) (by rw [← hT]; simp [sn_al, c_1, c_2, c_4, c_5]) _ _ hP hD hS ls (lv_sub hl [0, 4] rfl)
  refine lv_iconst (v := 0) hx hb dN_addLacks_0 (by decide) ?_
  refine lv_istore_n (lv' := [(1, .int 0), (0, .ref h0)]) hx hb dN_addLacks_1 rfl hl (by decide) rfl (fun ls hl => ?_)
  exact lp2 (J + 1) J 0 f_lack (by omega) (by omega) rfl _ _ hP hD hS ls (lv_sub hl [0, 1] rfl)
set_option maxHeartbeats 4000000 in
set_option maxRecDepth 100000 in
theorem cN_layPipes (l : Launch) (dC : Nat → ClassId) (dI : Nat → Nat → Nat) (h0 a_walls a_placeX a_placeY a_reachers a_lossOf a_upper a_length a_headsOn a_turn a_lack a_joined : Nat) (Wd Ht Pn : Nat) (rs old sc jc : Int32) (cI : ClassId) (f_placeX f_placeY f_lossOf f_upper f_length f_headsOn f_turn f_lack f_joined : Nat → Int32) (set : Int32) (sz : Nat)  : Met l yN_layPipes (kN_layPipes :: WD) { frames := 3, cells := 0, slots := 0, locals := 69 } (va_Pc [.ref h0, .int set] (xm (dC, dI) snC [(h0, .inr (0, [.int (nI Wd), .int (nI Ht), .ref a_walls, .int rs, .ref a_placeX, .ref a_placeY, .int (nI Pn), .ref a_reachers, .int old, .ref a_lossOf, .int sc, .ref a_upper, .ref a_length, .ref a_headsOn, .ref a_turn, .ref a_lack, .ref a_joined, .int jc])), (a_placeX, .inl (cI, 12, .inl f_placeX)), (a_placeY, .inl (cI, 12, .inl f_placeY)), (a_lossOf, .inl (cI, 13, .inl f_lossOf)), (a_upper, .inl (cI, 12, .inl f_upper)), (a_length, .inl (cI, 12, .inl f_length)), (a_headsOn, .inl (cI, 12, .inl f_headsOn)), (a_turn, .inl (cI, 12, .inl f_turn)), (a_lack, .inl (cI, 12, .inl f_lack)), (a_joined, .inl (cI, 12, .inl f_joined))] [(cI, .int)] sz)) (va_Qv (fun _ : Unit => True) (fun _ => xo (dC, dI) snC [(h0, .inr (0, [.int (nI Wd), .int (nI Ht), .ref a_walls, .int rs, .ref a_placeX, .ref a_placeY, .int (nI Pn), .ref a_reachers, .int old, .ref a_lossOf, .int sc, .ref a_upper, .ref a_length, .ref a_headsOn, .ref a_turn, .ref a_lack, .ref a_joined, .int ((sn_join f_placeX f_placeY set f_upper f_length f_turn f_joined).2.2.2.2)])), (a_placeX, .inl (cI, 12, .inl f_placeX)), (a_placeY, .inl (cI, 12, .inl f_placeY)), (a_lossOf, .inl (cI, 13, .inl f_lossOf)), (a_upper, .inl (cI, 12, .inl ((sn_join f_placeX f_placeY set f_upper f_length f_turn f_joined).1))), (a_length, .inl (cI, 12, .inl ((sn_join f_placeX f_placeY set f_upper f_length f_turn f_joined).2.1))), (a_headsOn, .inl (cI, 12, .inl (sn_ch (sn_join f_placeX f_placeY set f_upper f_length f_turn f_joined).1 (sn_join f_placeX f_placeY set f_upper f_length f_turn f_joined).2.2.2.1 (sn_join f_placeX f_placeY set f_upper f_length f_turn f_joined).2.2.2.2.toNatClampNeg (sn_fill 1 12 0 f_headsOn)))), (a_turn, .inl (cI, 12, .inl ((sn_join f_placeX f_placeY set f_upper f_length f_turn f_joined).2.2.1))), (a_lack, .inl (cI, 12, .inl (sn_al f_lossOf (sn_join f_placeX f_placeY set f_upper f_length f_turn f_joined).1 (sn_join f_placeX f_placeY set f_upper f_length f_turn f_joined).2.1 (sn_ch (sn_join f_placeX f_placeY set f_upper f_length f_turn f_joined).1 (sn_join f_placeX f_placeY set f_upper f_length f_turn f_joined).2.2.2.1 (sn_join f_placeX f_placeY set f_upper f_length f_turn f_joined).2.2.2.2.toNatClampNeg (sn_fill 1 12 0 f_headsOn)) (sn_join f_placeX f_placeY set f_upper f_length f_turn f_joined).2.2.2.1 (sn_join f_placeX f_placeY set f_upper f_length f_turn f_joined).2.2.2.2.toNatClampNeg 0 f_lack))), (a_joined, .inl (cI, 12, .inl ((sn_join f_placeX f_placeY set f_upper f_length f_turn f_joined).2.2.2.1)))] [(cI, .int)] (va_A [(h0, .inr (0, [.int (nI Wd), .int (nI Ht), .ref a_walls, .int rs, .ref a_placeX, .ref a_placeY, .int (nI Pn), .ref a_reachers, .int old, .ref a_lossOf, .int sc, .ref a_upper, .ref a_length, .ref a_headsOn, .ref a_turn, .ref a_lack, .ref a_joined, .int jc])), (a_placeX, .inl (cI, 12, .inl f_placeX)), (a_placeY, .inl (cI, 12, .inl f_placeY)), (a_lossOf, .inl (cI, 13, .inl f_lossOf)), (a_upper, .inl (cI, 12, .inl f_upper)), (a_length, .inl (cI, 12, .inl f_length)), (a_headsOn, .inl (cI, 12, .inl f_headsOn)), (a_turn, .inl (cI, 12, .inl f_turn)), (a_lack, .inl (cI, 12, .inl f_lack)), (a_joined, .inl (cI, 12, .inl f_joined))] sz)) (va_A [(h0, .inr (0, [.int (nI Wd), .int (nI Ht), .ref a_walls, .int rs, .ref a_placeX, .ref a_placeY, .int (nI Pn), .ref a_reachers, .int old, .ref a_lossOf, .int sc, .ref a_upper, .ref a_length, .ref a_headsOn, .ref a_turn, .ref a_lack, .ref a_joined, .int jc])), (a_placeX, .inl (cI, 12, .inl f_placeX)), (a_placeY, .inl (cI, 12, .inl f_placeY)), (a_lossOf, .inl (cI, 13, .inl f_lossOf)), (a_upper, .inl (cI, 12, .inl f_upper)), (a_length, .inl (cI, 12, .inl f_length)), (a_headsOn, .inl (cI, 12, .inl f_headsOn)), (a_turn, .inl (cI, 12, .inl f_turn)), (a_lack, .inl (cI, 12, .inl f_lack)), (a_joined, .inl (cI, 12, .inl f_joined))] sz)) 0 0 (va_A [(h0, .inr (0, [.int (nI Wd), .int (nI Ht), .ref a_walls, .int rs, .ref a_placeX, .ref a_placeY, .int (nI Pn), .ref a_reachers, .int old, .ref a_lossOf, .int sc, .ref a_upper, .ref a_length, .ref a_headsOn, .ref a_turn, .ref a_lack, .ref a_joined, .int jc])), (a_placeX, .inl (cI, 12, .inl f_placeX)), (a_placeY, .inl (cI, 12, .inl f_placeY)), (a_lossOf, .inl (cI, 13, .inl f_lossOf)), (a_upper, .inl (cI, 12, .inl f_upper)), (a_length, .inl (cI, 12, .inl f_length)), (a_headsOn, .inl (cI, 12, .inl f_headsOn)), (a_turn, .inl (cI, 12, .inl f_turn)), (a_lack, .inl (cI, 12, .inl f_lack)), (a_joined, .inl (cI, 12, .inl f_joined))] sz) := by
  refine Met.ofW (cc := bN_layPipes) (maxL := 2) (ret := none) (by decide) rfl ?_
  intro p e s m args below meth c s₁ B hml hv
  obtain ⟨rfl, hsz, hP, hK, hD0⟩ := hv
  have hx := B.exec
  have hb := B.bytes
  have hr := B.returns
  have hts : ∀ w ∈ WD, w.before _ s = true := fun w h => atoms_spec (ws := kN_layPipes :: WD) B.pre w (List.mem_cons_of_mem _ h)
  have hown : s.vm.findClass R_N = some m.cls := findClass_of_methodNamed B.named
  have hlocks := B.notSynchronized
  subst hsz
  have hD := hD0.self (sz := s.heap.size)
  generalize hAe : va_A [(h0, .inr (0, [.int (nI Wd), .int (nI Ht), .ref a_walls, .int rs, .ref a_placeX, .ref a_placeY, .int (nI Pn), .ref a_reachers, .int old, .ref a_lossOf, .int sc, .ref a_upper, .ref a_length, .ref a_headsOn, .ref a_turn, .ref a_lack, .ref a_joined, .int jc])), (a_placeX, .inl (cI, 12, .inl f_placeX)), (a_placeY, .inl (cI, 12, .inl f_placeY)), (a_lossOf, .inl (cI, 13, .inl f_lossOf)), (a_upper, .inl (cI, 12, .inl f_upper)), (a_length, .inl (cI, 12, .inl f_length)), (a_headsOn, .inl (cI, 12, .inl f_headsOn)), (a_turn, .inl (cI, 12, .inl f_turn)), (a_lack, .inl (cI, 12, .inl f_lack)), (a_joined, .inl (cI, 12, .inl f_joined))] s.heap.size = A at hD ⊢
  have hA : ∀ q : Nat, s.heap.size ≤ q → A q := fun q h => by rw [← hAe]; exact Or.inr h
  have hS : va_S A s.heap s.heap [] := va_S.rf
  have hl := lv_entry ([.ref h0, .int set]) (n := 2) (Nat.le_of_ble_eq_true rfl)
  rw [lg_entry_eq]
  generalize (lg_sl ([.ref h0, .int set]) ++ List.replicate (2 - (lg_sl ([.ref h0, .int set])).length) Slot.unset).toArray = ls at hl ⊢
  have hl : lv_has ls 2 [(0, .ref h0), (1, .int set)] := hl
  refine lv_aload_n hx hb dN_layPipes_0 rfl (lv_at hl 0 rfl) ?_
  refine lv_iload_n hx hb dN_layPipes_1 rfl (lv_at hl 1 rfl) ?_
  refine xm_Vv (S := Unit) (As := [.int set]) (w1 := fun _ => [(h0, .inr (0, [.int (nI Wd), .int (nI Ht), .ref a_walls, .int rs, .ref a_placeX, .ref a_placeY, .int (nI Pn), .ref a_reachers, .int old, .ref a_lossOf, .int sc, .ref a_upper, .ref a_length, .ref a_headsOn, .ref a_turn, .ref a_lack, .ref a_joined, .int ((sn_join f_placeX f_placeY set f_upper f_length f_turn f_joined).2.2.2.2)])), (a_placeX, .inl (cI, 12, .inl f_placeX)), (a_placeY, .inl (cI, 12, .inl f_placeY)), (a_upper, .inl (cI, 12, .inl ((sn_join f_placeX f_placeY set f_upper f_length f_turn f_joined).1))), (a_length, .inl (cI, 12, .inl ((sn_join f_placeX f_placeY set f_upper f_length f_turn f_joined).2.1))), (a_turn, .inl (cI, 12, .inl ((sn_join f_placeX f_placeY set f_upper f_length f_turn f_joined).2.2.1))), (a_joined, .inl (cI, 12, .inl ((sn_join f_placeX f_placeY set f_upper f_length f_turn f_joined).2.2.2.1)))]) (wz := fun _ => [(h0, .inr (0, [.int (nI Wd), .int (nI Ht), .ref a_walls, .int rs, .ref a_placeX, .ref a_placeY, .int (nI Pn), .ref a_reachers, .int old, .ref a_lossOf, .int sc, .ref a_upper, .ref a_length, .ref a_headsOn, .ref a_turn, .ref a_lack, .ref a_joined, .int ((sn_join f_placeX f_placeY set f_upper f_length f_turn f_joined).2.2.2.2)])), (a_placeX, .inl (cI, 12, .inl f_placeX)), (a_placeY, .inl (cI, 12, .inl f_placeY)), (a_lossOf, .inl (cI, 13, .inl f_lossOf)), (a_upper, .inl (cI, 12, .inl ((sn_join f_placeX f_placeY set f_upper f_length f_turn f_joined).1))), (a_length, .inl (cI, 12, .inl ((sn_join f_placeX f_placeY set f_upper f_length f_turn f_joined).2.1))), (a_headsOn, .inl (cI, 12, .inl f_headsOn)), (a_turn, .inl (cI, 12, .inl ((sn_join f_placeX f_placeY set f_upper f_length f_turn f_joined).2.2.1))), (a_lack, .inl (cI, 12, .inl f_lack)), (a_joined, .inl (cI, 12, .inl ((sn_join f_placeX f_placeY set f_upper f_length f_turn f_joined).2.2.2.1)))]) (wr := [(a_lossOf, .inl (cI, 13, .inl f_lossOf)), (a_headsOn, .inl (cI, 12, .inl f_headsOn)), (a_lack, .inl (cI, 12, .inl f_lack))]) ⟨hx, hb, hml, hown, hts⟩ (cN_joinPlaces l dC dI h0 a_walls a_placeX a_placeY a_reachers a_lossOf a_upper a_length a_headsOn a_turn a_lack a_joined Wd Ht Pn rs old sc jc cI f_placeX f_placeY f_upper f_length f_turn f_joined set _) (cwV 1 hts gN178 rfl rfl rfl (by decide +kernel) ⟨Nat.le_of_ble_eq_true rfl, Nat.le_of_ble_eq_true rfl⟩) hK hP hD hS hA [0, 1, 2, 4, 5, 7, 9] [3, 6, 8] [3, 4, 5, 0, 6, 7, 1, 8, 2, 9] [0] rfl rfl (fun _ => rfl) (by decide) (by decide) (by decide) (by decide) rfl 0 0 rfl rfl rfl rfl hl.1 rfl (Nat.le_of_ble_eq_true rfl) dN_layPipes_2 ⟨Nat.zero_le _, Nat.zero_le _⟩ (fun u H locs hr_1 hP hD hS => ?_)
  obtain ⟨J, hJ, eJ, hj⟩ := sn_join_spec f_placeX f_placeY set f_upper f_length f_turn f_joined
  rw [eJ] at hP hD
  refine lv_aload_n hx hb dN_layPipes_5 rfl (lv_at hl 0 rfl) ?_
  refine xm_Vv (S := Unit) (As := []) (w1 := fun _ => [(h0, .inr (0, [.int (nI Wd), .int (nI Ht), .ref a_walls, .int rs, .ref a_placeX, .ref a_placeY, .int (nI Pn), .ref a_reachers, .int old, .ref a_lossOf, .int sc, .ref a_upper, .ref a_length, .ref a_headsOn, .ref a_turn, .ref a_lack, .ref a_joined, .int (nI J)])), (a_upper, .inl (cI, 12, .inl ((sn_join f_placeX f_placeY set f_upper f_length f_turn f_joined).1))), (a_headsOn, .inl (cI, 12, .inl (sn_ch ((sn_join f_placeX f_placeY set f_upper f_length f_turn f_joined).1) ((sn_join f_placeX f_placeY set f_upper f_length f_turn f_joined).2.2.2.1) J (sn_fill 1 12 0 f_headsOn)))), (a_joined, .inl (cI, 12, .inl ((sn_join f_placeX f_placeY set f_upper f_length f_turn f_joined).2.2.2.1)))]) (wz := fun _ => [(h0, .inr (0, [.int (nI Wd), .int (nI Ht), .ref a_walls, .int rs, .ref a_placeX, .ref a_placeY, .int (nI Pn), .ref a_reachers, .int old, .ref a_lossOf, .int sc, .ref a_upper, .ref a_length, .ref a_headsOn, .ref a_turn, .ref a_lack, .ref a_joined, .int (nI J)])), (a_placeX, .inl (cI, 12, .inl f_placeX)), (a_placeY, .inl (cI, 12, .inl f_placeY)), (a_lossOf, .inl (cI, 13, .inl f_lossOf)), (a_upper, .inl (cI, 12, .inl ((sn_join f_placeX f_placeY set f_upper f_length f_turn f_joined).1))), (a_length, .inl (cI, 12, .inl ((sn_join f_placeX f_placeY set f_upper f_length f_turn f_joined).2.1))), (a_headsOn, .inl (cI, 12, .inl (sn_ch ((sn_join f_placeX f_placeY set f_upper f_length f_turn f_joined).1) ((sn_join f_placeX f_placeY set f_upper f_length f_turn f_joined).2.2.2.1) J (sn_fill 1 12 0 f_headsOn)))), (a_turn, .inl (cI, 12, .inl ((sn_join f_placeX f_placeY set f_upper f_length f_turn f_joined).2.2.1))), (a_lack, .inl (cI, 12, .inl f_lack)), (a_joined, .inl (cI, 12, .inl ((sn_join f_placeX f_placeY set f_upper f_length f_turn f_joined).2.2.2.1)))]) (wr := [(a_placeX, .inl (cI, 12, .inl f_placeX)), (a_placeY, .inl (cI, 12, .inl f_placeY)), (a_lossOf, .inl (cI, 13, .inl f_lossOf)), (a_length, .inl (cI, 12, .inl ((sn_join f_placeX f_placeY set f_upper f_length f_turn f_joined).2.1))), (a_turn, .inl (cI, 12, .inl ((sn_join f_placeX f_placeY set f_upper f_length f_turn f_joined).2.2.1))), (a_lack, .inl (cI, 12, .inl f_lack))]) ⟨hx, hb, hml, hown, hts⟩ (cN_countHeads l dC dI h0 a_walls a_placeX a_placeY a_reachers a_lossOf a_upper a_length a_headsOn a_turn a_lack a_joined Wd Ht Pn rs old sc J cI ((sn_join f_placeX f_placeY set f_upper f_length f_turn f_joined).1) f_headsOn ((sn_join f_placeX f_placeY set f_upper f_length f_turn f_joined).2.2.2.1) _ hJ hj) (cwV 0 hts gN181 rfl rfl rfl (by decide +kernel) ⟨Nat.le_of_ble_eq_true rfl, Nat.le_of_ble_eq_true rfl⟩) hK hP hD hS hA [0, 4, 6, 9] [1, 2, 3, 5, 7, 8] [6, 0, 1, 2, 7, 3, 8, 4, 5, 9] [0] rfl rfl (fun _ => rfl) (by decide) (by decide) (by decide) (by decide) rfl 0 0 rfl rfl rfl rfl hl.1 rfl (Nat.le_of_ble_eq_true rfl) dN_layPipes_6 ⟨Nat.zero_le _, Nat.zero_le _⟩ (fun u H locs hr_2 hP hD hS => ?_)
  refine lv_aload_n hx hb dN_layPipes_9 rfl (lv_at hl 0 rfl) ?_
  refine xm_Vv (S := Unit) (As := []) (w1 := fun _ => [(h0, .inr (0, [.int (nI Wd), .int (nI Ht), .ref a_walls, .int rs, .ref a_placeX, .ref a_placeY, .int (nI Pn), .ref a_reachers, .int old, .ref a_lossOf, .int sc, .ref a_upper, .ref a_length, .ref a_headsOn, .ref a_turn, .ref a_lack, .ref a_joined, .int (nI J)])), (a_lossOf, .inl (cI, 13, .inl f_lossOf)), (a_upper, .inl (cI, 12, .inl ((sn_join f_placeX f_placeY set f_upper f_length f_turn f_joined).1))), (a_length, .inl (cI, 12, .inl ((sn_join f_placeX f_placeY set f_upper f_length f_turn f_joined).2.1))), (a_headsOn, .inl (cI, 12, .inl (sn_ch ((sn_join f_placeX f_placeY set f_upper f_length f_turn f_joined).1) ((sn_join f_placeX f_placeY set f_upper f_length f_turn f_joined).2.2.2.1) J (sn_fill 1 12 0 f_headsOn)))), (a_lack, .inl (cI, 12, .inl (sn_al f_lossOf ((sn_join f_placeX f_placeY set f_upper f_length f_turn f_joined).1) ((sn_join f_placeX f_placeY set f_upper f_length f_turn f_joined).2.1) (sn_ch ((sn_join f_placeX f_placeY set f_upper f_length f_turn f_joined).1) ((sn_join f_placeX f_placeY set f_upper f_length f_turn f_joined).2.2.2.1) J (sn_fill 1 12 0 f_headsOn)) ((sn_join f_placeX f_placeY set f_upper f_length f_turn f_joined).2.2.2.1) J 0 f_lack))), (a_joined, .inl (cI, 12, .inl ((sn_join f_placeX f_placeY set f_upper f_length f_turn f_joined).2.2.2.1)))]) (wz := fun _ => [(h0, .inr (0, [.int (nI Wd), .int (nI Ht), .ref a_walls, .int rs, .ref a_placeX, .ref a_placeY, .int (nI Pn), .ref a_reachers, .int old, .ref a_lossOf, .int sc, .ref a_upper, .ref a_length, .ref a_headsOn, .ref a_turn, .ref a_lack, .ref a_joined, .int (nI J)])), (a_placeX, .inl (cI, 12, .inl f_placeX)), (a_placeY, .inl (cI, 12, .inl f_placeY)), (a_lossOf, .inl (cI, 13, .inl f_lossOf)), (a_upper, .inl (cI, 12, .inl ((sn_join f_placeX f_placeY set f_upper f_length f_turn f_joined).1))), (a_length, .inl (cI, 12, .inl ((sn_join f_placeX f_placeY set f_upper f_length f_turn f_joined).2.1))), (a_headsOn, .inl (cI, 12, .inl (sn_ch ((sn_join f_placeX f_placeY set f_upper f_length f_turn f_joined).1) ((sn_join f_placeX f_placeY set f_upper f_length f_turn f_joined).2.2.2.1) J (sn_fill 1 12 0 f_headsOn)))), (a_turn, .inl (cI, 12, .inl ((sn_join f_placeX f_placeY set f_upper f_length f_turn f_joined).2.2.1))), (a_lack, .inl (cI, 12, .inl (sn_al f_lossOf ((sn_join f_placeX f_placeY set f_upper f_length f_turn f_joined).1) ((sn_join f_placeX f_placeY set f_upper f_length f_turn f_joined).2.1) (sn_ch ((sn_join f_placeX f_placeY set f_upper f_length f_turn f_joined).1) ((sn_join f_placeX f_placeY set f_upper f_length f_turn f_joined).2.2.2.1) J (sn_fill 1 12 0 f_headsOn)) ((sn_join f_placeX f_placeY set f_upper f_length f_turn f_joined).2.2.2.1) J 0 f_lack))), (a_joined, .inl (cI, 12, .inl ((sn_join f_placeX f_placeY set f_upper f_length f_turn f_joined).2.2.2.1)))]) (wr := [(a_placeX, .inl (cI, 12, .inl f_placeX)), (a_placeY, .inl (cI, 12, .inl f_placeY)), (a_turn, .inl (cI, 12, .inl ((sn_join f_placeX f_placeY set f_upper f_length f_turn f_joined).2.2.1)))]) ⟨hx, hb, hml, hown, hts⟩ (cN_addLacks l dC dI h0 a_walls a_placeX a_placeY a_reachers a_lossOf a_upper a_length a_headsOn a_turn a_lack a_joined Wd Ht Pn rs old sc J cI f_lossOf ((sn_join f_placeX f_placeY set f_upper f_length f_turn f_joined).1) ((sn_join f_placeX f_placeY set f_upper f_length f_turn f_joined).2.1) (sn_ch ((sn_join f_placeX f_placeY set f_upper f_length f_turn f_joined).1) ((sn_join f_placeX f_placeY set f_upper f_length f_turn f_joined).2.2.2.1) J (sn_fill 1 12 0 f_headsOn)) f_lack ((sn_join f_placeX f_placeY set f_upper f_length f_turn f_joined).2.2.2.1) _ hJ hj) (cwV 0 hts gN184 rfl rfl rfl (by decide +kernel) ⟨Nat.le_of_ble_eq_true rfl, Nat.le_of_ble_eq_true rfl⟩) hK hP hD hS hA [0, 3, 4, 5, 6, 8, 9] [1, 2, 7] [3, 0, 1, 4, 5, 6, 7, 2, 8, 9] [0] rfl rfl (fun _ => rfl) (by decide) (by decide) (by decide) (by decide) rfl 0 0 rfl rfl rfl rfl hl.1 rfl (Nat.le_of_ble_eq_true rfl) dN_layPipes_10 ⟨Nat.zero_le _, Nat.zero_le _⟩ (fun u H locs hr_3 hP hD hS => ?_)
  rw [eJ, nI_clamp (by omega)]
  exact W.vret hx hb hr (fun t ht hW => ⟨⟨(), rfl, trivial, by rw [ht]; exact hP, va_K.moved hW.alike hK, hD⟩, hS.F ht⟩) hS.2.2 dN_layPipes_13
end
section
def xt_IAE : String := "java/lang/IllegalArgumentException"
def xt_ISE : String := "java/lang/IllegalStateException"
def xt_nm : List String := ["java/lang/RuntimeException", "java/lang/Exception"]
def xt_strs : List (Nat × String) := [(162, "there is no such cell"), (95, "reach is out of its bounds"), (102, "the cell is a wall"), (108, "the cell is a place already"), (110, "there are as many places as there may be"), (164, "there is no such place"), (166, "a bit of the set is no place"), (132, "k is below 0"), (147, "heads are out of their bounds"), (149, "loss is out of its bounds"), (154, "there is no such thing of a pipe")]
def xt_bad : List Cond := [.castable xt_IAE xt_IAE, .castable xt_ISE xt_ISE, .declares ⟨"java/lang/RuntimeException", "<init>", "(Ljava/lang/String;)V"⟩, .declares ⟨"java/lang/Exception", "<init>", "(Ljava/lang/String;)V"⟩, .declares ⟨"java/lang/Throwable", "<init>", "(Ljava/lang/String;)V"⟩]
theorem xt_ride {s U : State} (hW : s.WarmedH U.vm) : ∀ w ∈ xt_bad, w.before #[] s = true → w.before #[] U = true := by
  intro w hw
  simp only [xt_bad, List.mem_cons, List.not_mem_nil, or_false] at hw
  rcases hw with rfl | rfl | rfl | rfl | rfl
  · intro h; have h1 : (Cond.castable xt_IAE xt_IAE).before #[] (s.setVm U.vm) = true := Cond.before_shiftedFace (State.Shifted.of_warmed hW) _ rfl h; exact h1
  · intro h; have h1 : (Cond.castable xt_ISE xt_ISE).before #[] (s.setVm U.vm) = true := Cond.before_shiftedFace (State.Shifted.of_warmed hW) _ rfl h; exact h1
  · intro h; have h1 := Cond.before_shiftedFace (State.Shifted.of_warmed hW) _ rfl h; exact h1
  · intro h; have h1 := Cond.before_shiftedFace (State.Shifted.of_warmed hW) _ rfl h; exact h1
  · intro h; have h1 := Cond.before_shiftedFace (State.Shifted.of_warmed hW) _ rfl h; exact h1
theorem xt_arg {s : State} {args : Array Value} : ∀ w ∈ xt_bad, w.before #[] s = true → w.before args s = true := by
  intro w hw
  simp only [xt_bad, List.mem_cons, List.not_mem_nil, or_false] at hw
  rcases hw with rfl | rfl | rfl | rfl | rfl
  · exact fun h => h
  · exact fun h => h
  · exact fun h => h
  · exact fun h => h
  · exact fun h => h
theorem xt_arg0 {s : State} {args : Array Value} : ∀ w ∈ xt_bad, w.before args s = true → w.before #[] s = true := by
  intro w hw
  simp only [xt_bad, List.mem_cons, List.not_mem_nil, or_false] at hw
  rcases hw with rfl | rfl | rfl | rfl | rfl
  · exact fun h => h
  · exact fun h => h
  · exact fun h => h
  · exact fun h => h
  · exact fun h => h
theorem xt_same {s U : State} (hv : U.vm = s.vm) : ∀ w ∈ xt_bad, w.before #[] s = true → w.before #[] U = true := by
  intro w hw h
  have hW : s.WarmedH U.vm := by rw [hv]; exact State.WarmedH.refl s
  exact xt_ride hW w hw h
def xt_S (U : State) : Prop := vx_Zq Bundle.tN "UNASSIGNED_STACK" Bundle.steD (fun q => U.heap.size ≤ q) U U.heap ∧ vx_Zq Bundle.tN "SUPPRESSED_SENTINEL" Bundle.listD (fun q => U.heap.size ≤ q) U U.heap ∧ (∀ x ∈ xt_strs, ∃ a, vk_R R_N x.1 x.2 a U) ∧ ∀ w ∈ xt_bad, w.before #[] U = true
theorem xt_S.same {s U : State} (h : xt_S s) (hU : U.heap = s.heap) (hW : s.WarmedH U.vm) : xt_S U := by
  obtain ⟨h1, h2, h3, h4⟩ := h
  refine ⟨by rw [hU]; exact vx_Zq.moved hW.alike h1, by rw [hU]; exact vx_Zq.moved hW.alike h2, fun x hx => ?_, fun w hw => xt_ride hW w hw (h4 w hw)⟩
  obtain ⟨a, ha⟩ := h3 x hx
  exact ⟨a, vk_R.warm hW ha⟩
theorem xt_S.blind {U : State} (h : xt_S U) (a : Array Value) (g : JFrame) (mk : MethodId) : xt_S (U.calling g mk a) := by
  obtain ⟨h1, h2, h3, h4⟩ := h
  refine ⟨vx_Zq.moved (u := U) (U := U.calling g mk a) (Vm.Alike.refl U.vm) h1, vx_Zq.moved (u := U) (U := U.calling g mk a) (Vm.Alike.refl U.vm) h2, fun x hx => ?_, fun w hw => xt_same (s := U) (U := U.calling g mk a) rfl w hw (h4 w hw)⟩
  obtain ⟨b, hb⟩ := h3 x hx
  exact ⟨b, vk_R.same (u := U) (U := U.calling g mk a) rfl hb⟩
def xt_B (D : va_G) (cl : List vw_C) (ws : va_W) (tys : List (ClassId × FieldType)) (U : State) : Prop := xw D cl ws tys U ∧ xt_S U
theorem xt_blind {D : va_G} {cl : List vw_C} {ws : va_W} {tys : List (ClassId × FieldType)} {av : List Value} : FrameBlind (va_Pc av (xt_B D cl ws tys)) := fun a U g mk q => by
  obtain ⟨q0, ⟨qP, qK⟩, qS⟩ := q
  exact ⟨q0, ⟨qP, va_K.moved (u := U) (U := U.calling g mk a) (Vm.Alike.refl U.vm) qK⟩, qS.blind a g mk⟩
def xt_F : Array Value → State → Outcome → State → Prop := fun _ _ _ _ => False
def xt_X (X : String) : String → State → State → Prop := fun E st t => E = X ∧ va_F (fun _ => False) st t
def MetT (l : Launch) (y : MethodName) (ws : List Cond) (rm : Room) (Pc : Array Value → State → Prop) (X : String) : Prop := vx_Met l y ws rm Pc xt_F (xt_X X) 1 6 (fun _ => False)
theorem xt_bI : ∀ w ∈ (vx_atS R_N 97 xt_IAE xt_nm).filter (fun w => !goodWord w), w ∈ xt_bad := by decide +kernel
theorem xt_bS : ∀ w ∈ (vx_atS R_N 104 xt_ISE xt_nm).filter (fun w => !goodWord w), w ∈ xt_bad := by decide +kernel
theorem xt_aI : ∀ w ∈ (vx_atS R_N 97 xt_IAE xt_nm).filter goodWord, w ∈ WD := by decide +kernel
theorem xt_aS : ∀ w ∈ (vx_atS R_N 104 xt_ISE xt_nm).filter goodWord, w ∈ WD := by decide +kernel
theorem xt_tb : ∀ w ∈ xt_bad, w ∈ lw_tbl := by decide +kernel
theorem xt_gI : ∀ w ∈ Cond.classLink R_N 93 xt_IAE :: Cond.initialized xt_IAE :: vx_atS R_N 97 xt_IAE xt_nm, vx_ot w = true := by decide +kernel
theorem xt_gS : ∀ w ∈ Cond.classLink R_N 100 xt_ISE :: Cond.initialized xt_ISE :: vx_atS R_N 104 xt_ISE xt_nm, vx_ot w = true := by decide +kernel
theorem xt_nf : ∀ n ∈ xt_nm, Bundle.fit n = true := by decide +kernel
section XT
variable {p : Program} {l : Launch} {e : Env} {R : Room} {s : State} {m : MethodId} {args : Array Value} {below : List Frame} {meth : Method} {c : Code} {H : Heap} {Q : State → Prop}
variable {cc : ByteArray} {pc : Nat} {ls : Array Slot} {rest st0 : List Value} {D : va_G} {cl : List vw_C} {tys tc : List (ClassId × FieldType)} {wl wc : va_W}
theorem xt_I (hx : p.tables.exec = Jvm.exec) (hb : c.code = cc) (hlt : l.stackTraces = false) (hown : s.vm.findClass R_N = some m.cls) (hts : ∀ w ∈ WD, w.before args s = true) (hSt : xt_S s) {is : Nat} {text : String} (hin : (is, text) ∈ xt_strs) (hsize : ls.size = c.maxLocals)
    (d0 : decode cc pc = .ok (.new 93, 3)) (d3 : decode cc (pc + 3) = .ok (.dup, 1)) (d4 : decode cc (pc + 4) = .ok (.ldc is, 2)) (d6 : decode cc (pc + 6) = .ok (.invokespecial 97, 3)) (d9 : decode cc (pc + 9) = .ok (.athrow, 1))
    (hout : ∀ x ∈ c.exceptionTable.toList, False) (hRf : 6 ≤ R.frames) (hRl : (rest.map fun v => v.category).sum + 82 ≤ R.locals) (hRc : 1 ≤ R.cells) (hRs : 6 ≤ R.slots) (hlocks : meth.locks = false) :
    W p l e R s m args below meth c s.heap [] 0 0 (vx_MQ below xt_F (xt_X xt_IAE) args s 1 6 (fun _ => False)) (F0 m pc ls rest) := by
  obtain ⟨h1, h2, h3, h4⟩ := hSt
  obtain ⟨sa, hsa⟩ := h3 _ hin
  exact vx_throwS (names := xt_nm) (cls := xt_IAE) (text := text) hx hb hlt hown (by decide +kernel) xt_nf (hts _ clN93) (hts _ iniIAE) hsa
    (vx_hat (fun w hw => hts w (xt_aI w hw)) xt_bI (fun w hw => xt_arg w hw (h4 w hw))) xt_gI h1 h2 va_S.rf hsize d0 d3 d4 d6 d9 (fun x hx => (hout x hx).elim) (by show 2 + 3 < R.frames; omega) (by show _ + (13 * (2 + 1) + 43) ≤ _; omega) (by omega) (by omega) hlocks
    (fun t _ a b => ⟨rfl, a, fun q hq _ => b q hq⟩) (fun _ h => absurd h List.not_mem_nil) (by omega) (by omega)
theorem xt_St (hx : p.tables.exec = Jvm.exec) (hb : c.code = cc) (hlt : l.stackTraces = false) (hown : s.vm.findClass R_N = some m.cls) (hts : ∀ w ∈ WD, w.before args s = true) (hSt : xt_S s) {is : Nat} {text : String} (hin : (is, text) ∈ xt_strs) (hsize : ls.size = c.maxLocals)
    (d0 : decode cc pc = .ok (.new 100, 3)) (d3 : decode cc (pc + 3) = .ok (.dup, 1)) (d4 : decode cc (pc + 4) = .ok (.ldc is, 2)) (d6 : decode cc (pc + 6) = .ok (.invokespecial 104, 3)) (d9 : decode cc (pc + 9) = .ok (.athrow, 1))
    (hout : ∀ x ∈ c.exceptionTable.toList, False) (hRf : 6 ≤ R.frames) (hRl : (rest.map fun v => v.category).sum + 82 ≤ R.locals) (hRc : 1 ≤ R.cells) (hRs : 6 ≤ R.slots) (hlocks : meth.locks = false) :
    W p l e R s m args below meth c s.heap [] 0 0 (vx_MQ below xt_F (xt_X xt_ISE) args s 1 6 (fun _ => False)) (F0 m pc ls rest) := by
  obtain ⟨h1, h2, h3, h4⟩ := hSt
  obtain ⟨sa, hsa⟩ := h3 _ hin
  exact vx_throwS (names := xt_nm) (cls := xt_ISE) (text := text) hx hb hlt hown (by decide +kernel) xt_nf (hts _ clN100) (hts _ iniISE) hsa
    (vx_hat (fun w hw => hts w (xt_aS w hw)) xt_bS (fun w hw => xt_arg w hw (h4 w hw))) xt_gS h1 h2 va_S.rf hsize d0 d3 d4 d6 d9 (fun x hx => (hout x hx).elim) (by show 2 + 3 < R.frames; omega) (by show _ + (13 * (2 + 1) + 43) ≤ _; omega) (by omega) (by omega) hlocks
    (fun t _ a b => ⟨rfl, a, fun q hq _ => b q hq⟩) (fun _ h => absurd h List.not_mem_nil) (by omega) (by omega)
variable {y : MethodName} {bytes : ByteArray} {maxL nL n index : Nat} {ret : Option FieldType} {ws : List Cond} {rm : Room} {Ts : List Cond} {own C X : String} {b : Addr} {As : List Value}
theorem xt_nil {L : List Loc} (h : ∀ q ∈ L, (fun _ : Addr => False) q.base) : L = [] := by
  cases L with
  | nil => rfl
  | cons q L => exact absurd (h q List.mem_cons_self) (fun x => x)
/-- the callee throws, and so does this method -/
theorem xt_V (S : CallFix p m c cc nL s args Ts own) (hM : MetT l y ws rm (va_Pc (.ref b :: As) (xt_B D cl wc tc)) X) (cw : CallW R s args own C index y bytes maxL ret ws rm 1 6 n) (hSt : xt_S s)
    (hK : va_K D cl tys s) (hP : va_P D cl wl s.heap) (iw it : List Nat) (hiw : iw.filterMap (fun i => wl[i]?) = wc) (hit : it.filterMap (fun i => tys[i]?) = tc) (ci q0 : Nat) {q : vw_C} {fs : List Value} (hc : cl[ci]? = some q) (he : wl[q0]? = some (b, .inr (ci, fs))) (hq : q.1 = C)
    (hn : As.length = n) (hsize : ls.size = nL) (hstack : st0 = As.reverse ++ .ref b :: rest) (hW : (rest.map fun v => v.category).sum ≤ 8) (hdg : decode cc pc = .ok (.invokevirtual index, 3)) (hf : 1 ≤ R.cells ∧ 6 ≤ R.slots) (hout : ∀ x ∈ c.exceptionTable.toList, False) (hlocks : meth.locks = false) :
    W p l e R s m args below meth c s.heap [] 0 0 (vx_MQ below xt_F (xt_X X) args s 1 6 (fun _ => False)) (F0 m pc ls st0) := by
  have hr := vx_runV (p := p) (e := e) (below := below) (meth := meth) (locs := []) (cells := 0) (slots := 0) (g := F0 m pc ls st0) (As := As) (rest := rest) S hM cw ⟨xt_blind, by rw [← hq]; exact va_recv hK hP hc he, fun U hU hW => ⟨rfl, xw_at (hK.sub it hit) (hP.sub iw hiw) U hU hW, hSt.same hU hW⟩⟩ rfl hn hsize hstack (lv_room hW) hdg ⟨by omega, by omega⟩
  intro T hT XS
  rcases hr T hT XS with ⟨_, _, _, _, _, _, _, _, _, _, hF, _⟩ | ⟨q, st₀, t, T', L, E, ce, h0, X', hL, e1, e2, ⟨rfl, hF⟩, hce, hcv, hcl, st⟩
  · exact hF.elim
  · cases xt_nil hL
    have hh : ∀ t2 : State, t2.heap = T'.heap → s.vm.Alike t2.vm → xt_X E E s t2 := fun t2 h9 _ => ⟨rfl, by rw [h9, e1, ← h0]; exact hF.1, fun z hz _ => by rw [h9, e1, ← h0]; exact hF.2 z (by rw [h0]; exact hz) (fun x => x)⟩
    obtain ⟨t3, a1, a2⟩ := vx_out (p := p) (l := l) (e := e) (R := R) (below := below) (meth := meth) (pc := pc) (ls := ls) (rest := rest) (Qc := xt_F) (XC := xt_X E) (free := fun _ => False) (mc := 1) (ms := 6) (fun x hx => (hout x hx).elim) hlocks (H := T'.heap) (by rw [e1]; exact hce) hcv hcl hh (locs := []) (fun _ h => absurd h List.not_mem_nil) (cells := 0 + 1) (slots := 0 + 6) (by omega) (by omega) T' rfl X'
    exact ⟨t3, st.trans a1, a2⟩
end XT
end
section
def sn_pl (Pn : Nat) (x : Int32) : Bool := !decide (x < 0) && decide (x < nI Pn)
def sn_set (Pn : Nat) (x : Int32) : Bool := decide (x &&& (sn_all Pn ^^^ (-1)) = 0)
set_option maxHeartbeats 4000000 in
set_option maxRecDepth 100000 in
theorem cN_needCell (l : Launch) (dC : Nat → ClassId) (dI : Nat → Nat → Nat) (h0 a_walls a_placeX a_placeY a_reachers a_lossOf a_upper a_length a_headsOn a_turn a_lack a_joined : Nat) (Wd Ht Pn : Nat) (rs old sc jc : Int32) (x y : Int32) (hok : sn_in Wd Ht x y = true) : Met l yN_needCell (kN_needCell :: WD) { frames := 1, cells := 0, slots := 0, locals := 22 } (va_Pc [.ref h0, .int x, .int y] (xw (dC, dI) snC [(h0, .inr (0, [.int (nI Wd), .int (nI Ht), .ref a_walls, .int rs, .ref a_placeX, .ref a_placeY, .int (nI Pn), .ref a_reachers, .int old, .ref a_lossOf, .int sc, .ref a_upper, .ref a_length, .ref a_headsOn, .ref a_turn, .ref a_lack, .ref a_joined, .int jc]))] [])) (xr_Qv) 0 0 (fun _ => False) := by
  refine Met.ofW (cc := bN_needCell) (maxL := 3) (ret := none) (by decide) rfl ?_
  intro p e s m args below meth c s₁ B hml hv
  obtain ⟨rfl, hP, hK⟩ := hv
  have hx := B.exec
  have hb := B.bytes
  have hr := B.returns
  have hts : ∀ w ∈ WD, w.before _ s = true := fun w h => atoms_spec (ws := kN_needCell :: WD) B.pre w (List.mem_cons_of_mem _ h)
  have hown : s.vm.findClass R_N = some m.cls := findClass_of_methodNamed B.named
  have hlocks := B.notSynchronized
  have hl := lv_entry ([.ref h0, .int x, .int y]) (n := 3) (Nat.le_of_ble_eq_true rfl)
  rw [lg_entry_eq]
  generalize (lg_sl ([.ref h0, .int x, .int y]) ++ List.replicate (3 - (lg_sl ([.ref h0, .int x, .int y])).length) Slot.unset).toArray = ls at hl ⊢
  have hl : lv_has ls 3 [(0, .ref h0), (1, .int x), (2, .int y)] := hl
  refine lv_aload_n hx hb dN_needCell_0 rfl (lv_at hl 0 rfl) ?_
  refine lv_iload_n hx hb dN_needCell_1 rfl (lv_at hl 1 rfl) ?_
  refine lv_iload_n hx hb dN_needCell_2 rfl (lv_at hl 2 rfl) ?_
  refine xr_V (As := [.int x, .int y]) ⟨hx, hb, hml, hown, hts⟩ (cN_inPlan l dC dI h0 a_walls a_placeX a_placeY a_reachers a_lossOf a_upper a_length a_headsOn a_turn a_lack a_joined Wd Ht Pn rs old sc jc x y) (cwV 2 hts gN159 rfl rfl rfl (by decide +kernel) ⟨Nat.le_of_ble_eq_true rfl, Nat.le_of_ble_eq_true rfl⟩) hK hP [0] [] rfl rfl 0 0 rfl rfl rfl rfl hl.1 rfl (Nat.le_of_ble_eq_true rfl) dN_needCell_3 ⟨Nat.zero_le _, Nat.zero_le _⟩ (fun r_1 hr_1 => ?_)
  subst hr_1
  refine lv_if_ne (tgt := 19) hx hb dN_needCell_6 (by decide) (fun c_2 => ?_) (fun c_2 => ?_)
  · replace c_2 := bz_1 c_2
    exact W.vret hx hb hr (fun t ht hW => ⟨rfl, ht⟩) (fun _ h => absurd h List.not_mem_nil) dN_needCell_19
  · replace c_2 := bz_0 c_2
    exact absurd hok (by rw [c_2]; decide)
set_option maxHeartbeats 4000000 in
set_option maxRecDepth 100000 in
theorem cN_needCell_T (l : Launch) (hlt : l.stackTraces = false) (dC : Nat → ClassId) (dI : Nat → Nat → Nat) (h0 a_walls a_placeX a_placeY a_reachers a_lossOf a_upper a_length a_headsOn a_turn a_lack a_joined : Nat) (Wd Ht Pn : Nat) (rs old sc jc : Int32) (x y : Int32) (hno : sn_in Wd Ht x y = false) : MetT l yN_needCell (kN_needCell :: WD) { frames := 6, cells := 1, slots := 6, locals := 82 } (va_Pc [.ref h0, .int x, .int y] (xt_B (dC, dI) snC [(h0, .inr (0, [.int (nI Wd), .int (nI Ht), .ref a_walls, .int rs, .ref a_placeX, .ref a_placeY, .int (nI Pn), .ref a_reachers, .int old, .ref a_lossOf, .int sc, .ref a_upper, .ref a_length, .ref a_headsOn, .ref a_turn, .ref a_lack, .ref a_joined, .int jc]))] [])) xt_IAE := by
  refine vx_ofW (cc := bN_needCell) (maxL := 3) (ret := none) (by decide) rfl ?_
  intro p e s m args below meth c s₁ B hml hout hv
  obtain ⟨rfl, ⟨hP, hK⟩, hSt⟩ := hv
  have hx := B.exec
  have hb := B.bytes
  have hr := B.returns
  have hts : ∀ w ∈ WD, w.before _ s = true := fun w h => atoms_spec (ws := kN_needCell :: WD) B.pre w (List.mem_cons_of_mem _ h)
  have hown : s.vm.findClass R_N = some m.cls := findClass_of_methodNamed B.named
  have hlocks := B.notSynchronized
  have hl := lv_entry ([.ref h0, .int x, .int y]) (n := 3) (Nat.le_of_ble_eq_true rfl)
  rw [lg_entry_eq]
  generalize (lg_sl ([.ref h0, .int x, .int y]) ++ List.replicate (3 - (lg_sl ([.ref h0, .int x, .int y])).length) Slot.unset).toArray = ls at hl ⊢
  have hl : lv_has ls 3 [(0, .ref h0), (1, .int x), (2, .int y)] := hl
  refine lv_aload_n hx hb dN_needCell_0 rfl (lv_at hl 0 rfl) ?_
  refine lv_iload_n hx hb dN_needCell_1 rfl (lv_at hl 1 rfl) ?_
  refine lv_iload_n hx hb dN_needCell_2 rfl (lv_at hl 2 rfl) ?_
  refine xr_V (As := [.int x, .int y]) ⟨hx, hb, hml, hown, hts⟩ (cN_inPlan l dC dI h0 a_walls a_placeX a_placeY a_reachers a_lossOf a_upper a_length a_headsOn a_turn a_lack a_joined Wd Ht Pn rs old sc jc x y) (cwV 2 hts gN159 rfl rfl rfl (by decide +kernel) ⟨Nat.le_of_ble_eq_true rfl, Nat.le_of_ble_eq_true rfl⟩) hK hP [0] [] rfl rfl 0 0 rfl rfl rfl rfl hl.1 rfl (Nat.le_of_ble_eq_true rfl) dN_needCell_3 ⟨Nat.zero_le _, Nat.zero_le _⟩ (fun r_1 hr_1 => ?_)
  subst hr_1
  refine lv_if_ne (tgt := 19) hx hb dN_needCell_6 (by decide) (fun c_2 => ?_) (fun c_2 => ?_)
  · exact absurd c_2 (by simp [hno, bz])
  · replace c_2 := bz_0 c_2
    exact xt_I (text := "there is no such cell") hx hb hlt hown hts hSt (by decide) (hl.1.trans hml.symm) dN_needCell_9 dN_needCell_12 dN_needCell_13 dN_needCell_15 dN_needCell_18 hout (Nat.le_of_ble_eq_true rfl) (Nat.le_of_ble_eq_true rfl) (Nat.le_of_ble_eq_true rfl) (Nat.le_of_ble_eq_true rfl) hlocks
set_option maxHeartbeats 4000000 in
set_option maxRecDepth 100000 in
theorem cN_needPlace (l : Launch) (dC : Nat → ClassId) (dI : Nat → Nat → Nat) (h0 a_walls a_placeX a_placeY a_reachers a_lossOf a_upper a_length a_headsOn a_turn a_lack a_joined : Nat) (Wd Ht Pn : Nat) (rs old sc jc : Int32) (x : Int32) (hok : sn_pl Pn x = true) : Met l yN_needPlace (kN_needPlace :: WD) { frames := 0, cells := 0, slots := 0, locals := 0 } (va_Pc [.ref h0, .int x] (xw (dC, dI) snC [(h0, .inr (0, [.int (nI Wd), .int (nI Ht), .ref a_walls, .int rs, .ref a_placeX, .ref a_placeY, .int (nI Pn), .ref a_reachers, .int old, .ref a_lossOf, .int sc, .ref a_upper, .ref a_length, .ref a_headsOn, .ref a_turn, .ref a_lack, .ref a_joined, .int jc]))] [])) (xr_Qv) 0 0 (fun _ => False) := by
  refine Met.ofW (cc := bN_needPlace) (maxL := 2) (ret := none) (by decide) rfl ?_
  intro p e s m args below meth c s₁ B hml hv
  obtain ⟨rfl, hP, hK⟩ := hv
  have hx := B.exec
  have hb := B.bytes
  have hr := B.returns
  have hts : ∀ w ∈ WD, w.before _ s = true := fun w h => atoms_spec (ws := kN_needPlace :: WD) B.pre w (List.mem_cons_of_mem _ h)
  have hown : s.vm.findClass R_N = some m.cls := findClass_of_methodNamed B.named
  have hlocks := B.notSynchronized
  have hl := lv_entry ([.ref h0, .int x]) (n := 2) (Nat.le_of_ble_eq_true rfl)
  rw [lg_entry_eq]
  generalize (lg_sl ([.ref h0, .int x]) ++ List.replicate (2 - (lg_sl ([.ref h0, .int x])).length) Slot.unset).toArray = ls at hl ⊢
  have hl : lv_has ls 2 [(0, .ref h0), (1, .int x)] := hl
  refine lv_iload_n hx hb dN_needPlace_0 rfl (lv_at hl 1 rfl) ?_
  refine lv_if_lt (tgt := 12) hx hb dN_needPlace_1 (by decide) (fun c_1 => ?_) (fun c_1 => ?_)
  · exact absurd hok (by simp [sn_pl, *])
  · refine lv_iload_n hx hb dN_needPlace_4 rfl (lv_at hl 1 rfl) ?_
    refine lv_aload_n hx hb dN_needPlace_5 rfl (lv_at hl 0 rfl) ?_
    refine va_get (D := (dC, dI)) (ci := 0) (v := .int (nI Pn)) (C := R_N) (T := T_N) (N := 18) hx hb hts in_N hown hK hP 0 rfl rfl 6 (by decide) (hts _ flN39) (fun _ h9 => h9) rfl dN_needPlace_6 ?_
    refine lv_icmp_lt (tgt := 22) hx hb dN_needPlace_9 (by decide) (fun c_2 => ?_) (fun c_2 => ?_)
    · exact W.vret hx hb hr (fun t ht hW => ⟨rfl, ht⟩) (fun _ h => absurd h List.not_mem_nil) dN_needPlace_22
    · exact absurd hok (by simp [sn_pl, *])
set_option maxHeartbeats 4000000 in
set_option maxRecDepth 100000 in
theorem cN_needPlace_T (l : Launch) (hlt : l.stackTraces = false) (dC : Nat → ClassId) (dI : Nat → Nat → Nat) (h0 a_walls a_placeX a_placeY a_reachers a_lossOf a_upper a_length a_headsOn a_turn a_lack a_joined : Nat) (Wd Ht Pn : Nat) (rs old sc jc : Int32) (x : Int32) (hno : sn_pl Pn x = false) : MetT l yN_needPlace (kN_needPlace :: WD) { frames := 6, cells := 1, slots := 6, locals := 82 } (va_Pc [.ref h0, .int x] (xt_B (dC, dI) snC [(h0, .inr (0, [.int (nI Wd), .int (nI Ht), .ref a_walls, .int rs, .ref a_placeX, .ref a_placeY, .int (nI Pn), .ref a_reachers, .int old, .ref a_lossOf, .int sc, .ref a_upper, .ref a_length, .ref a_headsOn, .ref a_turn, .ref a_lack, .ref a_joined, .int jc]))] [])) xt_IAE := by
  refine vx_ofW (cc := bN_needPlace) (maxL := 2) (ret := none) (by decide) rfl ?_
  intro p e s m args below meth c s₁ B hml hout hv
  obtain ⟨rfl, ⟨hP, hK⟩, hSt⟩ := hv
  have hx := B.exec
  have hb := B.bytes
  have hr := B.returns
  have hts : ∀ w ∈ WD, w.before _ s = true := fun w h => atoms_spec (ws := kN_needPlace :: WD) B.pre w (List.mem_cons_of_mem _ h)
  have hown : s.vm.findClass R_N = some m.cls := findClass_of_methodNamed B.named
  have hlocks := B.notSynchronized
  have hl := lv_entry ([.ref h0, .int x]) (n := 2) (Nat.le_of_ble_eq_true rfl)
  rw [lg_entry_eq]
  generalize (lg_sl ([.ref h0, .int x]) ++ List.replicate (2 - (lg_sl ([.ref h0, .int x])).length) Slot.unset).toArray = ls at hl ⊢
  have hl : lv_has ls 2 [(0, .ref h0), (1, .int x)] := hl
  refine lv_iload_n hx hb dN_needPlace_0 rfl (lv_at hl 1 rfl) ?_
  refine lv_if_lt (tgt := 12) hx hb dN_needPlace_1 (by decide) (fun c_1 => ?_) (fun c_1 => ?_)
  · exact xt_I (text := "there is no such place") hx hb hlt hown hts hSt (by decide) (hl.1.trans hml.symm) dN_needPlace_12 dN_needPlace_15 dN_needPlace_16 dN_needPlace_18 dN_needPlace_21 hout (Nat.le_of_ble_eq_true rfl) (Nat.le_of_ble_eq_true rfl) (Nat.le_of_ble_eq_true rfl) (Nat.le_of_ble_eq_true rfl) hlocks
  · refine lv_iload_n hx hb dN_needPlace_4 rfl (lv_at hl 1 rfl) ?_
    refine lv_aload_n hx hb dN_needPlace_5 rfl (lv_at hl 0 rfl) ?_
    refine va_get (D := (dC, dI)) (ci := 0) (v := .int (nI Pn)) (C := R_N) (T := T_N) (N := 18) hx hb hts in_N hown hK hP 0 rfl rfl 6 (by decide) (hts _ flN39) (fun _ h9 => h9) rfl dN_needPlace_6 ?_
    refine lv_icmp_lt (tgt := 22) hx hb dN_needPlace_9 (by decide) (fun c_2 => ?_) (fun c_2 => ?_)
    · exact absurd hno (by simp [sn_pl, *])
    · exact xt_I (text := "there is no such place") hx hb hlt hown hts hSt (by decide) (hl.1.trans hml.symm) dN_needPlace_12 dN_needPlace_15 dN_needPlace_16 dN_needPlace_18 dN_needPlace_21 hout (Nat.le_of_ble_eq_true rfl) (Nat.le_of_ble_eq_true rfl) (Nat.le_of_ble_eq_true rfl) (Nat.le_of_ble_eq_true rfl) hlocks
set_option maxHeartbeats 4000000 in
set_option maxRecDepth 100000 in
theorem cN_needSet (l : Launch) (dC : Nat → ClassId) (dI : Nat → Nat → Nat) (h0 a_walls a_placeX a_placeY a_reachers a_lossOf a_upper a_length a_headsOn a_turn a_lack a_joined : Nat) (Wd Ht Pn : Nat) (rs old sc jc : Int32) (x : Int32) (hok : sn_set Pn x = true) : Met l yN_needSet (kN_needSet :: WD) { frames := 1, cells := 0, slots := 0, locals := 20 } (va_Pc [.ref h0, .int x] (xw (dC, dI) snC [(h0, .inr (0, [.int (nI Wd), .int (nI Ht), .ref a_walls, .int rs, .ref a_placeX, .ref a_placeY, .int (nI Pn), .ref a_reachers, .int old, .ref a_lossOf, .int sc, .ref a_upper, .ref a_length, .ref a_headsOn, .ref a_turn, .ref a_lack, .ref a_joined, .int jc]))] [])) (xr_Qv) 0 0 (fun _ => False) := by
  refine Met.ofW (cc := bN_needSet) (maxL := 2) (ret := none) (by decide) rfl ?_
  intro p e s m args below meth c s₁ B hml hv
  obtain ⟨rfl, hP, hK⟩ := hv
  have hx := B.exec
  have hb := B.bytes
  have hr := B.returns
  have hts : ∀ w ∈ WD, w.before _ s = true := fun w h => atoms_spec (ws := kN_needSet :: WD) B.pre w (List.mem_cons_of_mem _ h)
  have hown : s.vm.findClass R_N = some m.cls := findClass_of_methodNamed B.named
  have hlocks := B.notSynchronized
  have hl := lv_entry ([.ref h0, .int x]) (n := 2) (Nat.le_of_ble_eq_true rfl)
  rw [lg_entry_eq]
  generalize (lg_sl ([.ref h0, .int x]) ++ List.replicate (2 - (lg_sl ([.ref h0, .int x])).length) Slot.unset).toArray = ls at hl ⊢
  have hl : lv_has ls 2 [(0, .ref h0), (1, .int x)] := hl
  refine lv_iload_n hx hb dN_needSet_0 rfl (lv_at hl 1 rfl) ?_
  refine lv_aload_n hx hb dN_needSet_1 rfl (lv_at hl 0 rfl) ?_
  refine xr_V (As := []) ⟨hx, hb, hml, hown, hts⟩ (cN_allPlaces l dC dI h0 a_walls a_placeX a_placeY a_reachers a_lossOf a_upper a_length a_headsOn a_turn a_lack a_joined Wd Ht Pn rs old sc jc) (cwV 0 hts gN137 rfl rfl rfl (by decide +kernel) ⟨Nat.le_of_ble_eq_true rfl, Nat.le_of_ble_eq_true rfl⟩) hK hP [0] [] rfl rfl 0 0 rfl rfl rfl rfl hl.1 rfl (Nat.le_of_ble_eq_true rfl) dN_needSet_2 ⟨Nat.zero_le _, Nat.zero_le _⟩ (fun r_1 hr_1 => ?_)
  subst hr_1
  refine lv_iconst (v := (-1)) hx hb dN_needSet_5 (by decide) ?_
  refine lv_ixor hx hb dN_needSet_6 ?_
  refine lv_iand hx hb dN_needSet_7 ?_
  refine lv_if_eq (tgt := 21) hx hb dN_needSet_8 (by decide) (fun c_2 => ?_) (fun c_2 => ?_)
  · exact W.vret hx hb hr (fun t ht hW => ⟨rfl, ht⟩) (fun _ h => absurd h List.not_mem_nil) dN_needSet_21
  · exact absurd (of_decide_eq_true hok) c_2
set_option maxHeartbeats 4000000 in
set_option maxRecDepth 100000 in
theorem cN_needSet_T (l : Launch) (hlt : l.stackTraces = false) (dC : Nat → ClassId) (dI : Nat → Nat → Nat) (h0 a_walls a_placeX a_placeY a_reachers a_lossOf a_upper a_length a_headsOn a_turn a_lack a_joined : Nat) (Wd Ht Pn : Nat) (rs old sc jc : Int32) (x : Int32) (hno : sn_set Pn x = false) : MetT l yN_needSet (kN_needSet :: WD) { frames := 6, cells := 1, slots := 6, locals := 82 } (va_Pc [.ref h0, .int x] (xt_B (dC, dI) snC [(h0, .inr (0, [.int (nI Wd), .int (nI Ht), .ref a_walls, .int rs, .ref a_placeX, .ref a_placeY, .int (nI Pn), .ref a_reachers, .int old, .ref a_lossOf, .int sc, .ref a_upper, .ref a_length, .ref a_headsOn, .ref a_turn, .ref a_lack, .ref a_joined, .int jc]))] [])) xt_IAE := by
  refine vx_ofW (cc := bN_needSet) (maxL := 2) (ret := none) (by decide) rfl ?_
  intro p e s m args below meth c s₁ B hml hout hv
  obtain ⟨rfl, ⟨hP, hK⟩, hSt⟩ := hv
  have hx := B.exec
  have hb := B.bytes
  have hr := B.returns
  have hts : ∀ w ∈ WD, w.before _ s = true := fun w h => atoms_spec (ws := kN_needSet :: WD) B.pre w (List.mem_cons_of_mem _ h)
  have hown : s.vm.findClass R_N = some m.cls := findClass_of_methodNamed B.named
  have hlocks := B.notSynchronized
  have hl := lv_entry ([.ref h0, .int x]) (n := 2) (Nat.le_of_ble_eq_true rfl)
  rw [lg_entry_eq]
  generalize (lg_sl ([.ref h0, .int x]) ++ List.replicate (2 - (lg_sl ([.ref h0, .int x])).length) Slot.unset).toArray = ls at hl ⊢
  have hl : lv_has ls 2 [(0, .ref h0), (1, .int x)] := hl
  refine lv_iload_n hx hb dN_needSet_0 rfl (lv_at hl 1 rfl) ?_
  refine lv_aload_n hx hb dN_needSet_1 rfl (lv_at hl 0 rfl) ?_
  refine xr_V (As := []) ⟨hx, hb, hml, hown, hts⟩ (cN_allPlaces l dC dI h0 a_walls a_placeX a_placeY a_reachers a_lossOf a_upper a_length a_headsOn a_turn a_lack a_joined Wd Ht Pn rs old sc jc) (cwV 0 hts gN137 rfl rfl rfl (by decide +kernel) ⟨Nat.le_of_ble_eq_true rfl, Nat.le_of_ble_eq_true rfl⟩) hK hP [0] [] rfl rfl 0 0 rfl rfl rfl rfl hl.1 rfl (Nat.le_of_ble_eq_true rfl) dN_needSet_2 ⟨Nat.zero_le _, Nat.zero_le _⟩ (fun r_1 hr_1 => ?_)
  subst hr_1
  refine lv_iconst (v := (-1)) hx hb dN_needSet_5 (by decide) ?_
  refine lv_ixor hx hb dN_needSet_6 ?_
  refine lv_iand hx hb dN_needSet_7 ?_
  refine lv_if_eq (tgt := 21) hx hb dN_needSet_8 (by decide) (fun c_2 => ?_) (fun c_2 => ?_)
  · exact absurd c_2 (of_decide_eq_false hno)
  · exact xt_I (text := "a bit of the set is no place") hx hb hlt hown hts hSt (by decide) (hl.1.trans hml.symm) dN_needSet_11 dN_needSet_14 dN_needSet_15 dN_needSet_17 dN_needSet_20 hout (Nat.le_of_ble_eq_true rfl) (Nat.le_of_ble_eq_true rfl) (Nat.le_of_ble_eq_true rfl) (Nat.le_of_ble_eq_true rfl) hlocks
end
section
theorem bz_nar (b : Bool) : narrow .boolean (.int (bz b)) = .int (bz b) := by cases b <;> rfl
theorem sn_in_nI {Wd Ht a b : Nat} (hW : Wd ≤ 16) (hH : Ht ≤ 16) (ha : a < Wd) (hb : b < Ht) : sn_in Wd Ht (nI a) (nI b) = true := by
  have h1 := nI_pos (n := a) (by omega)
  have h2 := nI_pos (n := b) (by omega)
  have h3 := nI_ge (a := a) (b := Wd) ha (by omega)
  have h4 := nI_ge (a := b) (b := Ht) hb (by omega)
  simp only [sn_in, h1, h2, h3, h4, decide_false, Bool.not_false, Bool.and_true]
def sn_rok (x : Int32) : Bool := !decide (x < 1) && decide (x ≤ 400)
def sn_hok (x : Int32) : Bool := !decide (x < 1) && decide (x ≤ 12)
def sn_lok (x : Int32) : Bool := !decide (x < 0) && decide (x ≤ 1000)
def sn_wok (x : Int32) : Bool := !decide (x < 0) && decide (x ≤ 4)
def sn_sz (f : Nat → Int32) (h : Nat) (sc : Int32) : Int32 := if f h = -1 then sc + 1 else sc
set_option maxHeartbeats 4000000 in
set_option maxRecDepth 100000 in
theorem cN_wall (l : Launch) (dC : Nat → ClassId) (dI : Nat → Nat → Nat) (h0 a_walls a_placeX a_placeY a_reachers a_lossOf a_upper a_length a_headsOn a_turn a_lack a_joined : Nat) (Wd Ht Pn : Nat) (rs old sc jc : Int32) (cZ cI : ClassId) (f_walls f_placeX f_placeY f_reachers f_lossOf f_upper f_length f_headsOn f_turn f_lack f_joined : Nat → Int32) (a b : Nat) (on : Int32) (sz : Nat) (hW : Wd ≤ 16) (hH : Ht ≤ 16) (ha : a < Wd) (hb0 : b < Ht) (hon : on = 0 ∨ on = 1) : Met l yN_wall (kN_wall :: WD) { frames := 2, cells := 0, slots := 0, locals := 44 } (va_Pc [.ref h0, .int (nI a), .int (nI b), .int on] (xm (dC, dI) snC [(h0, .inr (0, [.int (nI Wd), .int (nI Ht), .ref a_walls, .int rs, .ref a_placeX, .ref a_placeY, .int (nI Pn), .ref a_reachers, .int old, .ref a_lossOf, .int sc, .ref a_upper, .ref a_length, .ref a_headsOn, .ref a_turn, .ref a_lack, .ref a_joined, .int jc])), (a_walls, .inl (cZ, 256, .inl f_walls)), (a_placeX, .inl (cI, 12, .inl f_placeX)), (a_placeY, .inl (cI, 12, .inl f_placeY)), (a_reachers, .inl (cI, 256, .inl f_reachers)), (a_lossOf, .inl (cI, 13, .inl f_lossOf)), (a_upper, .inl (cI, 12, .inl f_upper)), (a_length, .inl (cI, 12, .inl f_length)), (a_headsOn, .inl (cI, 12, .inl f_headsOn)), (a_turn, .inl (cI, 12, .inl f_turn)), (a_lack, .inl (cI, 12, .inl f_lack)), (a_joined, .inl (cI, 12, .inl f_joined))] [(cZ, .boolean), (cI, .int)] sz)) (va_Qi (fun (r : Int32) (_ : Unit) => r = bz (sn_wall Wd Ht f_walls (nI a) (nI b))) (fun _ => xo (dC, dI) snC [(h0, .inr (0, [.int (nI Wd), .int (nI Ht), .ref a_walls, .int rs, .ref a_placeX, .ref a_placeY, .int (nI Pn), .ref a_reachers, .int 1, .ref a_lossOf, .int sc, .ref a_upper, .ref a_length, .ref a_headsOn, .ref a_turn, .ref a_lack, .ref a_joined, .int jc])), (a_walls, .inl (cZ, 256, .inl (upd f_walls (b * 16 + a) on))), (a_placeX, .inl (cI, 12, .inl f_placeX)), (a_placeY, .inl (cI, 12, .inl f_placeY)), (a_reachers, .inl (cI, 256, .inl f_reachers)), (a_lossOf, .inl (cI, 13, .inl f_lossOf)), (a_upper, .inl (cI, 12, .inl f_upper)), (a_length, .inl (cI, 12, .inl f_length)), (a_headsOn, .inl (cI, 12, .inl f_headsOn)), (a_turn, .inl (cI, 12, .inl f_turn)), (a_lack, .inl (cI, 12, .inl f_lack)), (a_joined, .inl (cI, 12, .inl f_joined))] [(cZ, .boolean), (cI, .int)] (va_A [(h0, .inr (0, [.int (nI Wd), .int (nI Ht), .ref a_walls, .int rs, .ref a_placeX, .ref a_placeY, .int (nI Pn), .ref a_reachers, .int old, .ref a_lossOf, .int sc, .ref a_upper, .ref a_length, .ref a_headsOn, .ref a_turn, .ref a_lack, .ref a_joined, .int jc])), (a_walls, .inl (cZ, 256, .inl f_walls)), (a_placeX, .inl (cI, 12, .inl f_placeX)), (a_placeY, .inl (cI, 12, .inl f_placeY)), (a_reachers, .inl (cI, 256, .inl f_reachers)), (a_lossOf, .inl (cI, 13, .inl f_lossOf)), (a_upper, .inl (cI, 12, .inl f_upper)), (a_length, .inl (cI, 12, .inl f_length)), (a_headsOn, .inl (cI, 12, .inl f_headsOn)), (a_turn, .inl (cI, 12, .inl f_turn)), (a_lack, .inl (cI, 12, .inl f_lack)), (a_joined, .inl (cI, 12, .inl f_joined))] sz)) (va_A [(h0, .inr (0, [.int (nI Wd), .int (nI Ht), .ref a_walls, .int rs, .ref a_placeX, .ref a_placeY, .int (nI Pn), .ref a_reachers, .int old, .ref a_lossOf, .int sc, .ref a_upper, .ref a_length, .ref a_headsOn, .ref a_turn, .ref a_lack, .ref a_joined, .int jc])), (a_walls, .inl (cZ, 256, .inl f_walls)), (a_placeX, .inl (cI, 12, .inl f_placeX)), (a_placeY, .inl (cI, 12, .inl f_placeY)), (a_reachers, .inl (cI, 256, .inl f_reachers)), (a_lossOf, .inl (cI, 13, .inl f_lossOf)), (a_upper, .inl (cI, 12, .inl f_upper)), (a_length, .inl (cI, 12, .inl f_length)), (a_headsOn, .inl (cI, 12, .inl f_headsOn)), (a_turn, .inl (cI, 12, .inl f_turn)), (a_lack, .inl (cI, 12, .inl f_lack)), (a_joined, .inl (cI, 12, .inl f_joined))] sz)) 0 0 (va_A [(h0, .inr (0, [.int (nI Wd), .int (nI Ht), .ref a_walls, .int rs, .ref a_placeX, .ref a_placeY, .int (nI Pn), .ref a_reachers, .int old, .ref a_lossOf, .int sc, .ref a_upper, .ref a_length, .ref a_headsOn, .ref a_turn, .ref a_lack, .ref a_joined, .int jc])), (a_walls, .inl (cZ, 256, .inl f_walls)), (a_placeX, .inl (cI, 12, .inl f_placeX)), (a_placeY, .inl (cI, 12, .inl f_placeY)), (a_reachers, .inl (cI, 256, .inl f_reachers)), (a_lossOf, .inl (cI, 13, .inl f_lossOf)), (a_upper, .inl (cI, 12, .inl f_upper)), (a_length, .inl (cI, 12, .inl f_length)), (a_headsOn, .inl (cI, 12, .inl f_headsOn)), (a_turn, .inl (cI, 12, .inl f_turn)), (a_lack, .inl (cI, 12, .inl f_lack)), (a_joined, .inl (cI, 12, .inl f_joined))] sz) := by
  refine Met.ofW (cc := bN_wall) (maxL := 5) (ret := (some .boolean)) (by decide) rfl ?_
  intro p e s m args below meth c s₁ B hml hv
  obtain ⟨rfl, hsz, hP, hK, hD0⟩ := hv
  have hx := B.exec
  have hb := B.bytes
  have hr := B.returns
  have hts : ∀ w ∈ WD, w.before _ s = true := fun w h => atoms_spec (ws := kN_wall :: WD) B.pre w (List.mem_cons_of_mem _ h)
  have hown : s.vm.findClass R_N = some m.cls := findClass_of_methodNamed B.named
  have hlocks := B.notSynchronized
  subst hsz
  have hD := hD0.self (sz := s.heap.size)
  generalize hAe : va_A [(h0, .inr (0, [.int (nI Wd), .int (nI Ht), .ref a_walls, .int rs, .ref a_placeX, .ref a_placeY, .int (nI Pn), .ref a_reachers, .int old, .ref a_lossOf, .int sc, .ref a_upper, .ref a_length, .ref a_headsOn, .ref a_turn, .ref a_lack, .ref a_joined, .int jc])), (a_walls, .inl (cZ, 256, .inl f_walls)), (a_placeX, .inl (cI, 12, .inl f_placeX)), (a_placeY, .inl (cI, 12, .inl f_placeY)), (a_reachers, .inl (cI, 256, .inl f_reachers)), (a_lossOf, .inl (cI, 13, .inl f_lossOf)), (a_upper, .inl (cI, 12, .inl f_upper)), (a_length, .inl (cI, 12, .inl f_length)), (a_headsOn, .inl (cI, 12, .inl f_headsOn)), (a_turn, .inl (cI, 12, .inl f_turn)), (a_lack, .inl (cI, 12, .inl f_lack)), (a_joined, .inl (cI, 12, .inl f_joined))] s.heap.size = A at hD ⊢
  have hA : ∀ q : Nat, s.heap.size ≤ q → A q := fun q h => by rw [← hAe]; exact Or.inr h
  have hS : va_S A s.heap s.heap [] := va_S.rf
  have hl := lv_entry ([.ref h0, .int (nI a), .int (nI b), .int on]) (n := 5) (Nat.le_of_ble_eq_true rfl)
  rw [lg_entry_eq]
  generalize (lg_sl ([.ref h0, .int (nI a), .int (nI b), .int on]) ++ List.replicate (5 - (lg_sl ([.ref h0, .int (nI a), .int (nI b), .int on])).length) Slot.unset).toArray = ls at hl ⊢
  have hl : lv_has ls 5 [(0, .ref h0), (1, .int (nI a)), (2, .int (nI b)), (3, .int on)] := hl
  refine lv_aload_n hx hb dN_wall_0 rfl (lv_at hl 0 rfl) ?_
  refine lv_iload_n hx hb dN_wall_1 rfl (lv_at hl 1 rfl) ?_
  refine lv_iload_n hx hb dN_wall_2 rfl (lv_at hl 2 rfl) ?_
  refine xr_Vv (As := [.int (nI a), .int (nI b)]) ⟨hx, hb, hml, hown, hts⟩ (cN_needCell l dC dI h0 a_walls a_placeX a_placeY a_reachers a_lossOf a_upper a_length a_headsOn a_turn a_lack a_joined Wd Ht Pn rs old sc jc (nI a) (nI b) (sn_in_nI hW hH ha hb0)) (cwV 2 hts gN82 rfl rfl rfl (by decide +kernel) ⟨Nat.le_of_ble_eq_true rfl, Nat.le_of_ble_eq_true rfl⟩) hK hP [0] [] rfl rfl 0 0 rfl rfl rfl rfl hl.1 rfl (Nat.le_of_ble_eq_true rfl) dN_wall_3 ⟨Nat.zero_le _, Nat.zero_le _⟩ ?_
  refine lv_aload_n hx hb dN_wall_6 rfl (lv_at hl 0 rfl) ?_
  refine lv_iload_n hx hb dN_wall_7 rfl (lv_at hl 1 rfl) ?_
  refine lv_iload_n hx hb dN_wall_8 rfl (lv_at hl 2 rfl) ?_
  refine xr_V (As := [.int (nI a), .int (nI b)]) ⟨hx, hb, hml, hown, hts⟩ (cN_isWall l dC dI h0 a_walls a_placeX a_placeY a_reachers a_lossOf a_upper a_length a_headsOn a_turn a_lack a_joined Wd Ht Pn rs old sc jc cZ f_walls (nI a) (nI b) hW hH) (cwV 2 hts gN86 rfl rfl rfl (by decide +kernel) ⟨Nat.le_of_ble_eq_true rfl, Nat.le_of_ble_eq_true rfl⟩) hK hP [0, 1] [0] rfl rfl 0 0 rfl rfl rfl rfl hl.1 rfl (Nat.le_of_ble_eq_true rfl) dN_wall_9 ⟨Nat.zero_le _, Nat.zero_le _⟩ (fun r_2 hr_2 => ?_)
  subst hr_2
  refine lv_istore (lv' := [(4, .int (bz (sn_wall Wd Ht f_walls (nI a) (nI b)))), (0, .ref h0), (1, .int (nI a)), (2, .int (nI b)), (3, .int on)]) hx hb dN_wall_12 hl (by decide) rfl (fun ls hl => ?_)
  refine lv_aload_n hx hb dN_wall_14 rfl (lv_at hl 1 rfl) ?_
  refine va_get (D := (dC, dI)) (ci := 0) (v := .ref a_walls) (C := R_N) (T := T_N) (N := 18) hx hb hts in_N hown hK hP 0 rfl rfl 2 (by decide) (hts _ flN25) (fun _ h9 => h9) rfl dN_wall_15 ?_
  refine lv_iload_n hx hb dN_wall_18 rfl (lv_at hl 2 rfl) ?_
  refine lv_iload_n hx hb dN_wall_19 rfl (lv_at hl 3 rfl) ?_
  refine xr_S (As := [.int (nI a), .int (nI b)]) ⟨hx, hb, hml, hown, hts⟩ (cN_cellAt l dC dI (nI a) (nI b)) (va_cwS 2 hts gN90 rfl rfl rfl (by decide +kernel) ⟨Nat.le_of_ble_eq_true rfl, Nat.le_of_ble_eq_true rfl⟩) hK hP [] [] rfl rfl rfl hl.1 rfl (Nat.le_of_ble_eq_true rfl) dN_wall_20 ⟨Nat.zero_le _, Nat.zero_le _⟩ (fun r_3 hr_3 => ?_)
  subst hr_3
  rw [show ((nI b) * 16 + (nI a) : Int32) = nI (b * 16 + a) from sn_cell a b]
  refine lv_iload_n hx hb dN_wall_23 rfl (lv_at hl 4 rfl) ?_
  refine xa_zast hx hb hK hP hD hS 1 0 rfl rfl (i := (b * 16 + a)) (x := on) hon (by omega) (by first | decide | omega) dN_wall_24 (fun H locs hP hD hS => ?_)
  have hP : va_P (dC, dI) snC [(h0, .inr (0, [.int (nI Wd), .int (nI Ht), .ref a_walls, .int rs, .ref a_placeX, .ref a_placeY, .int (nI Pn), .ref a_reachers, .int old, .ref a_lossOf, .int sc, .ref a_upper, .ref a_length, .ref a_headsOn, .ref a_turn, .ref a_lack, .ref a_joined, .int jc])), (a_walls, .inl (cZ, 256, .inl (upd f_walls (b * 16 + a) on))), (a_placeX, .inl (cI, 12, .inl f_placeX)), (a_placeY, .inl (cI, 12, .inl f_placeY)), (a_reachers, .inl (cI, 256, .inl f_reachers)), (a_lossOf, .inl (cI, 13, .inl f_lossOf)), (a_upper, .inl (cI, 12, .inl f_upper)), (a_length, .inl (cI, 12, .inl f_length)), (a_headsOn, .inl (cI, 12, .inl f_headsOn)), (a_turn, .inl (cI, 12, .inl f_turn)), (a_lack, .inl (cI, 12, .inl f_lack)), (a_joined, .inl (cI, 12, .inl f_joined))] H := hP
  have hD : va_D A [(h0, .inr (0, [.int (nI Wd), .int (nI Ht), .ref a_walls, .int rs, .ref a_placeX, .ref a_placeY, .int (nI Pn), .ref a_reachers, .int old, .ref a_lossOf, .int sc, .ref a_upper, .ref a_length, .ref a_headsOn, .ref a_turn, .ref a_lack, .ref a_joined, .int jc])), (a_walls, .inl (cZ, 256, .inl (upd f_walls (b * 16 + a) on))), (a_placeX, .inl (cI, 12, .inl f_placeX)), (a_placeY, .inl (cI, 12, .inl f_placeY)), (a_reachers, .inl (cI, 256, .inl f_reachers)), (a_lossOf, .inl (cI, 13, .inl f_lossOf)), (a_upper, .inl (cI, 12, .inl f_upper)), (a_length, .inl (cI, 12, .inl f_length)), (a_headsOn, .inl (cI, 12, .inl f_headsOn)), (a_turn, .inl (cI, 12, .inl f_turn)), (a_lack, .inl (cI, 12, .inl f_lack)), (a_joined, .inl (cI, 12, .inl f_joined))] := hD
  refine lv_aload_n hx hb dN_wall_25 rfl (lv_at hl 1 rfl) ?_
  refine lv_iconst (v := 1) hx hb dN_wall_26 (by decide) ?_
  refine va_put (D := (dC, dI)) (ci := 0) (v := .int 1) (ty := .boolean) (C := R_N) (T := T_N) (N := 18) hx hb hts in_N t_N tok_N n_N hown hK hP hD hS 0 rfl rfl 8 (by decide) (hts _ flN45) (fun _ h9 => h9) rfl (by decide +kernel) rfl rfl (Nat.le_of_ble_eq_true rfl) dN_wall_27 (fun H locs hP hD hS => ?_)
  have hP : va_P (dC, dI) snC [(h0, .inr (0, [.int (nI Wd), .int (nI Ht), .ref a_walls, .int rs, .ref a_placeX, .ref a_placeY, .int (nI Pn), .ref a_reachers, .int 1, .ref a_lossOf, .int sc, .ref a_upper, .ref a_length, .ref a_headsOn, .ref a_turn, .ref a_lack, .ref a_joined, .int jc])), (a_walls, .inl (cZ, 256, .inl (upd f_walls (b * 16 + a) on))), (a_placeX, .inl (cI, 12, .inl f_placeX)), (a_placeY, .inl (cI, 12, .inl f_placeY)), (a_reachers, .inl (cI, 256, .inl f_reachers)), (a_lossOf, .inl (cI, 13, .inl f_lossOf)), (a_upper, .inl (cI, 12, .inl f_upper)), (a_length, .inl (cI, 12, .inl f_length)), (a_headsOn, .inl (cI, 12, .inl f_headsOn)), (a_turn, .inl (cI, 12, .inl f_turn)), (a_lack, .inl (cI, 12, .inl f_lack)), (a_joined, .inl (cI, 12, .inl f_joined))] H := hP
  have hD : va_D A [(h0, .inr (0, [.int (nI Wd), .int (nI Ht), .ref a_walls, .int rs, .ref a_placeX, .ref a_placeY, .int (nI Pn), .ref a_reachers, .int 1, .ref a_lossOf, .int sc, .ref a_upper, .ref a_length, .ref a_headsOn, .ref a_turn, .ref a_lack, .ref a_joined, .int jc])), (a_walls, .inl (cZ, 256, .inl (upd f_walls (b * 16 + a) on))), (a_placeX, .inl (cI, 12, .inl f_placeX)), (a_placeY, .inl (cI, 12, .inl f_placeY)), (a_reachers, .inl (cI, 256, .inl f_reachers)), (a_lossOf, .inl (cI, 13, .inl f_lossOf)), (a_upper, .inl (cI, 12, .inl f_upper)), (a_length, .inl (cI, 12, .inl f_length)), (a_headsOn, .inl (cI, 12, .inl f_headsOn)), (a_turn, .inl (cI, 12, .inl f_turn)), (a_lack, .inl (cI, 12, .inl f_lack)), (a_joined, .inl (cI, 12, .inl f_joined))] := hD
  refine lv_iload hx hb dN_wall_30 (lv_at hl 0 rfl) ?_
  exact W.zret (v := bz (sn_wall Wd Ht f_walls (nI a) (nI b))) hx hb hr (bz_nar _) (fun t ht hW => ⟨⟨bz (sn_wall Wd Ht f_walls (nI a) (nI b)), (), rfl, rfl, by rw [ht]; exact hP, va_K.moved hW.alike hK, hD⟩, hS.F ht⟩) hS.2.2 dN_wall_32
set_option maxHeartbeats 4000000 in
set_option maxRecDepth 100000 in
theorem cN_wall_T (l : Launch) (hlt : l.stackTraces = false) (dC : Nat → ClassId) (dI : Nat → Nat → Nat) (h0 a_walls a_placeX a_placeY a_reachers a_lossOf a_upper a_length a_headsOn a_turn a_lack a_joined : Nat) (Wd Ht Pn : Nat) (rs old sc jc : Int32) (x y on : Int32) (hno : sn_in Wd Ht x y = false) : MetT l yN_wall (kN_wall :: WD) { frames := 7, cells := 1, slots := 6, locals := 104 } (va_Pc [.ref h0, .int x, .int y, .int on] (xt_B (dC, dI) snC [(h0, .inr (0, [.int (nI Wd), .int (nI Ht), .ref a_walls, .int rs, .ref a_placeX, .ref a_placeY, .int (nI Pn), .ref a_reachers, .int old, .ref a_lossOf, .int sc, .ref a_upper, .ref a_length, .ref a_headsOn, .ref a_turn, .ref a_lack, .ref a_joined, .int jc]))] [])) xt_IAE := by
  refine vx_ofW (cc := bN_wall) (maxL := 5) (ret := (some .boolean)) (by decide) rfl ?_
  intro p e s m args below meth c s₁ B hml hout hv
  obtain ⟨rfl, ⟨hP, hK⟩, hSt⟩ := hv
  have hx := B.exec
  have hb := B.bytes
  have hr := B.returns
  have hts : ∀ w ∈ WD, w.before _ s = true := fun w h => atoms_spec (ws := kN_wall :: WD) B.pre w (List.mem_cons_of_mem _ h)
  have hown : s.vm.findClass R_N = some m.cls := findClass_of_methodNamed B.named
  have hlocks := B.notSynchronized
  have hl := lv_entry ([.ref h0, .int x, .int y, .int on]) (n := 5) (Nat.le_of_ble_eq_true rfl)
  rw [lg_entry_eq]
  generalize (lg_sl ([.ref h0, .int x, .int y, .int on]) ++ List.replicate (5 - (lg_sl ([.ref h0, .int x, .int y, .int on])).length) Slot.unset).toArray = ls at hl ⊢
  have hl : lv_has ls 5 [(0, .ref h0), (1, .int x), (2, .int y), (3, .int on)] := hl
  refine lv_aload_n hx hb dN_wall_0 rfl (lv_at hl 0 rfl) ?_
  refine lv_iload_n hx hb dN_wall_1 rfl (lv_at hl 1 rfl) ?_
  refine lv_iload_n hx hb dN_wall_2 rfl (lv_at hl 2 rfl) ?_
  exact xt_V (As := [.int x, .int y]) ⟨hx, hb, hml, hown, hts⟩ (cN_needCell_T l hlt dC dI h0 a_walls a_placeX a_placeY a_reachers a_lossOf a_upper a_length a_headsOn a_turn a_lack a_joined Wd Ht Pn rs old sc jc x y hno) (cwV 2 hts gN82 rfl rfl rfl (by decide +kernel) ⟨Nat.le_of_ble_eq_true rfl, Nat.le_of_ble_eq_true rfl⟩) hSt hK hP [0] [] rfl rfl 0 0 rfl rfl rfl rfl hl.1 rfl (Nat.le_of_ble_eq_true rfl) dN_wall_3 ⟨Nat.le_of_ble_eq_true rfl, Nat.le_of_ble_eq_true rfl⟩ hout hlocks
set_option maxHeartbeats 4000000 in
set_option maxRecDepth 100000 in
theorem cN_reach (l : Launch) (dC : Nat → ClassId) (dI : Nat → Nat → Nat) (h0 a_walls a_placeX a_placeY a_reachers a_lossOf a_upper a_length a_headsOn a_turn a_lack a_joined : Nat) (Wd Ht Pn : Nat) (rs old sc jc : Int32) (cZ cI : ClassId) (f_walls f_placeX f_placeY f_reachers f_lossOf f_upper f_length f_headsOn f_turn f_lack f_joined : Nat → Int32) (x : Int32) (sz : Nat) (hok : sn_rok x = true) : Met l yN_reach (kN_reach :: WD) { frames := 0, cells := 0, slots := 0, locals := 0 } (va_Pc [.ref h0, .int x] (xm (dC, dI) snC [(h0, .inr (0, [.int (nI Wd), .int (nI Ht), .ref a_walls, .int rs, .ref a_placeX, .ref a_placeY, .int (nI Pn), .ref a_reachers, .int old, .ref a_lossOf, .int sc, .ref a_upper, .ref a_length, .ref a_headsOn, .ref a_turn, .ref a_lack, .ref a_joined, .int jc])), (a_walls, .inl (cZ, 256, .inl f_walls)), (a_placeX, .inl (cI, 12, .inl f_placeX)), (a_placeY, .inl (cI, 12, .inl f_placeY)), (a_reachers, .inl (cI, 256, .inl f_reachers)), (a_lossOf, .inl (cI, 13, .inl f_lossOf)), (a_upper, .inl (cI, 12, .inl f_upper)), (a_length, .inl (cI, 12, .inl f_length)), (a_headsOn, .inl (cI, 12, .inl f_headsOn)), (a_turn, .inl (cI, 12, .inl f_turn)), (a_lack, .inl (cI, 12, .inl f_lack)), (a_joined, .inl (cI, 12, .inl f_joined))] [(cZ, .boolean), (cI, .int)] sz)) (va_Qi (fun (r : Int32) (_ : Unit) => r = rs) (fun _ => xo (dC, dI) snC [(h0, .inr (0, [.int (nI Wd), .int (nI Ht), .ref a_walls, .int x, .ref a_placeX, .ref a_placeY, .int (nI Pn), .ref a_reachers, .int 1, .ref a_lossOf, .int sc, .ref a_upper, .ref a_length, .ref a_headsOn, .ref a_turn, .ref a_lack, .ref a_joined, .int jc])), (a_walls, .inl (cZ, 256, .inl f_walls)), (a_placeX, .inl (cI, 12, .inl f_placeX)), (a_placeY, .inl (cI, 12, .inl f_placeY)), (a_reachers, .inl (cI, 256, .inl f_reachers)), (a_lossOf, .inl (cI, 13, .inl f_lossOf)), (a_upper, .inl (cI, 12, .inl f_upper)), (a_length, .inl (cI, 12, .inl f_length)), (a_headsOn, .inl (cI, 12, .inl f_headsOn)), (a_turn, .inl (cI, 12, .inl f_turn)), (a_lack, .inl (cI, 12, .inl f_lack)), (a_joined, .inl (cI, 12, .inl f_joined))] [(cZ, .boolean), (cI, .int)] (va_A [(h0, .inr (0, [.int (nI Wd), .int (nI Ht), .ref a_walls, .int rs, .ref a_placeX, .ref a_placeY, .int (nI Pn), .ref a_reachers, .int old, .ref a_lossOf, .int sc, .ref a_upper, .ref a_length, .ref a_headsOn, .ref a_turn, .ref a_lack, .ref a_joined, .int jc])), (a_walls, .inl (cZ, 256, .inl f_walls)), (a_placeX, .inl (cI, 12, .inl f_placeX)), (a_placeY, .inl (cI, 12, .inl f_placeY)), (a_reachers, .inl (cI, 256, .inl f_reachers)), (a_lossOf, .inl (cI, 13, .inl f_lossOf)), (a_upper, .inl (cI, 12, .inl f_upper)), (a_length, .inl (cI, 12, .inl f_length)), (a_headsOn, .inl (cI, 12, .inl f_headsOn)), (a_turn, .inl (cI, 12, .inl f_turn)), (a_lack, .inl (cI, 12, .inl f_lack)), (a_joined, .inl (cI, 12, .inl f_joined))] sz)) (va_A [(h0, .inr (0, [.int (nI Wd), .int (nI Ht), .ref a_walls, .int rs, .ref a_placeX, .ref a_placeY, .int (nI Pn), .ref a_reachers, .int old, .ref a_lossOf, .int sc, .ref a_upper, .ref a_length, .ref a_headsOn, .ref a_turn, .ref a_lack, .ref a_joined, .int jc])), (a_walls, .inl (cZ, 256, .inl f_walls)), (a_placeX, .inl (cI, 12, .inl f_placeX)), (a_placeY, .inl (cI, 12, .inl f_placeY)), (a_reachers, .inl (cI, 256, .inl f_reachers)), (a_lossOf, .inl (cI, 13, .inl f_lossOf)), (a_upper, .inl (cI, 12, .inl f_upper)), (a_length, .inl (cI, 12, .inl f_length)), (a_headsOn, .inl (cI, 12, .inl f_headsOn)), (a_turn, .inl (cI, 12, .inl f_turn)), (a_lack, .inl (cI, 12, .inl f_lack)), (a_joined, .inl (cI, 12, .inl f_joined))] sz)) 0 0 (va_A [(h0, .inr (0, [.int (nI Wd), .int (nI Ht), .ref a_walls, .int rs, .ref a_placeX, .ref a_placeY, .int (nI Pn), .ref a_reachers, .int old, .ref a_lossOf, .int sc, .ref a_upper, .ref a_length, .ref a_headsOn, .ref a_turn, .ref a_lack, .ref a_joined, .int jc])), (a_walls, .inl (cZ, 256, .inl f_walls)), (a_placeX, .inl (cI, 12, .inl f_placeX)), (a_placeY, .inl (cI, 12, .inl f_placeY)), (a_reachers, .inl (cI, 256, .inl f_reachers)), (a_lossOf, .inl (cI, 13, .inl f_lossOf)), (a_upper, .inl (cI, 12, .inl f_upper)), (a_length, .inl (cI, 12, .inl f_length)), (a_headsOn, .inl (cI, 12, .inl f_headsOn)), (a_turn, .inl (cI, 12, .inl f_turn)), (a_lack, .inl (cI, 12, .inl f_lack)), (a_joined, .inl (cI, 12, .inl f_joined))] sz) := by
  refine Met.ofW (cc := bN_reach) (maxL := 3) (ret := (some .int)) (by decide) rfl ?_
  intro p e s m args below meth c s₁ B hml hv
  obtain ⟨rfl, hsz, hP, hK, hD0⟩ := hv
  have hx := B.exec
  have hb := B.bytes
  have hr := B.returns
  have hts : ∀ w ∈ WD, w.before _ s = true := fun w h => atoms_spec (ws := kN_reach :: WD) B.pre w (List.mem_cons_of_mem _ h)
  have hown : s.vm.findClass R_N = some m.cls := findClass_of_methodNamed B.named
  have hlocks := B.notSynchronized
  subst hsz
  have hD := hD0.self (sz := s.heap.size)
  generalize hAe : va_A [(h0, .inr (0, [.int (nI Wd), .int (nI Ht), .ref a_walls, .int rs, .ref a_placeX, .ref a_placeY, .int (nI Pn), .ref a_reachers, .int old, .ref a_lossOf, .int sc, .ref a_upper, .ref a_length, .ref a_headsOn, .ref a_turn, .ref a_lack, .ref a_joined, .int jc])), (a_walls, .inl (cZ, 256, .inl f_walls)), (a_placeX, .inl (cI, 12, .inl f_placeX)), (a_placeY, .inl (cI, 12, .inl f_placeY)), (a_reachers, .inl (cI, 256, .inl f_reachers)), (a_lossOf, .inl (cI, 13, .inl f_lossOf)), (a_upper, .inl (cI, 12, .inl f_upper)), (a_length, .inl (cI, 12, .inl f_length)), (a_headsOn, .inl (cI, 12, .inl f_headsOn)), (a_turn, .inl (cI, 12, .inl f_turn)), (a_lack, .inl (cI, 12, .inl f_lack)), (a_joined, .inl (cI, 12, .inl f_joined))] s.heap.size = A at hD ⊢
  have hA : ∀ q : Nat, s.heap.size ≤ q → A q := fun q h => by rw [← hAe]; exact Or.inr h
  have hS : va_S A s.heap s.heap [] := va_S.rf
  have hl := lv_entry ([.ref h0, .int x]) (n := 3) (Nat.le_of_ble_eq_true rfl)
  rw [lg_entry_eq]
  generalize (lg_sl ([.ref h0, .int x]) ++ List.replicate (3 - (lg_sl ([.ref h0, .int x])).length) Slot.unset).toArray = ls at hl ⊢
  have hl : lv_has ls 3 [(0, .ref h0), (1, .int x)] := hl
  refine lv_iload_n hx hb dN_reach_0 rfl (lv_at hl 1 rfl) ?_
  refine lv_iconst (v := 1) hx hb dN_reach_1 (by decide) ?_
  refine lv_icmp_lt (tgt := 12) hx hb dN_reach_2 (by decide) (fun c_1 => ?_) (fun c_1 => ?_)
  · exact absurd hok (by simp [sn_rok, *])
  · refine lv_iload_n hx hb dN_reach_5 rfl (lv_at hl 1 rfl) ?_
    refine lv_sipush (v := 400) hx hb dN_reach_6 (by decide) ?_
    refine lv_icmp_le (tgt := 22) hx hb dN_reach_9 (by decide) (fun c_2 => ?_) (fun c_2 => ?_)
    · refine lv_aload_n hx hb dN_reach_22 rfl (lv_at hl 0 rfl) ?_
      refine va_get (D := (dC, dI)) (ci := 0) (v := .int rs) (C := R_N) (T := T_N) (N := 18) hx hb hts in_N hown hK hP 0 rfl rfl 3 (by decide) (hts _ flN29) (fun _ h9 => h9) rfl dN_reach_23 ?_
      refine lv_istore_n (lv' := [(2, .int rs), (0, .ref h0), (1, .int x)]) hx hb dN_reach_26 rfl hl (by decide) rfl (fun ls hl => ?_)
      refine lv_aload_n hx hb dN_reach_27 rfl (lv_at hl 1 rfl) ?_
      refine lv_iload_n hx hb dN_reach_28 rfl (lv_at hl 2 rfl) ?_
      refine va_put (D := (dC, dI)) (ci := 0) (v := .int x) (ty := .int) (C := R_N) (T := T_N) (N := 18) hx hb hts in_N t_N tok_N n_N hown hK hP hD hS 0 rfl rfl 3 (by decide) (hts _ flN29) (fun _ h9 => h9) rfl (by decide +kernel) rfl rfl (Nat.le_of_ble_eq_true rfl) dN_reach_29 (fun H locs hP hD hS => ?_)
      have hP : va_P (dC, dI) snC [(h0, .inr (0, [.int (nI Wd), .int (nI Ht), .ref a_walls, .int x, .ref a_placeX, .ref a_placeY, .int (nI Pn), .ref a_reachers, .int old, .ref a_lossOf, .int sc, .ref a_upper, .ref a_length, .ref a_headsOn, .ref a_turn, .ref a_lack, .ref a_joined, .int jc])), (a_walls, .inl (cZ, 256, .inl f_walls)), (a_placeX, .inl (cI, 12, .inl f_placeX)), (a_placeY, .inl (cI, 12, .inl f_placeY)), (a_reachers, .inl (cI, 256, .inl f_reachers)), (a_lossOf, .inl (cI, 13, .inl f_lossOf)), (a_upper, .inl (cI, 12, .inl f_upper)), (a_length, .inl (cI, 12, .inl f_length)), (a_headsOn, .inl (cI, 12, .inl f_headsOn)), (a_turn, .inl (cI, 12, .inl f_turn)), (a_lack, .inl (cI, 12, .inl f_lack)), (a_joined, .inl (cI, 12, .inl f_joined))] H := hP
      have hD : va_D A [(h0, .inr (0, [.int (nI Wd), .int (nI Ht), .ref a_walls, .int x, .ref a_placeX, .ref a_placeY, .int (nI Pn), .ref a_reachers, .int old, .ref a_lossOf, .int sc, .ref a_upper, .ref a_length, .ref a_headsOn, .ref a_turn, .ref a_lack, .ref a_joined, .int jc])), (a_walls, .inl (cZ, 256, .inl f_walls)), (a_placeX, .inl (cI, 12, .inl f_placeX)), (a_placeY, .inl (cI, 12, .inl f_placeY)), (a_reachers, .inl (cI, 256, .inl f_reachers)), (a_lossOf, .inl (cI, 13, .inl f_lossOf)), (a_upper, .inl (cI, 12, .inl f_upper)), (a_length, .inl (cI, 12, .inl f_length)), (a_headsOn, .inl (cI, 12, .inl f_headsOn)), (a_turn, .inl (cI, 12, .inl f_turn)), (a_lack, .inl (cI, 12, .inl f_lack)), (a_joined, .inl (cI, 12, .inl f_joined))] := hD
      refine lv_aload_n hx hb dN_reach_32 rfl (lv_at hl 1 rfl) ?_
      refine lv_iconst (v := 1) hx hb dN_reach_33 (by decide) ?_
      refine va_put (D := (dC, dI)) (ci := 0) (v := .int 1) (ty := .boolean) (C := R_N) (T := T_N) (N := 18) hx hb hts in_N t_N tok_N n_N hown hK hP hD hS 0 rfl rfl 8 (by decide) (hts _ flN45) (fun _ h9 => h9) rfl (by decide +kernel) rfl rfl (Nat.le_of_ble_eq_true rfl) dN_reach_34 (fun H locs hP hD hS => ?_)
      have hP : va_P (dC, dI) snC [(h0, .inr (0, [.int (nI Wd), .int (nI Ht), .ref a_walls, .int x, .ref a_placeX, .ref a_placeY, .int (nI Pn), .ref a_reachers, .int 1, .ref a_lossOf, .int sc, .ref a_upper, .ref a_length, .ref a_headsOn, .ref a_turn, .ref a_lack, .ref a_joined, .int jc])), (a_walls, .inl (cZ, 256, .inl f_walls)), (a_placeX, .inl (cI, 12, .inl f_placeX)), (a_placeY, .inl (cI, 12, .inl f_placeY)), (a_reachers, .inl (cI, 256, .inl f_reachers)), (a_lossOf, .inl (cI, 13, .inl f_lossOf)), (a_upper, .inl (cI, 12, .inl f_upper)), (a_length, .inl (cI, 12, .inl f_length)), (a_headsOn, .inl (cI, 12, .inl f_headsOn)), (a_turn, .inl (cI, 12, .inl f_turn)), (a_lack, .inl (cI, 12, .inl f_lack)), (a_joined, .inl (cI, 12, .inl f_joined))] H := hP
      have hD : va_D A [(h0, .inr (0, [.int (nI Wd), .int (nI Ht), .ref a_walls, .int x, .ref a_placeX, .ref a_placeY, .int (nI Pn), .ref a_reachers, .int 1, .ref a_lossOf, .int sc, .ref a_upper, .ref a_length, .ref a_headsOn, .ref a_turn, .ref a_lack, .ref a_joined, .int jc])), (a_walls, .inl (cZ, 256, .inl f_walls)), (a_placeX, .inl (cI, 12, .inl f_placeX)), (a_placeY, .inl (cI, 12, .inl f_placeY)), (a_reachers, .inl (cI, 256, .inl f_reachers)), (a_lossOf, .inl (cI, 13, .inl f_lossOf)), (a_upper, .inl (cI, 12, .inl f_upper)), (a_length, .inl (cI, 12, .inl f_length)), (a_headsOn, .inl (cI, 12, .inl f_headsOn)), (a_turn, .inl (cI, 12, .inl f_turn)), (a_lack, .inl (cI, 12, .inl f_lack)), (a_joined, .inl (cI, 12, .inl f_joined))] := hD
      refine lv_iload_n hx hb dN_reach_37 rfl (lv_at hl 0 rfl) ?_
      exact W.iret (v := rs) hx hb hr (fun t ht hW => ⟨⟨rs, (), rfl, rfl, by rw [ht]; exact hP, va_K.moved hW.alike hK, hD⟩, hS.F ht⟩) hS.2.2 dN_reach_38
    · exact absurd hok (by simp [sn_rok, *])
set_option maxHeartbeats 4000000 in
set_option maxRecDepth 100000 in
theorem cN_reach_T (l : Launch) (hlt : l.stackTraces = false) (dC : Nat → ClassId) (dI : Nat → Nat → Nat) (h0 a_walls a_placeX a_placeY a_reachers a_lossOf a_upper a_length a_headsOn a_turn a_lack a_joined : Nat) (Wd Ht Pn : Nat) (rs old sc jc : Int32) (x : Int32) (hno : sn_rok x = false) : MetT l yN_reach (kN_reach :: WD) { frames := 6, cells := 1, slots := 6, locals := 82 } (va_Pc [.ref h0, .int x] (xt_B (dC, dI) snC [(h0, .inr (0, [.int (nI Wd), .int (nI Ht), .ref a_walls, .int rs, .ref a_placeX, .ref a_placeY, .int (nI Pn), .ref a_reachers, .int old, .ref a_lossOf, .int sc, .ref a_upper, .ref a_length, .ref a_headsOn, .ref a_turn, .ref a_lack, .ref a_joined, .int jc]))] [])) xt_IAE := by
  refine vx_ofW (cc := bN_reach) (maxL := 3) (ret := (some .int)) (by decide) rfl ?_
  intro p e s m args below meth c s₁ B hml hout hv
  obtain ⟨rfl, ⟨hP, hK⟩, hSt⟩ := hv
  have hx := B.exec
  have hb := B.bytes
  have hr := B.returns
  have hts : ∀ w ∈ WD, w.before _ s = true := fun w h => atoms_spec (ws := kN_reach :: WD) B.pre w (List.mem_cons_of_mem _ h)
  have hown : s.vm.findClass R_N = some m.cls := findClass_of_methodNamed B.named
  have hlocks := B.notSynchronized
  have hl := lv_entry ([.ref h0, .int x]) (n := 3) (Nat.le_of_ble_eq_true rfl)
  rw [lg_entry_eq]
  generalize (lg_sl ([.ref h0, .int x]) ++ List.replicate (3 - (lg_sl ([.ref h0, .int x])).length) Slot.unset).toArray = ls at hl ⊢
  have hl : lv_has ls 3 [(0, .ref h0), (1, .int x)] := hl
  refine lv_iload_n hx hb dN_reach_0 rfl (lv_at hl 1 rfl) ?_
  refine lv_iconst (v := 1) hx hb dN_reach_1 (by decide) ?_
  refine lv_icmp_lt (tgt := 12) hx hb dN_reach_2 (by decide) (fun c_1 => ?_) (fun c_1 => ?_)
  · exact xt_I (text := "reach is out of its bounds") hx hb hlt hown hts hSt (by decide) (hl.1.trans hml.symm) dN_reach_12 dN_reach_15 dN_reach_16 dN_reach_18 dN_reach_21 hout (Nat.le_of_ble_eq_true rfl) (Nat.le_of_ble_eq_true rfl) (Nat.le_of_ble_eq_true rfl) (Nat.le_of_ble_eq_true rfl) hlocks
  · refine lv_iload_n hx hb dN_reach_5 rfl (lv_at hl 1 rfl) ?_
    refine lv_sipush (v := 400) hx hb dN_reach_6 (by decide) ?_
    refine lv_icmp_le (tgt := 22) hx hb dN_reach_9 (by decide) (fun c_2 => ?_) (fun c_2 => ?_)
    · exact absurd hno (by simp [sn_rok, *])
    · exact xt_I (text := "reach is out of its bounds") hx hb hlt hown hts hSt (by decide) (hl.1.trans hml.symm) dN_reach_12 dN_reach_15 dN_reach_16 dN_reach_18 dN_reach_21 hout (Nat.le_of_ble_eq_true rfl) (Nat.le_of_ble_eq_true rfl) (Nat.le_of_ble_eq_true rfl) (Nat.le_of_ble_eq_true rfl) hlocks
set_option maxHeartbeats 4000000 in
set_option maxRecDepth 100000 in
theorem cN_place (l : Launch) (dC : Nat → ClassId) (dI : Nat → Nat → Nat) (h0 a_walls a_placeX a_placeY a_reachers a_lossOf a_upper a_length a_headsOn a_turn a_lack a_joined : Nat) (Wd Ht Pn : Nat) (rs old sc jc : Int32) (cZ cI : ClassId) (f_walls f_placeX f_placeY f_reachers f_lossOf f_upper f_length f_headsOn f_turn f_lack f_joined : Nat → Int32) (a b : Nat) (sz : Nat) (hW : Wd ≤ 16) (hH : Ht ≤ 16) (ha : a < Wd) (hb0 : b < Ht) (hw0 : sn_wall Wd Ht f_walls (nI a) (nI b) = false) (hp0 : sn_isp f_placeX f_placeY (nI a) (nI b) Pn 0 = false) (hPl : Pn < 12) : Met l yN_place (kN_place :: WD) { frames := 2, cells := 0, slots := 0, locals := 44 } (va_Pc [.ref h0, .int (nI a), .int (nI b)] (xm (dC, dI) snC [(h0, .inr (0, [.int (nI Wd), .int (nI Ht), .ref a_walls, .int rs, .ref a_placeX, .ref a_placeY, .int (nI Pn), .ref a_reachers, .int old, .ref a_lossOf, .int sc, .ref a_upper, .ref a_length, .ref a_headsOn, .ref a_turn, .ref a_lack, .ref a_joined, .int jc])), (a_walls, .inl (cZ, 256, .inl f_walls)), (a_placeX, .inl (cI, 12, .inl f_placeX)), (a_placeY, .inl (cI, 12, .inl f_placeY)), (a_reachers, .inl (cI, 256, .inl f_reachers)), (a_lossOf, .inl (cI, 13, .inl f_lossOf)), (a_upper, .inl (cI, 12, .inl f_upper)), (a_length, .inl (cI, 12, .inl f_length)), (a_headsOn, .inl (cI, 12, .inl f_headsOn)), (a_turn, .inl (cI, 12, .inl f_turn)), (a_lack, .inl (cI, 12, .inl f_lack)), (a_joined, .inl (cI, 12, .inl f_joined))] [(cZ, .boolean), (cI, .int)] sz)) (va_Qi (fun (r : Int32) (_ : Unit) => r = nI Pn) (fun _ => xo (dC, dI) snC [(h0, .inr (0, [.int (nI Wd), .int (nI Ht), .ref a_walls, .int rs, .ref a_placeX, .ref a_placeY, .int (nI (Pn + 1)), .ref a_reachers, .int 1, .ref a_lossOf, .int sc, .ref a_upper, .ref a_length, .ref a_headsOn, .ref a_turn, .ref a_lack, .ref a_joined, .int jc])), (a_walls, .inl (cZ, 256, .inl f_walls)), (a_placeX, .inl (cI, 12, .inl (upd f_placeX Pn (nI a)))), (a_placeY, .inl (cI, 12, .inl (upd f_placeY Pn (nI b)))), (a_reachers, .inl (cI, 256, .inl f_reachers)), (a_lossOf, .inl (cI, 13, .inl f_lossOf)), (a_upper, .inl (cI, 12, .inl f_upper)), (a_length, .inl (cI, 12, .inl f_length)), (a_headsOn, .inl (cI, 12, .inl f_headsOn)), (a_turn, .inl (cI, 12, .inl f_turn)), (a_lack, .inl (cI, 12, .inl f_lack)), (a_joined, .inl (cI, 12, .inl f_joined))] [(cZ, .boolean), (cI, .int)] (va_A [(h0, .inr (0, [.int (nI Wd), .int (nI Ht), .ref a_walls, .int rs, .ref a_placeX, .ref a_placeY, .int (nI Pn), .ref a_reachers, .int old, .ref a_lossOf, .int sc, .ref a_upper, .ref a_length, .ref a_headsOn, .ref a_turn, .ref a_lack, .ref a_joined, .int jc])), (a_walls, .inl (cZ, 256, .inl f_walls)), (a_placeX, .inl (cI, 12, .inl f_placeX)), (a_placeY, .inl (cI, 12, .inl f_placeY)), (a_reachers, .inl (cI, 256, .inl f_reachers)), (a_lossOf, .inl (cI, 13, .inl f_lossOf)), (a_upper, .inl (cI, 12, .inl f_upper)), (a_length, .inl (cI, 12, .inl f_length)), (a_headsOn, .inl (cI, 12, .inl f_headsOn)), (a_turn, .inl (cI, 12, .inl f_turn)), (a_lack, .inl (cI, 12, .inl f_lack)), (a_joined, .inl (cI, 12, .inl f_joined))] sz)) (va_A [(h0, .inr (0, [.int (nI Wd), .int (nI Ht), .ref a_walls, .int rs, .ref a_placeX, .ref a_placeY, .int (nI Pn), .ref a_reachers, .int old, .ref a_lossOf, .int sc, .ref a_upper, .ref a_length, .ref a_headsOn, .ref a_turn, .ref a_lack, .ref a_joined, .int jc])), (a_walls, .inl (cZ, 256, .inl f_walls)), (a_placeX, .inl (cI, 12, .inl f_placeX)), (a_placeY, .inl (cI, 12, .inl f_placeY)), (a_reachers, .inl (cI, 256, .inl f_reachers)), (a_lossOf, .inl (cI, 13, .inl f_lossOf)), (a_upper, .inl (cI, 12, .inl f_upper)), (a_length, .inl (cI, 12, .inl f_length)), (a_headsOn, .inl (cI, 12, .inl f_headsOn)), (a_turn, .inl (cI, 12, .inl f_turn)), (a_lack, .inl (cI, 12, .inl f_lack)), (a_joined, .inl (cI, 12, .inl f_joined))] sz)) 0 0 (va_A [(h0, .inr (0, [.int (nI Wd), .int (nI Ht), .ref a_walls, .int rs, .ref a_placeX, .ref a_placeY, .int (nI Pn), .ref a_reachers, .int old, .ref a_lossOf, .int sc, .ref a_upper, .ref a_length, .ref a_headsOn, .ref a_turn, .ref a_lack, .ref a_joined, .int jc])), (a_walls, .inl (cZ, 256, .inl f_walls)), (a_placeX, .inl (cI, 12, .inl f_placeX)), (a_placeY, .inl (cI, 12, .inl f_placeY)), (a_reachers, .inl (cI, 256, .inl f_reachers)), (a_lossOf, .inl (cI, 13, .inl f_lossOf)), (a_upper, .inl (cI, 12, .inl f_upper)), (a_length, .inl (cI, 12, .inl f_length)), (a_headsOn, .inl (cI, 12, .inl f_headsOn)), (a_turn, .inl (cI, 12, .inl f_turn)), (a_lack, .inl (cI, 12, .inl f_lack)), (a_joined, .inl (cI, 12, .inl f_joined))] sz) := by
  refine Met.ofW (cc := bN_place) (maxL := 4) (ret := (some .int)) (by decide) rfl ?_
  intro p e s m args below meth c s₁ B hml hv
  obtain ⟨rfl, hsz, hP, hK, hD0⟩ := hv
  have hx := B.exec
  have hb := B.bytes
  have hr := B.returns
  have hts : ∀ w ∈ WD, w.before _ s = true := fun w h => atoms_spec (ws := kN_place :: WD) B.pre w (List.mem_cons_of_mem _ h)
  have hown : s.vm.findClass R_N = some m.cls := findClass_of_methodNamed B.named
  have hlocks := B.notSynchronized
  subst hsz
  have hD := hD0.self (sz := s.heap.size)
  generalize hAe : va_A [(h0, .inr (0, [.int (nI Wd), .int (nI Ht), .ref a_walls, .int rs, .ref a_placeX, .ref a_placeY, .int (nI Pn), .ref a_reachers, .int old, .ref a_lossOf, .int sc, .ref a_upper, .ref a_length, .ref a_headsOn, .ref a_turn, .ref a_lack, .ref a_joined, .int jc])), (a_walls, .inl (cZ, 256, .inl f_walls)), (a_placeX, .inl (cI, 12, .inl f_placeX)), (a_placeY, .inl (cI, 12, .inl f_placeY)), (a_reachers, .inl (cI, 256, .inl f_reachers)), (a_lossOf, .inl (cI, 13, .inl f_lossOf)), (a_upper, .inl (cI, 12, .inl f_upper)), (a_length, .inl (cI, 12, .inl f_length)), (a_headsOn, .inl (cI, 12, .inl f_headsOn)), (a_turn, .inl (cI, 12, .inl f_turn)), (a_lack, .inl (cI, 12, .inl f_lack)), (a_joined, .inl (cI, 12, .inl f_joined))] s.heap.size = A at hD ⊢
  have hA : ∀ q : Nat, s.heap.size ≤ q → A q := fun q h => by rw [← hAe]; exact Or.inr h
  have hS : va_S A s.heap s.heap [] := va_S.rf
  have hl := lv_entry ([.ref h0, .int (nI a), .int (nI b)]) (n := 4) (Nat.le_of_ble_eq_true rfl)
  rw [lg_entry_eq]
  generalize (lg_sl ([.ref h0, .int (nI a), .int (nI b)]) ++ List.replicate (4 - (lg_sl ([.ref h0, .int (nI a), .int (nI b)])).length) Slot.unset).toArray = ls at hl ⊢
  have hl : lv_has ls 4 [(0, .ref h0), (1, .int (nI a)), (2, .int (nI b))] := hl
  have hPn : Pn ≤ 12 := by omega
  refine lv_aload_n hx hb dN_place_0 rfl (lv_at hl 0 rfl) ?_
  refine lv_iload_n hx hb dN_place_1 rfl (lv_at hl 1 rfl) ?_
  refine lv_iload_n hx hb dN_place_2 rfl (lv_at hl 2 rfl) ?_
  refine xr_Vv (As := [.int (nI a), .int (nI b)]) ⟨hx, hb, hml, hown, hts⟩ (cN_needCell l dC dI h0 a_walls a_placeX a_placeY a_reachers a_lossOf a_upper a_length a_headsOn a_turn a_lack a_joined Wd Ht Pn rs old sc jc (nI a) (nI b) (sn_in_nI hW hH ha hb0)) (cwV 2 hts gN82 rfl rfl rfl (by decide +kernel) ⟨Nat.le_of_ble_eq_true rfl, Nat.le_of_ble_eq_true rfl⟩) hK hP [0] [] rfl rfl 0 0 rfl rfl rfl rfl hl.1 rfl (Nat.le_of_ble_eq_true rfl) dN_place_3 ⟨Nat.zero_le _, Nat.zero_le _⟩ ?_
  refine lv_aload_n hx hb dN_place_6 rfl (lv_at hl 0 rfl) ?_
  refine lv_iload_n hx hb dN_place_7 rfl (lv_at hl 1 rfl) ?_
  refine lv_iload_n hx hb dN_place_8 rfl (lv_at hl 2 rfl) ?_
  refine xr_V (As := [.int (nI a), .int (nI b)]) ⟨hx, hb, hml, hown, hts⟩ (cN_isWall l dC dI h0 a_walls a_placeX a_placeY a_reachers a_lossOf a_upper a_length a_headsOn a_turn a_lack a_joined Wd Ht Pn rs old sc jc cZ f_walls (nI a) (nI b) hW hH) (cwV 2 hts gN86 rfl rfl rfl (by decide +kernel) ⟨Nat.le_of_ble_eq_true rfl, Nat.le_of_ble_eq_true rfl⟩) hK hP [0, 1] [0] rfl rfl 0 0 rfl rfl rfl rfl hl.1 rfl (Nat.le_of_ble_eq_true rfl) dN_place_9 ⟨Nat.zero_le _, Nat.zero_le _⟩ (fun r_2 hr_2 => ?_)
  subst hr_2
  refine lv_if_eq (tgt := 25) hx hb dN_place_12 (by decide) (fun c_3 => ?_) (fun c_3 => ?_)
  · replace c_3 := bz_0 c_3
    refine lv_aload_n hx hb dN_place_25 rfl (lv_at hl 0 rfl) ?_
    refine lv_iload_n hx hb dN_place_26 rfl (lv_at hl 1 rfl) ?_
    refine lv_iload_n hx hb dN_place_27 rfl (lv_at hl 2 rfl) ?_
    refine xr_V (As := [.int (nI a), .int (nI b)]) ⟨hx, hb, hml, hown, hts⟩ (cN_isPlace l dC dI h0 a_walls a_placeX a_placeY a_reachers a_lossOf a_upper a_length a_headsOn a_turn a_lack a_joined Wd Ht Pn rs old sc jc cI f_placeX f_placeY (nI a) (nI b) hPn) (cwV 2 hts gN105 rfl rfl rfl (by decide +kernel) ⟨Nat.le_of_ble_eq_true rfl, Nat.le_of_ble_eq_true rfl⟩) hK hP [0, 2, 3] [1] rfl rfl 0 0 rfl rfl rfl rfl hl.1 rfl (Nat.le_of_ble_eq_true rfl) dN_place_28 ⟨Nat.zero_le _, Nat.zero_le _⟩ (fun r_4 hr_4 => ?_)
    subst hr_4
    refine lv_if_eq (tgt := 44) hx hb dN_place_31 (by decide) (fun c_5 => ?_) (fun c_5 => ?_)
    · replace c_5 := bz_0 c_5
      refine lv_aload_n hx hb dN_place_44 rfl (lv_at hl 0 rfl) ?_
      refine va_get (D := (dC, dI)) (ci := 0) (v := .int (nI Pn)) (C := R_N) (T := T_N) (N := 18) hx hb hts in_N hown hK hP 0 rfl rfl 6 (by decide) (hts _ flN39) (fun _ h9 => h9) rfl dN_place_45 ?_
      refine lv_bipush (v := (nI 12)) hx hb dN_place_48 (by decide) ?_
      refine lv_icmp_lt (tgt := 63) hx hb dN_place_50 (by decide) (fun c_6 => ?_) (fun c_6 => ?_)
      · refine lv_aload_n hx hb dN_place_63 rfl (lv_at hl 0 rfl) ?_
        refine va_get (D := (dC, dI)) (ci := 0) (v := .int (nI Pn)) (C := R_N) (T := T_N) (N := 18) hx hb hts in_N hown hK hP 0 rfl rfl 6 (by decide) (hts _ flN39) (fun _ h9 => h9) rfl dN_place_64 ?_
        refine lv_istore_n (lv' := [(3, .int (nI Pn)), (0, .ref h0), (1, .int (nI a)), (2, .int (nI b))]) hx hb dN_place_67 rfl hl (by decide) rfl (fun ls hl => ?_)
        refine lv_aload_n hx hb dN_place_68 rfl (lv_at hl 1 rfl) ?_
        refine va_get (D := (dC, dI)) (ci := 0) (v := .ref a_placeX) (C := R_N) (T := T_N) (N := 18) hx hb hts in_N hown hK hP 0 rfl rfl 4 (by decide) (hts _ flN32) (fun _ h9 => h9) rfl dN_place_69 ?_
        refine lv_iload_n hx hb dN_place_72 rfl (lv_at hl 0 rfl) ?_
        refine lv_iload_n hx hb dN_place_73 rfl (lv_at hl 2 rfl) ?_
        refine xa_iast hx hb hK hP hD hS 2 1 rfl rfl (i := Pn) (x := nI a) (by omega) (by first | decide | omega) dN_place_74 (fun H locs hP hD hS => ?_)
        have hP : va_P (dC, dI) snC [(h0, .inr (0, [.int (nI Wd), .int (nI Ht), .ref a_walls, .int rs, .ref a_placeX, .ref a_placeY, .int (nI Pn), .ref a_reachers, .int old, .ref a_lossOf, .int sc, .ref a_upper, .ref a_length, .ref a_headsOn, .ref a_turn, .ref a_lack, .ref a_joined, .int jc])), (a_walls, .inl (cZ, 256, .inl f_walls)), (a_placeX, .inl (cI, 12, .inl (upd f_placeX Pn (nI a)))), (a_placeY, .inl (cI, 12, .inl f_placeY)), (a_reachers, .inl (cI, 256, .inl f_reachers)), (a_lossOf, .inl (cI, 13, .inl f_lossOf)), (a_upper, .inl (cI, 12, .inl f_upper)), (a_length, .inl (cI, 12, .inl f_length)), (a_headsOn, .inl (cI, 12, .inl f_headsOn)), (a_turn, .inl (cI, 12, .inl f_turn)), (a_lack, .inl (cI, 12, .inl f_lack)), (a_joined, .inl (cI, 12, .inl f_joined))] H := hP
        have hD : va_D A [(h0, .inr (0, [.int (nI Wd), .int (nI Ht), .ref a_walls, .int rs, .ref a_placeX, .ref a_placeY, .int (nI Pn), .ref a_reachers, .int old, .ref a_lossOf, .int sc, .ref a_upper, .ref a_length, .ref a_headsOn, .ref a_turn, .ref a_lack, .ref a_joined, .int jc])), (a_walls, .inl (cZ, 256, .inl f_walls)), (a_placeX, .inl (cI, 12, .inl (upd f_placeX Pn (nI a)))), (a_placeY, .inl (cI, 12, .inl f_placeY)), (a_reachers, .inl (cI, 256, .inl f_reachers)), (a_lossOf, .inl (cI, 13, .inl f_lossOf)), (a_upper, .inl (cI, 12, .inl f_upper)), (a_length, .inl (cI, 12, .inl f_length)), (a_headsOn, .inl (cI, 12, .inl f_headsOn)), (a_turn, .inl (cI, 12, .inl f_turn)), (a_lack, .inl (cI, 12, .inl f_lack)), (a_joined, .inl (cI, 12, .inl f_joined))] := hD
        refine lv_aload_n hx hb dN_place_75 rfl (lv_at hl 1 rfl) ?_
        refine va_get (D := (dC, dI)) (ci := 0) (v := .ref a_placeY) (C := R_N) (T := T_N) (N := 18) hx hb hts in_N hown hK hP 0 rfl rfl 5 (by decide) (hts _ flN36) (fun _ h9 => h9) rfl dN_place_76 ?_
        refine lv_iload_n hx hb dN_place_79 rfl (lv_at hl 0 rfl) ?_
        refine lv_iload_n hx hb dN_place_80 rfl (lv_at hl 3 rfl) ?_
        refine xa_iast hx hb hK hP hD hS 3 1 rfl rfl (i := Pn) (x := nI b) (by omega) (by first | decide | omega) dN_place_81 (fun H locs hP hD hS => ?_)
        have hP : va_P (dC, dI) snC [(h0, .inr (0, [.int (nI Wd), .int (nI Ht), .ref a_walls, .int rs, .ref a_placeX, .ref a_placeY, .int (nI Pn), .ref a_reachers, .int old, .ref a_lossOf, .int sc, .ref a_upper, .ref a_length, .ref a_headsOn, .ref a_turn, .ref a_lack, .ref a_joined, .int jc])), (a_walls, .inl (cZ, 256, .inl f_walls)), (a_placeX, .inl (cI, 12, .inl (upd f_placeX Pn (nI a)))), (a_placeY, .inl (cI, 12, .inl (upd f_placeY Pn (nI b)))), (a_reachers, .inl (cI, 256, .inl f_reachers)), (a_lossOf, .inl (cI, 13, .inl f_lossOf)), (a_upper, .inl (cI, 12, .inl f_upper)), (a_length, .inl (cI, 12, .inl f_length)), (a_headsOn, .inl (cI, 12, .inl f_headsOn)), (a_turn, .inl (cI, 12, .inl f_turn)), (a_lack, .inl (cI, 12, .inl f_lack)), (a_joined, .inl (cI, 12, .inl f_joined))] H := hP
        have hD : va_D A [(h0, .inr (0, [.int (nI Wd), .int (nI Ht), .ref a_walls, .int rs, .ref a_placeX, .ref a_placeY, .int (nI Pn), .ref a_reachers, .int old, .ref a_lossOf, .int sc, .ref a_upper, .ref a_length, .ref a_headsOn, .ref a_turn, .ref a_lack, .ref a_joined, .int jc])), (a_walls, .inl (cZ, 256, .inl f_walls)), (a_placeX, .inl (cI, 12, .inl (upd f_placeX Pn (nI a)))), (a_placeY, .inl (cI, 12, .inl (upd f_placeY Pn (nI b)))), (a_reachers, .inl (cI, 256, .inl f_reachers)), (a_lossOf, .inl (cI, 13, .inl f_lossOf)), (a_upper, .inl (cI, 12, .inl f_upper)), (a_length, .inl (cI, 12, .inl f_length)), (a_headsOn, .inl (cI, 12, .inl f_headsOn)), (a_turn, .inl (cI, 12, .inl f_turn)), (a_lack, .inl (cI, 12, .inl f_lack)), (a_joined, .inl (cI, 12, .inl f_joined))] := hD
        refine lv_aload_n hx hb dN_place_82 rfl (lv_at hl 1 rfl) ?_
        refine lv_dup hx hb dN_place_83 rfl ?_
        refine va_get (D := (dC, dI)) (ci := 0) (v := .int (nI Pn)) (C := R_N) (T := T_N) (N := 18) hx hb hts in_N hown hK hP 0 rfl rfl 6 (by decide) (hts _ flN39) (fun _ h9 => h9) rfl dN_place_84 ?_
        refine lv_iconst (v := 1) hx hb dN_place_87 (by decide) ?_
        refine lv_iadd hx hb dN_place_88 ?_
        rw [show ((nI Pn) + 1 : Int32) = nI (Pn + 1) from (nI_1 Pn)]
        refine va_put (D := (dC, dI)) (ci := 0) (v := .int (nI (Pn + 1))) (ty := .int) (C := R_N) (T := T_N) (N := 18) hx hb hts in_N t_N tok_N n_N hown hK hP hD hS 0 rfl rfl 6 (by decide) (hts _ flN39) (fun _ h9 => h9) rfl (by decide +kernel) rfl rfl (Nat.le_of_ble_eq_true rfl) dN_place_89 (fun H locs hP hD hS => ?_)
        have hP : va_P (dC, dI) snC [(h0, .inr (0, [.int (nI Wd), .int (nI Ht), .ref a_walls, .int rs, .ref a_placeX, .ref a_placeY, .int (nI (Pn + 1)), .ref a_reachers, .int old, .ref a_lossOf, .int sc, .ref a_upper, .ref a_length, .ref a_headsOn, .ref a_turn, .ref a_lack, .ref a_joined, .int jc])), (a_walls, .inl (cZ, 256, .inl f_walls)), (a_placeX, .inl (cI, 12, .inl (upd f_placeX Pn (nI a)))), (a_placeY, .inl (cI, 12, .inl (upd f_placeY Pn (nI b)))), (a_reachers, .inl (cI, 256, .inl f_reachers)), (a_lossOf, .inl (cI, 13, .inl f_lossOf)), (a_upper, .inl (cI, 12, .inl f_upper)), (a_length, .inl (cI, 12, .inl f_length)), (a_headsOn, .inl (cI, 12, .inl f_headsOn)), (a_turn, .inl (cI, 12, .inl f_turn)), (a_lack, .inl (cI, 12, .inl f_lack)), (a_joined, .inl (cI, 12, .inl f_joined))] H := hP
        have hD : va_D A [(h0, .inr (0, [.int (nI Wd), .int (nI Ht), .ref a_walls, .int rs, .ref a_placeX, .ref a_placeY, .int (nI (Pn + 1)), .ref a_reachers, .int old, .ref a_lossOf, .int sc, .ref a_upper, .ref a_length, .ref a_headsOn, .ref a_turn, .ref a_lack, .ref a_joined, .int jc])), (a_walls, .inl (cZ, 256, .inl f_walls)), (a_placeX, .inl (cI, 12, .inl (upd f_placeX Pn (nI a)))), (a_placeY, .inl (cI, 12, .inl (upd f_placeY Pn (nI b)))), (a_reachers, .inl (cI, 256, .inl f_reachers)), (a_lossOf, .inl (cI, 13, .inl f_lossOf)), (a_upper, .inl (cI, 12, .inl f_upper)), (a_length, .inl (cI, 12, .inl f_length)), (a_headsOn, .inl (cI, 12, .inl f_headsOn)), (a_turn, .inl (cI, 12, .inl f_turn)), (a_lack, .inl (cI, 12, .inl f_lack)), (a_joined, .inl (cI, 12, .inl f_joined))] := hD
        refine lv_aload_n hx hb dN_place_92 rfl (lv_at hl 1 rfl) ?_
        refine lv_iconst (v := 1) hx hb dN_place_93 (by decide) ?_
        refine va_put (D := (dC, dI)) (ci := 0) (v := .int 1) (ty := .boolean) (C := R_N) (T := T_N) (N := 18) hx hb hts in_N t_N tok_N n_N hown hK hP hD hS 0 rfl rfl 8 (by decide) (hts _ flN45) (fun _ h9 => h9) rfl (by decide +kernel) rfl rfl (Nat.le_of_ble_eq_true rfl) dN_place_94 (fun H locs hP hD hS => ?_)
        have hP : va_P (dC, dI) snC [(h0, .inr (0, [.int (nI Wd), .int (nI Ht), .ref a_walls, .int rs, .ref a_placeX, .ref a_placeY, .int (nI (Pn + 1)), .ref a_reachers, .int 1, .ref a_lossOf, .int sc, .ref a_upper, .ref a_length, .ref a_headsOn, .ref a_turn, .ref a_lack, .ref a_joined, .int jc])), (a_walls, .inl (cZ, 256, .inl f_walls)), (a_placeX, .inl (cI, 12, .inl (upd f_placeX Pn (nI a)))), (a_placeY, .inl (cI, 12, .inl (upd f_placeY Pn (nI b)))), (a_reachers, .inl (cI, 256, .inl f_reachers)), (a_lossOf, .inl (cI, 13, .inl f_lossOf)), (a_upper, .inl (cI, 12, .inl f_upper)), (a_length, .inl (cI, 12, .inl f_length)), (a_headsOn, .inl (cI, 12, .inl f_headsOn)), (a_turn, .inl (cI, 12, .inl f_turn)), (a_lack, .inl (cI, 12, .inl f_lack)), (a_joined, .inl (cI, 12, .inl f_joined))] H := hP
        have hD : va_D A [(h0, .inr (0, [.int (nI Wd), .int (nI Ht), .ref a_walls, .int rs, .ref a_placeX, .ref a_placeY, .int (nI (Pn + 1)), .ref a_reachers, .int 1, .ref a_lossOf, .int sc, .ref a_upper, .ref a_length, .ref a_headsOn, .ref a_turn, .ref a_lack, .ref a_joined, .int jc])), (a_walls, .inl (cZ, 256, .inl f_walls)), (a_placeX, .inl (cI, 12, .inl (upd f_placeX Pn (nI a)))), (a_placeY, .inl (cI, 12, .inl (upd f_placeY Pn (nI b)))), (a_reachers, .inl (cI, 256, .inl f_reachers)), (a_lossOf, .inl (cI, 13, .inl f_lossOf)), (a_upper, .inl (cI, 12, .inl f_upper)), (a_length, .inl (cI, 12, .inl f_length)), (a_headsOn, .inl (cI, 12, .inl f_headsOn)), (a_turn, .inl (cI, 12, .inl f_turn)), (a_lack, .inl (cI, 12, .inl f_lack)), (a_joined, .inl (cI, 12, .inl f_joined))] := hD
        refine lv_iload_n hx hb dN_place_97 rfl (lv_at hl 0 rfl) ?_
        exact W.iret (v := nI Pn) hx hb hr (fun t ht hW => ⟨⟨nI Pn, (), rfl, rfl, by rw [ht]; exact hP, va_K.moved hW.alike hK, hD⟩, hS.F ht⟩) hS.2.2 dN_place_98
      · exact absurd ((nI_ltI (by omega) (by omega)).mpr hPl) c_6
    · replace c_5 := bz_1 c_5
      exact absurd hp0 (by rw [c_5]; decide)
  · replace c_3 := bz_1 c_3
    exact absurd hw0 (by rw [c_3]; decide)
set_option maxHeartbeats 4000000 in
set_option maxRecDepth 100000 in
theorem cN_place_T (l : Launch) (hlt : l.stackTraces = false) (dC : Nat → ClassId) (dI : Nat → Nat → Nat) (h0 a_walls a_placeX a_placeY a_reachers a_lossOf a_upper a_length a_headsOn a_turn a_lack a_joined : Nat) (Wd Ht Pn : Nat) (rs old sc jc : Int32) (x y : Int32) (hno : sn_in Wd Ht x y = false) : MetT l yN_place (kN_place :: WD) { frames := 7, cells := 1, slots := 6, locals := 104 } (va_Pc [.ref h0, .int x, .int y] (xt_B (dC, dI) snC [(h0, .inr (0, [.int (nI Wd), .int (nI Ht), .ref a_walls, .int rs, .ref a_placeX, .ref a_placeY, .int (nI Pn), .ref a_reachers, .int old, .ref a_lossOf, .int sc, .ref a_upper, .ref a_length, .ref a_headsOn, .ref a_turn, .ref a_lack, .ref a_joined, .int jc]))] [])) xt_IAE := by
  refine vx_ofW (cc := bN_place) (maxL := 4) (ret := (some .int)) (by decide) rfl ?_
  intro p e s m args below meth c s₁ B hml hout hv
  obtain ⟨rfl, ⟨hP, hK⟩, hSt⟩ := hv
  have hx := B.exec
  have hb := B.bytes
  have hr := B.returns
  have hts : ∀ w ∈ WD, w.before _ s = true := fun w h => atoms_spec (ws := kN_place :: WD) B.pre w (List.mem_cons_of_mem _ h)
  have hown : s.vm.findClass R_N = some m.cls := findClass_of_methodNamed B.named
  have hlocks := B.notSynchronized
  have hl := lv_entry ([.ref h0, .int x, .int y]) (n := 4) (Nat.le_of_ble_eq_true rfl)
  rw [lg_entry_eq]
  generalize (lg_sl ([.ref h0, .int x, .int y]) ++ List.replicate (4 - (lg_sl ([.ref h0, .int x, .int y])).length) Slot.unset).toArray = ls at hl ⊢
  have hl : lv_has ls 4 [(0, .ref h0), (1, .int x), (2, .int y)] := hl
  refine lv_aload_n hx hb dN_place_0 rfl (lv_at hl 0 rfl) ?_
  refine lv_iload_n hx hb dN_place_1 rfl (lv_at hl 1 rfl) ?_
  refine lv_iload_n hx hb dN_place_2 rfl (lv_at hl 2 rfl) ?_
  exact xt_V (As := [.int x, .int y]) ⟨hx, hb, hml, hown, hts⟩ (cN_needCell_T l hlt dC dI h0 a_walls a_placeX a_placeY a_reachers a_lossOf a_upper a_length a_headsOn a_turn a_lack a_joined Wd Ht Pn rs old sc jc x y hno) (cwV 2 hts gN82 rfl rfl rfl (by decide +kernel) ⟨Nat.le_of_ble_eq_true rfl, Nat.le_of_ble_eq_true rfl⟩) hSt hK hP [0] [] rfl rfl 0 0 rfl rfl rfl rfl hl.1 rfl (Nat.le_of_ble_eq_true rfl) dN_place_3 ⟨Nat.le_of_ble_eq_true rfl, Nat.le_of_ble_eq_true rfl⟩ hout hlocks
set_option maxHeartbeats 4000000 in
set_option maxRecDepth 100000 in
theorem cN_place_TS (l : Launch) (hlt : l.stackTraces = false) (dC : Nat → ClassId) (dI : Nat → Nat → Nat) (h0 a_walls a_placeX a_placeY a_reachers a_lossOf a_upper a_length a_headsOn a_turn a_lack a_joined : Nat) (Wd Ht Pn : Nat) (rs old sc jc : Int32) (cZ cI : ClassId) (f_walls f_placeX f_placeY f_reachers f_lossOf f_upper f_length f_headsOn f_turn f_lack f_joined : Nat → Int32) (a b : Nat) (hW : Wd ≤ 16) (hH : Ht ≤ 16) (ha : a < Wd) (hb0 : b < Ht) (hPn : Pn ≤ 12) (hno : sn_wall Wd Ht f_walls (nI a) (nI b) = true ∨ sn_isp f_placeX f_placeY (nI a) (nI b) Pn 0 = true ∨ Pn = 12) : MetT l yN_place (kN_place :: WD) { frames := 6, cells := 1, slots := 6, locals := 82 } (va_Pc [.ref h0, .int (nI a), .int (nI b)] (xt_B (dC, dI) snC [(h0, .inr (0, [.int (nI Wd), .int (nI Ht), .ref a_walls, .int rs, .ref a_placeX, .ref a_placeY, .int (nI Pn), .ref a_reachers, .int old, .ref a_lossOf, .int sc, .ref a_upper, .ref a_length, .ref a_headsOn, .ref a_turn, .ref a_lack, .ref a_joined, .int jc])), (a_walls, .inl (cZ, 256, .inl f_walls)), (a_placeX, .inl (cI, 12, .inl f_placeX)), (a_placeY, .inl (cI, 12, .inl f_placeY)), (a_reachers, .inl (cI, 256, .inl f_reachers)), (a_lossOf, .inl (cI, 13, .inl f_lossOf)), (a_upper, .inl (cI, 12, .inl f_upper)), (a_length, .inl (cI, 12, .inl f_length)), (a_headsOn, .inl (cI, 12, .inl f_headsOn)), (a_turn, .inl (cI, 12, .inl f_turn)), (a_lack, .inl (cI, 12, .inl f_lack)), (a_joined, .inl (cI, 12, .inl f_joined))] [(cZ, .boolean), (cI, .int)])) xt_ISE := by
  refine vx_ofW (cc := bN_place) (maxL := 4) (ret := (some .int)) (by decide) rfl ?_
  intro p e s m args below meth c s₁ B hml hout hv
  obtain ⟨rfl, ⟨hP, hK⟩, hSt⟩ := hv
  have hx := B.exec
  have hb := B.bytes
  have hr := B.returns
  have hts : ∀ w ∈ WD, w.before _ s = true := fun w h => atoms_spec (ws := kN_place :: WD) B.pre w (List.mem_cons_of_mem _ h)
  have hown : s.vm.findClass R_N = some m.cls := findClass_of_methodNamed B.named
  have hlocks := B.notSynchronized
  have hl := lv_entry ([.ref h0, .int (nI a), .int (nI b)]) (n := 4) (Nat.le_of_ble_eq_true rfl)
  rw [lg_entry_eq]
  generalize (lg_sl ([.ref h0, .int (nI a), .int (nI b)]) ++ List.replicate (4 - (lg_sl ([.ref h0, .int (nI a), .int (nI b)])).length) Slot.unset).toArray = ls at hl ⊢
  have hl : lv_has ls 4 [(0, .ref h0), (1, .int (nI a)), (2, .int (nI b))] := hl
  refine lv_aload_n hx hb dN_place_0 rfl (lv_at hl 0 rfl) ?_
  refine lv_iload_n hx hb dN_place_1 rfl (lv_at hl 1 rfl) ?_
  refine lv_iload_n hx hb dN_place_2 rfl (lv_at hl 2 rfl) ?_
  refine xr_Vv (As := [.int (nI a), .int (nI b)]) ⟨hx, hb, hml, hown, hts⟩ (cN_needCell l dC dI h0 a_walls a_placeX a_placeY a_reachers a_lossOf a_upper a_length a_headsOn a_turn a_lack a_joined Wd Ht Pn rs old sc jc (nI a) (nI b) (sn_in_nI hW hH ha hb0)) (cwV 2 hts gN82 rfl rfl rfl (by decide +kernel) ⟨Nat.le_of_ble_eq_true rfl, Nat.le_of_ble_eq_true rfl⟩) hK hP [0] [] rfl rfl 0 0 rfl rfl rfl rfl hl.1 rfl (Nat.le_of_ble_eq_true rfl) dN_place_3 ⟨Nat.zero_le _, Nat.zero_le _⟩ ?_
  refine lv_aload_n hx hb dN_place_6 rfl (lv_at hl 0 rfl) ?_
  refine lv_iload_n hx hb dN_place_7 rfl (lv_at hl 1 rfl) ?_
  refine lv_iload_n hx hb dN_place_8 rfl (lv_at hl 2 rfl) ?_
  refine xr_V (As := [.int (nI a), .int (nI b)]) ⟨hx, hb, hml, hown, hts⟩ (cN_isWall l dC dI h0 a_walls a_placeX a_placeY a_reachers a_lossOf a_upper a_length a_headsOn a_turn a_lack a_joined Wd Ht Pn rs old sc jc cZ f_walls (nI a) (nI b) hW hH) (cwV 2 hts gN86 rfl rfl rfl (by decide +kernel) ⟨Nat.le_of_ble_eq_true rfl, Nat.le_of_ble_eq_true rfl⟩) hK hP [0, 1] [0] rfl rfl 0 0 rfl rfl rfl rfl hl.1 rfl (Nat.le_of_ble_eq_true rfl) dN_place_9 ⟨Nat.zero_le _, Nat.zero_le _⟩ (fun r_2 hr_2 => ?_)
  subst hr_2
  refine lv_if_eq (tgt := 25) hx hb dN_place_12 (by decide) (fun c_3 => ?_) (fun c_3 => ?_)
  · replace c_3 := bz_0 c_3
    refine lv_aload_n hx hb dN_place_25 rfl (lv_at hl 0 rfl) ?_
    refine lv_iload_n hx hb dN_place_26 rfl (lv_at hl 1 rfl) ?_
    refine lv_iload_n hx hb dN_place_27 rfl (lv_at hl 2 rfl) ?_
    refine xr_V (As := [.int (nI a), .int (nI b)]) ⟨hx, hb, hml, hown, hts⟩ (cN_isPlace l dC dI h0 a_walls a_placeX a_placeY a_reachers a_lossOf a_upper a_length a_headsOn a_turn a_lack a_joined Wd Ht Pn rs old sc jc cI f_placeX f_placeY (nI a) (nI b) hPn) (cwV 2 hts gN105 rfl rfl rfl (by decide +kernel) ⟨Nat.le_of_ble_eq_true rfl, Nat.le_of_ble_eq_true rfl⟩) hK hP [0, 2, 3] [1] rfl rfl 0 0 rfl rfl rfl rfl hl.1 rfl (Nat.le_of_ble_eq_true rfl) dN_place_28 ⟨Nat.zero_le _, Nat.zero_le _⟩ (fun r_4 hr_4 => ?_)
    subst hr_4
    refine lv_if_eq (tgt := 44) hx hb dN_place_31 (by decide) (fun c_5 => ?_) (fun c_5 => ?_)
    · replace c_5 := bz_0 c_5
      refine lv_aload_n hx hb dN_place_44 rfl (lv_at hl 0 rfl) ?_
      refine va_get (D := (dC, dI)) (ci := 0) (v := .int (nI Pn)) (C := R_N) (T := T_N) (N := 18) hx hb hts in_N hown hK hP 0 rfl rfl 6 (by decide) (hts _ flN39) (fun _ h9 => h9) rfl dN_place_45 ?_
      refine lv_bipush (v := (nI 12)) hx hb dN_place_48 (by decide) ?_
      refine lv_icmp_lt (tgt := 63) hx hb dN_place_50 (by decide) (fun c_6 => ?_) (fun c_6 => ?_)
      · exact absurd hno (by simp [*]; have := (nI_ltI (by omega) (by omega)).mp c_6; omega)
      · exact xt_St (text := "there are as many places as there may be") hx hb hlt hown hts hSt (by decide) (hl.1.trans hml.symm) dN_place_53 dN_place_56 dN_place_57 dN_place_59 dN_place_62 hout (Nat.le_of_ble_eq_true rfl) (Nat.le_of_ble_eq_true rfl) (Nat.le_of_ble_eq_true rfl) (Nat.le_of_ble_eq_true rfl) hlocks
    · replace c_5 := bz_1 c_5
      exact xt_St (text := "the cell is a place already") hx hb hlt hown hts hSt (by decide) (hl.1.trans hml.symm) dN_place_34 dN_place_37 dN_place_38 dN_place_40 dN_place_43 hout (Nat.le_of_ble_eq_true rfl) (Nat.le_of_ble_eq_true rfl) (Nat.le_of_ble_eq_true rfl) (Nat.le_of_ble_eq_true rfl) hlocks
  · replace c_3 := bz_1 c_3
    exact xt_St (text := "the cell is a wall") hx hb hlt hown hts hSt (by decide) (hl.1.trans hml.symm) dN_place_15 dN_place_18 dN_place_19 dN_place_21 dN_place_24 hout (Nat.le_of_ble_eq_true rfl) (Nat.le_of_ble_eq_true rfl) (Nat.le_of_ble_eq_true rfl) (Nat.le_of_ble_eq_true rfl) hlocks
set_option maxHeartbeats 4000000 in
set_option maxRecDepth 100000 in
theorem cN_seen (l : Launch) (dC : Nat → ClassId) (dI : Nat → Nat → Nat) (h0 a_walls a_placeX a_placeY a_reachers a_lossOf a_upper a_length a_headsOn a_turn a_lack a_joined : Nat) (Wd Ht Pn : Nat) (rs old sc jc : Int32) (cZ : ClassId) (f_walls : Nat → Int32) (a b u v : Nat) (hW : Wd ≤ 16) (hH : Ht ≤ 16) (ha : a < Wd) (hb0 : b < Ht) (hu : u < Wd) (hv0 : v < Ht) : Met l yN_seen (kN_seen :: WD) { frames := 3, cells := 0, slots := 0, locals := 76 } (va_Pc [.ref h0, .int (nI a), .int (nI b), .int (nI u), .int (nI v)] (xw (dC, dI) snC [(h0, .inr (0, [.int (nI Wd), .int (nI Ht), .ref a_walls, .int rs, .ref a_placeX, .ref a_placeY, .int (nI Pn), .ref a_reachers, .int old, .ref a_lossOf, .int sc, .ref a_upper, .ref a_length, .ref a_headsOn, .ref a_turn, .ref a_lack, .ref a_joined, .int jc])), (a_walls, .inl (cZ, 256, .inl f_walls))] [(cZ, .boolean)])) (xr_Q (fun r => r = bz (sn_free Wd Ht f_walls a b u v))) 0 0 (fun _ => False) := by
  refine Met.ofW (cc := bN_seen) (maxL := 5) (ret := (some .boolean)) (by decide) rfl ?_
  intro p e s m args below meth c s₁ B hml hv
  obtain ⟨rfl, hP, hK⟩ := hv
  have hx := B.exec
  have hb := B.bytes
  have hr := B.returns
  have hts : ∀ w ∈ WD, w.before _ s = true := fun w h => atoms_spec (ws := kN_seen :: WD) B.pre w (List.mem_cons_of_mem _ h)
  have hown : s.vm.findClass R_N = some m.cls := findClass_of_methodNamed B.named
  have hlocks := B.notSynchronized
  have hl := lv_entry ([.ref h0, .int (nI a), .int (nI b), .int (nI u), .int (nI v)]) (n := 5) (Nat.le_of_ble_eq_true rfl)
  rw [lg_entry_eq]
  generalize (lg_sl ([.ref h0, .int (nI a), .int (nI b), .int (nI u), .int (nI v)]) ++ List.replicate (5 - (lg_sl ([.ref h0, .int (nI a), .int (nI b), .int (nI u), .int (nI v)])).length) Slot.unset).toArray = ls at hl ⊢
  have hl : lv_has ls 5 [(0, .ref h0), (1, .int (nI a)), (2, .int (nI b)), (3, .int (nI u)), (4, .int (nI v))] := hl
  refine lv_aload_n hx hb dN_seen_0 rfl (lv_at hl 0 rfl) ?_
  refine lv_iload_n hx hb dN_seen_1 rfl (lv_at hl 1 rfl) ?_
  refine lv_iload_n hx hb dN_seen_2 rfl (lv_at hl 2 rfl) ?_
  refine xr_Vv (As := [.int (nI a), .int (nI b)]) ⟨hx, hb, hml, hown, hts⟩ (cN_needCell l dC dI h0 a_walls a_placeX a_placeY a_reachers a_lossOf a_upper a_length a_headsOn a_turn a_lack a_joined Wd Ht Pn rs old sc jc (nI a) (nI b) (sn_in_nI hW hH ha hb0)) (cwV 2 hts gN82 rfl rfl rfl (by decide +kernel) ⟨Nat.le_of_ble_eq_true rfl, Nat.le_of_ble_eq_true rfl⟩) hK hP [0] [] rfl rfl 0 0 rfl rfl rfl rfl hl.1 rfl (Nat.le_of_ble_eq_true rfl) dN_seen_3 ⟨Nat.zero_le _, Nat.zero_le _⟩ ?_
  refine lv_aload_n hx hb dN_seen_6 rfl (lv_at hl 0 rfl) ?_
  refine lv_iload_n hx hb dN_seen_7 rfl (lv_at hl 3 rfl) ?_
  refine lv_iload hx hb dN_seen_8 (lv_at hl 4 rfl) ?_
  refine xr_Vv (As := [.int (nI u), .int (nI v)]) ⟨hx, hb, hml, hown, hts⟩ (cN_needCell l dC dI h0 a_walls a_placeX a_placeY a_reachers a_lossOf a_upper a_length a_headsOn a_turn a_lack a_joined Wd Ht Pn rs old sc jc (nI u) (nI v) (sn_in_nI hW hH hu hv0)) (cwV 2 hts gN82 rfl rfl rfl (by decide +kernel) ⟨Nat.le_of_ble_eq_true rfl, Nat.le_of_ble_eq_true rfl⟩) hK hP [0] [] rfl rfl 0 0 rfl rfl rfl rfl hl.1 rfl (Nat.le_of_ble_eq_true rfl) dN_seen_10 ⟨Nat.zero_le _, Nat.zero_le _⟩ ?_
  refine lv_aload_n hx hb dN_seen_13 rfl (lv_at hl 0 rfl) ?_
  refine lv_iload_n hx hb dN_seen_14 rfl (lv_at hl 1 rfl) ?_
  refine lv_iload_n hx hb dN_seen_15 rfl (lv_at hl 2 rfl) ?_
  refine lv_iload_n hx hb dN_seen_16 rfl (lv_at hl 3 rfl) ?_
  refine lv_iload hx hb dN_seen_17 (lv_at hl 4 rfl) ?_
  refine xr_V (As := [.int (nI a), .int (nI b), .int (nI u), .int (nI v)]) ⟨hx, hb, hml, hown, hts⟩ (cN_lineIsFree l dC dI h0 a_walls a_placeX a_placeY a_reachers a_lossOf a_upper a_length a_headsOn a_turn a_lack a_joined Wd Ht Pn rs old sc jc cZ f_walls a b u v hW hH (by omega) (by omega) (by omega) (by omega)) (cwV 4 hts gN112 rfl rfl rfl (by decide +kernel) ⟨Nat.le_of_ble_eq_true rfl, Nat.le_of_ble_eq_true rfl⟩) hK hP [0, 1] [0] rfl rfl 0 0 rfl rfl rfl rfl hl.1 rfl (Nat.le_of_ble_eq_true rfl) dN_seen_19 ⟨Nat.zero_le _, Nat.zero_le _⟩ (fun r_3 hr_3 => ?_)
  subst hr_3
  exact W.zret (v := bz (sn_free Wd Ht f_walls a b u v)) hx hb hr (bz_nar _) (fun t ht hW => ⟨⟨bz (sn_free Wd Ht f_walls a b u v), rfl, rfl⟩, ht⟩) (fun _ h => absurd h List.not_mem_nil) dN_seen_22
set_option maxHeartbeats 4000000 in
set_option maxRecDepth 100000 in
theorem cN_seen_T (l : Launch) (hlt : l.stackTraces = false) (dC : Nat → ClassId) (dI : Nat → Nat → Nat) (h0 a_walls a_placeX a_placeY a_reachers a_lossOf a_upper a_length a_headsOn a_turn a_lack a_joined : Nat) (Wd Ht Pn : Nat) (rs old sc jc : Int32) (x y u v : Int32) (hno : sn_in Wd Ht x y = false ∨ sn_in Wd Ht u v = false) : MetT l yN_seen (kN_seen :: WD) { frames := 7, cells := 1, slots := 6, locals := 104 } (va_Pc [.ref h0, .int x, .int y, .int u, .int v] (xt_B (dC, dI) snC [(h0, .inr (0, [.int (nI Wd), .int (nI Ht), .ref a_walls, .int rs, .ref a_placeX, .ref a_placeY, .int (nI Pn), .ref a_reachers, .int old, .ref a_lossOf, .int sc, .ref a_upper, .ref a_length, .ref a_headsOn, .ref a_turn, .ref a_lack, .ref a_joined, .int jc]))] [])) xt_IAE := by
  refine vx_ofW (cc := bN_seen) (maxL := 5) (ret := (some .boolean)) (by decide) rfl ?_
  intro p e s m args below meth c s₁ B hml hout hv
  obtain ⟨rfl, ⟨hP, hK⟩, hSt⟩ := hv
  have hx := B.exec
  have hb := B.bytes
  have hr := B.returns
  have hts : ∀ w ∈ WD, w.before _ s = true := fun w h => atoms_spec (ws := kN_seen :: WD) B.pre w (List.mem_cons_of_mem _ h)
  have hown : s.vm.findClass R_N = some m.cls := findClass_of_methodNamed B.named
  have hlocks := B.notSynchronized
  have hl := lv_entry ([.ref h0, .int x, .int y, .int u, .int v]) (n := 5) (Nat.le_of_ble_eq_true rfl)
  rw [lg_entry_eq]
  generalize (lg_sl ([.ref h0, .int x, .int y, .int u, .int v]) ++ List.replicate (5 - (lg_sl ([.ref h0, .int x, .int y, .int u, .int v])).length) Slot.unset).toArray = ls at hl ⊢
  have hl : lv_has ls 5 [(0, .ref h0), (1, .int x), (2, .int y), (3, .int u), (4, .int v)] := hl
  refine lv_aload_n hx hb dN_seen_0 rfl (lv_at hl 0 rfl) ?_
  refine lv_iload_n hx hb dN_seen_1 rfl (lv_at hl 1 rfl) ?_
  refine lv_iload_n hx hb dN_seen_2 rfl (lv_at hl 2 rfl) ?_
  rcases Bool.eq_false_or_eq_true (sn_in Wd Ht x y) with q_1 | q_1
  · refine xr_Vv (As := [.int x, .int y]) ⟨hx, hb, hml, hown, hts⟩ (cN_needCell l dC dI h0 a_walls a_placeX a_placeY a_reachers a_lossOf a_upper a_length a_headsOn a_turn a_lack a_joined Wd Ht Pn rs old sc jc x y q_1) (cwV 2 hts gN82 rfl rfl rfl (by decide +kernel) ⟨Nat.le_of_ble_eq_true rfl, Nat.le_of_ble_eq_true rfl⟩) hK hP [0] [] rfl rfl 0 0 rfl rfl rfl rfl hl.1 rfl (Nat.le_of_ble_eq_true rfl) dN_seen_3 ⟨Nat.zero_le _, Nat.zero_le _⟩ ?_
    refine lv_aload_n hx hb dN_seen_6 rfl (lv_at hl 0 rfl) ?_
    refine lv_iload_n hx hb dN_seen_7 rfl (lv_at hl 3 rfl) ?_
    refine lv_iload hx hb dN_seen_8 (lv_at hl 4 rfl) ?_
    exact xt_V (As := [.int u, .int v]) ⟨hx, hb, hml, hown, hts⟩ (cN_needCell_T l hlt dC dI h0 a_walls a_placeX a_placeY a_reachers a_lossOf a_upper a_length a_headsOn a_turn a_lack a_joined Wd Ht Pn rs old sc jc u v (by simpa [*] using hno)) (cwV 2 hts gN82 rfl rfl rfl (by decide +kernel) ⟨Nat.le_of_ble_eq_true rfl, Nat.le_of_ble_eq_true rfl⟩) hSt hK hP [0] [] rfl rfl 0 0 rfl rfl rfl rfl hl.1 rfl (Nat.le_of_ble_eq_true rfl) dN_seen_10 ⟨Nat.le_of_ble_eq_true rfl, Nat.le_of_ble_eq_true rfl⟩ hout hlocks
  · exact xt_V (As := [.int x, .int y]) ⟨hx, hb, hml, hown, hts⟩ (cN_needCell_T l hlt dC dI h0 a_walls a_placeX a_placeY a_reachers a_lossOf a_upper a_length a_headsOn a_turn a_lack a_joined Wd Ht Pn rs old sc jc x y q_1) (cwV 2 hts gN82 rfl rfl rfl (by decide +kernel) ⟨Nat.le_of_ble_eq_true rfl, Nat.le_of_ble_eq_true rfl⟩) hSt hK hP [0] [] rfl rfl 0 0 rfl rfl rfl rfl hl.1 rfl (Nat.le_of_ble_eq_true rfl) dN_seen_3 ⟨Nat.le_of_ble_eq_true rfl, Nat.le_of_ble_eq_true rfl⟩ hout hlocks
set_option maxHeartbeats 4000000 in
set_option maxRecDepth 100000 in
theorem cN_size (l : Launch) (dC : Nat → ClassId) (dI : Nat → Nat → Nat) (h0 a_walls a_placeX a_placeY a_reachers a_lossOf a_upper a_length a_headsOn a_turn a_lack a_joined : Nat) (Wd Ht Pn : Nat) (rs old sc jc : Int32) (cZ cI : ClassId) (f_walls f_placeX f_placeY f_reachers f_lossOf f_upper f_length f_headsOn f_turn f_lack f_joined : Nat → Int32) (h : Nat) (lo : Int32) (sz : Nat) (hh1 : 1 ≤ h) (hh2 : h ≤ 12) (hok : sn_lok lo = true) : Met l yN_size (kN_size :: WD) { frames := 0, cells := 0, slots := 0, locals := 0 } (va_Pc [.ref h0, .int (nI h), .int lo] (xm (dC, dI) snC [(h0, .inr (0, [.int (nI Wd), .int (nI Ht), .ref a_walls, .int rs, .ref a_placeX, .ref a_placeY, .int (nI Pn), .ref a_reachers, .int old, .ref a_lossOf, .int sc, .ref a_upper, .ref a_length, .ref a_headsOn, .ref a_turn, .ref a_lack, .ref a_joined, .int jc])), (a_walls, .inl (cZ, 256, .inl f_walls)), (a_placeX, .inl (cI, 12, .inl f_placeX)), (a_placeY, .inl (cI, 12, .inl f_placeY)), (a_reachers, .inl (cI, 256, .inl f_reachers)), (a_lossOf, .inl (cI, 13, .inl f_lossOf)), (a_upper, .inl (cI, 12, .inl f_upper)), (a_length, .inl (cI, 12, .inl f_length)), (a_headsOn, .inl (cI, 12, .inl f_headsOn)), (a_turn, .inl (cI, 12, .inl f_turn)), (a_lack, .inl (cI, 12, .inl f_lack)), (a_joined, .inl (cI, 12, .inl f_joined))] [(cZ, .boolean), (cI, .int)] sz)) (va_Qi (fun (r : Int32) (_ : Unit) => r = sn_sz f_lossOf h sc) (fun _ => xo (dC, dI) snC [(h0, .inr (0, [.int (nI Wd), .int (nI Ht), .ref a_walls, .int rs, .ref a_placeX, .ref a_placeY, .int (nI Pn), .ref a_reachers, .int old, .ref a_lossOf, .int (sn_sz f_lossOf h sc), .ref a_upper, .ref a_length, .ref a_headsOn, .ref a_turn, .ref a_lack, .ref a_joined, .int jc])), (a_walls, .inl (cZ, 256, .inl f_walls)), (a_placeX, .inl (cI, 12, .inl f_placeX)), (a_placeY, .inl (cI, 12, .inl f_placeY)), (a_reachers, .inl (cI, 256, .inl f_reachers)), (a_lossOf, .inl (cI, 13, .inl (upd f_lossOf h lo))), (a_upper, .inl (cI, 12, .inl f_upper)), (a_length, .inl (cI, 12, .inl f_length)), (a_headsOn, .inl (cI, 12, .inl f_headsOn)), (a_turn, .inl (cI, 12, .inl f_turn)), (a_lack, .inl (cI, 12, .inl f_lack)), (a_joined, .inl (cI, 12, .inl f_joined))] [(cZ, .boolean), (cI, .int)] (va_A [(h0, .inr (0, [.int (nI Wd), .int (nI Ht), .ref a_walls, .int rs, .ref a_placeX, .ref a_placeY, .int (nI Pn), .ref a_reachers, .int old, .ref a_lossOf, .int sc, .ref a_upper, .ref a_length, .ref a_headsOn, .ref a_turn, .ref a_lack, .ref a_joined, .int jc])), (a_walls, .inl (cZ, 256, .inl f_walls)), (a_placeX, .inl (cI, 12, .inl f_placeX)), (a_placeY, .inl (cI, 12, .inl f_placeY)), (a_reachers, .inl (cI, 256, .inl f_reachers)), (a_lossOf, .inl (cI, 13, .inl f_lossOf)), (a_upper, .inl (cI, 12, .inl f_upper)), (a_length, .inl (cI, 12, .inl f_length)), (a_headsOn, .inl (cI, 12, .inl f_headsOn)), (a_turn, .inl (cI, 12, .inl f_turn)), (a_lack, .inl (cI, 12, .inl f_lack)), (a_joined, .inl (cI, 12, .inl f_joined))] sz)) (va_A [(h0, .inr (0, [.int (nI Wd), .int (nI Ht), .ref a_walls, .int rs, .ref a_placeX, .ref a_placeY, .int (nI Pn), .ref a_reachers, .int old, .ref a_lossOf, .int sc, .ref a_upper, .ref a_length, .ref a_headsOn, .ref a_turn, .ref a_lack, .ref a_joined, .int jc])), (a_walls, .inl (cZ, 256, .inl f_walls)), (a_placeX, .inl (cI, 12, .inl f_placeX)), (a_placeY, .inl (cI, 12, .inl f_placeY)), (a_reachers, .inl (cI, 256, .inl f_reachers)), (a_lossOf, .inl (cI, 13, .inl f_lossOf)), (a_upper, .inl (cI, 12, .inl f_upper)), (a_length, .inl (cI, 12, .inl f_length)), (a_headsOn, .inl (cI, 12, .inl f_headsOn)), (a_turn, .inl (cI, 12, .inl f_turn)), (a_lack, .inl (cI, 12, .inl f_lack)), (a_joined, .inl (cI, 12, .inl f_joined))] sz)) 0 0 (va_A [(h0, .inr (0, [.int (nI Wd), .int (nI Ht), .ref a_walls, .int rs, .ref a_placeX, .ref a_placeY, .int (nI Pn), .ref a_reachers, .int old, .ref a_lossOf, .int sc, .ref a_upper, .ref a_length, .ref a_headsOn, .ref a_turn, .ref a_lack, .ref a_joined, .int jc])), (a_walls, .inl (cZ, 256, .inl f_walls)), (a_placeX, .inl (cI, 12, .inl f_placeX)), (a_placeY, .inl (cI, 12, .inl f_placeY)), (a_reachers, .inl (cI, 256, .inl f_reachers)), (a_lossOf, .inl (cI, 13, .inl f_lossOf)), (a_upper, .inl (cI, 12, .inl f_upper)), (a_length, .inl (cI, 12, .inl f_length)), (a_headsOn, .inl (cI, 12, .inl f_headsOn)), (a_turn, .inl (cI, 12, .inl f_turn)), (a_lack, .inl (cI, 12, .inl f_lack)), (a_joined, .inl (cI, 12, .inl f_joined))] sz) := by
  refine Met.ofW (cc := bN_size) (maxL := 3) (ret := (some .int)) (by decide) rfl ?_
  intro p e s m args below meth c s₁ B hml hv
  obtain ⟨rfl, hsz, hP, hK, hD0⟩ := hv
  have hx := B.exec
  have hb := B.bytes
  have hr := B.returns
  have hts : ∀ w ∈ WD, w.before _ s = true := fun w h => atoms_spec (ws := kN_size :: WD) B.pre w (List.mem_cons_of_mem _ h)
  have hown : s.vm.findClass R_N = some m.cls := findClass_of_methodNamed B.named
  have hlocks := B.notSynchronized
  subst hsz
  have hD := hD0.self (sz := s.heap.size)
  generalize hAe : va_A [(h0, .inr (0, [.int (nI Wd), .int (nI Ht), .ref a_walls, .int rs, .ref a_placeX, .ref a_placeY, .int (nI Pn), .ref a_reachers, .int old, .ref a_lossOf, .int sc, .ref a_upper, .ref a_length, .ref a_headsOn, .ref a_turn, .ref a_lack, .ref a_joined, .int jc])), (a_walls, .inl (cZ, 256, .inl f_walls)), (a_placeX, .inl (cI, 12, .inl f_placeX)), (a_placeY, .inl (cI, 12, .inl f_placeY)), (a_reachers, .inl (cI, 256, .inl f_reachers)), (a_lossOf, .inl (cI, 13, .inl f_lossOf)), (a_upper, .inl (cI, 12, .inl f_upper)), (a_length, .inl (cI, 12, .inl f_length)), (a_headsOn, .inl (cI, 12, .inl f_headsOn)), (a_turn, .inl (cI, 12, .inl f_turn)), (a_lack, .inl (cI, 12, .inl f_lack)), (a_joined, .inl (cI, 12, .inl f_joined))] s.heap.size = A at hD ⊢
  have hA : ∀ q : Nat, s.heap.size ≤ q → A q := fun q h => by rw [← hAe]; exact Or.inr h
  have hS : va_S A s.heap s.heap [] := va_S.rf
  have hl := lv_entry ([.ref h0, .int (nI h), .int lo]) (n := 3) (Nat.le_of_ble_eq_true rfl)
  rw [lg_entry_eq]
  generalize (lg_sl ([.ref h0, .int (nI h), .int lo]) ++ List.replicate (3 - (lg_sl ([.ref h0, .int (nI h), .int lo])).length) Slot.unset).toArray = ls at hl ⊢
  have hl : lv_has ls 3 [(0, .ref h0), (1, .int (nI h)), (2, .int lo)] := hl
  refine lv_iload_n hx hb dN_size_0 rfl (lv_at hl 1 rfl) ?_
  refine lv_iconst (v := (nI 1)) hx hb dN_size_1 (by decide) ?_
  refine lv_icmp_lt (tgt := 11) hx hb dN_size_2 (by decide) (fun c_1 => ?_) (fun c_1 => ?_)
  · exact absurd ((nI_ltI (by omega) (by omega)).mp c_1) (by omega)
  · refine lv_iload_n hx hb dN_size_5 rfl (lv_at hl 1 rfl) ?_
    refine lv_bipush (v := (nI 12)) hx hb dN_size_6 (by decide) ?_
    refine lv_icmp_le (tgt := 21) hx hb dN_size_8 (by decide) (fun c_2 => ?_) (fun c_2 => ?_)
    · refine lv_iload_n hx hb dN_size_21 rfl (lv_at hl 2 rfl) ?_
      refine lv_if_lt (tgt := 32) hx hb dN_size_22 (by decide) (fun c_3 => ?_) (fun c_3 => ?_)
      · exact absurd hok (by simp [sn_lok, *])
      · refine lv_iload_n hx hb dN_size_25 rfl (lv_at hl 2 rfl) ?_
        refine lv_sipush (v := 1000) hx hb dN_size_26 (by decide) ?_
        refine lv_icmp_le (tgt := 42) hx hb dN_size_29 (by decide) (fun c_4 => ?_) (fun c_4 => ?_)
        · refine lv_aload_n hx hb dN_size_42 rfl (lv_at hl 0 rfl) ?_
          refine va_get (D := (dC, dI)) (ci := 0) (v := .ref a_lossOf) (C := R_N) (T := T_N) (N := 18) hx hb hts in_N hown hK hP 0 rfl rfl 9 (by decide) (hts _ flN49) (fun _ h9 => h9) rfl dN_size_43 ?_
          refine lv_iload_n hx hb dN_size_46 rfl (lv_at hl 1 rfl) ?_
          refine xa_iald hx hb hK hP 5 1 rfl rfl (i := h) (by omega) (by first | decide | omega) dN_size_47 ?_
          refine lv_iconst (v := (-1)) hx hb dN_size_48 (by decide) ?_
          refine lv_icmp_ne (tgt := 62) hx hb dN_size_49 (by decide) (fun c_5 => ?_) (fun c_5 => ?_)
          · refine lv_aload_n hx hb dN_size_62 rfl (lv_at hl 0 rfl) ?_
            refine va_get (D := (dC, dI)) (ci := 0) (v := .ref a_lossOf) (C := R_N) (T := T_N) (N := 18) hx hb hts in_N hown hK hP 0 rfl rfl 9 (by decide) (hts _ flN49) (fun _ h9 => h9) rfl dN_size_63 ?_
            refine lv_iload_n hx hb dN_size_66 rfl (lv_at hl 1 rfl) ?_
            refine lv_iload_n hx hb dN_size_67 rfl (lv_at hl 2 rfl) ?_
            refine xa_iast hx hb hK hP hD hS 5 1 rfl rfl (i := h) (x := lo) (by omega) (by first | decide | omega) dN_size_68 (fun H locs hP hD hS => ?_)
            have hP : va_P (dC, dI) snC [(h0, .inr (0, [.int (nI Wd), .int (nI Ht), .ref a_walls, .int rs, .ref a_placeX, .ref a_placeY, .int (nI Pn), .ref a_reachers, .int old, .ref a_lossOf, .int sc, .ref a_upper, .ref a_length, .ref a_headsOn, .ref a_turn, .ref a_lack, .ref a_joined, .int jc])), (a_walls, .inl (cZ, 256, .inl f_walls)), (a_placeX, .inl (cI, 12, .inl f_placeX)), (a_placeY, .inl (cI, 12, .inl f_placeY)), (a_reachers, .inl (cI, 256, .inl f_reachers)), (a_lossOf, .inl (cI, 13, .inl (upd f_lossOf h lo))), (a_upper, .inl (cI, 12, .inl f_upper)), (a_length, .inl (cI, 12, .inl f_length)), (a_headsOn, .inl (cI, 12, .inl f_headsOn)), (a_turn, .inl (cI, 12, .inl f_turn)), (a_lack, .inl (cI, 12, .inl f_lack)), (a_joined, .inl (cI, 12, .inl f_joined))] H := hP
            have hD : va_D A [(h0, .inr (0, [.int (nI Wd), .int (nI Ht), .ref a_walls, .int rs, .ref a_placeX, .ref a_placeY, .int (nI Pn), .ref a_reachers, .int old, .ref a_lossOf, .int sc, .ref a_upper, .ref a_length, .ref a_headsOn, .ref a_turn, .ref a_lack, .ref a_joined, .int jc])), (a_walls, .inl (cZ, 256, .inl f_walls)), (a_placeX, .inl (cI, 12, .inl f_placeX)), (a_placeY, .inl (cI, 12, .inl f_placeY)), (a_reachers, .inl (cI, 256, .inl f_reachers)), (a_lossOf, .inl (cI, 13, .inl (upd f_lossOf h lo))), (a_upper, .inl (cI, 12, .inl f_upper)), (a_length, .inl (cI, 12, .inl f_length)), (a_headsOn, .inl (cI, 12, .inl f_headsOn)), (a_turn, .inl (cI, 12, .inl f_turn)), (a_lack, .inl (cI, 12, .inl f_lack)), (a_joined, .inl (cI, 12, .inl f_joined))] := hD
            refine lv_aload_n hx hb dN_size_69 rfl (lv_at hl 0 rfl) ?_
            refine va_get (D := (dC, dI)) (ci := 0) (v := .int sc) (C := R_N) (T := T_N) (N := 18) hx hb hts in_N hown hK hP 0 rfl rfl 10 (by decide) (hts _ flN58) (fun _ h9 => h9) rfl dN_size_70 ?_
            rw [show sn_sz f_lossOf h sc = sc from by simp [sn_sz, c_1, c_2, c_3, c_4, c_5]]
            exact W.iret (v := sc) hx hb hr (fun t ht hW => ⟨⟨sc, (), rfl, rfl, by rw [ht]; exact hP, va_K.moved hW.alike hK, hD⟩, hS.F ht⟩) hS.2.2 dN_size_73
          · refine lv_aload_n hx hb dN_size_52 rfl (lv_at hl 0 rfl) ?_
            refine lv_dup hx hb dN_size_53 rfl ?_
            refine va_get (D := (dC, dI)) (ci := 0) (v := .int sc) (C := R_N) (T := T_N) (N := 18) hx hb hts in_N hown hK hP 0 rfl rfl 10 (by decide) (hts _ flN58) (fun _ h9 => h9) rfl dN_size_54 ?_
            refine lv_iconst (v := 1) hx hb dN_size_57 (by decide) ?_
            refine lv_iadd hx hb dN_size_58 ?_
            refine va_put (D := (dC, dI)) (ci := 0) (v := .int (sc + 1)) (ty := .int) (C := R_N) (T := T_N) (N := 18) hx hb hts in_N t_N tok_N n_N hown hK hP hD hS 0 rfl rfl 10 (by decide) (hts _ flN58) (fun _ h9 => h9) rfl (by decide +kernel) rfl rfl (Nat.le_of_ble_eq_true rfl) dN_size_59 (fun H locs hP hD hS => ?_)
            have hP : va_P (dC, dI) snC [(h0, .inr (0, [.int (nI Wd), .int (nI Ht), .ref a_walls, .int rs, .ref a_placeX, .ref a_placeY, .int (nI Pn), .ref a_reachers, .int old, .ref a_lossOf, .int (sc + 1), .ref a_upper, .ref a_length, .ref a_headsOn, .ref a_turn, .ref a_lack, .ref a_joined, .int jc])), (a_walls, .inl (cZ, 256, .inl f_walls)), (a_placeX, .inl (cI, 12, .inl f_placeX)), (a_placeY, .inl (cI, 12, .inl f_placeY)), (a_reachers, .inl (cI, 256, .inl f_reachers)), (a_lossOf, .inl (cI, 13, .inl f_lossOf)), (a_upper, .inl (cI, 12, .inl f_upper)), (a_length, .inl (cI, 12, .inl f_length)), (a_headsOn, .inl (cI, 12, .inl f_headsOn)), (a_turn, .inl (cI, 12, .inl f_turn)), (a_lack, .inl (cI, 12, .inl f_lack)), (a_joined, .inl (cI, 12, .inl f_joined))] H := hP
            have hD : va_D A [(h0, .inr (0, [.int (nI Wd), .int (nI Ht), .ref a_walls, .int rs, .ref a_placeX, .ref a_placeY, .int (nI Pn), .ref a_reachers, .int old, .ref a_lossOf, .int (sc + 1), .ref a_upper, .ref a_length, .ref a_headsOn, .ref a_turn, .ref a_lack, .ref a_joined, .int jc])), (a_walls, .inl (cZ, 256, .inl f_walls)), (a_placeX, .inl (cI, 12, .inl f_placeX)), (a_placeY, .inl (cI, 12, .inl f_placeY)), (a_reachers, .inl (cI, 256, .inl f_reachers)), (a_lossOf, .inl (cI, 13, .inl f_lossOf)), (a_upper, .inl (cI, 12, .inl f_upper)), (a_length, .inl (cI, 12, .inl f_length)), (a_headsOn, .inl (cI, 12, .inl f_headsOn)), (a_turn, .inl (cI, 12, .inl f_turn)), (a_lack, .inl (cI, 12, .inl f_lack)), (a_joined, .inl (cI, 12, .inl f_joined))] := hD
            refine lv_aload_n hx hb dN_size_62 rfl (lv_at hl 0 rfl) ?_
            refine va_get (D := (dC, dI)) (ci := 0) (v := .ref a_lossOf) (C := R_N) (T := T_N) (N := 18) hx hb hts in_N hown hK hP 0 rfl rfl 9 (by decide) (hts _ flN49) (fun _ h9 => h9) rfl dN_size_63 ?_
            refine lv_iload_n hx hb dN_size_66 rfl (lv_at hl 1 rfl) ?_
            refine lv_iload_n hx hb dN_size_67 rfl (lv_at hl 2 rfl) ?_
            refine xa_iast hx hb hK hP hD hS 5 1 rfl rfl (i := h) (x := lo) (by omega) (by first | decide | omega) dN_size_68 (fun H locs hP hD hS => ?_)
            have hP : va_P (dC, dI) snC [(h0, .inr (0, [.int (nI Wd), .int (nI Ht), .ref a_walls, .int rs, .ref a_placeX, .ref a_placeY, .int (nI Pn), .ref a_reachers, .int old, .ref a_lossOf, .int (sc + 1), .ref a_upper, .ref a_length, .ref a_headsOn, .ref a_turn, .ref a_lack, .ref a_joined, .int jc])), (a_walls, .inl (cZ, 256, .inl f_walls)), (a_placeX, .inl (cI, 12, .inl f_placeX)), (a_placeY, .inl (cI, 12, .inl f_placeY)), (a_reachers, .inl (cI, 256, .inl f_reachers)), (a_lossOf, .inl (cI, 13, .inl (upd f_lossOf h lo))), (a_upper, .inl (cI, 12, .inl f_upper)), (a_length, .inl (cI, 12, .inl f_length)), (a_headsOn, .inl (cI, 12, .inl f_headsOn)), (a_turn, .inl (cI, 12, .inl f_turn)), (a_lack, .inl (cI, 12, .inl f_lack)), (a_joined, .inl (cI, 12, .inl f_joined))] H := hP
            have hD : va_D A [(h0, .inr (0, [.int (nI Wd), .int (nI Ht), .ref a_walls, .int rs, .ref a_placeX, .ref a_placeY, .int (nI Pn), .ref a_reachers, .int old, .ref a_lossOf, .int (sc + 1), .ref a_upper, .ref a_length, .ref a_headsOn, .ref a_turn, .ref a_lack, .ref a_joined, .int jc])), (a_walls, .inl (cZ, 256, .inl f_walls)), (a_placeX, .inl (cI, 12, .inl f_placeX)), (a_placeY, .inl (cI, 12, .inl f_placeY)), (a_reachers, .inl (cI, 256, .inl f_reachers)), (a_lossOf, .inl (cI, 13, .inl (upd f_lossOf h lo))), (a_upper, .inl (cI, 12, .inl f_upper)), (a_length, .inl (cI, 12, .inl f_length)), (a_headsOn, .inl (cI, 12, .inl f_headsOn)), (a_turn, .inl (cI, 12, .inl f_turn)), (a_lack, .inl (cI, 12, .inl f_lack)), (a_joined, .inl (cI, 12, .inl f_joined))] := hD
            refine lv_aload_n hx hb dN_size_69 rfl (lv_at hl 0 rfl) ?_
            refine va_get (D := (dC, dI)) (ci := 0) (v := .int (sc + 1)) (C := R_N) (T := T_N) (N := 18) hx hb hts in_N hown hK hP 0 rfl rfl 10 (by decide) (hts _ flN58) (fun _ h9 => h9) rfl dN_size_70 ?_
            rw [show sn_sz f_lossOf h sc = sc + 1 from by simp [sn_sz, c_1, c_2, c_3, c_4, c_5]]
            exact W.iret (v := sc + 1) hx hb hr (fun t ht hW => ⟨⟨sc + 1, (), rfl, rfl, by rw [ht]; exact hP, va_K.moved hW.alike hK, hD⟩, hS.F ht⟩) hS.2.2 dN_size_73
        · exact absurd hok (by simp [sn_lok, *])
    · exact absurd ((nI_leI (by omega) (by omega)).mpr hh2) c_2
set_option maxHeartbeats 4000000 in
set_option maxRecDepth 100000 in
theorem cN_size_T (l : Launch) (hlt : l.stackTraces = false) (dC : Nat → ClassId) (dI : Nat → Nat → Nat) (h0 a_walls a_placeX a_placeY a_reachers a_lossOf a_upper a_length a_headsOn a_turn a_lack a_joined : Nat) (Wd Ht Pn : Nat) (rs old sc jc : Int32) (x lo : Int32) (hno : (sn_hok x && sn_lok lo) = false) : MetT l yN_size (kN_size :: WD) { frames := 6, cells := 1, slots := 6, locals := 82 } (va_Pc [.ref h0, .int x, .int lo] (xt_B (dC, dI) snC [(h0, .inr (0, [.int (nI Wd), .int (nI Ht), .ref a_walls, .int rs, .ref a_placeX, .ref a_placeY, .int (nI Pn), .ref a_reachers, .int old, .ref a_lossOf, .int sc, .ref a_upper, .ref a_length, .ref a_headsOn, .ref a_turn, .ref a_lack, .ref a_joined, .int jc]))] [])) xt_IAE := by
  refine vx_ofW (cc := bN_size) (maxL := 3) (ret := (some .int)) (by decide) rfl ?_
  intro p e s m args below meth c s₁ B hml hout hv
  obtain ⟨rfl, ⟨hP, hK⟩, hSt⟩ := hv
  have hx := B.exec
  have hb := B.bytes
  have hr := B.returns
  have hts : ∀ w ∈ WD, w.before _ s = true := fun w h => atoms_spec (ws := kN_size :: WD) B.pre w (List.mem_cons_of_mem _ h)
  have hown : s.vm.findClass R_N = some m.cls := findClass_of_methodNamed B.named
  have hlocks := B.notSynchronized
  have hl := lv_entry ([.ref h0, .int x, .int lo]) (n := 3) (Nat.le_of_ble_eq_true rfl)
  rw [lg_entry_eq]
  generalize (lg_sl ([.ref h0, .int x, .int lo]) ++ List.replicate (3 - (lg_sl ([.ref h0, .int x, .int lo])).length) Slot.unset).toArray = ls at hl ⊢
  have hl : lv_has ls 3 [(0, .ref h0), (1, .int x), (2, .int lo)] := hl
  refine lv_iload_n hx hb dN_size_0 rfl (lv_at hl 1 rfl) ?_
  refine lv_iconst (v := 1) hx hb dN_size_1 (by decide) ?_
  refine lv_icmp_lt (tgt := 11) hx hb dN_size_2 (by decide) (fun c_1 => ?_) (fun c_1 => ?_)
  · exact xt_I (text := "heads are out of their bounds") hx hb hlt hown hts hSt (by decide) (hl.1.trans hml.symm) dN_size_11 dN_size_14 dN_size_15 dN_size_17 dN_size_20 hout (Nat.le_of_ble_eq_true rfl) (Nat.le_of_ble_eq_true rfl) (Nat.le_of_ble_eq_true rfl) (Nat.le_of_ble_eq_true rfl) hlocks
  · refine lv_iload_n hx hb dN_size_5 rfl (lv_at hl 1 rfl) ?_
    refine lv_bipush (v := 12) hx hb dN_size_6 (by decide) ?_
    refine lv_icmp_le (tgt := 21) hx hb dN_size_8 (by decide) (fun c_2 => ?_) (fun c_2 => ?_)
    · refine lv_iload_n hx hb dN_size_21 rfl (lv_at hl 2 rfl) ?_
      refine lv_if_lt (tgt := 32) hx hb dN_size_22 (by decide) (fun c_3 => ?_) (fun c_3 => ?_)
      · exact xt_I (text := "loss is out of its bounds") hx hb hlt hown hts hSt (by decide) (hl.1.trans hml.symm) dN_size_32 dN_size_35 dN_size_36 dN_size_38 dN_size_41 hout (Nat.le_of_ble_eq_true rfl) (Nat.le_of_ble_eq_true rfl) (Nat.le_of_ble_eq_true rfl) (Nat.le_of_ble_eq_true rfl) hlocks
      · refine lv_iload_n hx hb dN_size_25 rfl (lv_at hl 2 rfl) ?_
        refine lv_sipush (v := 1000) hx hb dN_size_26 (by decide) ?_
        refine lv_icmp_le (tgt := 42) hx hb dN_size_29 (by decide) (fun c_4 => ?_) (fun c_4 => ?_)
        · exact absurd hno (by simp [sn_hok, sn_lok, *])
        · exact xt_I (text := "loss is out of its bounds") hx hb hlt hown hts hSt (by decide) (hl.1.trans hml.symm) dN_size_32 dN_size_35 dN_size_36 dN_size_38 dN_size_41 hout (Nat.le_of_ble_eq_true rfl) (Nat.le_of_ble_eq_true rfl) (Nat.le_of_ble_eq_true rfl) (Nat.le_of_ble_eq_true rfl) hlocks
    · exact xt_I (text := "heads are out of their bounds") hx hb hlt hown hts hSt (by decide) (hl.1.trans hml.symm) dN_size_11 dN_size_14 dN_size_15 dN_size_17 dN_size_20 hout (Nat.le_of_ble_eq_true rfl) (Nat.le_of_ble_eq_true rfl) (Nat.le_of_ble_eq_true rfl) (Nat.le_of_ble_eq_true rfl) hlocks
set_option maxHeartbeats 4000000 in
set_option maxRecDepth 100000 in
theorem cN_reached_T (l : Launch) (hlt : l.stackTraces = false) (dC : Nat → ClassId) (dI : Nat → Nat → Nat) (h0 a_walls a_placeX a_placeY a_reachers a_lossOf a_upper a_length a_headsOn a_turn a_lack a_joined : Nat) (Wd Ht Pn : Nat) (rs old sc jc : Int32) (x : Int32) (hno : sn_pl Pn x = false) : MetT l yN_reached (kN_reached :: WD) { frames := 7, cells := 1, slots := 6, locals := 122 } (va_Pc [.ref h0, .int x] (xt_B (dC, dI) snC [(h0, .inr (0, [.int (nI Wd), .int (nI Ht), .ref a_walls, .int rs, .ref a_placeX, .ref a_placeY, .int (nI Pn), .ref a_reachers, .int old, .ref a_lossOf, .int sc, .ref a_upper, .ref a_length, .ref a_headsOn, .ref a_turn, .ref a_lack, .ref a_joined, .int jc]))] [])) xt_IAE := by
  refine vx_ofW (cc := bN_reached) (maxL := 4) (ret := (some .int)) (by decide) rfl ?_
  intro p e s m args below meth c s₁ B hml hout hv
  obtain ⟨rfl, ⟨hP, hK⟩, hSt⟩ := hv
  have hx := B.exec
  have hb := B.bytes
  have hr := B.returns
  have hts : ∀ w ∈ WD, w.before _ s = true := fun w h => atoms_spec (ws := kN_reached :: WD) B.pre w (List.mem_cons_of_mem _ h)
  have hown : s.vm.findClass R_N = some m.cls := findClass_of_methodNamed B.named
  have hlocks := B.notSynchronized
  have hl := lv_entry ([.ref h0, .int x]) (n := 4) (Nat.le_of_ble_eq_true rfl)
  rw [lg_entry_eq]
  generalize (lg_sl ([.ref h0, .int x]) ++ List.replicate (4 - (lg_sl ([.ref h0, .int x])).length) Slot.unset).toArray = ls at hl ⊢
  have hl : lv_has ls 4 [(0, .ref h0), (1, .int x)] := hl
  refine lv_aload_n hx hb dN_reached_0 rfl (lv_at hl 0 rfl) ?_
  refine lv_iload_n hx hb dN_reached_1 rfl (lv_at hl 1 rfl) ?_
  exact xt_V (As := [.int x]) ⟨hx, hb, hml, hown, hts⟩ (cN_needPlace_T l hlt dC dI h0 a_walls a_placeX a_placeY a_reachers a_lossOf a_upper a_length a_headsOn a_turn a_lack a_joined Wd Ht Pn rs old sc jc x hno) (cwV 1 hts gN116 rfl rfl rfl (by decide +kernel) ⟨Nat.le_of_ble_eq_true rfl, Nat.le_of_ble_eq_true rfl⟩) hSt hK hP [0] [] rfl rfl 0 0 rfl rfl rfl rfl hl.1 rfl (Nat.le_of_ble_eq_true rfl) dN_reached_2 ⟨Nat.le_of_ble_eq_true rfl, Nat.le_of_ble_eq_true rfl⟩ hout hlocks
set_option maxHeartbeats 4000000 in
set_option maxRecDepth 100000 in
theorem cN_left_T (l : Launch) (hlt : l.stackTraces = false) (dC : Nat → ClassId) (dI : Nat → Nat → Nat) (h0 a_walls a_placeX a_placeY a_reachers a_lossOf a_upper a_length a_headsOn a_turn a_lack a_joined : Nat) (Wd Ht Pn : Nat) (rs old sc jc : Int32) (x : Int32) (hno : sn_set Pn x = false) : MetT l yN_left (kN_left :: WD) { frames := 7, cells := 1, slots := 6, locals := 122 } (va_Pc [.ref h0, .int x] (xt_B (dC, dI) snC [(h0, .inr (0, [.int (nI Wd), .int (nI Ht), .ref a_walls, .int rs, .ref a_placeX, .ref a_placeY, .int (nI Pn), .ref a_reachers, .int old, .ref a_lossOf, .int sc, .ref a_upper, .ref a_length, .ref a_headsOn, .ref a_turn, .ref a_lack, .ref a_joined, .int jc]))] [])) xt_IAE := by
  refine vx_ofW (cc := bN_left) (maxL := 4) (ret := (some .int)) (by decide) rfl ?_
  intro p e s m args below meth c s₁ B hml hout hv
  obtain ⟨rfl, ⟨hP, hK⟩, hSt⟩ := hv
  have hx := B.exec
  have hb := B.bytes
  have hr := B.returns
  have hts : ∀ w ∈ WD, w.before _ s = true := fun w h => atoms_spec (ws := kN_left :: WD) B.pre w (List.mem_cons_of_mem _ h)
  have hown : s.vm.findClass R_N = some m.cls := findClass_of_methodNamed B.named
  have hlocks := B.notSynchronized
  have hl := lv_entry ([.ref h0, .int x]) (n := 4) (Nat.le_of_ble_eq_true rfl)
  rw [lg_entry_eq]
  generalize (lg_sl ([.ref h0, .int x]) ++ List.replicate (4 - (lg_sl ([.ref h0, .int x])).length) Slot.unset).toArray = ls at hl ⊢
  have hl : lv_has ls 4 [(0, .ref h0), (1, .int x)] := hl
  refine lv_aload_n hx hb dN_left_0 rfl (lv_at hl 0 rfl) ?_
  refine lv_iload_n hx hb dN_left_1 rfl (lv_at hl 1 rfl) ?_
  exact xt_V (As := [.int x]) ⟨hx, hb, hml, hown, hts⟩ (cN_needSet_T l hlt dC dI h0 a_walls a_placeX a_placeY a_reachers a_lossOf a_upper a_length a_headsOn a_turn a_lack a_joined Wd Ht Pn rs old sc jc x hno) (cwV 1 hts gN126 rfl rfl rfl (by decide +kernel) ⟨Nat.le_of_ble_eq_true rfl, Nat.le_of_ble_eq_true rfl⟩) hSt hK hP [0] [] rfl rfl 0 0 rfl rfl rfl rfl hl.1 rfl (Nat.le_of_ble_eq_true rfl) dN_left_2 ⟨Nat.le_of_ble_eq_true rfl, Nat.le_of_ble_eq_true rfl⟩ hout hlocks
set_option maxHeartbeats 4000000 in
set_option maxRecDepth 100000 in
theorem cN_pipes_T (l : Launch) (hlt : l.stackTraces = false) (dC : Nat → ClassId) (dI : Nat → Nat → Nat) (h0 a_walls a_placeX a_placeY a_reachers a_lossOf a_upper a_length a_headsOn a_turn a_lack a_joined : Nat) (Wd Ht Pn : Nat) (rs old sc jc : Int32) (x : Int32) (hno : sn_set Pn x = false) : MetT l yN_pipes (kN_pipes :: WD) { frames := 7, cells := 1, slots := 6, locals := 103 } (va_Pc [.ref h0, .int x] (xt_B (dC, dI) snC [(h0, .inr (0, [.int (nI Wd), .int (nI Ht), .ref a_walls, .int rs, .ref a_placeX, .ref a_placeY, .int (nI Pn), .ref a_reachers, .int old, .ref a_lossOf, .int sc, .ref a_upper, .ref a_length, .ref a_headsOn, .ref a_turn, .ref a_lack, .ref a_joined, .int jc]))] [])) xt_IAE := by
  refine vx_ofW (cc := bN_pipes) (maxL := 4) (ret := (some .int)) (by decide) rfl ?_
  intro p e s m args below meth c s₁ B hml hout hv
  obtain ⟨rfl, ⟨hP, hK⟩, hSt⟩ := hv
  have hx := B.exec
  have hb := B.bytes
  have hr := B.returns
  have hts : ∀ w ∈ WD, w.before _ s = true := fun w h => atoms_spec (ws := kN_pipes :: WD) B.pre w (List.mem_cons_of_mem _ h)
  have hown : s.vm.findClass R_N = some m.cls := findClass_of_methodNamed B.named
  have hlocks := B.notSynchronized
  have hl := lv_entry ([.ref h0, .int x]) (n := 4) (Nat.le_of_ble_eq_true rfl)
  rw [lg_entry_eq]
  generalize (lg_sl ([.ref h0, .int x]) ++ List.replicate (4 - (lg_sl ([.ref h0, .int x])).length) Slot.unset).toArray = ls at hl ⊢
  have hl : lv_has ls 4 [(0, .ref h0), (1, .int x)] := hl
  refine lv_aload_n hx hb dN_pipes_0 rfl (lv_at hl 0 rfl) ?_
  refine lv_iload_n hx hb dN_pipes_1 rfl (lv_at hl 1 rfl) ?_
  exact xt_V (As := [.int x]) ⟨hx, hb, hml, hown, hts⟩ (cN_needSet_T l hlt dC dI h0 a_walls a_placeX a_placeY a_reachers a_lossOf a_upper a_length a_headsOn a_turn a_lack a_joined Wd Ht Pn rs old sc jc x hno) (cwV 1 hts gN126 rfl rfl rfl (by decide +kernel) ⟨Nat.le_of_ble_eq_true rfl, Nat.le_of_ble_eq_true rfl⟩) hSt hK hP [0] [] rfl rfl 0 0 rfl rfl rfl rfl hl.1 rfl (Nat.le_of_ble_eq_true rfl) dN_pipes_2 ⟨Nat.le_of_ble_eq_true rfl, Nat.le_of_ble_eq_true rfl⟩ hout hlocks
set_option maxHeartbeats 4000000 in
set_option maxRecDepth 100000 in
theorem cN_worst_T (l : Launch) (hlt : l.stackTraces = false) (dC : Nat → ClassId) (dI : Nat → Nat → Nat) (h0 a_walls a_placeX a_placeY a_reachers a_lossOf a_upper a_length a_headsOn a_turn a_lack a_joined : Nat) (Wd Ht Pn : Nat) (rs old sc jc : Int32) (x : Int32) (hno : sn_set Pn x = false) : MetT l yN_worst (kN_worst :: WD) { frames := 7, cells := 1, slots := 6, locals := 103 } (va_Pc [.ref h0, .int x] (xt_B (dC, dI) snC [(h0, .inr (0, [.int (nI Wd), .int (nI Ht), .ref a_walls, .int rs, .ref a_placeX, .ref a_placeY, .int (nI Pn), .ref a_reachers, .int old, .ref a_lossOf, .int sc, .ref a_upper, .ref a_length, .ref a_headsOn, .ref a_turn, .ref a_lack, .ref a_joined, .int jc]))] [])) xt_IAE := by
  refine vx_ofW (cc := bN_worst) (maxL := 5) (ret := (some .int)) (by decide) rfl ?_
  intro p e s m args below meth c s₁ B hml hout hv
  obtain ⟨rfl, ⟨hP, hK⟩, hSt⟩ := hv
  have hx := B.exec
  have hb := B.bytes
  have hr := B.returns
  have hts : ∀ w ∈ WD, w.before _ s = true := fun w h => atoms_spec (ws := kN_worst :: WD) B.pre w (List.mem_cons_of_mem _ h)
  have hown : s.vm.findClass R_N = some m.cls := findClass_of_methodNamed B.named
  have hlocks := B.notSynchronized
  have hl := lv_entry ([.ref h0, .int x]) (n := 5) (Nat.le_of_ble_eq_true rfl)
  rw [lg_entry_eq]
  generalize (lg_sl ([.ref h0, .int x]) ++ List.replicate (5 - (lg_sl ([.ref h0, .int x])).length) Slot.unset).toArray = ls at hl ⊢
  have hl : lv_has ls 5 [(0, .ref h0), (1, .int x)] := hl
  refine lv_aload_n hx hb dN_worst_0 rfl (lv_at hl 0 rfl) ?_
  refine lv_iload_n hx hb dN_worst_1 rfl (lv_at hl 1 rfl) ?_
  exact xt_V (As := [.int x]) ⟨hx, hb, hml, hown, hts⟩ (cN_needSet_T l hlt dC dI h0 a_walls a_placeX a_placeY a_reachers a_lossOf a_upper a_length a_headsOn a_turn a_lack a_joined Wd Ht Pn rs old sc jc x hno) (cwV 1 hts gN126 rfl rfl rfl (by decide +kernel) ⟨Nat.le_of_ble_eq_true rfl, Nat.le_of_ble_eq_true rfl⟩) hSt hK hP [0] [] rfl rfl 0 0 rfl rfl rfl rfl hl.1 rfl (Nat.le_of_ble_eq_true rfl) dN_worst_2 ⟨Nat.le_of_ble_eq_true rfl, Nat.le_of_ble_eq_true rfl⟩ hout hlocks
set_option maxHeartbeats 4000000 in
set_option maxRecDepth 100000 in
theorem cN_dry_T (l : Launch) (hlt : l.stackTraces = false) (dC : Nat → ClassId) (dI : Nat → Nat → Nat) (h0 a_walls a_placeX a_placeY a_reachers a_lossOf a_upper a_length a_headsOn a_turn a_lack a_joined : Nat) (Wd Ht Pn : Nat) (rs old sc jc : Int32) (x y : Int32) (hno : (sn_set Pn x && !decide (y < 0)) = false) : MetT l yN_dry (kN_dry :: WD) { frames := 7, cells := 1, slots := 6, locals := 122 } (va_Pc [.ref h0, .int x, .int y] (xt_B (dC, dI) snC [(h0, .inr (0, [.int (nI Wd), .int (nI Ht), .ref a_walls, .int rs, .ref a_placeX, .ref a_placeY, .int (nI Pn), .ref a_reachers, .int old, .ref a_lossOf, .int sc, .ref a_upper, .ref a_length, .ref a_headsOn, .ref a_turn, .ref a_lack, .ref a_joined, .int jc]))] [])) xt_IAE := by
  refine vx_ofW (cc := bN_dry) (maxL := 4) (ret := (some .int)) (by decide) rfl ?_
  intro p e s m args below meth c s₁ B hml hout hv
  obtain ⟨rfl, ⟨hP, hK⟩, hSt⟩ := hv
  have hx := B.exec
  have hb := B.bytes
  have hr := B.returns
  have hts : ∀ w ∈ WD, w.before _ s = true := fun w h => atoms_spec (ws := kN_dry :: WD) B.pre w (List.mem_cons_of_mem _ h)
  have hown : s.vm.findClass R_N = some m.cls := findClass_of_methodNamed B.named
  have hlocks := B.notSynchronized
  have hl := lv_entry ([.ref h0, .int x, .int y]) (n := 4) (Nat.le_of_ble_eq_true rfl)
  rw [lg_entry_eq]
  generalize (lg_sl ([.ref h0, .int x, .int y]) ++ List.replicate (4 - (lg_sl ([.ref h0, .int x, .int y])).length) Slot.unset).toArray = ls at hl ⊢
  have hl : lv_has ls 4 [(0, .ref h0), (1, .int x), (2, .int y)] := hl
  refine lv_aload_n hx hb dN_dry_0 rfl (lv_at hl 0 rfl) ?_
  refine lv_iload_n hx hb dN_dry_1 rfl (lv_at hl 1 rfl) ?_
  rcases Bool.eq_false_or_eq_true (sn_set Pn x) with q_1 | q_1
  · refine xr_Vv (As := [.int x]) ⟨hx, hb, hml, hown, hts⟩ (cN_needSet l dC dI h0 a_walls a_placeX a_placeY a_reachers a_lossOf a_upper a_length a_headsOn a_turn a_lack a_joined Wd Ht Pn rs old sc jc x q_1) (cwV 1 hts gN126 rfl rfl rfl (by decide +kernel) ⟨Nat.le_of_ble_eq_true rfl, Nat.le_of_ble_eq_true rfl⟩) hK hP [0] [] rfl rfl 0 0 rfl rfl rfl rfl hl.1 rfl (Nat.le_of_ble_eq_true rfl) dN_dry_2 ⟨Nat.zero_le _, Nat.zero_le _⟩ ?_
    refine lv_iload_n hx hb dN_dry_5 rfl (lv_at hl 2 rfl) ?_
    refine lv_if_ge (tgt := 19) hx hb dN_dry_6 (by decide) (fun c_3 => ?_) (fun c_3 => ?_)
    · exact absurd hno (by simp [*])
    · exact xt_I (text := "k is below 0") hx hb hlt hown hts hSt (by decide) (hl.1.trans hml.symm) dN_dry_9 dN_dry_12 dN_dry_13 dN_dry_15 dN_dry_18 hout (Nat.le_of_ble_eq_true rfl) (Nat.le_of_ble_eq_true rfl) (Nat.le_of_ble_eq_true rfl) (Nat.le_of_ble_eq_true rfl) hlocks
  · exact xt_V (As := [.int x]) ⟨hx, hb, hml, hown, hts⟩ (cN_needSet_T l hlt dC dI h0 a_walls a_placeX a_placeY a_reachers a_lossOf a_upper a_length a_headsOn a_turn a_lack a_joined Wd Ht Pn rs old sc jc x q_1) (cwV 1 hts gN126 rfl rfl rfl (by decide +kernel) ⟨Nat.le_of_ble_eq_true rfl, Nat.le_of_ble_eq_true rfl⟩) hSt hK hP [0] [] rfl rfl 0 0 rfl rfl rfl rfl hl.1 rfl (Nat.le_of_ble_eq_true rfl) dN_dry_2 ⟨Nat.le_of_ble_eq_true rfl, Nat.le_of_ble_eq_true rfl⟩ hout hlocks
set_option maxHeartbeats 4000000 in
set_option maxRecDepth 100000 in
theorem cN_lacks_T (l : Launch) (hlt : l.stackTraces = false) (dC : Nat → ClassId) (dI : Nat → Nat → Nat) (h0 a_walls a_placeX a_placeY a_reachers a_lossOf a_upper a_length a_headsOn a_turn a_lack a_joined : Nat) (Wd Ht Pn : Nat) (rs old sc jc : Int32) (x y : Int32) (hno : (sn_set Pn x && sn_pl Pn y) = false) : MetT l yN_lacks (kN_lacks :: WD) { frames := 7, cells := 1, slots := 6, locals := 103 } (va_Pc [.ref h0, .int x, .int y] (xt_B (dC, dI) snC [(h0, .inr (0, [.int (nI Wd), .int (nI Ht), .ref a_walls, .int rs, .ref a_placeX, .ref a_placeY, .int (nI Pn), .ref a_reachers, .int old, .ref a_lossOf, .int sc, .ref a_upper, .ref a_length, .ref a_headsOn, .ref a_turn, .ref a_lack, .ref a_joined, .int jc]))] [])) xt_IAE := by
  refine vx_ofW (cc := bN_lacks) (maxL := 3) (ret := (some .int)) (by decide) rfl ?_
  intro p e s m args below meth c s₁ B hml hout hv
  obtain ⟨rfl, ⟨hP, hK⟩, hSt⟩ := hv
  have hx := B.exec
  have hb := B.bytes
  have hr := B.returns
  have hts : ∀ w ∈ WD, w.before _ s = true := fun w h => atoms_spec (ws := kN_lacks :: WD) B.pre w (List.mem_cons_of_mem _ h)
  have hown : s.vm.findClass R_N = some m.cls := findClass_of_methodNamed B.named
  have hlocks := B.notSynchronized
  have hl := lv_entry ([.ref h0, .int x, .int y]) (n := 3) (Nat.le_of_ble_eq_true rfl)
  rw [lg_entry_eq]
  generalize (lg_sl ([.ref h0, .int x, .int y]) ++ List.replicate (3 - (lg_sl ([.ref h0, .int x, .int y])).length) Slot.unset).toArray = ls at hl ⊢
  have hl : lv_has ls 3 [(0, .ref h0), (1, .int x), (2, .int y)] := hl
  refine lv_aload_n hx hb dN_lacks_0 rfl (lv_at hl 0 rfl) ?_
  refine lv_iload_n hx hb dN_lacks_1 rfl (lv_at hl 1 rfl) ?_
  rcases Bool.eq_false_or_eq_true (sn_set Pn x) with q_1 | q_1
  · refine xr_Vv (As := [.int x]) ⟨hx, hb, hml, hown, hts⟩ (cN_needSet l dC dI h0 a_walls a_placeX a_placeY a_reachers a_lossOf a_upper a_length a_headsOn a_turn a_lack a_joined Wd Ht Pn rs old sc jc x q_1) (cwV 1 hts gN126 rfl rfl rfl (by decide +kernel) ⟨Nat.le_of_ble_eq_true rfl, Nat.le_of_ble_eq_true rfl⟩) hK hP [0] [] rfl rfl 0 0 rfl rfl rfl rfl hl.1 rfl (Nat.le_of_ble_eq_true rfl) dN_lacks_2 ⟨Nat.zero_le _, Nat.zero_le _⟩ ?_
    refine lv_aload_n hx hb dN_lacks_5 rfl (lv_at hl 0 rfl) ?_
    refine lv_iload_n hx hb dN_lacks_6 rfl (lv_at hl 2 rfl) ?_
    exact xt_V (As := [.int y]) ⟨hx, hb, hml, hown, hts⟩ (cN_needPlace_T l hlt dC dI h0 a_walls a_placeX a_placeY a_reachers a_lossOf a_upper a_length a_headsOn a_turn a_lack a_joined Wd Ht Pn rs old sc jc y (by simpa [*] using hno)) (cwV 1 hts gN116 rfl rfl rfl (by decide +kernel) ⟨Nat.le_of_ble_eq_true rfl, Nat.le_of_ble_eq_true rfl⟩) hSt hK hP [0] [] rfl rfl 0 0 rfl rfl rfl rfl hl.1 rfl (Nat.le_of_ble_eq_true rfl) dN_lacks_7 ⟨Nat.le_of_ble_eq_true rfl, Nat.le_of_ble_eq_true rfl⟩ hout hlocks
  · exact xt_V (As := [.int x]) ⟨hx, hb, hml, hown, hts⟩ (cN_needSet_T l hlt dC dI h0 a_walls a_placeX a_placeY a_reachers a_lossOf a_upper a_length a_headsOn a_turn a_lack a_joined Wd Ht Pn rs old sc jc x q_1) (cwV 1 hts gN126 rfl rfl rfl (by decide +kernel) ⟨Nat.le_of_ble_eq_true rfl, Nat.le_of_ble_eq_true rfl⟩) hSt hK hP [0] [] rfl rfl 0 0 rfl rfl rfl rfl hl.1 rfl (Nat.le_of_ble_eq_true rfl) dN_lacks_2 ⟨Nat.le_of_ble_eq_true rfl, Nat.le_of_ble_eq_true rfl⟩ hout hlocks
set_option maxHeartbeats 4000000 in
set_option maxRecDepth 100000 in
theorem cN_pipe_T (l : Launch) (hlt : l.stackTraces = false) (dC : Nat → ClassId) (dI : Nat → Nat → Nat) (h0 a_walls a_placeX a_placeY a_reachers a_lossOf a_upper a_length a_headsOn a_turn a_lack a_joined : Nat) (Wd Ht Pn : Nat) (rs old sc jc : Int32) (x y z : Int32) (hno : (sn_set Pn x && (sn_pl Pn y && sn_wok z)) = false) : MetT l yN_pipe (kN_pipe :: WD) { frames := 7, cells := 1, slots := 6, locals := 103 } (va_Pc [.ref h0, .int x, .int y, .int z] (xt_B (dC, dI) snC [(h0, .inr (0, [.int (nI Wd), .int (nI Ht), .ref a_walls, .int rs, .ref a_placeX, .ref a_placeY, .int (nI Pn), .ref a_reachers, .int old, .ref a_lossOf, .int sc, .ref a_upper, .ref a_length, .ref a_headsOn, .ref a_turn, .ref a_lack, .ref a_joined, .int jc]))] [])) xt_IAE := by
  refine vx_ofW (cc := bN_pipe) (maxL := 4) (ret := (some .int)) (by decide) rfl ?_
  intro p e s m args below meth c s₁ B hml hout hv
  obtain ⟨rfl, ⟨hP, hK⟩, hSt⟩ := hv
  have hx := B.exec
  have hb := B.bytes
  have hr := B.returns
  have hts : ∀ w ∈ WD, w.before _ s = true := fun w h => atoms_spec (ws := kN_pipe :: WD) B.pre w (List.mem_cons_of_mem _ h)
  have hown : s.vm.findClass R_N = some m.cls := findClass_of_methodNamed B.named
  have hlocks := B.notSynchronized
  have hl := lv_entry ([.ref h0, .int x, .int y, .int z]) (n := 4) (Nat.le_of_ble_eq_true rfl)
  rw [lg_entry_eq]
  generalize (lg_sl ([.ref h0, .int x, .int y, .int z]) ++ List.replicate (4 - (lg_sl ([.ref h0, .int x, .int y, .int z])).length) Slot.unset).toArray = ls at hl ⊢
  have hl : lv_has ls 4 [(0, .ref h0), (1, .int x), (2, .int y), (3, .int z)] := hl
  refine lv_aload_n hx hb dN_pipe_0 rfl (lv_at hl 0 rfl) ?_
  refine lv_iload_n hx hb dN_pipe_1 rfl (lv_at hl 1 rfl) ?_
  rcases Bool.eq_false_or_eq_true (sn_set Pn x) with q_1 | q_1
  · refine xr_Vv (As := [.int x]) ⟨hx, hb, hml, hown, hts⟩ (cN_needSet l dC dI h0 a_walls a_placeX a_placeY a_reachers a_lossOf a_upper a_length a_headsOn a_turn a_lack a_joined Wd Ht Pn rs old sc jc x q_1) (cwV 1 hts gN126 rfl rfl rfl (by decide +kernel) ⟨Nat.le_of_ble_eq_true rfl, Nat.le_of_ble_eq_true rfl⟩) hK hP [0] [] rfl rfl 0 0 rfl rfl rfl rfl hl.1 rfl (Nat.le_of_ble_eq_true rfl) dN_pipe_2 ⟨Nat.zero_le _, Nat.zero_le _⟩ ?_
    refine lv_aload_n hx hb dN_pipe_5 rfl (lv_at hl 0 rfl) ?_
    refine lv_iload_n hx hb dN_pipe_6 rfl (lv_at hl 2 rfl) ?_
    rcases Bool.eq_false_or_eq_true (sn_pl Pn y) with q_3 | q_3
    · refine xr_Vv (As := [.int y]) ⟨hx, hb, hml, hown, hts⟩ (cN_needPlace l dC dI h0 a_walls a_placeX a_placeY a_reachers a_lossOf a_upper a_length a_headsOn a_turn a_lack a_joined Wd Ht Pn rs old sc jc y q_3) (cwV 1 hts gN116 rfl rfl rfl (by decide +kernel) ⟨Nat.le_of_ble_eq_true rfl, Nat.le_of_ble_eq_true rfl⟩) hK hP [0] [] rfl rfl 0 0 rfl rfl rfl rfl hl.1 rfl (Nat.le_of_ble_eq_true rfl) dN_pipe_7 ⟨Nat.zero_le _, Nat.zero_le _⟩ ?_
      refine lv_iload_n hx hb dN_pipe_10 rfl (lv_at hl 3 rfl) ?_
      refine lv_if_lt (tgt := 19) hx hb dN_pipe_11 (by decide) (fun c_5 => ?_) (fun c_5 => ?_)
      · exact xt_I (text := "there is no such thing of a pipe") hx hb hlt hown hts hSt (by decide) (hl.1.trans hml.symm) dN_pipe_19 dN_pipe_22 dN_pipe_23 dN_pipe_25 dN_pipe_28 hout (Nat.le_of_ble_eq_true rfl) (Nat.le_of_ble_eq_true rfl) (Nat.le_of_ble_eq_true rfl) (Nat.le_of_ble_eq_true rfl) hlocks
      · refine lv_iload_n hx hb dN_pipe_14 rfl (lv_at hl 3 rfl) ?_
        refine lv_iconst (v := 4) hx hb dN_pipe_15 (by decide) ?_
        refine lv_icmp_le (tgt := 29) hx hb dN_pipe_16 (by decide) (fun c_6 => ?_) (fun c_6 => ?_)
        · exact absurd hno (by simp [sn_wok, *])
        · exact xt_I (text := "there is no such thing of a pipe") hx hb hlt hown hts hSt (by decide) (hl.1.trans hml.symm) dN_pipe_19 dN_pipe_22 dN_pipe_23 dN_pipe_25 dN_pipe_28 hout (Nat.le_of_ble_eq_true rfl) (Nat.le_of_ble_eq_true rfl) (Nat.le_of_ble_eq_true rfl) (Nat.le_of_ble_eq_true rfl) hlocks
    · exact xt_V (As := [.int y]) ⟨hx, hb, hml, hown, hts⟩ (cN_needPlace_T l hlt dC dI h0 a_walls a_placeX a_placeY a_reachers a_lossOf a_upper a_length a_headsOn a_turn a_lack a_joined Wd Ht Pn rs old sc jc y q_3) (cwV 1 hts gN116 rfl rfl rfl (by decide +kernel) ⟨Nat.le_of_ble_eq_true rfl, Nat.le_of_ble_eq_true rfl⟩) hSt hK hP [0] [] rfl rfl 0 0 rfl rfl rfl rfl hl.1 rfl (Nat.le_of_ble_eq_true rfl) dN_pipe_7 ⟨Nat.le_of_ble_eq_true rfl, Nat.le_of_ble_eq_true rfl⟩ hout hlocks
  · exact xt_V (As := [.int x]) ⟨hx, hb, hml, hown, hts⟩ (cN_needSet_T l hlt dC dI h0 a_walls a_placeX a_placeY a_reachers a_lossOf a_upper a_length a_headsOn a_turn a_lack a_joined Wd Ht Pn rs old sc jc x q_1) (cwV 1 hts gN126 rfl rfl rfl (by decide +kernel) ⟨Nat.le_of_ble_eq_true rfl, Nat.le_of_ble_eq_true rfl⟩) hSt hK hP [0] [] rfl rfl 0 0 rfl rfl rfl rfl hl.1 rfl (Nat.le_of_ble_eq_true rfl) dN_pipe_2 ⟨Nat.le_of_ble_eq_true rfl, Nat.le_of_ble_eq_true rfl⟩ hout hlocks
end
