/-! THE ABSTRACT MACHINE: an abstract heap (address to kind and contents), a judgement AW on it that stands for W in every context, one lemma an instruction -/
abbrev aC : Type := Nat × List Value
abbrev aH : Type := Nat → Option aC
abbrev aR : Type := Option Value ⊕ String
abbrev aL : Type := List (Option Value)
def aUp (h : aH) (a : Nat) (c : aC) : aH := fun q => if q = a then some c else h q
theorem aUp_eq (h : aH) (a : Nat) (c : aC) : aUp h a c a = some c := if_pos rfl
theorem aUp_ne {h : aH} {a q : Nat} {c : aC} (hq : q ≠ a) : aUp h a c q = h q := if_neg hq
/-- the classes by kind -/
abbrev aCl : List vw_C := [(RX2, TX2, 1), (RX0, TX0, 5), (RX1, TX1, 7), (RX3, TX3, 7), (RJx4a65c, TJx4a65c, 3)]
/-- the arrays' element types by kind, from 10 on; kinds 20 and 21: arrays that are only read -/
def aTy : List FieldType := [.int, .long, .double, .object RX0, .object "java/lang/Object", .array .int, .array (.array .int), .array .long, .byte, .byte, .int, .object "java/lang/Object"]
/-- launch, classes' numbers and slots, array classes' numbers, the heap at the start, the script's place, the place of the list's own empty array -/
abbrev gG : Type := Launch × va_G × (Nat → ClassId) × Heap × Nat × Nat × Nat
abbrev gl (G : gG) : Launch := G.1
abbrev gD (G : gG) : va_G := G.2.1
abbrev gA (G : gG) : Nat → ClassId := G.2.2.1
abbrev gH (G : gG) : Heap := G.2.2.2.1
abbrev gX (G : gG) : Nat := G.2.2.2.2.1
abbrev gE (G : gG) : Nat := G.2.2.2.2.2.1
/-- gX, gB: the places of the reference's text of letters and of its row of bytes -/
abbrev gB (G : gG) : Nat := G.2.2.2.2.2.2
def acO (G : gG) (H : Heap) (q k : Nat) (vs : List Value) : Prop := ∃ r : vw_C, aCl[k]? = some r ∧ vs.length = r.2.2 ∧ t_OB q ((gD G).1 k) r.2.2 ((gD G).2 k) H (vp_V vs)
/-- a row's contents; of the list's own empty array (kind 21) its length alone, as the machine counts it -/
def aSl (k : Nat) (cell : Cell) (vs : List Value) : Prop := (k ≠ 21 → cell.slots.toList = vs) ∧ (k = 21 → vs = [] ∧ cell.slots.size.toInt32 = 0)
def acR (G : gG) (U : State) (H : Heap) (q k : Nat) (vs : List Value) : Prop := ∃ (ty : FieldType) (cell : Cell), aTy[k - 10]? = some ty ∧ H[q]? = some cell ∧ U.isArrayOf cell ty ∧ cell.vm ≠ .unknown ∧ aSl k cell vs ∧ (k < 20 → cell.cls = gA G k ∧ cell.vm = .none)
def acAt (G : gG) (U : State) (H : Heap) (q : Nat) (c : aC) : Prop := if c.1 < 10 then acO G H q c.1 c.2 else acR G U H q c.1 c.2
def RelH (G : gG) (U : State) (h : aH) (H : Heap) : Prop := ((gH G).size ≤ H.size ∧ U.heap.size ≤ H.size) ∧ (∀ q : Nat, q < (gH G).size → H[q]? = (gH G)[q]?) ∧ ∀ (q : Nat) (c : aC), h q = some c → acAt G U H q c ∧ (c.1 < 20 → (gH G).size ≤ q)
theorem acAt.kept {G : gG} {U : State} {H H1 : Heap} {q : Nat} {c : aC} (h : acAt G U H q c) (hq : H1[q]? = H[q]?) : acAt G U H1 q c := by
  unfold acAt at h ⊢
  split
  · next h1 =>
    rw [if_pos h1] at h
    obtain ⟨r, a1, a2, a3⟩ := h
    exact ⟨r, a1, a2, a3.kept hq⟩
  · next h1 =>
    rw [if_neg h1] at h
    obtain ⟨ty, cell, a1, a2, a3⟩ := h
    exact ⟨ty, cell, a1, hq.trans a2, a3⟩
theorem acAt.moved {G : gG} {u U : State} {H : Heap} {q : Nat} {c : aC} (hvm : u.vm.Alike U.vm) (h : acAt G u H q c) : acAt G U H q c := by
  unfold acAt at h ⊢
  split
  · next h1 => rw [if_pos h1] at h; exact h
  · next h1 =>
    rw [if_neg h1] at h
    obtain ⟨ty, cell, a1, a2, a3, a4⟩ := h
    exact ⟨ty, cell, a1, a2, State.isArrayOf_alike hvm a3, a4⟩
theorem acAt.lt {G : gG} {U : State} {H : Heap} {q : Nat} {c : aC} (h : acAt G U H q c) : q < H.size := by
  unfold acAt at h
  split at h
  · obtain ⟨r, a1, a2, cell, a3, -⟩ := h
    exact (Array.getElem?_eq_some_iff.mp a3).1
  · obtain ⟨ty, cell, a1, a2, -⟩ := h
    exact (Array.getElem?_eq_some_iff.mp a2).1
theorem RelH.moved {G : gG} {u U : State} {h : aH} {H : Heap} (hvm : u.vm.Alike U.vm) (hz : U.heap.size ≤ H.size) (hR : RelH G u h H) : RelH G U h H := ⟨⟨hR.1.1, hz⟩, hR.2.1, fun q c hq => ⟨(hR.2.2 q c hq).1.moved hvm, (hR.2.2 q c hq).2⟩⟩
/-- a write: the heap but at a -/
theorem RelH.put {G : gG} {U : State} {h : aH} {H H1 : Heap} {a : Nat} {c : aC} (hR : RelH G U h H) (hc : acAt G U H1 a c) (hs : H1.size = H.size) (hk : ∀ q, q ≠ a → H1[q]? = H[q]?) (hb : (gH G).size ≤ a) : RelH G U (aUp h a c) H1 := by
  refine ⟨by rw [hs]; exact hR.1, fun q hq => (hk q (by omega)).trans (hR.2.1 q hq), fun q x hx => ?_⟩
  by_cases e : q = a
  · subst e
    rw [aUp_eq] at hx
    cases hx
    exact ⟨hc, fun _ => hb⟩
  · rw [aUp_ne e] at hx
    exact ⟨(hR.2.2 q x hx).1.kept (hk q e), (hR.2.2 q x hx).2⟩
/-- a new cell -/
theorem RelH.new {G : gG} {U : State} {h : aH} {H H1 : Heap} {c : aC} (hR : RelH G U h H) (hc : acAt G U H1 H.size c) (hs : H.size ≤ H1.size) (hk : ∀ q, q < H.size → H1[q]? = H[q]?) : RelH G U (aUp h H.size c) H1 := by
  refine ⟨⟨Nat.le_trans hR.1.1 hs, Nat.le_trans hR.1.2 hs⟩, fun q hq => (hk q (Nat.lt_of_lt_of_le hq hR.1.1)).trans (hR.2.1 q hq), fun q x hx => ?_⟩
  by_cases e : q = H.size
  · subst e
    rw [aUp_eq] at hx
    cases hx
    exact ⟨hc, fun _ => hR.1.1⟩
  · rw [aUp_ne e] at hx
    exact ⟨(hR.2.2 q x hx).1.kept (hk q (hR.2.2 q x hx).1.lt), (hR.2.2 q x hx).2⟩
theorem RelH.more {G : gG} {U : State} {h : aH} {H H1 : Heap} (hR : RelH G U h H) (hs : H.size ≤ H1.size) (hk : ∀ q, q < H.size → H1[q]? = H[q]?) : RelH G U h H1 :=
  ⟨⟨Nat.le_trans hR.1.1 hs, Nat.le_trans hR.1.2 hs⟩, fun q hq => (hk q (Nat.lt_of_lt_of_le hq hR.1.1)).trans (hR.2.1 q hq), fun q x hx => ⟨(hR.2.2 q x hx).1.kept (hk q (hR.2.2 q x hx).1.lt), (hR.2.2 q x hx).2⟩⟩
theorem RelH.fresh {G : gG} {U : State} {h : aH} {H : Heap} (hR : RelH G U h H) : h H.size = none := by
  cases e : h H.size with
  | none => rfl
  | some c => exact absurd (hR.2.2 _ c e).1.lt (Nat.lt_irrefl _)
theorem RelH.sub {G : gG} {U : State} {h h' : aH} {H : Heap} (hR : RelH G U h H) (hh : ∀ q c, h' q = some c → h q = some c) : RelH G U h' H := ⟨hR.1, hR.2.1, fun q c hq => hR.2.2 q c (hh q c hq)⟩
/-! the words -/
def aW : List Cond := lw_tbl.filter goodWord
theorem aw_in {w : Cond} (i : Nat) (h : lw_tbl[i]? = some w) (hg : goodWord w = true) : w ∈ aW := List.mem_filter.mpr ⟨List.mem_of_getElem? h, hg⟩
theorem lw_p0_ {w : Cond} (i : Nat) (h : (k2_sels lw_privs)[i]? = some w) : w ∈ lw_tbl := List.mem_append_left _ (List.mem_of_getElem? h)
theorem lw_t1_ {w : Cond} (i : Nat) (h : tables_1_1[i]? = some w) : w ∈ lw_tbl := List.mem_append_right _ (List.mem_append_left _ (List.mem_of_getElem? h))
theorem lw_t2_ {w : Cond} (i : Nat) (h : tables_1_2[i]? = some w) : w ∈ lw_tbl := List.mem_append_right _ (List.mem_append_right _ (List.mem_append_left _ (List.mem_of_getElem? h)))
theorem lw_t3_ {w : Cond} (i : Nat) (h : tables_1_3[i]? = some w) : w ∈ lw_tbl := List.mem_append_right _ (List.mem_append_right _ (List.mem_append_right _ (List.mem_append_left _ (List.mem_of_getElem? h))))
theorem lw_t4_ {w : Cond} (i : Nat) (h : tables_1_4[i]? = some w) : w ∈ lw_tbl := List.mem_append_right _ (List.mem_append_right _ (List.mem_append_right _ (List.mem_append_right _ (List.mem_append_left _ (List.mem_of_getElem? h)))))
theorem lw_t5_ {w : Cond} (i : Nat) (h : tables_1_5[i]? = some w) : w ∈ lw_tbl := List.mem_append_right _ (List.mem_append_right _ (List.mem_append_right _ (List.mem_append_right _ (List.mem_append_right _ (List.mem_append_left _ (List.mem_of_getElem? h))))))
theorem lw_t6_ {w : Cond} (i : Nat) (h : tables_1_6[i]? = some w) : w ∈ lw_tbl := List.mem_append_right _ (List.mem_append_right _ (List.mem_append_right _ (List.mem_append_right _ (List.mem_append_right _ (List.mem_append_right _ (List.mem_of_getElem? h))))))
theorem aw_of {w : Cond} (h : w ∈ lw_tbl) (hg : goodWord w = true) : w ∈ aW := List.mem_filter.mpr ⟨h, hg⟩
def aNwOK : Cond → Bool
  | .methodLinkNest .. => true
  | .castable .. => true
  | .arrayOver .. => true
  | .declares .. => true
  | _ => false
theorem aOver_moved {t : FieldType} {u U : State} (hvm : u.vm.Alike U.vm) (h : (Cond.arrayOver t).before #[] u = true) : (Cond.arrayOver t).before #[] U = true := by
  simp only [Cond.before, Cond.holds, Cond.value, beq_iff_eq] at h ⊢
  obtain ⟨comp, hc, h⟩ := Option.bind_eq_some_iff.mp h
  refine Option.bind_eq_some_iff.mpr ⟨comp, ?_, ?_⟩
  · cases t <;> simp only [hvm.findClass] <;> exact hc
  · obtain ⟨j, hj, h⟩ := Option.bind_eq_some_iff.mp h
    refine Option.bind_eq_some_iff.mpr ⟨j, ?_, ?_⟩
    · have e1 := va_idx_bare U.vm comp
      have e2 := va_idx_bare u.vm comp
      have e3 : U.vm.bare = u.vm.bare := by first | exact hvm.bare_eq | exact hvm.bare_eq.symm
      rw [e3] at e1
      exact (e1.symm.trans e2).trans hj
    · obtain ⟨k, hk, h⟩ := Option.map_eq_some_iff.mp h
      obtain ⟨k', hk', he⟩ := hvm.2.2 _ _ hk
      refine Option.map_eq_some_iff.mpr ⟨k', hk', ?_⟩
      rw [he]
      simp only [hvm.findClass]
      exact h
theorem aNw_warm {w : Cond} (hw : aNwOK w = true) {s U : State} (hW : s.WarmedH U.vm) (h : va_Nw w s) : va_Nw w U := by
  cases w <;> first | exact va_Nw.warmM hW h | exact va_Nw.warmC hW h | exact va_Nw.warmD hW h | exact aOver_moved hW.alike h | exact Bool.noConfusion hw
theorem aNw_use {w : Cond} (hw : aNwOK w = true) {A : Array Value} {U : State} (h : va_Nw w U) : w.before A U = true := by
  cases w <;> first | exact va_Nw.use rfl h | exact h | exact Bool.noConfusion hw
/-- pairs of classes, the first one not castable to the second one -/
def aNc : List (String × String) := [("java/lang/IllegalArgumentException", "java/lang/IndexOutOfBoundsException"), ("java/lang/IllegalStateException", "java/lang/IndexOutOfBoundsException"), ("java/lang/IllegalStateException", "java/lang/IllegalArgumentException"), ("java/lang/ArithmeticException", "java/lang/IndexOutOfBoundsException")]
def aRn (ty : FieldType) : String := match ty with
  | .object C => C
  | t => t.toString
/-- the reference's text of letters, two fields that texts read -/
def SFs (G : gG) (U : State) : Prop :=
  vk_R "BillwrightModel" 96 "UDCFude" (gX G) U ∧
  vk_S 1 [7] [[85, 68, 67, 70, 117, 100, 101]] (fun _ => gX G) (fun _ => gB G) (fun q : Nat => (gH G).size ≤ q) U (gH G) ∧
  va_Z "java/lang/String" "COMPACT_STRINGS" "Z" (.int 1) (fun q : Nat => (gH G).size ≤ q) U (gH G) ∧
  va_Zq "jdk/internal/util/Preconditions" "SIOOBE_FORMATTER" "Ljava/util/function/BiFunction;" (fun q : Nat => (gH G).size ≤ q) U (gH G)
theorem SFs.warm {G : gG} {s U : State} (hW : s.WarmedH U.vm) (h : SFs G s) : SFs G U := ⟨h.1.warm hW, h.2.1.moved hW.alike, h.2.2.1.moved hW.alike, h.2.2.2.moved hW.alike⟩
/-- what the tables and the start say, the same in every state of the run -/
def SF (G : gG) (U : State) : Prop :=
  va_K (gD G) aCl [] U ∧
  (∀ (k : Nat) (ty : FieldType), aTy[k]? = some ty → k < 10 → ∃ (kA : Class) (comp : ClassId), U.vm.classes[gA G (k + 10)]? = some kA ∧ kA.kind = .array comp ty ∧ U.vm.findClass ("[" ++ ty.toString) = some (gA G (k + 10)) ∧ (ty.isReference = true → U.vm.findClass (aRn ty) = some comp)) ∧
  (∀ w, w ∈ lw_tbl → aNwOK w = true → va_Nw w U) ∧
  (∀ (own tx : String) (k : Nat), Cond.stringRef own k tx ∈ lw_tbl → ∃ a : Nat, vk_R own k tx a U) ∧
  (∀ q, q ∈ aNc → va_Nc q.1 q.2 U) ∧
  vx_Zq Bundle.tN "UNASSIGNED_STACK" Bundle.steD (fun q : Nat => (gH G).size ≤ q) U (gH G) ∧ vx_Zq Bundle.tN "SUPPRESSED_SENTINEL" Bundle.listD (fun q : Nat => (gH G).size ≤ q) U (gH G) ∧
  va_Z "java/util/ArrayList" "DEFAULTCAPACITY_EMPTY_ELEMENTDATA" "[Ljava/lang/Object;" (.ref (gE G)) (fun q : Nat => (gH G).size ≤ q) U (gH G) ∧
  SFs G U
theorem SF.warm {G : gG} {s U : State} (hW : s.WarmedH U.vm) (h : SF G s) : SF G U := by
  obtain ⟨h1, h2, h3, h4, h5, h6, h7, h8, h9⟩ := h
  refine ⟨va_K.moved hW.alike h1, fun k ty hk hlt => ?_, fun w hw ho => aNw_warm ho hW (h3 w hw ho), fun own tx k hm => ?_, fun q hq => va_Nc.moved hW.alike (h5 q hq), vx_Zq.moved hW.alike h6, vx_Zq.moved hW.alike h7, va_Z.moved hW.alike h8, h9.warm hW⟩
  · obtain ⟨kA, comp, a1, a2, a3, a4⟩ := h2 k ty hk hlt
    obtain ⟨k', hk', he⟩ := hW.alike.2.2 _ _ a1
    exact ⟨k', comp, hk', by rw [he]; exact a2, by rw [hW.alike.findClass]; exact a3, fun hr => by rw [hW.alike.findClass]; exact a4 hr⟩
  · obtain ⟨a, ha⟩ := h4 own tx k hm
    exact ⟨a, ha.warm hW⟩
theorem SF.calling {G : gG} {U : State} {g : JFrame} {mk : MethodId} {a : Array Value} (h : SF G U) : SF G (U.calling g mk a) := h.warm (State.WarmedH.refl U)
/-! the judgement -/
abbrev MI : Type := MethodName × ByteArray × Nat × Option FieldType × List (Nat × Nat × Nat × Nat)
abbrev mY (mi : MI) : MethodName := mi.1
abbrev mB (mi : MI) : ByteArray := mi.2.1
abbrev mL (mi : MI) : Nat := mi.2.2.1
abbrev mT (mi : MI) : Option FieldType := mi.2.2.2.1
abbrev mX (mi : MI) : List (Nat × Nat × Nat × Nat) := mi.2.2.2.2
def hdW (mi : MI) : Cond := if (mX mi).isEmpty then .code (mY mi) (mB mi) (mL mi) (mT mi) else .codeWith (mY mi) (mB mi) (mL mi) (mT mi) (mX mi)
def MC (G : gG) (mi : MI) (d mc ms : Nat) (p : Program) (R : Room) (s : State) (m : MethodId) (args : Array Value) (meth : Method) (c : Code) : Prop :=
  p.tables.exec = Jvm.exec ∧ c.code = mB mi ∧ meth.sig.returnType = mT mi ∧ c.maxLocals = mL mi ∧ s.vm.findClass (mY mi).cls = some m.cls ∧ (∀ w ∈ aW, w.before args s = true) ∧ meth.locks = false ∧ meth.name = (mY mi).name ∧ c.exceptionTable.toList = tableOf (mX mi) ∧ SF G s ∧ (d ≤ R.frames ∧ 48 * d ≤ R.locals ∧ mc ≤ R.cells ∧ ms ≤ R.slots) ∧ (gl G).stackTraces = false ∧ (gH G).size ≤ s.heap.size ∧ ∀ q : Nat, q < (gH G).size → s.heap[q]? = (gH G)[q]?
/-- the return instruction at pc fits the answer -/
def aRet (mi : MI) (pc : Nat) : Option Value → Prop
  | none => decode (mB mi) pc = .ok (.return_, 1) ∧ mT mi = none
  | some (.int x) => decode (mB mi) pc = .ok (.ireturn, 1) ∧ ∃ ty, mT mi = some ty ∧ narrow ty (.int x) = .int x
  | some (.long _) => decode (mB mi) pc = .ok (.lreturn, 1) ∧ mT mi = some .long
  | some (.float _) => decode (mB mi) pc = .ok (.freturn, 1) ∧ mT mi = some .float
  | some (.double _) => decode (mB mi) pc = .ok (.dreturn, 1) ∧ mT mi = some .double
  | some v => decode (mB mi) pc = .ok (.areturn, 1) ∧ (v = .null ∨ ∃ a, v = .ref a) ∧ ∃ rt, mT mi = some rt ∧ ((∃ n, rt = .object n) ∨ ∃ t, rt = .array t)
/-- what a method's end owes: an answer, or an exception that leaves it -/
def aQ (G : gG) (K : aR → aH → Prop) : Array Value → State → Outcome → State → Prop := fun _ st o t => ∃ (v : Option Value) (h' : aH), o = .returned v ∧ K (.inl v) h' ∧ RelH G t h' t.heap ∧ st.heap.size ≤ t.heap.size
def aX (G : gG) (K : aR → aH → Prop) : String → State → State → Prop := fun E st t => ∃ h' : aH, K (.inr E) h' ∧ RelH G t h' t.heap ∧ st.heap.size ≤ t.heap.size
def FinM (G : gG) (mi : MI) (mc ms : Nat) (K : aR → aH → Prop) (p : Program) (e : Env) (R : Room) (s : State) (m : MethodId) (args : Array Value) (below : List Frame) (meth : Method) (c : Code) (Q : State → Prop) : Prop :=
  (∀ (v : Option Value) (h : aH) (H : Heap) (locs : List Loc) (cells slots pc : Nat) (ls : Array Slot), K (.inl v) h → RelH G s h H → (∀ q ∈ locs, (gH G).size ≤ q.base) → cells ≤ mc → slots ≤ ms → aRet mi pc v → W p (gl G) e R s m args below meth c H locs cells slots Q (F0 m pc ls v.toList)) ∧
  (∀ (E : String) (h : aH) (H : Heap) (locs : List Loc) (cells slots pc : Nat) (ls : Array Slot) (st : List Value) (q : Nat) (ce : Cell), K (.inr E) h → RelH G s h H → (∀ q ∈ locs, (gH G).size ≤ q.base) → cells ≤ mc → slots ≤ ms → mX mi = [] → H[q]? = some ce → ce.vm = .none → s.vm.findClass E = some ce.cls → vx_W p (gl G) e R s m args below meth c H locs cells slots Q (F0 m pc ls st) q) ∧
  ((∃ E h, K (.inr E) h) → Q = vx_MQ below (aQ G K) (aX G K) args s mc ms (fun q => (gH G).size ≤ q))
/-! locals -/
def lg : aL → Nat → Option Value
  | [], _ => none
  | x :: _, 0 => x
  | _ :: L, n + 1 => lg L n
def lk : Option Value → Option Value
  | some (.long _) => none
  | some (.double _) => none
  | x => x
def lset1 : aL → Nat → Value → aL
  | [], _, _ => []
  | _ :: L, 0, v => some v :: L
  | x :: L, 1, v => lk x :: lset1 L 0 v
  | x :: L, n + 2, v => x :: lset1 L (n + 1) v
def lset2 : aL → Nat → Value → aL
  | [], _, _ => []
  | _ :: L, 0, v => some v :: (match L with | [] => [] | _ :: L => none :: L)
  | x :: L, 1, v => lk x :: lset2 L 0 v
  | x :: L, n + 2, v => x :: lset2 L (n + 1) v
def lvL (ls : Array Slot) (nL : Nat) (L : aL) : Prop := ls.size = nL ∧ lv_wf ls ∧ L.length = nL ∧ ∀ (i : Nat) (v : Value), lg L i = some v → ls[i]? = some (.val v)
def asc : Nat → aL → List (Nat × Value)
  | _, [] => []
  | n, x :: L => (match x with | none => [] | some v => [(n, v)]) ++ asc (n + 1) L
theorem asc_in : ∀ (L : aL) (n i : Nat) (v : Value), (i, v) ∈ asc n L → n ≤ i ∧ lg L (i - n) = some v
  | [], _, _, _, h => nomatch h
  | x :: L, n, i, v, h => by
    unfold asc at h
    rcases List.mem_append.mp h with h | h
    · cases x with
      | none => cases h
      | some w =>
        cases List.mem_singleton.mp h
        exact ⟨Nat.le_refl _, by rw [Nat.sub_self]; rfl⟩
    · obtain ⟨h1, h2⟩ := asc_in L (n + 1) i v h
      refine ⟨by omega, ?_⟩
      rw [show i - n = (i - (n + 1)) + 1 by omega]
      exact h2
theorem asc_of : ∀ (L : aL) (n i : Nat) (v : Value), lg L i = some v → (n + i, v) ∈ asc n L
  | [], _, _, _, h => by cases h
  | x :: L, n, 0, v, h => by
    unfold asc
    refine List.mem_append_left _ ?_
    have h : x = some v := h
    subst h
    exact List.mem_singleton.mpr rfl
  | x :: L, n, i + 1, v, h => by
    unfold asc
    refine List.mem_append_right _ ?_
    have := asc_of L (n + 1) i v h
    rw [show n + (i + 1) = n + 1 + i by omega]
    exact this
theorem lvL.has {ls : Array Slot} {nL : Nat} {L : aL} (h : lvL ls nL L) : lv_has ls nL (asc 0 L) := ⟨h.1, h.2.1, fun q hq => h.2.2.2 q.1 q.2 (by obtain ⟨-, h2⟩ := asc_in L 0 q.1 q.2 hq; exact h2)⟩
theorem lvL.at {ls : Array Slot} {nL : Nat} {L : aL} (h : lvL ls nL L) {i : Nat} {v : Value} (hi : lg L i = some v) : ls[i]? = some (.val v) := h.2.2.2 i v hi
theorem lg_lt : ∀ (L : aL) (i : Nat) (v : Value), lg L i = some v → i < L.length
  | [], _, _, h => by cases h
  | _ :: L, 0, _, _ => Nat.succ_pos _
  | _ :: L, i + 1, v, h => Nat.succ_lt_succ (lg_lt L i v h)
theorem lk_some {x : Option Value} {v : Value} (h : lk x = some v) : x = some v ∧ ¬ v.category = 2 := by
  cases x with
  | none => cases h
  | some w => cases w <;> first | (cases h; done) | (cases h; exact ⟨rfl, show ¬ ((1 : Nat) = 2) by decide⟩)
theorem lset1_len : ∀ (L : aL) (i : Nat) (v : Value), (lset1 L i v).length = L.length
  | [], _, _ => rfl
  | _ :: L, 0, _ => rfl
  | x :: L, 1, v => by show (lset1 L 0 v).length + 1 = _; rw [lset1_len L 0 v]; rfl
  | x :: L, n + 2, v => by show (lset1 L (n + 1) v).length + 1 = _; rw [lset1_len L (n + 1) v]; rfl
theorem lset1_in : ∀ (L : aL) (i : Nat) (v : Value) (j : Nat) (w : Value), lg (lset1 L i v) j = some w → (j = i ∧ w = v) ∨ (lg L j = some w ∧ j ≠ i ∧ ¬ (j + 1 = i ∧ w.category = 2))
  | [], _, _, _, _, h => by cases h
  | x :: L, 0, v, 0, w, h => Or.inl ⟨rfl, (Option.some.inj h).symm⟩
  | x :: L, 0, v, j + 1, w, h => Or.inr ⟨h, by omega, by omega⟩
  | x :: L, 1, v, 0, w, h => by
    obtain ⟨h1, h2⟩ := lk_some (show lk x = some w from h)
    exact Or.inr ⟨h1, by omega, fun z => h2 z.2⟩
  | x :: L, 1, v, j + 1, w, h => by
    rcases lset1_in L 0 v j w h with ⟨h1, h2⟩ | ⟨h1, h2, h3⟩
    · exact Or.inl ⟨by omega, h2⟩
    · exact Or.inr ⟨h1, by omega, by omega⟩
  | x :: L, n + 2, v, 0, w, h => Or.inr ⟨h, by omega, by omega⟩
  | x :: L, n + 2, v, j + 1, w, h => by
    rcases lset1_in L (n + 1) v j w h with ⟨h1, h2⟩ | ⟨h1, h2, h3⟩
    · exact Or.inl ⟨by omega, h2⟩
    · exact Or.inr ⟨h1, by omega, fun z => h3 ⟨by omega, z.2⟩⟩
theorem lset2_len : ∀ (L : aL) (i : Nat) (v : Value), (lset2 L i v).length = L.length
  | [], _, _ => rfl
  | [_], 0, _ => rfl
  | _ :: _ :: L, 0, _ => rfl
  | x :: L, 1, v => by show (lset2 L 0 v).length + 1 = _; rw [lset2_len L 0 v]; rfl
  | x :: L, n + 2, v => by show (lset2 L (n + 1) v).length + 1 = _; rw [lset2_len L (n + 1) v]; rfl
theorem lset2_in : ∀ (L : aL) (i : Nat) (v : Value) (j : Nat) (w : Value), lg (lset2 L i v) j = some w → (j = i ∧ w = v) ∨ (lg L j = some w ∧ j ≠ i ∧ j ≠ i + 1 ∧ ¬ (j + 1 = i ∧ w.category = 2))
  | [], _, _, _, _, h => by cases h
  | x :: L, 0, v, 0, w, h => Or.inl ⟨rfl, (Option.some.inj h).symm⟩
  | [x], 0, v, j + 1, w, h => by cases h
  | x :: y :: L, 0, v, 1, w, h => by cases h
  | x :: y :: L, 0, v, j + 2, w, h => Or.inr ⟨h, by omega, by omega, by omega⟩
  | x :: L, 1, v, 0, w, h => by
    obtain ⟨h1, h2⟩ := lk_some (show lk x = some w from h)
    exact Or.inr ⟨h1, by omega, by omega, fun z => h2 z.2⟩
  | x :: L, 1, v, j + 1, w, h => by
    rcases lset2_in L 0 v j w h with ⟨h1, h2⟩ | ⟨h1, h2, h3, h4⟩
    · exact Or.inl ⟨by omega, h2⟩
    · exact Or.inr ⟨h1, by omega, by omega, by omega⟩
  | x :: L, n + 2, v, 0, w, h => Or.inr ⟨h, by omega, by omega, by omega⟩
  | x :: L, n + 2, v, j + 1, w, h => by
    rcases lset2_in L (n + 1) v j w h with ⟨h1, h2⟩ | ⟨h1, h2, h3, h4⟩
    · exact Or.inl ⟨by omega, h2⟩
    · exact Or.inr ⟨h1, by omega, by omega, fun z => h4 ⟨by omega, z.2⟩⟩
theorem lvL.of1 {ls : Array Slot} {nL i : Nat} {L : aL} {v : Value} (hL : L.length = nL) (h : lv_has ls nL ((i, v) :: (asc 0 L).filter (fun q => !(q.1 == i) && !(q.1 + 1 == i && q.2.category == 2)))) : lvL ls nL (lset1 L i v) := by
  refine ⟨h.1, h.2.1, (lset1_len L i v).trans hL, fun j w hj => ?_⟩
  rcases lset1_in L i v j w hj with ⟨rfl, rfl⟩ | ⟨h1, h2, h3⟩
  · exact h.2.2 (j, w) List.mem_cons_self
  · refine h.2.2 (j, w) (List.mem_cons_of_mem _ (List.mem_filter.mpr ⟨by have := asc_of L 0 j w h1; rwa [Nat.zero_add] at this, ?_⟩))
    have h3' : j + 1 = i → ¬ w.category = 2 := fun a b => h3 ⟨a, b⟩
    by_cases e : j + 1 = i
    · simp [h2, e, h3' e]
    · simp [h2, e]
theorem lvL.of2 {ls : Array Slot} {nL i : Nat} {L : aL} {v : Value} (hL : L.length = nL) (h : lv_has ls nL ((i, v) :: (asc 0 L).filter (fun q => !(q.1 == i) && (!(q.1 == i + 1) && !(q.1 + 1 == i && q.2.category == 2))))) : lvL ls nL (lset2 L i v) := by
  refine ⟨h.1, h.2.1, (lset2_len L i v).trans hL, fun j w hj => ?_⟩
  rcases lset2_in L i v j w hj with ⟨rfl, rfl⟩ | ⟨h1, h2, h5, h3⟩
  · exact h.2.2 (j, w) List.mem_cons_self
  · refine h.2.2 (j, w) (List.mem_cons_of_mem _ (List.mem_filter.mpr ⟨by have := asc_of L 0 j w h1; rwa [Nat.zero_add] at this, ?_⟩))
    have h3' : j + 1 = i → ¬ w.category = 2 := fun a b => h3 ⟨a, b⟩
    by_cases e : j + 1 = i
    · simp [h2, h5, e, h3' e]
    · simp [h2, h5, e]
/-! AW: from pc with these locals, this stack and this abstract heap, with kc cells and ks slots still to make, the method comes to an end that K allows -/
def AW (G : gG) (mi : MI) (d mc ms : Nat) (K : aR → aH → Prop) (kc ks pc : Nat) (L : aL) (st : List Value) (h : aH) : Prop :=
  ∀ (p : Program) (e : Env) (R : Room) (s : State) (m : MethodId) (args : Array Value) (below : List Frame) (meth : Method) (c : Code) (Q : State → Prop), MC G mi d mc ms p R s m args meth c → FinM G mi mc ms K p e R s m args below meth c Q →
  ∀ (H : Heap) (locs : List Loc) (cells slots : Nat) (ls : Array Slot), RelH G s h H → (∀ q ∈ locs, (gH G).size ≤ q.base) → cells + kc ≤ mc → slots + ks ≤ ms → lvL ls (mL mi) L → W p (gl G) e R s m args below meth c H locs cells slots Q (F0 m pc ls st)
abbrev aP : Type := Nat → Nat → aL → List Value → aH → Prop
def aSo (G : gG) (mi : MI) (d mc ms : Nat) (K : aR → aH → Prop) (k : aP) (pc : Nat) : Prop := ∀ (kc ks : Nat) (L : aL) (st : List Value) (h : aH), k kc ks L st h → AW G mi d mc ms K kc ks pc L st h
