/-! arrays of arrays made at once: what a maker does to a state, one dimension upon another -/
section Mna
def zC (c : ClassId) (n h0 w : Nat) : Nat → Cell
  | 0 => { cls := c, slots := Array.replicate n .null, vm := .none }
  | i + 1 => (zC c n h0 w i).setSlot i (.ref (h0 + 1 + i * w))
def zA (c : ClassId) (n w : Nat) (f : State → State) (s : State) : Nat → State
  | 0 => s.pushCell (zC c n s.heap.size w 0)
  | i + 1 => (f (zA c n w f s i)).setCell s.heap.size (zC c n s.heap.size w (i + 1))
def zL (c : ClassId) (k : Nat) (v : Value) (s : State) : State := s.pushCell { cls := c, slots := Array.replicate k v, vm := .none }
/-- a maker: w cells more, u slots more, the old cells as they were -/
def zG (w u : Nat) (f : State → State) : Prop :=
  (∀ s : State, (f s).heap.size = s.heap.size + w ∧ (f s).vm = s.vm ∧ (f s).slotsUsed = s.slotsUsed + u ∧ (∀ a : Nat, a < s.heap.size → (f s).heap[a]? = s.heap[a]?) ∧ ∀ g : JFrame, f (s.setTop g) = (f s).setTop g) ∧
  ∀ (p : Program) (l : Launch) (e : Env) (R : Room) (s : State) (m : MethodId) (args : Array Value) (below : List Frame) (meth : Method) (c : Code) (T : State) (locs : List Loc) (cells slots : Nat), Stand p l e R s m args below meth c T locs cells slots → Stand p l e R s m args below meth c (f T) locs (cells + w) (slots + u)
theorem zC_facts (c : ClassId) (n h0 w : Nat) : ∀ i, (zC c n h0 w i).cls = c ∧ (zC c n h0 w i).vm = .none ∧ (zC c n h0 w i).slots.size = n ∧ ∀ j, j < n → (zC c n h0 w i).slots[j]? = some (if j < i then .ref (h0 + 1 + j * w) else .null)
  | 0 => ⟨rfl, rfl, by simp [zC], fun j hj => by simp [zC, hj]⟩
  | i + 1 => by
    obtain ⟨a, b, d, g⟩ := zC_facts c n h0 w i
    refine ⟨by simp [zC, Cell.setSlot, a], by simp [zC, Cell.setSlot, b], by simp [zC, Cell.setSlot, d], fun j hj => ?_⟩
    show ((zC c n h0 w i).setSlot i (.ref (h0 + 1 + i * w))).slots[j]? = _
    simp only [Cell.setSlot, Array.getElem?_setIfInBounds]
    by_cases e : i = j
    · subst e
      simp [d, hj]
    · rw [if_neg e, g j hj]
      by_cases hj2 : j < i
      · rw [if_pos hj2, if_pos (by omega)]
      · rw [if_neg hj2, if_neg (by omega)]
theorem zL_good (c : ClassId) (k : Nat) (v : Value) : zG 1 k (zL c k v) := by
  refine ⟨fun s => ⟨by simp [zL], rfl, by simp [zL], fun a ha => State.heap_pushCell_of_lt _ _ ha, fun g => rfl⟩, fun p l e R s m args below meth c9 T locs cells slots X => ?_⟩
  have h := X.pushed { cls := c, slots := Array.replicate k v, vm := .none }
  have e9 : slots + k = slots + (Array.replicate k v).size := by rw [Array.size_replicate]
  rw [e9]
  exact h
section
variable {w u n : Nat} {f : State → State}
theorem zA_facts (hf : zG w u f) (c : ClassId) (s : State) : ∀ i, (zA c n w f s i).heap.size = s.heap.size + 1 + i * w ∧ (zA c n w f s i).heap[s.heap.size]? = some (zC c n s.heap.size w i) ∧ (zA c n w f s i).vm = s.vm ∧ (zA c n w f s i).slotsUsed = s.slotsUsed + n + i * u ∧ ∀ a : Nat, a < s.heap.size → (zA c n w f s i).heap[a]? = s.heap[a]?
  | 0 => ⟨by simp [zA], by simp [zA], rfl, by simp [zA, zC], fun a ha => State.heap_pushCell_of_lt _ _ ha⟩
  | i + 1 => by
    obtain ⟨a, b, d, u9, o⟩ := zA_facts hf c s i
    obtain ⟨a2, d2, u2, o2, -⟩ := hf.1 (zA c n w f s i)
    have hlt : s.heap.size < (zA c n w f s i).heap.size := by rw [a]; omega
    have hb' : (f (zA c n w f s i)).heap[s.heap.size]? = some (zC c n s.heap.size w i) := (o2 _ hlt).trans b
    have e1 : (zA c n w f s (i + 1)).heap.size = (f (zA c n w f s i)).heap.size := by simp [zA, State.setCell]
    have e2 : (zA c n w f s (i + 1)).slotsUsed = (f (zA c n w f s i)).slotsUsed := by first | rfl | simp [zA]
    refine ⟨?_, State.heap_setCell_self hb', d2.trans d, ?_, fun q hq => ?_⟩
    · rw [e1, a2, a, Nat.succ_mul]
      omega
    · rw [e2, u2, u9, Nat.succ_mul]
      omega
    · exact (State.heap_setCell_other (Nat.ne_of_gt hq)).trans ((o2 _ (Nat.lt_trans hq hlt)).trans (o q hq))
theorem zA_top (hf : zG w u f) (c : ClassId) (s : State) (g : JFrame) : ∀ i, zA c n w f (s.setTop g) i = (zA c n w f s i).setTop g
  | 0 => rfl
  | i + 1 => by
    have hs : ∀ (t : State) (g : JFrame), f (t.setTop g) = (f t).setTop g := fun t => (hf.1 t).2.2.2.2
    simp only [zA, zA_top hf c s g i, hs, State.heap_setTop, State.setCell_setTop]
theorem zA_stand {p : Program} {l : Launch} {e : Env} {R : Room} {s : State} {m : MethodId} {args : Array Value} {below : List Frame} {meth : Method} {c : Code} {T : State} {locs : List Loc} {cells slots : Nat} (hf : zG w u f) (c9 : ClassId) (X : Stand p l e R s m args below meth c T locs cells slots) : ∀ i, Stand p l e R s m args below meth c (zA c9 n w f T i) locs (cells + (1 + i * w)) (slots + (n + i * u))
  | 0 => by
    have h := X.pushed (zC c9 n T.heap.size w 0)
    have e1 : slots + (n + 0 * u) = slots + (zC c9 n T.heap.size w 0).slots.size := by rw [(zC_facts c9 n T.heap.size w 0).2.2.1, Nat.zero_mul]; rfl
    have e2 : cells + (1 + 0 * w) = cells + 1 := by rw [Nat.zero_mul]
    rw [e1, e2]
    exact h
  | i + 1 => by
    have Xi := zA_stand hf c9 X i
    obtain ⟨f1, f2, f3, f4, f5⟩ := zA_facts (n := n) hf c9 T i
    have hlt0 : T.heap.size < (zA c9 n w f T i).heap.size := by rw [f1]; omega
    have Xf := hf.2 _ _ _ _ _ _ _ _ _ _ _ _ _ _ Xi
    have hcell : (f (zA c9 n w f T i)).heap[T.heap.size]? = some (zC c9 n T.heap.size w i) := ((hf.1 _).2.2.2.1 _ hlt0).trans f2
    have h := (Xf.stored hcell i (.ref (T.heap.size + 1 + i * w))).dropFresh (fun x hx => by rw [List.mem_singleton.mp hx]; exact X.heapGrown)
    have e2 : cells + (1 + (i + 1) * w) = cells + (1 + i * w) + w := by rw [Nat.succ_mul]; omega
    have e3 : slots + (n + (i + 1) * u) = slots + (n + i * u) + u := by rw [Nat.succ_mul]; omega
    rw [e2, e3]
    exact h
theorem zA_good (hf : zG w u f) (c : ClassId) : zG (1 + n * w) (n + n * u) (fun s => zA c n w f s n) := by
  refine ⟨fun s => ?_, fun p l e R s m args below meth c9 T locs cells slots X => zA_stand hf c X n⟩
  obtain ⟨a, b, d, u9, o⟩ := zA_facts (n := n) hf c s n
  exact ⟨a.trans (Nat.add_assoc _ _ _), d, u9.trans (Nat.add_assoc _ _ _), o, fun g => zA_top hf c s g n⟩
theorem zA_rows (hf : zG w u f) (c : ClassId) (s : State) : ∀ i j, j < i → ∃ t : State, t.heap.size = s.heap.size + 1 + j * w ∧ ∀ q : Nat, t.heap.size ≤ q → q < t.heap.size + w → (zA c n w f s i).heap[q]? = (f t).heap[q]?
  | 0, _, h => absurd h (Nat.not_lt_zero _)
  | i + 1, j, h => by
    have a := (zA_facts (n := n) hf c s i).1
    have o2 := (hf.1 (zA c n w f s i)).2.2.2.1
    have hne : ∀ q : Nat, s.heap.size < q → (zA c n w f s (i + 1)).heap[q]? = (f (zA c n w f s i)).heap[q]? := fun q hq => State.heap_setCell_other (Nat.ne_of_lt hq)
    rcases Nat.lt_or_ge j i with hj | hj
    · obtain ⟨t, t1, t2⟩ := zA_rows hf c s i j hj
      have hm : j * w + w ≤ i * w := by
        have := Nat.mul_le_mul_right w (show j + 1 ≤ i from hj)
        rwa [Nat.succ_mul] at this
      exact ⟨t, t1, fun q h1 h2 => (hne q (by omega)).trans ((o2 q (by omega)).trans (t2 q h1 h2))⟩
    · obtain rfl : j = i := by omega
      exact ⟨zA c n w f s j, a, fun q h1 h2 => hne q (by omega)⟩
end
def zV (vm : Vm) (c comp : ClassId) (t : FieldType) : Prop := ∃ k : Class, vm.classes[c]? = some k ∧ k.kind = .array comp t
theorem z_fits (t : FieldType) (v : Value) (hv : v = .null ∨ ∃ a, v = .ref a) : fits (.array t) v = true := by
  rcases hv with rfl | ⟨a, rfl⟩ <;> rfl
/-- the machine's word for it makes what the maker makes -/
def zK (e : Env) (V : Vm → Prop) (c : ClassId) (ds : List Int32) (w u : Nat) (f : State → State) : Prop := ∀ (E : CtlPost) (d : Bool) (acts : List Action) (s : State) (Q : Addr → Pre), V s.vm → s.heap.size + w ≤ e.platform.maxCells → s.slotsUsed + u ≤ e.platform.maxSlots → (∀ d' acts', Q s.heap.size d' acts' (f s)) → wp (multianewarray.make c ds) Q E e d acts s
theorem zK_leaf {e : Env} {V : Vm → Prop} {c cc : ClassId} {type : FieldType} {k : Int32} {N : Nat} (hV : ∀ vm, V vm → zV vm c cc type) (hk : ¬ k < 0) (hN : k.toNatClampNeg = N) (hl : ¬ N > e.platform.arrayLengthLimit) (hh : ¬ N * componentBytes type > e.platform.maxHeapBytes) (hdf : fits type (defaultValue type) = true) : zK e V c [k] 1 N (zL c N (defaultValue type)) := by
  intro E d acts s Q hv h1 h2 hq
  subst hN
  obtain ⟨kc, hkc, hkind⟩ := hV _ hv
  rw [multianewarray.make]
  simp only [wp_bind', Jvm.W.ite, hk, if_false, wp_pure', Jvm.W.theClass, hkc, hkind, Option.some.injEq, exists_eq_left']
  exact Jvm.W.newArray_of hkc hkind hl hh (by omega) h2 hdf (fun acts' => hq d acts')
theorem zK_step {e : Env} {V : Vm → Prop} {c comp : ClassId} {t0 : FieldType} {n m : Int32} {r : List Int32} {N w u : Nat} {f : State → State} (hf : zG w u f) (hi : zK e V comp (m :: r) w u f) (hV : ∀ vm, V vm → zV vm c comp (.array t0)) (hn : ¬ n < 0) (hN : n.toNatClampNeg = N) (hfind : ((m :: r).find? (· < 0)) = none) (hl : ¬ N > e.platform.arrayLengthLimit) (hh : ¬ N * componentBytes (.array t0) > e.platform.maxHeapBytes) : zK e V c (n :: m :: r) (1 + N * w) (N + N * u) (fun s => zA c N w f s N) := by
  intro E d acts s Q hv h1 h2 hq
  subst hN
  obtain ⟨kc, hkc, hkind⟩ := hV _ hv
  rw [multianewarray.make]
  simp only [wp_bind', Jvm.W.ite, hn, if_false, wp_pure', Jvm.W.theClass, hkc, hkind, Option.some.injEq, exists_eq_left']
  refine Jvm.W.newArray_of hkc hkind hl hh (by omega) (by omega) (z_fits _ _ (Or.inl rfl)) (fun acts' => ?_)
  simp only [hfind]
  rw [ite_self, wp_bind', Std.Legacy.Range.forIn_eq_forIn_range']
  have hsz : ([:n.toNatClampNeg] : Std.Legacy.Range).size = n.toNatClampNeg := by simp [Std.Legacy.Range.size]
  rw [hsz]
  show wp (forIn (List.range' 0 n.toNatClampNeg 1) PUnit.unit _) _ E e d acts' _
  refine wp_forIn_inv (fun rest s' => ∃ i, i ≤ n.toNatClampNeg ∧ rest = List.range' i (n.toNatClampNeg - i) ∧ s' = zA c n.toNatClampNeg w f s i) _ _ ⟨0, Nat.zero_le _, rfl, rfl⟩ ?_ ?_
  · rintro x rest s' d' acts9 Q' ⟨i, hi9, hl9, rfl⟩ hnext
    have hlt : i < n.toNatClampNeg := by
      rcases Nat.lt_or_ge i n.toNatClampNeg with h | h
      · exact h
      · rw [show n.toNatClampNeg - i = 0 from by omega] at hl9
        simp at hl9
    obtain ⟨rfl, hrest⟩ : x = i ∧ rest = List.range' (i + 1) (n.toNatClampNeg - (i + 1)) := by
      rw [show n.toNatClampNeg - i = (n.toNatClampNeg - (i + 1)) + 1 from by omega, List.range'_succ] at hl9
      exact ⟨(List.cons.inj hl9).1, (List.cons.inj hl9).2⟩
    obtain ⟨f1, f2, f3, f4, -⟩ := zA_facts (n := n.toNatClampNeg) hf c s x
    obtain ⟨o1, o2, o3, -⟩ := zC_facts c n.toNatClampNeg s.heap.size w x
    have hm1 : x * w + w ≤ n.toNatClampNeg * w := by
      have := Nat.mul_le_mul_right w (show x + 1 ≤ n.toNatClampNeg from hlt)
      rwa [Nat.succ_mul] at this
    have hm2 : x * u + u ≤ n.toNatClampNeg * u := by
      have := Nat.mul_le_mul_right u (show x + 1 ≤ n.toNatClampNeg from hlt)
      rwa [Nat.succ_mul] at this
    obtain ⟨g1, g2, g3, g4, -⟩ := hf.1 (zA c n.toNatClampNeg w f s x)
    have hlt0 : s.heap.size < (zA c n.toNatClampNeg w f s x).heap.size := by rw [f1]; omega
    simp only [wp_bind']
    refine hi _ _ _ _ _ (by rw [f3]; exact hv) (by rw [f1]; omega) (by rw [f4]; omega) (fun d9 acts8 => ?_)
    simp only [wp_bind', Jvm.W.writeLoc, wp_pure']
    refine ⟨zC c n.toNatClampNeg s.heap.size w x, (g4 _ hlt0).trans f2, by rw [o2]; simp, by rw [o3]; exact hlt, ?_, hnext _ _ _ ⟨x + 1, hlt, hrest, ?_⟩⟩
    · rw [o1, o2]
      simp [State.fitsSlot, State.slotType?, g2, f3, hkc, hkind, z_fits _ _ (Or.inr ⟨_, rfl⟩)]
    · rw [f1]
      rfl
  · rintro s' d' acts9 ⟨i, hi9, hl9, rfl⟩
    have hiN : i = n.toNatClampNeg := by
      rcases Nat.lt_or_ge i n.toNatClampNeg with h | h
      · rw [show n.toNatClampNeg - i = (n.toNatClampNeg - (i + 1)) + 1 from by omega, List.range'_succ] at hl9
        cases hl9
      · omega
    subst hiN
    simp only [wp_pure']
    exact hq _ _
section
variable {p : Program} {l : Launch} {e : Env} {R : Room} {s : State} {m : MethodId} {args : Array Value} {below : List Frame} {meth : Method} {c : Code} {T : State} {locs : List Loc} {cells slots : Nat} {V : Vm → Prop} {f : State → State} {w u : Nat}
theorem z_step3 (X : Stand p l e R s m args below meth c T locs cells slots) (hexec : p.tables.exec = Jvm.exec) {own nm : String} {index : Nat} (hown : s.vm.findClass own = some m.cls) (hclink : (Cond.classLink own index nm).before args s = true) {cA : ClassId} (hfA : s.vm.findClass nm = some cA) (hf : zG w u f) {x y z : Int32} (hK : zK e V cA [x, y, z] w u f) (hV : ∀ vm, s.vm.Alike vm → V vm) {g : JFrame} (hg : g.method = m) (hdg : decode c.code g.pc = .ok (.multianewarray index 3, 4)) {rest : List Value} (hstack : g.stack = .int z :: .int y :: .int x :: rest) (hcells : cells + w ≤ R.cells) (hslots : slots + u ≤ R.slots) :
    ∃ vm₁ : Vm, Stand p l e R s m args below meth c (f (T.setVm vm₁)) locs (cells + w) (slots + u) ∧ ∀ target, Steps p.tables e below ((f (T.setVm vm₁)).setTop { g with pc := g.pc + 4, stack := .ref T.heap.size :: rest }) target → Steps p.tables e below (T.setTop g) target := by
  subst hg
  have hpl : e.platform.magicAccessors = ({} : Platform).magicAccessors := by rw [X.admits.platform]
  obtain ⟨c0, hfc0, hcl⟩ := Cond.classLink_spec hown hclink e.platform hpl
  cases hfA.symm.trans hfc0
  obtain ⟨hg₁, hwarm₁, hready₁⟩ := State.classEntry (e := e) X.warmed hcl
  generalize T.vm.noted g.method.cls index (.cls cA) = vm₁ at hg₁ hwarm₁ hready₁
  have hv := hV vm₁ hwarm₁.alike
  have X₁ := X.noted hwarm₁
  obtain ⟨hr1, hr2⟩ := X.roomAbove hcells hslots
  have XF := hf.2 _ _ _ _ _ _ _ _ _ _ _ _ _ _ X₁
  refine ⟨vm₁, XF, fun target hrest => ?_⟩
  jvm_step X.here [hexec, hdg]
  simp only [multianewarray.sem, wp_bind', Jvm.W.resolveClassAt_links (State.method?_setTop g X.here.top) hg₁]
  rw [Jvm.W.popN, if_neg (by decide)]
  refine ⟨g, State.topJava?_setTop' (s := T.setVm vm₁) g X.here.top, [.int x, .int y, .int z], rest, rfl, hstack, ?_⟩
  simp only [List.mapM_cons, List.mapM_nil, wp_bind', wp_pure']
  refine hK _ _ _ _ _ hv (by show T.heap.size + _ ≤ _; omega) (by show T.slotsUsed + _ ≤ _; omega) (fun d' acts' => ?_)
  have eS : ((T.setTop g).setVm vm₁).setTop { g with stack := rest } = (T.setVm vm₁).setTop { g with stack := rest } := by
    show ((T.setVm vm₁).setTop g).setTop _ = _
    rw [State.setTop_setTop]
  rw [eS, (hf.1 _).2.2.2.2]
  simp only [wp_bind', Jvm.W.mark, Jvm.W.pushRef, State.topJava?_setTop' _ XF.here.top, Option.some.injEq, exists_eq_left', State.setTop_setTop, State.heap_setTop]
  intro acts
  simp [jvm, XF.here.top]
  exact hrest
theorem z_step2 (X : Stand p l e R s m args below meth c T locs cells slots) (hexec : p.tables.exec = Jvm.exec) {own nm : String} {index : Nat} (hown : s.vm.findClass own = some m.cls) (hclink : (Cond.classLink own index nm).before args s = true) {cA : ClassId} (hfA : s.vm.findClass nm = some cA) (hf : zG w u f) {x y : Int32} (hK : zK e V cA [x, y] w u f) (hV : ∀ vm, s.vm.Alike vm → V vm) {g : JFrame} (hg : g.method = m) (hdg : decode c.code g.pc = .ok (.multianewarray index 2, 4)) {rest : List Value} (hstack : g.stack = .int y :: .int x :: rest) (hcells : cells + w ≤ R.cells) (hslots : slots + u ≤ R.slots) :
    ∃ vm₁ : Vm, Stand p l e R s m args below meth c (f (T.setVm vm₁)) locs (cells + w) (slots + u) ∧ ∀ target, Steps p.tables e below ((f (T.setVm vm₁)).setTop { g with pc := g.pc + 4, stack := .ref T.heap.size :: rest }) target → Steps p.tables e below (T.setTop g) target := by
  subst hg
  have hpl : e.platform.magicAccessors = ({} : Platform).magicAccessors := by rw [X.admits.platform]
  obtain ⟨c0, hfc0, hcl⟩ := Cond.classLink_spec hown hclink e.platform hpl
  cases hfA.symm.trans hfc0
  obtain ⟨hg₁, hwarm₁, hready₁⟩ := State.classEntry (e := e) X.warmed hcl
  generalize T.vm.noted g.method.cls index (.cls cA) = vm₁ at hg₁ hwarm₁ hready₁
  have hv := hV vm₁ hwarm₁.alike
  have X₁ := X.noted hwarm₁
  obtain ⟨hr1, hr2⟩ := X.roomAbove hcells hslots
  have XF := hf.2 _ _ _ _ _ _ _ _ _ _ _ _ _ _ X₁
  refine ⟨vm₁, XF, fun target hrest => ?_⟩
  jvm_step X.here [hexec, hdg]
  simp only [multianewarray.sem, wp_bind', Jvm.W.resolveClassAt_links (State.method?_setTop g X.here.top) hg₁]
  rw [Jvm.W.popN, if_neg (by decide)]
  refine ⟨g, State.topJava?_setTop' (s := T.setVm vm₁) g X.here.top, [.int x, .int y], rest, rfl, hstack, ?_⟩
  simp only [List.mapM_cons, List.mapM_nil, wp_bind', wp_pure']
  refine hK _ _ _ _ _ hv (by show T.heap.size + _ ≤ _; omega) (by show T.slotsUsed + _ ≤ _; omega) (fun d' acts' => ?_)
  have eS : ((T.setTop g).setVm vm₁).setTop { g with stack := rest } = (T.setVm vm₁).setTop { g with stack := rest } := by
    show ((T.setVm vm₁).setTop g).setTop _ = _
    rw [State.setTop_setTop]
  rw [eS, (hf.1 _).2.2.2.2]
  simp only [wp_bind', Jvm.W.mark, Jvm.W.pushRef, State.topJava?_setTop' _ XF.here.top, Option.some.injEq, exists_eq_left', State.setTop_setTop, State.heap_setTop]
  intro acts
  simp [jvm, XF.here.top]
  exact hrest
end
theorem z_list {a : Array Value} {n : Nat} {f : Nat → Value} (hs : a.size = n) (h : ∀ j, j < n → a[j]? = some (f j)) : a.toList = (List.range n).map f := by
  refine List.ext_getElem? fun j => ?_
  rw [Array.getElem?_toList]
  by_cases hj : j < n
  · rw [h j hj]
    simp [hj]
  · rw [Array.getElem?_eq_none (by omega)]
    exact (List.getElem?_eq_none (by rw [List.length_map, List.length_range]; omega)).symm
theorem RelH.news {G : gG} {U : State} {h h1 : aH} {H H1 : Heap} (hR : RelH G U h H) (hs : H.size ≤ H1.size) (hk : ∀ q, q < H.size → H1[q]? = H[q]?) (hn : ∀ q c, h1 q = some c → h q = some c ∨ (H.size ≤ q ∧ acAt G U H1 q c)) : RelH G U h1 H1 := by
  obtain ⟨r1, r2, r3⟩ := hR.more hs hk
  refine ⟨r1, r2, fun q c hq => ?_⟩
  rcases hn q c hq with z | ⟨z1, z2⟩
  · exact r3 q c z
  · exact ⟨z2, fun _ => Nat.le_trans hR.1.1 z1⟩
/-- the heap with three rows of nine rows of four more, all 0, from b on -/
def zH3 (h : aH) (b : Nat) : aH := fun q => if q = b then some (16, (List.range 3).map fun j => .ref (b + 1 + j * 10)) else if b < q ∧ q < b + 31 then (if (q - (b + 1)) % 10 = 0 then some (15, (List.range 9).map fun j => .ref (q + 1 + j * 1)) else some (10, List.replicate 4 (.int 0))) else h q
/-- the heap with three rows of nine more, all 0, from b on -/
def zH2 (h : aH) (b : Nat) : aH := fun q => if q = b then some (17, (List.range 3).map fun j => .ref (b + 1 + j * 1)) else if b < q ∧ q < b + 4 then some (11, List.replicate 9 (.long 0)) else h q
def o_mna3 (k : aP) : aP := fun kc ks L st h => match st with
  | .int z :: .int y :: .int x :: r => (x = 3 ∧ y = 9 ∧ z = 4) ∧ 31 ≤ kc ∧ 138 ≤ ks ∧ ∀ b : Nat, (∀ q, b ≤ q → h q = none) → k (kc - 31) (ks - 138) L (.ref b :: r) (zH3 h b)
  | _ => False
def o_mna2 (k : aP) : aP := fun kc ks L st h => match st with
  | .int y :: .int x :: r => (x = 3 ∧ y = 9) ∧ 4 ≤ kc ∧ 30 ≤ ks ∧ ∀ b : Nat, (∀ q, b ≤ q → h q = none) → k (kc - 4) (ks - 30) L (.ref b :: r) (zH2 h b)
  | _ => False
theorem RelH.above {G : gG} {U : State} {h : aH} {H : Heap} (hR : RelH G U h H) : ∀ q, H.size ≤ q → h q = none := fun q hq => by
  cases e : h q with
  | none => rfl
  | some c => exact absurd (hR.2.2 _ c e).1.lt (Nat.not_lt.mpr hq)
section
variable {G : gG} {mi : MI} {d mc ms pc : Nat} {K : aR → aH → Prop}
theorem z_v {u U : Vm} (h : u.Alike U) {c comp : ClassId} {t : FieldType} {k : Class} (a1 : u.classes[c]? = some k) (a2 : k.kind = .array comp t) : zV U c comp t := by
  obtain ⟨k', hk', he⟩ := h.2.2 _ _ a1
  exact ⟨k', hk', by rw [he]; exact a2⟩
theorem s_mna3 {k : aP} {ix : Nat} (hw : Cond.classLink (mY mi).cls ix "[[[I" ∈ aW) (dd : decode (mB mi) pc = .ok (.multianewarray ix 3, 4)) (n : aSo G mi d mc ms K k (pc + 4)) : aSo G mi d mc ms K (o_mna3 k) pc := by
  intro kc ks L st h hk p e R s m args below meth c9 Q M F H locs cells slots ls hR hl h1 h2 hL
  have hSF : SF G s := M.2.2.2.2.2.2.2.2.2.1
  have hroom := M.2.2.2.2.2.2.2.2.2.2.1
  unfold o_mna3 at hk
  split at hk
  · next z y x r =>
    obtain ⟨⟨rfl, rfl, rfl⟩, hk1, hk2, hk⟩ := hk
    obtain ⟨kA, c1, a1, a2, a3, a4⟩ := hSF.2.1 6 (.array (.array .int)) rfl (by decide)
    obtain ⟨kB, c2, b1, b2, b3, b4⟩ := hSF.2.1 5 (.array .int) rfl (by decide)
    obtain ⟨kC, c3, e1, e2, e3, e4⟩ := hSF.2.1 0 .int rfl (by decide)
    obtain rfl : c1 = gA G 15 := Option.some.inj ((a4 rfl).symm.trans b3)
    obtain rfl : c2 = gA G 10 := Option.some.inj ((b4 rfl).symm.trans e3)
    rw [show ("[" ++ (FieldType.array (.array .int)).toString) = "[[[I" from by first | rfl | decide +kernel] at a3
    intro T hT X
    have g0 := zL_good (gA G 10) 4 (.int 0)
    have g1 := zA_good (n := 9) g0 (gA G 15)
    have g2 := zA_good (n := 3) g1 (gA G 16)
    have hlim := Launch.admits_arrayLengthLimit X.admits
    have hbyt := Launch.admits_maxHeapBytes X.admits
    have k0 : zK e (fun vm => zV vm (gA G 16) (gA G 15) (.array (.array .int)) ∧ zV vm (gA G 15) (gA G 10) (.array .int) ∧ zV vm (gA G 10) c3 .int) (gA G 10) [4] 1 4 (zL (gA G 10) 4 (.int 0)) := zK_leaf (type := .int) (fun vm v => v.2.2) (by decide) (by decide) (by rw [hlim]; omega) (by rw [hbyt]; decide) rfl
    have k1 := zK_step (n := 9) (N := 9) g0 k0 (fun vm v => v.2.1) (by decide) (by decide) (by first | decide | rfl | simp) (by rw [hlim]; omega) (by rw [hbyt]; decide)
    have k2 := zK_step (n := 3) (N := 3) g1 k1 (fun vm v => v.1) (by decide) (by decide) (by first | decide | rfl | simp) (by rw [hlim]; omega) (by rw [hbyt]; decide)
    obtain ⟨vm1, X1, st9⟩ := z_step3 X M.1 M.2.2.2.2.1 (M.2.2.2.2.2.1 _ hw) a3 g2 k2 (fun vm v => ⟨z_v v a1 a2, z_v v b1 b2, z_v v e1 e2⟩) (g := F0 m pc ls (.int 4 :: .int 9 :: .int 3 :: r)) rfl (by rw [M.2.1]; exact dd) rfl (by omega) (by omega)
    obtain ⟨F1, hF⟩ : ∃ F1 : State, F1 = zA (gA G 16) 3 (1 + 9 * 1) (fun s => zA (gA G 15) 9 1 (zL (gA G 10) 4 (.int 0)) s 9) (T.setVm vm1) 3 := ⟨_, rfl⟩
    have X2 : Stand p (gl G) e R s m args below meth c9 F1 locs (cells + 31) (slots + 138) := by rw [hF]; exact X1
    have st8 : ∀ target, Steps p.tables e below (F1.setTop (F0 m (pc + 4) ls (.ref T.heap.size :: r))) target → Steps p.tables e below (T.setTop (F0 m pc ls (.int 4 :: .int 9 :: .int 3 :: r))) target := by rw [hF]; exact st9
    have hTh : (T.setVm vm1).heap = H := hT
    obtain ⟨f1, f2, f3, f4, f5⟩ := zA_facts (n := 3) g1 (gA G 16) (T.setVm vm1) 3
    have frow := zA_rows (n := 3) g1 (gA G 16) (T.setVm vm1) 3
    rw [← hF, hTh] at f1 f2
    simp only [← hF, hTh] at f5 frow
    have hR1 : RelH G s (zH3 h H.size) F1.heap := by
      refine hR.news (by rw [f1]; omega) f5 fun q c hq => ?_
      unfold zH3 at hq
      split at hq
      · next hqb =>
        subst hqb
        cases hq
        obtain ⟨o1, o2, o3, o4⟩ := zC_facts (gA G 16) 3 H.size (1 + 9 * 1) 3
        exact Or.inr ⟨Nat.le_refl _, acR_to (by decide) ⟨.array (.array .int), _, rfl, f2, ⟨(fun z w => by rw [o2] at w; cases w), kA, by rw [o1]; exact a1, _, a2⟩, by rw [o2]; simp, ⟨fun _ => z_list o3 (fun j hj => (o4 j hj).trans (congrArg some (if_pos hj))), fun z => absurd z (by decide)⟩, fun _ => ⟨o1, o2⟩⟩⟩
      · split at hq
        · next hqb hqr =>
          obtain ⟨t, t1, t2⟩ := frow ((q - (H.size + 1)) / 10) (by omega)
          have t3 := t2 q (by omega) (by omega)
          refine Or.inr ⟨by omega, ?_⟩
          obtain ⟨w1, w2, -, -, -⟩ := zA_facts (n := 9) g0 (gA G 15) t 9
          split at hq
          · next hq0 =>
            cases hq
            obtain rfl : q = t.heap.size := by omega
            obtain ⟨o1, o2, o3, o4⟩ := zC_facts (gA G 15) 9 t.heap.size 1 9
            exact acR_to (by decide) ⟨.array .int, _, rfl, t3.trans w2, ⟨(fun z w => by rw [o2] at w; cases w), kB, by rw [o1]; exact b1, _, b2⟩, by rw [o2]; simp, ⟨fun _ => z_list o3 (fun j hj => (o4 j hj).trans (congrArg some (if_pos hj))), fun z => absurd z (by decide)⟩, fun _ => ⟨o1, o2⟩⟩
          · next hq0 =>
            cases hq
            obtain ⟨t4, t5, t6⟩ := zA_rows (n := 9) g0 (gA G 15) t 9 (q - (t.heap.size + 1)) (by omega)
            have t7 := t6 q (by omega) (by omega)
            obtain rfl : q = t4.heap.size := by omega
            exact acR_to (by decide) ⟨.int, _, rfl, (t3.trans t7).trans (State.heap_pushCell_size _ _), ⟨(fun z w => by cases w), kC, e1, _, e2⟩, (fun z => by cases z), ⟨fun _ => by simp, fun z => absurd z (by decide)⟩, fun _ => ⟨rfl, rfl⟩⟩
        · exact Or.inl hq
    obtain ⟨t, q1, q2⟩ := n _ _ _ _ _ (hk H.size hR.above) p e R s m args below meth c9 Q M F F1.heap locs (cells + 31) (slots + 138) ls hR1 hl (by omega) (by omega) hL F1 rfl X2
    refine ⟨t, st8 t ?_, q2⟩
    rw [show T.heap = H from hT]
    exact q1
  · exact hk.elim
theorem s_mna2 {k : aP} {ix : Nat} (hw : Cond.classLink (mY mi).cls ix "[[J" ∈ aW) (dd : decode (mB mi) pc = .ok (.multianewarray ix 2, 4)) (n : aSo G mi d mc ms K k (pc + 4)) : aSo G mi d mc ms K (o_mna2 k) pc := by
  intro kc ks L st h hk p e R s m args below meth c9 Q M F H locs cells slots ls hR hl h1 h2 hL
  have hSF : SF G s := M.2.2.2.2.2.2.2.2.2.1
  have hroom := M.2.2.2.2.2.2.2.2.2.2.1
  unfold o_mna2 at hk
  split at hk
  · next y x r =>
    obtain ⟨⟨rfl, rfl⟩, hk1, hk2, hk⟩ := hk
    obtain ⟨kB, c2, b1, b2, b3, b4⟩ := hSF.2.1 7 (.array .long) rfl (by decide)
    obtain ⟨kC, c3, e1, e2, e3, e4⟩ := hSF.2.1 1 .long rfl (by decide)
    obtain rfl : c2 = gA G 11 := Option.some.inj ((b4 rfl).symm.trans e3)
    rw [show ("[" ++ (FieldType.array .long).toString) = "[[J" from by first | rfl | decide +kernel] at b3
    intro T hT X
    have g0 := zL_good (gA G 11) 9 (.long 0)
    have g1 := zA_good (n := 3) g0 (gA G 17)
    have hlim := Launch.admits_arrayLengthLimit X.admits
    have hbyt := Launch.admits_maxHeapBytes X.admits
    have k0 : zK e (fun vm => zV vm (gA G 17) (gA G 11) (.array .long) ∧ zV vm (gA G 11) c3 .long) (gA G 11) [9] 1 9 (zL (gA G 11) 9 (.long 0)) := zK_leaf (type := .long) (fun vm v => v.2) (by decide) (by decide) (by rw [hlim]; omega) (by rw [hbyt]; decide) rfl
    have k1 := zK_step (n := 3) (N := 3) g0 k0 (fun vm v => v.1) (by decide) (by decide) (by first | decide | rfl | simp) (by rw [hlim]; omega) (by rw [hbyt]; decide)
    obtain ⟨vm1, X1, st9⟩ := z_step2 X M.1 M.2.2.2.2.1 (M.2.2.2.2.2.1 _ hw) b3 g1 k1 (fun vm v => ⟨z_v v b1 b2, z_v v e1 e2⟩) (g := F0 m pc ls (.int 9 :: .int 3 :: r)) rfl (by rw [M.2.1]; exact dd) rfl (by omega) (by omega)
    obtain ⟨F1, hF⟩ : ∃ F1 : State, F1 = zA (gA G 17) 3 1 (zL (gA G 11) 9 (.long 0)) (T.setVm vm1) 3 := ⟨_, rfl⟩
    have X2 : Stand p (gl G) e R s m args below meth c9 F1 locs (cells + 4) (slots + 30) := by rw [hF]; exact X1
    have st8 : ∀ target, Steps p.tables e below (F1.setTop (F0 m (pc + 4) ls (.ref T.heap.size :: r))) target → Steps p.tables e below (T.setTop (F0 m pc ls (.int 9 :: .int 3 :: r))) target := by rw [hF]; exact st9
    have hTh : (T.setVm vm1).heap = H := hT
    obtain ⟨f1, f2, f3, f4, f5⟩ := zA_facts (n := 3) g0 (gA G 17) (T.setVm vm1) 3
    have frow := zA_rows (n := 3) g0 (gA G 17) (T.setVm vm1) 3
    rw [← hF, hTh] at f1 f2
    simp only [← hF, hTh] at f5 frow
    have hR1 : RelH G s (zH2 h H.size) F1.heap := by
      refine hR.news (by rw [f1]; omega) f5 fun q c hq => ?_
      unfold zH2 at hq
      split at hq
      · next hqb =>
        subst hqb
        cases hq
        obtain ⟨o1, o2, o3, o4⟩ := zC_facts (gA G 17) 3 H.size 1 3
        exact Or.inr ⟨Nat.le_refl _, acR_to (by decide) ⟨.array .long, _, rfl, f2, ⟨(fun z w => by rw [o2] at w; cases w), kB, by rw [o1]; exact b1, _, b2⟩, by rw [o2]; simp, ⟨fun _ => z_list o3 (fun j hj => (o4 j hj).trans (congrArg some (if_pos hj))), fun z => absurd z (by decide)⟩, fun _ => ⟨o1, o2⟩⟩⟩
      · split at hq
        · next hqb hqr =>
          cases hq
          obtain ⟨t, t1, t2⟩ := frow (q - (H.size + 1)) (by omega)
          have t3 := t2 q (by omega) (by omega)
          obtain rfl : q = t.heap.size := by omega
          exact Or.inr ⟨by omega, acR_to (by decide) ⟨.long, _, rfl, t3.trans (State.heap_pushCell_size _ _), ⟨(fun z w => by cases w), kC, e1, _, e2⟩, (fun z => by cases z), ⟨fun _ => by simp, fun z => absurd z (by decide)⟩, fun _ => ⟨rfl, rfl⟩⟩⟩
        · exact Or.inl hq
    obtain ⟨t, q1, q2⟩ := n _ _ _ _ _ (hk H.size hR.above) p e R s m args below meth c9 Q M F F1.heap locs (cells + 4) (slots + 30) ls hR1 hl (by omega) (by omega) hL F1 rfl X2
    refine ⟨t, st8 t ?_, q2⟩
    rw [show T.heap = H from hT]
    exact q1
  · exact hk.elim
end
end Mna
