/-! the start: what the Statement gives of it, in the words of the walk -/
section Start
theorem st_overA {A : Array Value} {s : State} {t : FieldType} (h : (Cond.arrayOver (.array t)).before A s = true) : ∃ (comp c : ClassId) (k : Class), s.vm.findClass (FieldType.array t).toString = some comp ∧ s.vm.classes[c]? = some k ∧ k.kind = .array comp (.array t) ∧ s.vm.findClass ("[" ++ (FieldType.array t).toString) = some c := by
  simp only [Cond.before, Cond.holds, Cond.value, beq_iff_eq] at h
  cases hc : s.vm.findClass (FieldType.array t).toString with
  | none => simp [hc] at h
  | some comp =>
    simp only [hc, Option.bind_some, Option.bind_eq_some_iff, Option.map_eq_some_iff] at h
    obtain ⟨c, hi, k, hk, hb⟩ := h
    obtain ⟨hlt, hp, -⟩ := Array.findIdx?_eq_some_iff_getElem.mp hi
    have hkk : s.vm.classes[c] = k := (Array.getElem?_eq_some_iff.mp hk).2
    rw [hkk] at hp
    cases hkind : k.kind with
    | array component ty =>
      rw [hkind] at hb hp
      simp at hb hp
      exact ⟨comp, c, k, rfl, hk, by rw [hkind, hp, hb.1], hb.2⟩
    | _ => rw [hkind] at hb; simp at hb
theorem st_str {A : Array Value} {s : State} {own tx : String} {k : Nat} (h : (Cond.stringRef own k tx).before A s = true) : ∃ a : Nat, vk_R own k tx a s := by
  cases hc : s.vm.findClass own with
  | none => simp [Cond.before, Cond.holds, Cond.value, State.resolvedAt?, hc] at h
  | some cur =>
    obtain ⟨k9, cf, i, a, -, -, -, -, -, hev⟩ := Cond.stringRef_spec hc h
    exact ⟨a, vk_R.of h hev⟩
/-- the kinds of arrays that the walk makes, as a program counts them -/
def stK (s : State) (ty : FieldType) (c : ClassId) : Prop := ∃ (kA : Class) (comp : ClassId), s.vm.classes[c]? = some kA ∧ kA.kind = .array comp ty ∧ s.vm.findClass ("[" ++ ty.toString) = some c ∧ (ty.isReference = true → s.vm.findClass (aRn ty) = some comp)
theorem stK_p {A : Array Value} {s : State} {ty : FieldType} (hr : ty.isReference = false) (h : (Cond.arrayClass ty).before A s = true) : ∃ c, stK s ty c := by
  obtain ⟨c, k, comp, h1, h2, h3⟩ := Cond.arrayClass_spec h
  exact ⟨c, k, comp, h2, h3, h1, fun z => by rw [hr] at z; cases z⟩
theorem stK_o {A : Array Value} {s : State} {C : String} (h : (Cond.arrayOver (.object C)).before A s = true) : ∃ c, stK s (.object C) c := by
  obtain ⟨comp, c, k, h1, -, h2, h3, h4⟩ := Cond.arrayOver_spec h
  exact ⟨c, k, comp, h2, h3, h4, fun _ => h1⟩
theorem stK_a {A : Array Value} {s : State} {t : FieldType} (h : (Cond.arrayOver (.array t)).before A s = true) : ∃ c, stK s (.array t) c := by
  obtain ⟨comp, c, k, h1, h2, h3, h4⟩ := st_overA h
  exact ⟨c, k, comp, h2, h3, h4, fun _ => h1⟩
theorem st_nw {w : Cond} (hw : aNwOK w = true) {A : Array Value} {s : State} (h : w.before A s = true) : va_Nw w s := by
  cases w <;> first | exact va_Nw.of rfl h | exact h | exact Bool.noConfusion hw
theorem u_in0 : ∀ w ∈ u_ws RX2 TX2 1, w ∈ lw_tbl := by decide +kernel
theorem u_in1 : ∀ w ∈ u_ws RX0 TX0 5, w ∈ lw_tbl := by decide +kernel
theorem u_in2 : ∀ w ∈ u_ws RX1 TX1 7, w ∈ lw_tbl := by decide +kernel
theorem u_in3 : ∀ w ∈ u_ws RX3 TX3 7, w ∈ lw_tbl := by decide +kernel
theorem u_in4 : ∀ w ∈ u_ws RJx4a65c TJx4a65c 3, w ∈ lw_tbl := by decide +kernel
/-- the walk's world at the start -/
theorem st_SF {s : State} {b L : Nat} {xs : Nat → Int32} (l : Launch) (hts : ∀ w ∈ lw_tbl, w.before #[Value.ref b] s = true) (hX : va_X b L xs s s.heap) (hgv : (Jvm.Cond.and given_1 narrow_1).before #[Value.ref b] s = true) : ∃ G : gG, gl G = l ∧ gH G = s.heap ∧ SF G s ∧ RelH G s (fun q => if q = b then some (20, (List.range L).map fun j => .int (xs j)) else if q = gE G then some (21, []) else none) s.heap ∧ gE G ≠ b := by
  have hn := flat_of_before _ hgv
  have hA : ∀ a : Nat, a < s.heap.size → ¬ (fun q : Nat => s.heap.size ≤ q) a := fun a h => Nat.not_le.mpr h
  obtain ⟨c0, i0, k0⟩ := u_known (C := RX2) (T := TX2) (N := 1) (n := 1) hts u_in0 (hts (.instantiable RX2 1) (by decide +kernel))
  obtain ⟨c1, i1, k1⟩ := u_known (C := RX0) (T := TX0) (N := 5) (n := 5) hts u_in1 (hts (.instantiable RX0 5) (by decide +kernel))
  obtain ⟨c2, i2, k2⟩ := u_known (C := RX1) (T := TX1) (N := 7) (n := 7) hts u_in2 (hts (.instantiable RX1 7) (by decide +kernel))
  obtain ⟨c3, i3, k3⟩ := u_known (C := RX3) (T := TX3) (N := 7) (n := 7) hts u_in3 (hts (.instantiable RX3 7) (by decide +kernel))
  obtain ⟨c4, i4, k4⟩ := u_known (C := RJx4a65c) (T := TJx4a65c) (N := 3) (n := 3) hts u_in4 (hts (.instantiable RJx4a65c 3) (by decide +kernel))
  obtain ⟨dC, dI, hKc⟩ : ∃ (dC : Nat → ClassId) (dI : Nat → Nat → Nat), ∀ (k : Nat) (q : vw_C), aCl[k]? = some q → u_Kn s q.1 q.2.1 q.2.2 (dC k) (dI k) := by
    refine ⟨fun k => if k = 0 then c0 else if k = 1 then c1 else if k = 2 then c2 else if k = 3 then c3 else c4, fun k => if k = 0 then i0 else if k = 1 then i1 else if k = 2 then i2 else if k = 3 then i3 else i4, ?_⟩
    intro k q hq
    match k, hq with
    | 0, hq => cases hq; exact k0
    | 1, hq => cases hq; exact k1
    | 2, hq => cases hq; exact k2
    | 3, hq => cases hq; exact k3
    | 4, hq => cases hq; exact k4
    | k + 5, hq => simp [aCl] at hq
  obtain ⟨a0, g0⟩ := stK_p (ty := .int) rfl (hts (.arrayClass .int) (by decide +kernel))
  obtain ⟨a1, g1⟩ := stK_p (ty := .long) rfl (hts (.arrayClass .long) (by decide +kernel))
  obtain ⟨a2, g2⟩ := stK_p (ty := .double) rfl (hts (.arrayClass .double) (by decide +kernel))
  obtain ⟨a3, g3⟩ := stK_o (C := RX0) (hts (.arrayOver (.object RX0)) (by decide +kernel))
  obtain ⟨a4, g4⟩ := stK_o (C := "java/lang/Object") (hts (.arrayOver (.object "java/lang/Object")) (by decide +kernel))
  obtain ⟨a5, g5⟩ := stK_a (t := .int) (hts (.arrayOver (.array .int)) (by decide +kernel))
  obtain ⟨a6, g6⟩ := stK_a (t := .array .int) (hts (.arrayOver (.array (.array .int))) (by decide +kernel))
  obtain ⟨a7, g7⟩ := stK_a (t := .long) (hts (.arrayOver (.array .long)) (by decide +kernel))
  obtain ⟨a8, g8⟩ := stK_p (ty := .byte) rfl (hts (.arrayClass .byte) (by decide +kernel))
  obtain ⟨gA9, hgA⟩ : ∃ gA9 : Nat → ClassId, ∀ (k : Nat) (ty : FieldType), aTy[k]? = some ty → k < 10 → stK s ty (gA9 (k + 10)) := by
    refine ⟨fun k => if k = 10 then a0 else if k = 11 then a1 else if k = 12 then a2 else if k = 13 then a3 else if k = 14 then a4 else if k = 15 then a5 else if k = 16 then a6 else if k = 17 then a7 else a8, ?_⟩
    intro k ty hk h2
    match k, hk, h2 with
    | 0, hk, _ =>
      have e : (.int : FieldType) = ty := Option.some.inj hk
      subst e
      exact g0
    | 1, hk, _ =>
      have e : (.long : FieldType) = ty := Option.some.inj hk
      subst e
      exact g1
    | 2, hk, _ =>
      have e : (.double : FieldType) = ty := Option.some.inj hk
      subst e
      exact g2
    | 3, hk, _ =>
      have e : (.object RX0 : FieldType) = ty := Option.some.inj hk
      subst e
      exact g3
    | 4, hk, _ =>
      have e : (.object "java/lang/Object" : FieldType) = ty := Option.some.inj hk
      subst e
      exact g4
    | 5, hk, _ =>
      have e : (.array .int : FieldType) = ty := Option.some.inj hk
      subst e
      exact g5
    | 6, hk, _ =>
      have e : (.array (.array .int) : FieldType) = ty := Option.some.inj hk
      subst e
      exact g6
    | 7, hk, _ =>
      have e : (.array .long : FieldType) = ty := Option.some.inj hk
      subst e
      exact g7
    | 8, hk, _ =>
      have e : (.byte : FieldType) = ty := Option.some.inj hk
      subst e
      exact g8
    | 9, hk, _ =>
      have e : (.byte : FieldType) = ty := Option.some.inj hk
      subst e
      exact g8
    | k + 10, _, h2 => exact absurd h2 (by omega)
  obtain ⟨gE9, hEv, hET⟩ := va_Tof (tm := .static "java/util/ArrayList" "DEFAULTCAPACITY_EMPTY_ELEMENTDATA" "[Ljava/lang/Object;") (ty := .object "java/lang/Object") (f := fun _ => .null) (N := 0) (A := fun q : Nat => s.heap.size ≤ q) (by decide) (hn _ (by decide +kernel)) (va_eqt (z := 0) (hn _ (by decide +kernel))) (fun j hj => absurd hj (Nat.not_lt_zero j)) hA
  have hE8 : va_Z "java/util/ArrayList" "DEFAULTCAPACITY_EMPTY_ELEMENTDATA" "[Ljava/lang/Object;" (.ref gE9) (fun q : Nat => s.heap.size ≤ q) s s.heap := va_Zof (hts _ (by decide +kernel)) (hts _ (by decide +kernel)) hEv hA
  have h6 : vx_Zq Bundle.tN "UNASSIGNED_STACK" Bundle.steD (fun q : Nat => s.heap.size ≤ q) s s.heap := vx_Zqof (hts _ (by decide +kernel)) (hts _ (by decide +kernel)) (hn _ (by decide +kernel)) hA
  have h7 : vx_Zq Bundle.tN "SUPPRESSED_SENTINEL" Bundle.listD (fun q : Nat => s.heap.size ≤ q) s s.heap := vx_Zqof (hts _ (by decide +kernel)) (hts _ (by decide +kernel)) (hn _ (by decide +kernel)) hA
  have hel : ∀ j : Nat, j < 7 → Cond.eq (.elem (.field (.string "BillwrightModel" 96) "java/lang/String" "value" "[B") (.int (Int32.ofNat j))) (.int (([85, 68, 67, 70, 117, 100, 101] : List Int32).getD j 0)) ∈ flatC (Jvm.Cond.and given_1 narrow_1) := by decide +kernel
  obtain ⟨adK, adV, hS9, hSv⟩ := vk_Sof (args := #[Value.ref b]) (s := s) (tm := fun _ => .string "BillwrightModel" 96) (N := 1) (len := [7]) (byt := [[85, 68, 67, 70, 117, 100, 101]]) (A := fun q : Nat => s.heap.size ≤ q)
    (fun i hi => by obtain rfl : i = 0 := by omega
                    decide)
    (fun i hi => hn (.exactly (.string "BillwrightModel" 96) "java/lang/String") (by decide +kernel))
    (fun i hi => hn (.eq (.field (.string "BillwrightModel" 96) "java/lang/String" "coder" "B") (.int 0)) (by decide +kernel))
    (fun i hi => hn (.arrayOf (.field (.string "BillwrightModel" 96) "java/lang/String" "value" "[B") .byte) (by decide +kernel))
    (fun i hi => by obtain rfl : i = 0 := by omega
                    exact hn (.eq (.length (.field (.string "BillwrightModel" 96) "java/lang/String" "value" "[B")) (.int (Int32.ofNat 7))) (by decide +kernel))
    (fun i hi j hj => by obtain rfl : i = 0 := by omega
                         exact hn _ (hel j hj))
    (fun i j hi hj hne => absurd (show i = j by omega) hne) hA
  have hvk : vk_R "BillwrightModel" 96 "UDCFude" (adK 0) s := vk_R.of (hts _ (by decide +kernel)) (hSv 0 (by decide))
  have hS1 : vk_S 1 [7] [[85, 68, 67, 70, 117, 100, 101]] (fun _ => adK 0) (fun _ => adV 0) (fun q : Nat => s.heap.size ≤ q) s s.heap := by
    refine ⟨fun i hi => ?_, fun i j hi hj _ => by omega⟩
    obtain rfl : i = 0 := by omega
    exact hS9.1 0 (by decide)
  have hcs : va_Z "java/lang/String" "COMPACT_STRINGS" "Z" (.int 1) (fun q : Nat => s.heap.size ≤ q) s s.heap := va_Zof (hts _ (by decide +kernel)) (hts _ (by decide +kernel)) (va_eqt (z := 1) (hn _ (by decide +kernel))) hA
  have hsi : va_Zq "jdk/internal/util/Preconditions" "SIOOBE_FORMATTER" "Ljava/util/function/BiFunction;" (fun q : Nat => s.heap.size ≤ q) s s.heap := va_Zqof (hts _ (by decide +kernel)) (hts _ (by decide +kernel)) (hn _ (by decide +kernel)) hA
  obtain ⟨scr, x1, x2, x3, x4, x5⟩ := hX
  obtain ⟨ce, y1, y2, y3, y4, y5, y6, y7⟩ := hET
  have hne : gE9 ≠ b := by
    intro e
    rw [e] at y1
    cases x1.symm.trans y1
    obtain ⟨-, kA, q1, cp, q2⟩ := x2
    obtain ⟨-, kB, q3, cq, q4⟩ := y2
    cases q1.symm.trans q3
    cases q2.symm.trans q4
  have hnc : ∀ q, q ∈ aNc → va_Nc q.1 q.2 s := by
    intro q hq
    simp only [aNc, List.mem_cons, List.not_mem_nil, or_false] at hq
    rcases hq with rfl | rfl | rfl | rfl
    · exact va_Nc.of (hn _ (by decide +kernel))
    · exact va_Nc.of (hn _ (by decide +kernel))
    · exact va_Nc.of (hn _ (by decide +kernel))
    · exact va_Nc.of (hn _ (by decide +kernel))
  refine ⟨(l, (dC, dI), gA9, s.heap, adK 0, gE9, adV 0), rfl, rfl, ⟨⟨hKc, fun k q h => by simp at h⟩, fun k ty hk hlt => hgA k ty hk hlt, fun w hw ho => st_nw ho (hts w hw), fun own tx k hm => st_str (hts _ hm), hnc, h6, h7, hE8, hvk, hS1, hcs, hsi⟩, ⟨⟨Nat.le_refl _, Nat.le_refl _⟩, fun q _ => rfl, ?_⟩, hne⟩
  intro q c hq
  have hq : (if q = b then some (20, (List.range L).map fun j => .int (xs j)) else if q = gE9 then some (21, []) else none : Option aC) = some c := hq
  split at hq
  · next e =>
    cases hq
    rw [e]
    exact ⟨acR_to (by decide) ⟨.int, scr, rfl, x1, x2, x3, ⟨fun _ => z_list x4 x5, fun z => absurd z (by decide)⟩, fun z => absurd z (by decide)⟩, fun z => absurd z (Nat.lt_irrefl 20)⟩
  · split at hq
    · next e =>
      cases hq
      rw [e]
      exact ⟨acR_to (by decide) ⟨.object "java/lang/Object", ce, rfl, y1, y2, y3, ⟨fun z => absurd rfl z, fun _ => ⟨rfl, y5⟩⟩, fun z => absurd z (by decide)⟩, fun z => absurd (show (21 : Nat) < 20 from z) (by decide)⟩
    · cases hq
end Start
