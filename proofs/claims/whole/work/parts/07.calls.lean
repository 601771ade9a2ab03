/-! contracts over the abstract heap, calls, throws -/
def rmOf (d mc ms : Nat) : Room := { frames := d, cells := mc, slots := ms, locals := 48 * d }
/-- the contract: from this heap and these arguments, within d frames, mc cells and ms slots, the method comes to an end that K allows -/
def CT (G : gG) (mi : MI) (d mc ms : Nat) (av : List Value) (h : aH) (K : aR → aH → Prop) : Prop :=
  vx_Met (gl G) (mY mi) (hdW mi :: aW) (rmOf d mc ms) (va_Pc av (fun U => SF G U ∧ RelH G U h U.heap)) (aQ G K) (aX G K) mc ms (fun q => (gH G).size ≤ q)
theorem aPc_blind {G : gG} {h : aH} {av : List Value} : FrameBlind (va_Pc av (fun U => SF G U ∧ RelH G U h U.heap)) := fun _ _ _ _ q => ⟨q.1, q.2.1.calling, q.2.2.moved (Vm.Alike.refl _) (Nat.le_refl _)⟩
theorem aW_good : GoodIn aW aW := fun _ hw => ⟨hw, good_of_word (List.mem_filter.mp hw).2⟩
theorem aW_callee {mi : MI} (hm : hdW mi ∈ aW) : GoodIn aW (hdW mi :: aW) := fun w hw => (List.mem_cons.mp hw).elim (fun e => by rw [e]; exact aW_good _ hm) (fun h => aW_good w h)
section Calls9
variable {G : gG} {mi : MI} {d mc ms : Nat} {K : aR → aH → Prop} {pc : Nat}
theorem aRun_W {p : Program} {e : Env} {R : Room} {s : State} {m : MethodId} {args : Array Value} {below : List Frame} {meth : Method} {c : Code} {H : Heap} {locs : List Loc} {cells slots mc' ms' : Nat} {ls : Array Slot} {st0 rest : List Value} {Q : State → Prop} {K1 : aR → aH → Prop} {a9 : Array Value} {h9 : aH} (hR9 : RelH G s h9 H) (hl : ∀ q ∈ locs, (gH G).size ≤ q.base)
    (hr : vx_Run p (gl G) e R s m args below meth c H locs cells slots mc' ms' (F0 m pc ls st0) rest (aQ G K1 a9) (aX G K1) (fun q => (gH G).size ≤ q))
    (kk : ∀ (v : Option Value) (h' : aH) (H1 : Heap) (locs1 : List Loc), K1 (.inl v) h' → RelH G s h' H1 → (∀ q ∈ locs1, (gH G).size ≤ q.base) → W p (gl G) e R s m args below meth c H1 locs1 (cells + mc') (slots + ms') Q (F0 m (pc + 3) ls (v.toList ++ rest)))
    (kx : ∀ (E : String) (h' : aH) (H1 : Heap) (locs1 : List Loc) (q : Nat) (ce : Cell), K1 (.inr E) h' → RelH G s h' H1 → (∀ q ∈ locs1, (gH G).size ≤ q.base) → H1[q]? = some ce → ce.vm = .none → s.vm.findClass E = some ce.cls → vx_W p (gl G) e R s m args below meth c H1 locs1 (cells + mc') (slots + ms') Q (F0 m pc ls rest) q) :
    W p (gl G) e R s m args below meth c H locs cells slots Q (F0 m pc ls st0) := by
  intro T hT X
  rcases hr T hT X with ⟨v, st₀, t, T', L, h0, X', hL, e1, e2, ⟨v', h', ho, hK1, hR, hz⟩, st⟩ | ⟨q, st₀, t, T', L, E, ce, h0, X', hL, e1, e2, ⟨h', hK1, hR, hz⟩, hce, hcv, hcl, st⟩
  · cases ho
    have hal : t.vm.Alike s.vm := by rw [← e2]; exact X'.warmed.alike.symm
    obtain ⟨t2, a1, b1⟩ := kk v h' T'.heap (locs ++ L) hK1 (by rw [e1]; exact hR.moved hal (Nat.le_trans hR9.1.2 (by rw [← h0]; exact hz))) (fun q hq => (List.mem_append.mp hq).elim (hl q) (hL q)) T' rfl X'
    exact ⟨t2, st t2 a1, b1⟩
  · have hal : t.vm.Alike s.vm := by rw [← e2]; exact X'.warmed.alike.symm
    obtain ⟨t2, a1, b1⟩ := kx E h' T'.heap (locs ++ L) q ce hK1 (by rw [e1]; exact hR.moved hal (Nat.le_trans hR9.1.2 (by rw [← h0]; exact hz))) (fun q hq => (List.mem_append.mp hq).elim (hl q) (hL q)) (by rw [e1]; exact hce) hcv hcl T' rfl X'
    exact ⟨t2, st.trans a1, b1⟩
theorem aRun_N {p : Program} {e : Env} {R : Room} {s : State} {m : MethodId} {args : Array Value} {below : List Frame} {meth : Method} {c : Code} {H : Heap} {locs : List Loc} {cells slots mc' ms' : Nat} {ls : Array Slot} {st0 rest : List Value} {Q : State → Prop} {K1 : aR → aH → Prop} {a9 : Array Value} {h9 : aH} (hR9 : RelH G s h9 H) (hl : ∀ q ∈ locs, (gH G).size ≤ q.base)
    (hr : va_Run p (gl G) e R s m args below meth c H locs cells slots mc' ms' (F0 m pc ls st0) rest (aQ G K1 a9) (fun q => (gH G).size ≤ q))
    (kk : ∀ (v : Option Value) (h' : aH) (H1 : Heap) (locs1 : List Loc), K1 (.inl v) h' → RelH G s h' H1 → (∀ q ∈ locs1, (gH G).size ≤ q.base) → W p (gl G) e R s m args below meth c H1 locs1 (cells + mc') (slots + ms') Q (F0 m (pc + 3) ls (v.toList ++ rest))) :
    W p (gl G) e R s m args below meth c H locs cells slots Q (F0 m pc ls st0) := by
  intro T hT X
  obtain ⟨v, st₀, t, T', L, h0, X', hL, e1, e2, ⟨v', h', ho, hK1, hR, hz⟩, st⟩ := hr T hT X
  cases ho
  have hal : t.vm.Alike s.vm := by rw [← e2]; exact X'.warmed.alike.symm
  obtain ⟨t2, a1, b1⟩ := kk v h' T'.heap (locs ++ L) hK1 (by rw [e1]; exact hR.moved hal (Nat.le_trans hR9.1.2 (by rw [← h0]; exact hz))) (fun q hq => (List.mem_append.mp hq).elim (hl q) (hL q)) T' rfl X'
  exact ⟨t2, st t2 a1, b1⟩
/-- a contract that never throws -/
theorem CT.met {mi' : MI} {d' mc' ms' : Nat} {av : List Value} {h : aH} {K1 : aR → aH → Prop} (hc : CT G mi' d' mc' ms' av h K1) (hn : ∀ E h', ¬ K1 (.inr E) h') : Met (gl G) (mY mi') (hdW mi' :: aW) (rmOf d' mc' ms') (va_Pc av (fun U => SF G U ∧ RelH G U h U.heap)) (aQ G K1) mc' ms' (fun q => (gH G).size ≤ q) := by
  refine Jvm.Free.MetFree.mono hc (fun _ _ h => h) (fun _ _ _ _ _ h => h) (fun a s o t _ hq => ?_)
  rcases hq with hq | ⟨q, ho, E, ce, L, ⟨h', hx, -⟩, -⟩
  · exact hq
  · exact absurd hx (hn E h')
/-- what a call's contract gives the caller -/
def aCt (G : gG) (mi' : MI) (d kc ks : Nat) (av : List Value) (h : aH) (k : Nat → Nat → aR → aH → Prop) : Prop :=
  ∃ (mc' ms' : Nat) (K1 : aR → aH → Prop), mc' ≤ kc ∧ ms' ≤ ks ∧ CT G mi' (d - 1) mc' ms' av h K1 ∧ ∀ r h', K1 r h' → k (kc - mc') (ks - ms') r h'
/-- the use of a contract -/
theorem aCt.mk {mi' : MI} {kc ks mc' ms' : Nat} {av : List Value} {h : aH} {k : Nat → Nat → aR → aH → Prop} {K1 : aR → aH → Prop} (hc : CT G mi' (d - 1) mc' ms' av h K1) (h1 : mc' ≤ kc) (h2 : ms' ≤ ks) (hk : ∀ r h', K1 r h' → k (kc - mc') (ks - ms') r h') : aCt G mi' d kc ks av h k := ⟨mc', ms', K1, h1, h2, hc, hk⟩
def aPop : Nat → List Value → List Value → Option (List Value × List Value)
  | 0, st, acc => some (acc, st)
  | _ + 1, [], _ => none
  | n + 1, v :: st, acc => aPop n st (v :: acc)
theorem aPop_eq : ∀ (n : Nat) (st acc av r : List Value), aPop n st acc = some (av, r) → ∃ pre : List Value, st = pre.reverse ++ r ∧ pre.length = n ∧ av = pre ++ acc
  | 0, st, acc, av, r, h => by cases h; exact ⟨[], rfl, rfl, rfl⟩
  | n + 1, [], acc, av, r, h => by cases h
  | n + 1, v :: st, acc, av, r, h => by
    obtain ⟨pre, h1, h2, h3⟩ := aPop_eq n st (v :: acc) av r h
    exact ⟨pre ++ [v], by rw [List.reverse_append, h1]; rfl, by rw [List.length_append, h2]; rfl, by rw [h3, List.append_assoc]; rfl⟩
/-- what is known of a callee -/
def mOK (mi' : MI) (n : Nat) : Prop := hdW mi' ∈ aW ∧ (mX mi').isEmpty = true ∧ (mY mi').cls ≠ "java/lang/invoke/MethodHandle" ∧ (mY mi').cls ≠ "java/lang/invoke/VarHandle" ∧ (parseMethodDescriptor (mY mi').desc).map (fun d => d.parameters.length) = some n ∧ mL mi' ≤ 29 ∧ Cond.initialized (mY mi').cls ∈ aW
theorem hdW_code {mi' : MI} (h : (mX mi').isEmpty = true) : hdW mi' = .code (mY mi') (mB mi') (mL mi') (mT mi') := by unfold hdW; rw [if_pos h]
theorem room9 {d' dd RF RL x : Nat} (h1 : 1 ≤ dd) (h2 : dd ≤ RF ∧ 48 * dd ≤ RL) (hx : x ≤ 29) (hd : d' = dd - 1) : d' + 1 ≤ RF ∧ 8 + (x + 11) + 48 * d' ≤ RL := by omega
/-- what is done with an exception that no row of the table takes -/
def o_calls (G : gG) (d : Nat) (mi' : MI) (n : Nat) (K : aR → aH → Prop) (k : aP) : aP := fun kc ks L st h => match aPop n st [] with
  | some (av, r) => (r.map fun v => v.category).sum ≤ 8 ∧ aCt G mi' d kc ks av h (fun kc ks res h' => match res with | .inl v => k kc ks L (v.toList ++ r) h' | .inr E => K (.inr E) h')
  | none => False
theorem s_calls {k : aP} {ix n : Nat} (mi' : MI) (hm : mOK mi' n) (hd1 : 1 ≤ d) (hx0 : mX mi = []) (hl9 : Cond.methodLink (mY mi).cls ix (mY mi') ∈ aW) (hs9 : Cond.static (mY mi') ∈ aW) (dd : decode (mB mi) pc = .ok (.invokestatic ix, 3)) (n9 : aSo G mi d mc ms K k (pc + 3)) : aSo G mi d mc ms K (o_calls G d mi' n K k) pc := by
  intro kc ks L st h hk p e R s m args below meth c Q M F H locs cells slots ls hR hl h1 h2 hL
  obtain ⟨hx, hb, hr, hml, hown, hts, hlk, hnm, htb, hSF, hroom, hst, -⟩ := id M
  obtain ⟨m1, m2, m3, m4, m5, m6, m7⟩ := hm
  unfold o_calls at hk
  split at hk
  · next av r ep =>
    obtain ⟨hsum, mc', ms', K1, hc1, hc2, hct, hk⟩ := hk
    obtain ⟨pre, q1, q2, q3⟩ := aPop_eq _ _ _ _ _ ep
    rw [List.append_nil] at q3
    subst q3
    have hcw : CallB R s args (mY mi).cls ix (mY mi') (mB mi') (mL mi') (mT mi') (hdW mi' :: aW) (rmOf (d - 1) mc' ms') mc' ms' n ∧ (Cond.static (mY mi')).before args s = true :=
      ⟨callB_of n hts (aW_callee m1) (by rw [hdW_code m2]) rfl rfl (hts _ m7) (hts _ hl9) ⟨m3, m4, m5⟩ (room9 hd1 ⟨hroom.1, hroom.2.1⟩ m6 rfl), hts _ hs9⟩
    refine aRun_W hR hl (vx_runS (As := av) (rest := r) ⟨hx, hb, hml, hown, hts⟩ hct hcw ⟨aPc_blind, fun U hU hW => ⟨rfl, hSF.warm hW, by rw [hU]; exact hR.moved hW.alike (by rw [hU]; exact Nat.le_refl _)⟩⟩ rfl q2 hL.1 q1 (lv_room hsum) dd ⟨by omega, by omega⟩) ?_ ?_
    · intro v h' H1 locs1 hK1 hR1 hl1
      exact n9 _ _ _ _ _ (hk _ _ hK1) p e R s m args below meth c Q M F H1 locs1 _ _ ls hR1 hl1 (by omega) (by omega) hL
    · intro E h' H1 locs1 q ce hK1 hR1 hl1 g1 g2 g3
      exact F.2.1 E h' H1 locs1 _ _ pc ls r q ce (hk _ _ hK1) hR1 hl1 (by omega) (by omega) hx0 g1 g2 g3
  · exact hk.elim
/-- a call on an object of kind ci -/
def o_callv (G : gG) (d : Nat) (mi' : MI) (ci n : Nat) (K : aR → aH → Prop) (k : aP) : aP := fun kc ks L st h => match aPop n st [] with
  | some (av, .ref b :: r) => (r.map fun v => v.category).sum ≤ 8 ∧ aKind h b (fun c => c = ci) ∧ aCt G mi' d kc ks (.ref b :: av) h (fun kc ks res h' => match res with | .inl v => k kc ks L (v.toList ++ r) h' | .inr E => K (.inr E) h')
  | _ => False
theorem aRecv_of {U : State} {h : aH} {H : Heap} {b ci : Nat} (r9 : vw_C) (hc9 : aCl[ci]? = some r9) (hSF : SF G U) (hR : RelH G U h H) (hb : aKind h b (fun c => c = ci)) : ∃ cellB : Cell, H[b]? = some cellB ∧ cellB.vm.isStatics = false ∧ U.vm.findClass r9.1 = some cellB.cls := by
  obtain ⟨c9, vs, ha, e9⟩ := hb.of
  subst e9
  have hat := (hR.2.2 b _ ha).1
  unfold acAt at hat
  have hci : c9 < 10 := by have := (List.getElem?_eq_some_iff.mp hc9).1; simp [aCl] at this; omega
  rw [if_pos hci] at hat
  obtain ⟨r8, e8, e7, cell, q1, q2, q3, q4⟩ := hat
  cases hc9.symm.trans e8
  exact ⟨cell, q1, by rw [q3]; rfl, by rw [q2]; exact (hSF.1.1 c9 _ hc9).2.1⟩
theorem s_callv {k : aP} {ix n : Nat} (ci : Nat) (r9 : vw_C) (hc9 : aCl[ci]? = some r9) (mi' : MI) (hcl : (mY mi').cls = r9.1) (hm : mOK mi' n) (hd1 : 1 ≤ d) (hx0 : mX mi = []) (hl9 : Cond.methodLink (mY mi).cls ix (mY mi') ∈ aW) (hi9 : Cond.instanceMethod (mY mi') ∈ aW) (hs9 : Cond.selects r9.1 (mY mi') (mY mi') ∈ aW) (dd : decode (mB mi) pc = .ok (.invokevirtual ix, 3)) (n9 : aSo G mi d mc ms K k (pc + 3)) : aSo G mi d mc ms K (o_callv G d mi' ci n K k) pc := by
  intro kc ks L st h hk p e R s m args below meth c Q M F H locs cells slots ls hR hl h1 h2 hL
  obtain ⟨hx, hb, hr, hml, hown, hts, hlk, hnm, htb, hSF, hroom, hst, -⟩ := id M
  obtain ⟨m1, m2, m3, m4, m5, m6, m7⟩ := hm
  unfold o_callv at hk
  split at hk
  · next av b r ep =>
    obtain ⟨hsum, hkind, mc', ms', K1, hc1, hc2, hct, hk⟩ := hk
    obtain ⟨pre, q1, q2, q3⟩ := aPop_eq _ _ _ _ _ ep
    rw [List.append_nil] at q3
    subst q3
    have hcw : CallW R s args (mY mi).cls r9.1 ix (mY mi') (mB mi') (mL mi') (mT mi') (hdW mi' :: aW) (rmOf (d - 1) mc' ms') mc' ms' n :=
      ⟨callB_of n hts (aW_callee m1) (by rw [hdW_code m2]) rfl rfl (hts _ m7) (hts _ hl9) ⟨m3, m4, m5⟩ (room9 hd1 ⟨hroom.1, hroom.2.1⟩ m6 rfl), hts _ hi9, hts _ hs9⟩
    refine aRun_W hR hl (vx_runV (As := av) (rest := r) ⟨hx, hb, hml, hown, hts⟩ hct hcw ⟨aPc_blind, aRecv_of r9 hc9 hSF hR hkind, fun U hU hW => ⟨rfl, hSF.warm hW, by rw [hU]; exact hR.moved hW.alike (by rw [hU]; exact Nat.le_refl _)⟩⟩ rfl q2 hL.1 q1 (lv_room hsum) dd ⟨by omega, by omega⟩) ?_ ?_
    · intro v h' H1 locs1 hK1 hR1 hl1
      exact n9 _ _ _ _ _ (hk _ _ hK1) p e R s m args below meth c Q M F H1 locs1 _ _ ls hR1 hl1 (by omega) (by omega) hL
    · intro E h' H1 locs1 q ce hK1 hR1 hl1 g1 g2 g3
      exact F.2.1 E h' H1 locs1 _ _ pc ls r q ce (hk _ _ hK1) hR1 hl1 (by omega) (by omega) hx0 g1 g2 g3
  · exact hk.elim
/-- what a call's contract gives the caller, where nothing is thrown -/
def aCn (G : gG) (mi' : MI) (d kc ks : Nat) (av : List Value) (h : aH) (k : Nat → Nat → Option Value → aH → Prop) : Prop :=
  ∃ (mc' ms' : Nat) (K1 : aR → aH → Prop), mc' ≤ kc ∧ ms' ≤ ks ∧ CT G mi' (d - 1) mc' ms' av h K1 ∧ (∀ E h', ¬ K1 (.inr E) h') ∧ ∀ v h', K1 (.inl v) h' → k (kc - mc') (ks - ms') v h'
theorem aCn.mk {mi' : MI} {kc ks mc' ms' : Nat} {av : List Value} {h : aH} {k : Nat → Nat → Option Value → aH → Prop} {K1 : aR → aH → Prop} (hc : CT G mi' (d - 1) mc' ms' av h K1) (h1 : mc' ≤ kc) (h2 : ms' ≤ ks) (hn : ∀ E h', ¬ K1 (.inr E) h') (hk : ∀ v h', K1 (.inl v) h' → k (kc - mc') (ks - ms') v h') : aCn G mi' d kc ks av h k := ⟨mc', ms', K1, h1, h2, hc, hn, hk⟩
def o_calln (G : gG) (d : Nat) (mi' : MI) (n : Nat) (k : aP) : aP := fun kc ks L st h => match aPop n st [] with
  | some (av, r) => (r.map fun v => v.category).sum ≤ 8 ∧ aCn G mi' d kc ks av h (fun kc ks v h' => k kc ks L (v.toList ++ r) h')
  | none => False
/-- a private static method of a nest mate -/
theorem s_callN {k : aP} {n : Nat} (ix : Nat) (host : String) (mi' : MI) (hm : mOK mi' n) (hd1 : 1 ≤ d) (hl9 : Cond.methodLinkNest (mY mi).cls ix (mY mi') host ∈ lw_tbl) (hs9 : Cond.static (mY mi') ∈ aW) (dd : decode (mB mi) pc = .ok (.invokestatic ix, 3)) (n9 : aSo G mi d mc ms K k (pc + 3)) : aSo G mi d mc ms K (o_calln G d mi' n k) pc := by
  intro kc ks L st h hk p e R s m args below meth c Q M F H locs cells slots ls hR hl h1 h2 hL
  obtain ⟨hx, hb, hr, hml, hown, hts, hlk, hnm, htb, hSF, hroom, hst, -⟩ := id M
  obtain ⟨m1, m2, m3, m4, m5, m6, m7⟩ := hm
  unfold o_calln at hk
  split at hk
  · next av r ep =>
    obtain ⟨hsum, mc', ms', K1, hc1, hc2, hct, hn, hk⟩ := hk
    obtain ⟨pre, q1, q2, q3⟩ := aPop_eq _ _ _ _ _ ep
    rw [List.append_nil] at q3
    subst q3
    refine aRun_N hR hl (va_runSN (host := host) (As := av) (rest := r) ⟨hx, hb, hml, hown, hts⟩ (hct.met hn) ⟨va_cnB n hts (aW_callee m1) (by rw [hdW_code m2]) rfl rfl (hSF.2.2.1 _ hl9 rfl) (hts _ m7) ⟨m3, m4, m5⟩ (room9 hd1 ⟨hroom.1, hroom.2.1⟩ m6 rfl), hts _ hs9, trivial⟩ ⟨aPc_blind, fun U hU hW => ⟨rfl, hSF.warm hW, by rw [hU]; exact hR.moved hW.alike (by rw [hU]; exact Nat.le_refl _)⟩⟩ rfl q2 hL.1 q1 (lv_room hsum) dd ⟨by omega, by omega⟩) ?_
    intro v h' H1 locs1 hK1 hR1 hl1
    exact n9 _ _ _ _ _ (hk _ _ hK1) p e R s m args below meth c Q M F H1 locs1 _ _ ls hR1 hl1 (by omega) (by omega) hL
  · exact hk.elim
/-- a constructor -/
def o_calli (G : gG) (d : Nat) (mi' : MI) (n : Nat) (k : aP) : aP := fun kc ks L st h => match aPop n st [] with
  | some (av, .ref b :: r) => (r.map fun v => v.category).sum ≤ 8 ∧ aCn G mi' d kc ks (.ref b :: av) h (fun kc ks v h' => k kc ks L (v.toList ++ r) h')
  | _ => False
theorem s_calli {k : aP} {ix n : Nat} (mi' : MI) (hm : mOK mi' n) (hr0 : mT mi' = none) (hi0 : (mY mi').name = "<init>") (hd1 : 1 ≤ d) (hl9 : Cond.methodLink (mY mi).cls ix (mY mi') ∈ aW) (hi9 : Cond.instanceMethod (mY mi') ∈ aW) (dd : decode (mB mi) pc = .ok (.invokespecial ix, 3)) (n9 : aSo G mi d mc ms K k (pc + 3)) : aSo G mi d mc ms K (o_calli G d mi' n k) pc := by
  intro kc ks L st h hk p e R s m args below meth c Q M F H locs cells slots ls hR hl h1 h2 hL
  obtain ⟨hx, hb, hr, hml, hown, hts, hlk, hnm, htb, hSF, hroom, hst, -⟩ := id M
  obtain ⟨m1, m2, m3, m4, m5, m6, m7⟩ := hm
  unfold o_calli at hk
  split at hk
  · next av b r ep =>
    obtain ⟨hsum, mc', ms', K1, hc1, hc2, hct, hn, hk⟩ := hk
    obtain ⟨pre, q1, q2, q3⟩ := aPop_eq _ _ _ _ _ ep
    rw [List.append_nil] at q3
    subst q3
    refine aRun_N hR hl (va_runI (As := av) (b := b) (rest := r) ⟨hx, hb, hml, hown, hts⟩ (hct.met hn) (cwI n hts (aW_callee m1) (by rw [hdW_code m2, hr0]) rfl rfl (hts _ m7) (hts _ hl9) (hts _ hi9) hi0 ⟨m3, m4, m5⟩ (room9 hd1 ⟨hroom.1, hroom.2.1⟩ m6 rfl)) ⟨aPc_blind, fun U hU hW => ⟨rfl, hSF.warm hW, by rw [hU]; exact hR.moved hW.alike (by rw [hU]; exact Nat.le_refl _)⟩⟩ rfl q2 hL.1 q1 (lv_room hsum) dd ⟨by omega, by omega⟩) ?_
    intro v h' H1 locs1 hK1 hR1 hl1
    exact n9 _ _ _ _ _ (hk _ _ hK1) p e R s m args below meth c Q M F H1 locs1 _ _ ls hR1 hl1 (by omega) (by omega) hL
  · exact hk.elim
/-- a private constructor of a nest mate -/
theorem s_calliN {k : aP} {n : Nat} (ix : Nat) (host : String) (mi' : MI) (hm : mOK mi' n) (hr0 : mT mi' = none) (hi0 : (mY mi').name = "<init>") (hd1 : 1 ≤ d) (hl9 : Cond.methodLinkNest (mY mi).cls ix (mY mi') host ∈ lw_tbl) (hi9 : Cond.instanceMethod (mY mi') ∈ aW) (dd : decode (mB mi) pc = .ok (.invokespecial ix, 3)) (n9 : aSo G mi d mc ms K k (pc + 3)) : aSo G mi d mc ms K (o_calli G d mi' n k) pc := by
  intro kc ks L st h hk p e R s m args below meth c Q M F H locs cells slots ls hR hl h1 h2 hL
  obtain ⟨hx, hb, hr, hml, hown, hts, hlk, hnm, htb, hSF, hroom, hst, -⟩ := id M
  obtain ⟨m1, m2, m3, m4, m5, m6, m7⟩ := hm
  unfold o_calli at hk
  split at hk
  · next av b r ep =>
    obtain ⟨hsum, mc', ms', K1, hc1, hc2, hct, hn, hk⟩ := hk
    obtain ⟨pre, q1, q2, q3⟩ := aPop_eq _ _ _ _ _ ep
    rw [List.append_nil] at q3
    subst q3
    refine aRun_N hR hl (va_runIN (host := host) (As := av) (b := b) (rest := r) ⟨hx, hb, hml, hown, hts⟩ (hct.met hn) ⟨va_cnB n hts (aW_callee m1) (by rw [hdW_code m2, hr0]) rfl rfl (hSF.2.2.1 _ hl9 rfl) (hts _ m7) ⟨m3, m4, m5⟩ (room9 hd1 ⟨hroom.1, hroom.2.1⟩ m6 rfl), hi0, hts _ hi9⟩ ⟨aPc_blind, fun U hU hW => ⟨rfl, hSF.warm hW, by rw [hU]; exact hR.moved hW.alike (by rw [hU]; exact Nat.le_refl _)⟩⟩ rfl q2 hL.1 q1 (lv_room hsum) dd ⟨by omega, by omega⟩) ?_
    intro v h' H1 locs1 hK1 hR1 hl1
    exact n9 _ _ _ _ _ (hk _ _ hK1) p e R s m args below meth c Q M F H1 locs1 _ _ ls hR1 hl1 (by omega) (by omega) hL
  · exact hk.elim
/-- Object's constructor -/
def o_obj (k : aP) : aP := fun kc ks L st h => match st with
  | .ref _ :: r => (r.map fun v => v.category).sum ≤ 8 ∧ k kc ks L r h
  | _ => False
theorem s_obj {k : aP} {ix : Nat} (hd1 : 1 ≤ d) (hl9 : Cond.methodLink (mY mi).cls ix objectInit ∈ aW) (hi9 : Cond.instanceMethod objectInit ∈ aW) (hc9 : Cond.code objectInit ⟨#[0xb1]⟩ 1 none ∈ aW) (dd : decode (mB mi) pc = .ok (.invokespecial ix, 3)) (n9 : aSo G mi d mc ms K k (pc + 3)) : aSo G mi d mc ms K (o_obj k) pc := by
  intro kc ks L st h hk p e R s m args below meth c Q M F H locs cells slots ls hR hl h1 h2 hL
  obtain ⟨hx, hb, hr, hml, hown, hts, hlk, hnm, htb, hSF, hroom, hst, -⟩ := id M
  unfold o_obj at hk
  split at hk
  · next a r =>
    refine W.objInit hx hb hown (hts _ hl9) (hts _ hi9) (hts _ hc9) rfl (by rw [hml]; exact hL.1) rfl dd (by omega) ?_ (n9 _ _ _ _ _ hk.2 p e R s m args below meth c Q M F H locs cells slots ls hR hl h1 h2 hL)
    show 2 * 0 + _ + 12 ≤ _
    have := hk.1
    omega
  · exact hk.elim
end Calls9
