/-! the reference's text of letters: one lemma an instruction, the blocks of charAt -/
section Str
variable {G : gG} {mi : MI} {d mc ms : Nat} {K : aR → aH → Prop} {pc : Nat}
theorem SF.str {U : State} (h : SF G U) : SFs G U := h.2.2.2.2.2.2.2.2
theorem s_ldcs {k : aP} (hcls : (mY mi).cls = "BillwrightModel") (dd : decode (mB mi) pc = .ok (.ldc 96, 2)) (n : aSo G mi d mc ms K k (pc + 2)) : aSo G mi d mc ms K (o_c (.ref (gX G)) k) pc := by
  intro kc ks L st h hk p e R s m args below meth c Q M F H locs cells slots ls hR hl h1 h2 hL
  have hSF : SF G s := M.2.2.2.2.2.2.2.2.2.1
  exact va_ldcS M.1 M.2.1 (own := "BillwrightModel") (by rw [← hcls]; exact M.2.2.2.2.1) hSF.str.1 dd (n _ _ _ _ _ hk p e R s m args below meth c Q M F H locs cells slots ls hR hl h1 h2 hL)
theorem s_scomp {k : aP} {ix : Nat} (hw : Cond.fieldLink (mY mi).cls ix "java/lang/String" "COMPACT_STRINGS" "Z" ∈ aW) (dd : decode (mB mi) pc = .ok (.getstatic ix, 3)) (n : aSo G mi d mc ms K k (pc + 3)) : aSo G mi d mc ms K (o_c (.int 1) k) pc := by
  intro kc ks L st h hk p e R s m args below meth c Q M F H locs cells slots ls hR hl h1 h2 hL
  have hSF : SF G s := M.2.2.2.2.2.2.2.2.2.1
  obtain ⟨cf, kf, fi, f, a, cell, z1, z2, z3, z4, z5, z6, z7, z8⟩ := hSF.str.2.2.1
  exact W.gets M.1 M.2.1 M.2.2.2.2.1 (M.2.2.2.2.2.1 _ hw) z1 z2 z3 z4 (by rw [hR.2.1 a (Array.getElem?_eq_some_iff.mp z5).1]; exact z5) (fun e => by rw [e] at z6; cases z6) z7 rfl dd (n _ _ _ _ _ hk p e R s m args below meth c Q M F H locs cells slots ls hR hl h1 h2 hL)
def o_sfmt (k : aP) : aP := fun kc ks L st h => k kc ks L (.null :: st) h ∧ ∀ t : Nat, k kc ks L (.ref t :: st) h
theorem s_sfmt {k : aP} {ix : Nat} (hw : Cond.fieldLink (mY mi).cls ix "jdk/internal/util/Preconditions" "SIOOBE_FORMATTER" "Ljava/util/function/BiFunction;" ∈ aW) (dd : decode (mB mi) pc = .ok (.getstatic ix, 3)) (n : aSo G mi d mc ms K k (pc + 3)) : aSo G mi d mc ms K (o_sfmt k) pc := by
  intro kc ks L st h hk p e R s m args below meth c Q M F H locs cells slots ls hR hl h1 h2 hL
  have hSF : SF G s := M.2.2.2.2.2.2.2.2.2.1
  rcases hSF.str.2.2.2 with ⟨cf, kf, fi, f, a, cell, z1, z2, z3, z4, z5, z6, z7, z8⟩ | ⟨t, cf, kf, fi, f, a, cell, z1, z2, z3, z4, z5, z6, z7, z8⟩
  · exact W.gets M.1 M.2.1 M.2.2.2.2.1 (M.2.2.2.2.2.1 _ hw) z1 z2 z3 z4 (by rw [hR.2.1 a (Array.getElem?_eq_some_iff.mp z5).1]; exact z5) (fun e => by rw [e] at z6; cases z6) z7 rfl dd (n _ _ _ _ _ hk.1 p e R s m args below meth c Q M F H locs cells slots ls hR hl h1 h2 hL)
  · exact W.gets M.1 M.2.1 M.2.2.2.2.1 (M.2.2.2.2.2.1 _ hw) z1 z2 z3 z4 (by rw [hR.2.1 a (Array.getElem?_eq_some_iff.mp z5).1]; exact z5) (fun e => by rw [e] at z6; cases z6) z7 rfl dd (n _ _ _ _ _ (hk.2 t) p e R s m args below meth c Q M F H locs cells slots ls hR hl h1 h2 hL)
def o_sget (G : gG) (v : Value) (k : aP) : aP := fun kc ks L st h => match st with
  | .ref a :: r => a = gX G ∧ k kc ks L (v :: r) h
  | _ => False
theorem s_scoder {k : aP} {ix : Nat} (hw : Cond.fieldLink (mY mi).cls ix "java/lang/String" "coder" "B" ∈ aW) (dd : decode (mB mi) pc = .ok (.getfield ix, 3)) (n : aSo G mi d mc ms K k (pc + 3)) : aSo G mi d mc ms K (o_sget G (.int 0) k) pc := by
  intro kc ks L st h hk p e R s m args below meth c Q M F H locs cells slots ls hR hl h1 h2 hL
  have hSF : SF G s := M.2.2.2.2.2.2.2.2.2.1
  unfold o_sget at hk
  split at hk
  · next a r =>
    obtain ⟨rfl, hk⟩ := hk
    obtain ⟨cf, kf, fi, f, cell, z1, z2, z3, z4, z5, z6⟩ := (hSF.str.2.1.1 0 (by decide)).2.1
    exact W.getf M.1 M.2.1 M.2.2.2.2.1 (M.2.2.2.2.2.1 _ hw) z1 z2 (by rw [hR.2.1 _ (Array.getElem?_eq_some_iff.mp z3).1]; exact z3) z4 z5 rfl rfl dd (n _ _ _ _ _ hk p e R s m args below meth c Q M F H locs cells slots ls hR hl h1 h2 hL)
  · exact hk.elim
theorem s_svalue {k : aP} {ix : Nat} (hw : Cond.fieldLink (mY mi).cls ix "java/lang/String" "value" "[B" ∈ aW) (dd : decode (mB mi) pc = .ok (.getfield ix, 3)) (n : aSo G mi d mc ms K k (pc + 3)) : aSo G mi d mc ms K (o_sget G (.ref (gB G)) k) pc := by
  intro kc ks L st h hk p e R s m args below meth c Q M F H locs cells slots ls hR hl h1 h2 hL
  have hSF : SF G s := M.2.2.2.2.2.2.2.2.2.1
  unfold o_sget at hk
  split at hk
  · next a r =>
    obtain ⟨rfl, hk⟩ := hk
    obtain ⟨cf, kf, fi, f, cell, z1, z2, z3, z4, z5, z6⟩ := (hSF.str.2.1.1 0 (by decide)).2.2.1
    exact W.getf M.1 M.2.1 M.2.2.2.2.1 (M.2.2.2.2.2.1 _ hw) z1 z2 (by rw [hR.2.1 _ (Array.getElem?_eq_some_iff.mp z3).1]; exact z3) z4 z5 rfl rfl dd (n _ _ _ _ _ hk p e R s m args below meth c Q M F H locs cells slots ls hR hl h1 h2 hL)
  · exact hk.elim
def chS (j : Nat) : Int32 := ([85, 68, 67, 70, 117, 100, 101] : List Int32).getD j 0
def o_salen (G : gG) (k : aP) : aP := fun kc ks L st h => match st with
  | .ref a :: r => a = gB G ∧ k kc ks L (.int 7 :: r) h
  | _ => False
theorem s_salen {k : aP} (dd : decode (mB mi) pc = .ok (.arraylength, 1)) (n : aSo G mi d mc ms K k (pc + 1)) : aSo G mi d mc ms K (o_salen G k) pc := by
  intro kc ks L st h hk p e R s m args below meth c Q M F H locs cells slots ls hR hl h1 h2 hL
  have hSF : SF G s := M.2.2.2.2.2.2.2.2.2.1
  unfold o_salen at hk
  split at hk
  · next a r =>
    obtain ⟨rfl, hk⟩ := hk
    obtain ⟨cell, z1, z2, z3, z4, z5, z6, z7⟩ := (hSF.str.2.1.1 0 (by decide)).2.2.2
    exact W.alen M.1 M.2.1 (by rw [hR.2.1 _ (Array.getElem?_eq_some_iff.mp z1).1]; exact z1) z2 z5 rfl rfl dd (n _ _ _ _ _ hk p e R s m args below meth c Q M F H locs cells slots ls hR hl h1 h2 hL)
  · exact hk.elim
def o_sbald (G : gG) (k : aP) : aP := fun kc ks L st h => match st with
  | .int i :: .ref a :: r => a = gB G ∧ ¬ i < 0 ∧ i.toNatClampNeg < 7 ∧ k kc ks L (.int (chS i.toNatClampNeg) :: r) h
  | _ => False
theorem s_sbald {k : aP} (dd : decode (mB mi) pc = .ok (.baload, 1)) (n : aSo G mi d mc ms K k (pc + 1)) : aSo G mi d mc ms K (o_sbald G k) pc := by
  intro kc ks L st h hk p e R s m args below meth c Q M F H locs cells slots ls hR hl h1 h2 hL
  have hSF : SF G s := M.2.2.2.2.2.2.2.2.2.1
  unfold o_sbald at hk
  split at hk
  · next i a r =>
    obtain ⟨rfl, g1, g2, hk⟩ := hk
    obtain ⟨cell, z1, z2, z3, z4, z5, z6, z7⟩ := (hSF.str.2.1.1 0 (by decide)).2.2.2
    have z4' : 7 ≤ cell.slots.size := z4
    exact W.bald M.1 M.2.1 (by rw [hR.2.1 _ (Array.getElem?_eq_some_iff.mp z1).1]; exact z1) z2 z3 (fun z => z.elim g1 (fun z => by omega)) (z6 _ g2) rfl rfl dd (n _ _ _ _ _ hk p e R s m args below meth c Q M F H locs cells slots ls hR hl h1 h2 hL)
  · exact hk.elim
def o_i2c (k : aP) : aP := fun kc ks L st h => match st with
  | .int x :: r => k kc ks L (.int ((x.toUInt32 % 65536).toInt32) :: r) h
  | _ => False
theorem s_i2c {k : aP} (dd : decode (mB mi) pc = .ok (.i2c, 1)) (n : aSo G mi d mc ms K k (pc + 1)) : aSo G mi d mc ms K (o_i2c k) pc := by
  intro kc ks L st h hk p e R s m args below meth c Q M F H locs cells slots ls hR hl h1 h2 hL
  unfold o_i2c at hk
  split at hk
  · exact lv_i2c M.1 M.2.1 dd rfl (n _ _ _ _ _ hk p e R s m args below meth c Q M F H locs cells slots ls hR hl h1 h2 hL)
  · exact hk.elim
def o_callS (G : gG) (d : Nat) (mi' : MI) (n : Nat) (K : aR → aH → Prop) (k : aP) : aP := fun kc ks L st h => match aPop n st [] with
  | some (av, .ref b :: r) => (r.map fun v => v.category).sum ≤ 8 ∧ b = gX G ∧ aCt G mi' d kc ks (.ref b :: av) h (fun kc ks res h' => match res with | .inl v => k kc ks L (v.toList ++ r) h' | .inr E => K (.inr E) h')
  | _ => False
theorem s_callS {k : aP} {ix n : Nat} (mi' : MI) (hcl : (mY mi').cls = "java/lang/String") (hm : mOK mi' n) (hd1 : 1 ≤ d) (hx0 : mX mi = []) (hl9 : Cond.methodLink (mY mi).cls ix (mY mi') ∈ aW) (hi9 : Cond.instanceMethod (mY mi') ∈ aW) (hs9 : Cond.selects "java/lang/String" (mY mi') (mY mi') ∈ aW) (dd : decode (mB mi) pc = .ok (.invokevirtual ix, 3)) (n9 : aSo G mi d mc ms K k (pc + 3)) : aSo G mi d mc ms K (o_callS G d mi' n K k) pc := by
  intro kc ks L st h hk p e R s m args below meth c Q M F H locs cells slots ls hR hl h1 h2 hL
  obtain ⟨hx, hb, hr, hml, hown, hts, hlk, hnm, htb, hSF, hroom, hst, -⟩ := id M
  obtain ⟨m1, m2, m3, m4, m5, m6, m7⟩ := hm
  unfold o_callS at hk
  split at hk
  · next av b r ep =>
    obtain ⟨hsum, rfl, mc', ms', K1, hc1, hc2, hct, hk⟩ := hk
    obtain ⟨pre, q1, q2, q3⟩ := aPop_eq _ _ _ _ _ ep
    rw [List.append_nil] at q3
    subst q3
    have hcw : CallW R s args (mY mi).cls "java/lang/String" ix (mY mi') (mB mi') (mL mi') (mT mi') (hdW mi' :: aW) (rmOf (d - 1) mc' ms') mc' ms' n :=
      ⟨callB_of n hts (aW_callee m1) (by rw [hdW_code m2]) rfl rfl (hts _ m7) (hts _ hl9) ⟨m3, m4, m5⟩ (room9 hd1 ⟨hroom.1, hroom.2.1⟩ m6 rfl), hts _ hi9, hts _ hs9⟩
    have hrec : ∃ cellB : Cell, H[gX G]? = some cellB ∧ cellB.vm.isStatics = false ∧ s.vm.findClass "java/lang/String" = some cellB.cls := by
      obtain ⟨cell, z1, z2, z3, -⟩ := (hSF.str.2.1.1 0 (by decide)).1
      exact ⟨cell, by rw [hR.2.1 _ (Array.getElem?_eq_some_iff.mp z1).1]; exact z1, z2, z3⟩
    refine aRun_W hR hl (vx_runV (As := av) (rest := r) ⟨hx, hb, hml, hown, hts⟩ hct hcw ⟨aPc_blind, hrec, fun U hU hW => ⟨rfl, hSF.warm hW, by rw [hU]; exact hR.moved hW.alike (by rw [hU]; exact Nat.le_refl _)⟩⟩ rfl q2 hL.1 q1 (lv_room hsum) dd ⟨by omega, by omega⟩) ?_ ?_
    · intro v h' H1 locs1 hK1 hR1 hl1
      exact n9 _ _ _ _ _ (hk _ _ hK1) p e R s m args below meth c Q M F H1 locs1 _ _ ls hR1 hl1 (by omega) (by omega) hL
    · intro E h' H1 locs1 q ce hK1 hR1 hl1 g1 g2 g3
      exact F.2.1 E h' H1 locs1 _ _ pc ls r q ce (hk _ _ hK1) hR1 hl1 (by omega) (by omega) hx0 g1 g2 g3
  · exact hk.elim
end Str
abbrev iJ0_charAt_5068e : MI := (yJ0_charAt_5068e, cJ0_charAt_5068e, 2, (some .char), [])
theorem ok_J0_charAt_5068e : mOK iJ0_charAt_5068e 1 := ⟨aw_of (lw_t5_ 203 rfl) rfl, rfl, by decide +kernel, by decide +kernel, by decide +kernel, by decide, (aw_of (lw_t1_ 12 rfl) rfl)⟩
abbrev iJ0_isLatin1_aae02 : MI := (yJ0_isLatin1_aae02, cJ0_isLatin1_aae02, 1, (some .boolean), [])
theorem ok_J0_isLatin1_aae02 : mOK iJ0_isLatin1_aae02 0 := ⟨aw_of (lw_t5_ 207 rfl) rfl, rfl, by decide +kernel, by decide +kernel, by decide +kernel, by decide, (aw_of (lw_t1_ 12 rfl) rfl)⟩
abbrev iJ1_charAt_3b067 : MI := (yJ1_charAt_3b067, cJ1_charAt_3b067, 2, (some .char), [])
theorem ok_J1_charAt_3b067 : mOK iJ1_charAt_3b067 2 := ⟨aw_of (lw_t5_ 210 rfl) rfl, rfl, by decide +kernel, by decide +kernel, by decide +kernel, by decide, (aw_of (lw_t1_ 18 rfl) rfl)⟩
abbrev iJ0_checkIndex_df160 : MI := (yJ0_checkIndex_df160, cJ0_checkIndex_df160, 2, none, [])
theorem ok_J0_checkIndex_df160 : mOK iJ0_checkIndex_df160 2 := ⟨aw_of (lw_t5_ 213 rfl) rfl, rfl, by decide +kernel, by decide +kernel, by decide +kernel, by decide, (aw_of (lw_t1_ 12 rfl) rfl)⟩
theorem bJ0_charAt_5068e_0 {G : gG} {d mc ms : Nat} {K : aR → aH → Prop} (hd : 12 ≤ d) : aSo G iJ0_charAt_5068e d mc ms K (o_aload 0 (o_callS G d iJ0_isLatin1_aae02 0 K (o_at G iJ0_charAt_5068e d mc ms K 4))) 0 := (s_aload_n 0 rfl (by decide +kernel) (s_callS iJ0_isLatin1_aae02 rfl ok_J0_isLatin1_aae02 (by omega) rfl (aw_of (lw_t5_ 204 rfl) rfl) (aw_of (lw_t5_ 205 rfl) rfl) (aw_of (lw_t5_ 206 rfl) rfl) (by decide +kernel) s_at))
theorem bJ0_charAt_5068e_4 {G : gG} {d mc ms : Nat} {K : aR → aH → Prop} (hd : 12 ≤ d) : aSo G iJ0_charAt_5068e d mc ms K (o_ifeq (o_at G iJ0_charAt_5068e d mc ms K 16) (o_aload 0 (o_sget G (.ref (gB G)) (o_iload 1 (o_calls G d iJ1_charAt_3b067 2 K (o_at G iJ0_charAt_5068e d mc ms K 15)))))) 4 := (s_ifeq (12) 16 (by decide +kernel) (by decide) s_at (s_aload_n 0 rfl (by decide +kernel) (s_svalue (aw_of (lw_t3_ 125 rfl) rfl) (by decide +kernel) (s_iload_n 1 rfl (by decide +kernel) (s_calls iJ1_charAt_3b067 ok_J1_charAt_3b067 (by omega) rfl (aw_of (lw_t5_ 208 rfl) rfl) (aw_of (lw_t5_ 209 rfl) rfl) (by decide +kernel) s_at)))))
theorem bJ0_charAt_5068e_15 {G : gG} {d mc ms : Nat} {K : aR → aH → Prop} (hd : 12 ≤ d) : aSo G iJ0_charAt_5068e d mc ms K (o_cret K) 15 := (s_cret (by decide +kernel) rfl)
theorem bJ0_isLatin1_aae02_0 {G : gG} {d mc ms : Nat} {K : aR → aH → Prop} (hd : 12 ≤ d) : aSo G iJ0_isLatin1_aae02 d mc ms K (o_c (.int 1) (o_ifeq (o_at G iJ0_isLatin1_aae02 d mc ms K 17) (o_aload 0 (o_sget G (.int 0) (o_ifne (o_at G iJ0_isLatin1_aae02 d mc ms K 17) (o_c (.int (1)) (o_at G iJ0_isLatin1_aae02 d mc ms K 18))))))) 0 := (s_scomp (aw_of (lw_t3_ 8 rfl) rfl) (by decide +kernel) (s_ifeq (14) 17 (by decide +kernel) (by decide) s_at (s_aload_n 0 rfl (by decide +kernel) (s_scoder (aw_of (lw_t3_ 126 rfl) rfl) (by decide +kernel) (s_ifne (7) 17 (by decide +kernel) (by decide) s_at (s_iconst (1) (by decide +kernel) (by decide) (s_goto (4) 18 (by decide +kernel) (by decide) s_at)))))))
theorem bJ0_isLatin1_aae02_17 {G : gG} {d mc ms : Nat} {K : aR → aH → Prop} (hd : 12 ≤ d) : aSo G iJ0_isLatin1_aae02 d mc ms K (o_c (.int (0)) (o_at G iJ0_isLatin1_aae02 d mc ms K 18)) 17 := (s_iconst (0) (by decide +kernel) (by decide) s_at)
theorem bJ0_isLatin1_aae02_18 {G : gG} {d mc ms : Nat} {K : aR → aH → Prop} (hd : 12 ≤ d) : aSo G iJ0_isLatin1_aae02 d mc ms K (o_zret K) 18 := (s_zret (by decide +kernel) rfl)
theorem bJ1_charAt_3b067_0 {G : gG} {d mc ms : Nat} {K : aR → aH → Prop} (hd : 12 ≤ d) : aSo G iJ1_charAt_3b067 d mc ms K (o_iload 1 (o_aload 0 (o_salen G (o_calls G d iJ0_checkIndex_df160 2 K (o_at G iJ1_charAt_3b067 d mc ms K 6))))) 0 := (s_iload_n 1 rfl (by decide +kernel) (s_aload_n 0 rfl (by decide +kernel) (s_salen (by decide +kernel) (s_calls iJ0_checkIndex_df160 ok_J0_checkIndex_df160 (by omega) rfl (aw_of (lw_t5_ 211 rfl) rfl) (aw_of (lw_t5_ 212 rfl) rfl) (by decide +kernel) s_at))))
theorem bJ1_charAt_3b067_6 {G : gG} {d mc ms : Nat} {K : aR → aH → Prop} (hd : 12 ≤ d) : aSo G iJ1_charAt_3b067 d mc ms K (o_aload 0 (o_iload 1 (o_sbald G (o_c (.int (255)) (o_iand (o_i2c (o_cret K))))))) 6 := (s_aload_n 0 rfl (by decide +kernel) (s_iload_n 1 rfl (by decide +kernel) (s_sbald (by decide +kernel) (s_sipush (255) (by decide +kernel) (by decide) (s_iand (by decide +kernel) (s_i2c (by decide +kernel) (s_cret (by decide +kernel) rfl)))))))
theorem bJ0_checkIndex_df160_0 {G : gG} {d mc ms : Nat} {K : aR → aH → Prop} (hd : 12 ≤ d) : aSo G iJ0_checkIndex_df160 d mc ms K (o_iload 0 (o_iload 1 (o_sfmt (o_calls G d iJ3_checkIndex_8e157 3 K (o_at G iJ0_checkIndex_df160 d mc ms K 8))))) 0 := (s_iload_n 0 rfl (by decide +kernel) (s_iload_n 1 rfl (by decide +kernel) (s_sfmt (aw_of (lw_t2_ 226 rfl) rfl) (by decide +kernel) (s_calls iJ3_checkIndex_8e157 ok_J3_checkIndex_8e157 (by omega) rfl (aw_of (lw_t5_ 214 rfl) rfl) wd_151 (by decide +kernel) s_at))))
theorem bJ0_checkIndex_df160_8 {G : gG} {d mc ms : Nat} {K : aR → aH → Prop} (hd : 12 ≤ d) : aSo G iJ0_checkIndex_df160 d mc ms K (o_pop (o_vret K)) 8 := (s_pop (by decide +kernel) (s_vret (by decide +kernel) rfl))
theorem bX3_way_10 {G : gG} {d mc ms : Nat} {K : aR → aH → Prop} (hd : 12 ≤ d) : aSo G iX3_way d mc ms K (o_ifeq (o_at G iX3_way d mc ms K 27) (o_c (.ref (gX G)) (o_aload 0 (o_get 3 1 (o_iload 1 (o_ald [10, 20] (o_callS G d iJ0_charAt_5068e 1 K (o_at G iX3_way d mc ms K 24)))))))) 10 := (s_ifeq (17) 27 (by decide +kernel) (by decide) s_at (s_ldcs rfl (by decide +kernel) (s_aload_n 0 rfl (by decide +kernel) (s_get 3 1 _ rfl (by decide) wd_1121 (Or.inl rfl) (by decide +kernel) (s_iload_n 1 rfl (by decide +kernel) (s_ald (Or.inl ⟨rfl, by decide⟩) (by decide +kernel) (s_callS iJ0_charAt_5068e rfl ok_J0_charAt_5068e (by omega) rfl (aw_of (lw_t5_ 200 rfl) rfl) (aw_of (lw_t5_ 201 rfl) rfl) (aw_of (lw_t5_ 202 rfl) rfl) (by decide +kernel) s_at)))))))
theorem bX3_way_24 {G : gG} {d mc ms : Nat} {K : aR → aH → Prop} (hd : 12 ≤ d) : aSo G iX3_way d mc ms K (o_at G iX3_way d mc ms K 29) 24 := (s_goto (5) 29 (by decide +kernel) (by decide) s_at)
