/-! a line put in -/
section Face12
variable {G : gG} {d : Nat}
abbrev inL (ls : Nat → sL) (i : Nat) (l : sL) : Nat → sL := fun p => if p < i then ls p else if p = i then l else ls (p - 1)
theorem ins_get {ys : List Nat} {i p q : Nat} (hi : i ≤ ys.length) : (ys.insertIdx i q)[p]? = if p < i then ys[p]? else if p = i then some q else ys[p - 1]? := by
  by_cases c1 : p < i
  · rw [if_pos c1, List.getElem?_insertIdx_of_lt c1]
  · rw [if_neg c1]
    by_cases c2 : p = i
    · subst c2
      rw [if_pos rfl, List.getElem?_insertIdx_self, if_pos (by omega)]
    · rw [if_neg c2, List.getElem?_insertIdx_of_gt (by omega)]
theorem ins_nd {ys : List Nat} {i q : Nat} (hi : i ≤ ys.length) (hnd : ys.Nodup) (hq : q ∉ ys) : (ys.insertIdx i q).Nodup := by
  have hlen : (ys.insertIdx i q).length = ys.length + 1 := List.length_insertIdx_of_le_length hi q
  refine nd_of fun p hp r hr hpr z => ?_
  have h1 := ins_get (p := p) (q := q) hi
  have h2 := ins_get (p := r) (q := q) hi
  rw [ex_get hp] at h1
  rw [ex_get hr] at h2
  rw [z, h2] at h1
  have mem : ∀ k, k < ys.length → ys[k]? ≠ some q := by
    intro k hk w
    rw [ex_get hk] at w
    exact hq (Option.some.inj w ▸ List.getElem_mem hk)
  have inj : ∀ k m, k < ys.length → m < ys.length → ys[k]? = ys[m]? → k = m := by
    intro k m hk hm w
    rw [ex_get hk, ex_get hm] at w
    exact (List.getElem_inj hnd).mp (Option.some.inj w)
  by_cases c1 : p < i
  · rw [if_pos c1] at h1
    by_cases c2 : r < i
    · rw [if_pos c2] at h1
      have := inj _ _ (by omega) (by omega) h1; omega
    · rw [if_neg c2] at h1
      by_cases c3 : r = i
      · rw [if_pos c3] at h1
        exact mem p (by omega) h1.symm
      · rw [if_neg c3] at h1
        have := inj _ _ (by omega) (by omega) h1; omega
  · rw [if_neg c1, if_neg (by omega : ¬ r < i)] at h1
    rw [if_neg (by omega : ¬ r = i)] at h1
    by_cases c3 : p = i
    · rw [if_pos c3] at h1
      exact mem (r - 1) (by omega) h1
    · rw [if_neg c3] at h1
      have := inj _ _ (by omega) (by omega) h1; omega
/-- a line not yet in the list is put in -/
theorem Bv.ins {h : aH} {b a e e2 q : Nat} {ys : List Nat} {pl wy cl : Nat} {ls : Nat → sL} {l : sL} {m : Int32} {i : Nat} (hB : Bv G h b a e ys pl wy cl ls) (hq : h q = some (2, lnV l)) (hqy : q ∉ ys) (ho : l.ok) (hi : i ≤ ys.length) (hn : ys.length < 9) (hne : e2 ≠ gE G) (he : e2 = e ∨ h e2 = none) : Bv G (alUp G h a m e2 (ys.insertIdx i q)) b a e2 (ys.insertIdx i q) pl wy cl (inL ls i l) := by
  obtain ⟨hb, hal, hl, hnd, hpl, hwy, hcl, hok⟩ := id hB
  have hlen : (ys.insertIdx i q).length = ys.length + 1 := List.length_insertIdx_of_le_length hi q
  refine hB.list (he.imp id fun z => ⟨z, hne⟩) (Or.inl hne) (by omega) (ins_nd hi hnd hqy) (fun p hp => ?_) (fun p hp => ?_)
  · have h1 := ins_get (p := p) (q := q) hi
    rw [ex_get hp] at h1
    unfold inL
    by_cases c1 : p < i
    · rw [if_pos c1, ex_get (by omega)] at h1
      rw [Option.some.inj h1, if_pos c1]
      exact hl p (by omega)
    · rw [if_neg c1] at h1
      by_cases c2 : p = i
      · rw [if_pos c2] at h1
        rw [Option.some.inj h1, if_neg c1, if_pos c2]
        exact hq
      · rw [if_neg c2, ex_get (by omega)] at h1
        rw [Option.some.inj h1, if_neg c1, if_neg c2]
        exact hl (p - 1) (by omega)
  · unfold inL
    split
    · exact hok _ (by omega)
    · split
      · exact ho
      · exact hok _ (by omega)
end Face12
