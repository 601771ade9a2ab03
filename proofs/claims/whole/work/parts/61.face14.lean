/-! rate -/
section Face14
variable {G : gG} {d : Nat}
/-- a line of the list replaced by one not in it -/
theorem Bv.repl {h : aH} {b a e q : Nat} {ys : List Nat} {pl wy cl : Nat} {ls : Nat → sL} {l : sL} {m : Int32} {i : Nat} (hB : Bv G h b a e ys pl wy cl ls) (hq : h q = some (2, lnV l)) (hqy : q ∉ ys) (ho : l.ok) (hi : i < ys.length) (hne : e ≠ gE G) : Bv G (alUp G h a m e (ys.set i q)) b a e (ys.set i q) pl wy cl (fun p => if p = i then l else ls p) := by
  obtain ⟨hb, hal, hl, hnd, hpl, hwy, hcl, hok⟩ := id hB
  have hn := hal.1
  have hlen : (ys.set i q).length = ys.length := List.length_set
  refine hB.list (Or.inl rfl) (Or.inl hne) (by omega) (nd_of fun p hp r hr hpr z => ?_) (fun p hp => ?_) (fun p hp => ?_)
  · rw [List.getElem_set, List.getElem_set] at z
    by_cases c1 : i = p
    · rw [if_pos c1, if_neg (by omega)] at z
      exact hqy (z ▸ List.getElem_mem _)
    · rw [if_neg c1] at z
      by_cases c2 : i = r
      · rw [if_pos c2] at z
        exact hqy (z ▸ List.getElem_mem _)
      · rw [if_neg c2] at z
        have := (List.getElem_inj hnd).mp z
        omega
  · rw [List.getElem_set]
    by_cases c1 : p = i
    · rw [if_pos c1.symm, if_pos c1]; exact hq
    · rw [if_neg (Ne.symm c1), if_neg c1]; exact hl p (by omega)
  · split
    · exact ho
    · exact hok p (by omega)
end Face14
