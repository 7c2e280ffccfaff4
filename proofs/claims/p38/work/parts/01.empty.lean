/-! ===== p38's statement as printed is empty: no launch meets its premise =====
The law's own method 'law' has an exception table (three rows, its catch of IllegalStateException), and its class file, which the Statement itself holds, says so.
The Statement's head names the code of that method with the word for a method that has NO exception table. So what it asks of a launch (that it be sound and that its file of the law say what the head says) holds of none. -/
theorem pe_file : classFile.hasCode x code maxLocals ret = false := by decide +kernel
theorem pe_table : classFile.hasCodeWith x code maxLocals ret [(726, 786, 848, 166), (787, 817, 848, 166), (818, 844, 848, 166)] = true := by decide +kernel
theorem pe_pinned : ¬ PinnedClaimed := fun h => by
  have h2 : classFile.hasCode x code maxLocals ret = true := h
  rw [pe_file] at h2
  exact absurd h2 (by decide)
theorem pe_none (l : Launch) : ¬ Jvm.D.Lists l classFile x code maxLocals ret tables_1 room_1 := by
  rintro ⟨-, hf, hF, -⟩
  have h := hF.1 (x, code, maxLocals, ret) (List.mem_append_left _ (by
    show (x, code, maxLocals, ret) ∈ [(x, code, maxLocals, ret)] ++ _
    exact List.mem_append_left _ (List.mem_singleton.mpr rfl)))
  have h2 : ((l.file? x.cls).any fun f => f.hasCode x code maxLocals ret) = true := h
  rw [hf, Option.any_some, pe_file] at h2
  exact absurd h2 (by decide)
theorem pe_lists : ¬ ListsClaimed_1 := pe_none launch0
