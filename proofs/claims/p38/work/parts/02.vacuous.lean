/-! ===== the owed statement as printed follows from that emptiness alone: this row shows the statement's fault; it says nothing of the class, and is not handed in as a proof of the property ===== -/
theorem i_vc : Claimed_1_1 ∧ Claimed_1_2 := ⟨fun l _ hL _ => absurd hL (pe_none l), fun l _ hL _ => absurd hL (pe_none l)⟩
