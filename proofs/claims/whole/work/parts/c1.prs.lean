/-! pairs of calls without a search -/
section PRA
variable {v : z_V}
theorem P_lay {a b : Int32} (h : Inv v) : PR 100 m_X10_lay m_X11_lay [vI a, vI b] v := by
  obtain ⟨⟨q, hC, hR⟩, hA⟩ := h
  exact PR.g hR hA (C_lay (d := 98) hC) (fun u hu => R_lay (d := 97) hu)
theorem P_plate {a b : Int32} (h : Inv v) : PR 100 m_X10_plate m_X11_plate [vI a, vI b] v := by
  obtain ⟨⟨q, hC, hR⟩, hA⟩ := h
  exact PR.g hR hA (C_plate (d := 93) hC) (fun u hu => R_plate (d := 92) hu)
theorem P_turn {a : Int32} (h : Inv v) : PR 100 m_X10_turn m_X11_turn [vI a] v := by
  obtain ⟨⟨q, hC, hR⟩, hA⟩ := h
  exact PR.g hR hA (C_turn (d := 95) hC) (fun u hu => R_turn (d := 96) hu)
theorem P_grant {a : Int32} (h : Inv v) : PR 100 m_X10_grant m_X11_grant [vI a] v := by
  obtain ⟨⟨q, hC, hR⟩, hA⟩ := h
  exact PR.g hR hA (C_grant (d := 95) hC) (fun u hu => R_grant (d := 96) hu)
theorem P_undo (h : Inv v) : PR 100 m_X10_undo m_X11_undo [] v := by
  obtain ⟨⟨q, hC, hR⟩, hA⟩ := h
  exact PR.g hR hA (C_undo (d := 97) hC) (fun u hu => R_undo (d := 99) hu)
theorem P_day {a : Int32} (h : Inv v) : PR 100 m_X10_day m_X11_day [vI a] v := by
  obtain ⟨⟨q, hC, hR⟩, hA⟩ := h
  exact PR.g hR hA (C_day (d := 93) hC) (fun u hu => R_day (d := 91) hu)
theorem P_played {a : Int32} (h : Inv v) : PR 100 m_X10_played m_X11_played [vI a] v := by
  obtain ⟨⟨q, hC, hR⟩, hA⟩ := h
  exact PR.g hR hA (C_played (d := 92) hC) (fun u hu => R_played (d := 90) hu)
theorem P_years {a b : Int32} (h : Inv v) : PR 100 m_X10_years m_X11_years [vI a, vI b] v := by
  obtain ⟨⟨q, hC, hR⟩, hA⟩ := h
  exact PR.g hR hA (C_years (d := 92) hC) (fun u hu => R_years (d := 91) hu)
theorem P_image (h : Inv v) : PR 100 m_X10_image m_X11_image [] v := by
  obtain ⟨⟨q, hC, hR⟩, hA⟩ := h
  exact PR.g hR hA (C_image (d := 97) hC) (fun u hu => R_image (d := 98) hu)
theorem P_back (h : Inv v) : PR 100 m_X10_back m_X11_back [] v := by
  obtain ⟨⟨q, hC, hR⟩, hA⟩ := h
  exact PR.g hR hA (C_back (d := 97) hC) (fun u hu => R_back (d := 98) hu)
theorem P_by {a : Int32} (h : Inv v) : PR 100 m_X10_by m_X11_by [vI a] v := by
  obtain ⟨⟨q, hC, hR⟩, hA⟩ := h
  exact PR.g hR hA (C_by (d := 98) hC) (fun u hu => R_by (d := 98) hu)
theorem P_feed {a b c e g : Int32} (h : Inv v) : PR 100 m_X10_feed m_X11_feed [vI a, vI b, vI c, vI e, vI g] v := by
  obtain ⟨⟨q, hC, hR⟩, hA⟩ := h
  exact PR.g hR hA (C_feed (d := 98) hC) (fun u hu => R_feed (d := 98) hu)
theorem P_end {a : Int32} (h : Inv v) : PR 100 m_X10_end m_X11_end [vI a] v := by
  obtain ⟨⟨q, hC, hR⟩, hA⟩ := h
  exact PR.g hR hA (C_end (d := 99) hC) (fun u hu => R_end (d := 98) hu)
theorem P_fault {a : Int32} (h : Inv v) : PR 100 m_X10_fault m_X11_fault [vI a] v := by
  obtain ⟨⟨q, hC, hR⟩, hA⟩ := h
  exact PR.g hR hA (C_fault (d := 99) hC) (fun u hu => R_fault (d := 99) hu)
theorem P_said {a b : Int32} (h : Inv v) : PR 100 m_X10_said m_X11_said [vI a, vI b] v := by
  obtain ⟨⟨q, hC, hR⟩, hA⟩ := h
  exact PR.g hR hA (C_said (d := 98) hC) (fun u hu => R_said (d := 97) hu)
theorem P_about {a : Int32} (h : Inv v) : PR 100 m_X10_about m_X11_about [vI a] v := by
  obtain ⟨⟨q, hC, hR⟩, hA⟩ := h
  exact PR.g hR hA (C_about (d := 99) hC) (fun u hu => R_about (d := 98) hu)
theorem P_is {a : Int32} (h : Inv v) : PR 100 m_X10_is m_X11_is [vI a] v := by
  obtain ⟨⟨q, hC, hR⟩, hA⟩ := h
  exact PR.g hR hA (C_is (d := 97) hC) (fun u hu => R_is (d := 97) hu)
theorem P_book {a b : Int32} (h : Inv v) : PR 100 m_X10_book m_X11_book [vI a, vI b] v := by
  obtain ⟨⟨q, hC, hR⟩, hA⟩ := h
  exact PR.g hR hA (C_book (d := 98) hC) (fun u hu => R_book (d := 98) hu)
theorem P_ledger {a : Int32} (h : Inv v) : PR 100 m_X10_ledger m_X11_ledger [vI a] v := by
  obtain ⟨⟨q, hC, hR⟩, hA⟩ := h
  exact PR.g hR hA (C_ledger (d := 98) hC) (fun u hu => R_ledger (d := 98) hu)
theorem P_highest (h : Inv v) : PR 100 m_X10_highest m_X11_highest [] v := by
  obtain ⟨⟨q, hC, hR⟩, hA⟩ := h
  exact PR.g hR hA (C_highest (d := 99) hC) (fun u hu => R_highest (d := 99) hu)
theorem P_of {a b : Int32} (h : Inv v) : PR 100 m_X10_of m_X11_of [vI a, vI b] v := by
  obtain ⟨⟨q, hC, hR⟩, hA⟩ := h
  exact PR.g hR hA (C_of (d := 93) hC) (fun u hu => R_of (d := 93) hu)
theorem P_ofHalt {a b : Int32} (h : Inv v) : PR 100 m_X10_ofHalt m_X11_ofHalt [vI a, vI b] v := by
  obtain ⟨⟨q, hC, hR⟩, hA⟩ := h
  exact PR.g hR hA (C_ofHalt (d := 98) hC) (fun u hu => R_ofHalt (d := 96) hu)
theorem P_costs {a b : Int32} (h : Inv v) : PR 100 m_X10_costs m_X11_costs [vI a, vI b] v := by
  obtain ⟨⟨q, hC, hR⟩, hA⟩ := h
  exact PR.g hR hA (C_costs (d := 93) hC) (fun u hu => R_costs (d := 93) hu)
theorem P_dearest (h : Inv v) : PR 100 m_X10_dearest m_X11_dearest [] v := by
  obtain ⟨⟨q, hC, hR⟩, hA⟩ := h
  exact PR.g hR hA (C_dearest (d := 98) hC) (fun u hu => R_dearest (d := 97) hu)
theorem P_twin {a : Int32} (h : Inv v) : PR 100 m_X10_twin m_X11_twin [vI a] v := by
  obtain ⟨⟨q, hC, hR⟩, hA⟩ := h
  exact PR.g hR hA (C_twin (d := 97) hC) (fun u hu => R_twin (d := 96) hu)
theorem P_fair (h : Inv v) : PR 100 m_X10_fair m_X11_fair [] v := by
  obtain ⟨⟨q, hC, hR⟩, hA⟩ := h
  exact PR.g hR hA (C_fair (d := 97) hC) (fun u hu => R_fair (d := 95) hu)
theorem P_left (h : Inv v) : PR 100 m_X10_left m_X11_left [] v := by
  obtain ⟨⟨q, hC, hR⟩, hA⟩ := h
  exact PR.g hR hA (C_left (d := 98) hC) (fun u hu => R_left (d := 97) hu)
theorem P_whose (h : Inv v) : PR 100 m_X10_whose m_X11_whose [] v := by
  obtain ⟨⟨q, hC, hR⟩, hA⟩ := h
  exact PR.g hR hA (C_whose (d := 93) hC) (fun u hu => R_whose (d := 93) hu)
theorem P_foretold {a : Int32} (h : Inv v) : PR 100 m_X10_foretold m_X11_foretold [vI a] v := by
  obtain ⟨⟨q, hC, hR⟩, hA⟩ := h
  exact PR.g hR hA (C_foretold (d := 93) hC) (fun u hu => R_foretold (d := 92) hu)
end PRA
