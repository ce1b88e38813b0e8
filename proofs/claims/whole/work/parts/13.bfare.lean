set_option maxRecDepth 100000 in
set_option maxHeartbeats 2000000 in
theorem B_X10_lay_0 {d : Nat} {Q : z_RT} {v : z_V} {a1 : Int32} {a2 : Int32}
    (h : z_C d m_X9_addLine [vR 9 0, vI a1, vI a2] v (fun w1 o2 => ∃ i3 : Int32, o2 = some (vI i3) ∧ Q w1 (some (vI i3)))) :
    z_Wp (z_C d) 1 k_X10_lay Q 0 [some (vR 10 0), some (vI a1), some (vI a2)] [] v := z_run [] 400 h
set_option maxRecDepth 100000 in
set_option maxHeartbeats 2000000 in
theorem B_X10_feed_0 {d : Nat} {Q : z_RT} {v : z_V} {a1 : Int32} {a2 : Int32} {a3 : Int32} {a4 : Int32} {a5 : Int32}
    (h : ((((gI v 3 0 1) + 20) ≤ 300 → z_C d m_X3_take [vR 3 0, vI a1] v (fun w1 o2 => o2 = none ∧ z_C d m_X3_take [vR 3 0, vI a2] w1 (fun w3 o4 => o4 = none ∧ z_C d m_X3_take [vR 3 0, vI a3] w3 (fun w5 o6 => o6 = none ∧ z_C d m_X3_take [vR 3 0, vI a4] w5 (fun w7 o8 => o8 = none ∧ z_C d m_X3_take [vR 3 0, vI a5] w7 (fun w9 o10 => o10 = none ∧ Q w9 (some (vI (gI w9 3 0 1))))))))) ∧ (¬ ((gI v 3 0 1) + 20) ≤ 300 → Q v (some (vI (-1)))))) :
    z_Wp (z_C d) 1 k_X10_feed Q 0 [some (vR 10 0), some (vI a1), some (vI a2), some (vI a3), some (vI a4), some (vI a5)] [] v := z_run [] 400 h
set_option maxRecDepth 100000 in
set_option maxHeartbeats 2000000 in
theorem B_X10_end_0 {d : Nat} {Q : z_RT} {v : z_V} {a1 : Int32}
    (h : ((a1 < 0 → Q v (some (vI (-1)))) ∧ (¬ a1 < 0 → ((a1 ≤ (gI v 3 0 1) → Q (pI v 3 0 1 a1) (some (vI a1))) ∧ (¬ a1 ≤ (gI v 3 0 1) → Q v (some (vI (-1)))))))) :
    z_Wp (z_C d) 1 k_X10_end Q 0 [some (vR 10 0), some (vI a1)] [] v := z_run [] 400 h
set_option maxRecDepth 100000 in
set_option maxHeartbeats 2000000 in
theorem B_X10_text_0 {d : Nat} {Q : z_RT} {v : z_V}
    (h : (((gI v 9 0 9) < 4 → z_if (z_in (gI v 9 0 9) 4) (z_C d m_X3_read [vR 3 0, vR 6 (0 + n_ (gI v 9 0 9))] v (fun w1 o2 => ∃ i3 : Int32, o2 = some (vI i3) ∧ ((¬ i3 = 0 → Q (pI w1 9 0 9 ((gI w1 9 0 9) + 1)) (some (vI (((gI w1 9 0 9) + 1) - 1)))) ∧ (i3 = 0 → Q w1 (some (vI (-1)))))))) ∧ (¬ (gI v 9 0 9) < 4 → Q v (some (vI (-1)))))) :
    z_Wp (z_C d) 1 k_X10_text Q 0 [some (vR 10 0)] [] v := z_run [] 400 h
set_option maxRecDepth 100000 in
set_option maxHeartbeats 2000000 in
theorem B_X10_fault_0 {d : Nat} {Q : z_RT} {v : z_V} {a1 : Int32}
    (h : (((gI v 3 0 2) = 0 → Q v (some (vI (-1)))) ∧ (¬ (gI v 3 0 2) = 0 → ((a1 < 0 → Q v (some (vI (-1)))) ∧ (¬ a1 < 0 → ((a1 ≤ 1 → ((¬ a1 = 0 → Q v (some (vI (gI v 3 0 4)))) ∧ (a1 = 0 → Q v (some (vI (gI v 3 0 3)))))) ∧ (¬ a1 ≤ 1 → Q v (some (vI (-1)))))))))) :
    z_Wp (z_C d) 1 k_X10_fault Q 0 [some (vR 10 0), some (vI a1)] [] v := z_run [] 400 h
set_option maxRecDepth 100000 in
set_option maxHeartbeats 2000000 in
theorem B_X10_by_0 {d : Nat} {Q : z_RT} {v : z_V} {a1 : Int32}
    (h : ((a1 = (-1) → Q (pI v 9 0 10 a1) (some (vI 1))) ∧ (¬ a1 = (-1) → z_C d m_X9_hasText [vR 9 0, vI a1] v (fun w1 o2 => ∃ i3 : Int32, o2 = some (vI i3) ∧ ((¬ i3 = 0 → Q (pI w1 9 0 10 a1) (some (vI 1))) ∧ (i3 = 0 → Q w1 (some (vI 0)))))))) :
    z_Wp (z_C d) 4 k_X10_by Q 0 [some (vR 10 0), some (vI a1)] [] v := z_run [] 400 h
set_option maxRecDepth 100000 in
set_option maxHeartbeats 2000000 in
theorem B_X10_plate_0 {d : Nat} {Q : z_RT} {v : z_V} {a1 : Int32} {a2 : Int32}
    (h : z_C d m_X9_putPlate [vR 9 0, vI a1, vI a2, vI 1] v (fun w1 o2 => ∃ i3 : Int32, o2 = some (vI i3) ∧ Q w1 (some (vI i3)))) :
    z_Wp (z_C d) 1 k_X10_plate Q 0 [some (vR 10 0), some (vI a1), some (vI a2)] [] v := z_run [] 400 h
set_option maxRecDepth 100000 in
set_option maxHeartbeats 2000000 in
theorem B_X10_turn_0 {d : Nat} {Q : z_RT} {v : z_V} {a1 : Int32}
    (h : z_C d m_X9_turnLine [vR 9 0, vI a1, vI 1] v (fun w1 o2 => ∃ i3 : Int32, o2 = some (vI i3) ∧ z_if (z_01 i3) (Q w1 (some (vI i3))))) :
    z_Wp (z_C d) 4 k_X10_turn Q 0 [some (vR 10 0), some (vI a1)] [] v := z_run [] 400 h
set_option maxRecDepth 100000 in
set_option maxHeartbeats 2000000 in
theorem B_X10_grant_0 {d : Nat} {Q : z_RT} {v : z_V} {a1 : Int32}
    (h : z_C d m_X9_giveGrant [vR 9 0, vI a1, vI 1] v (fun w1 o2 => ∃ i3 : Int32, o2 = some (vI i3) ∧ z_if (z_01 i3) (Q w1 (some (vI i3))))) :
    z_Wp (z_C d) 4 k_X10_grant Q 0 [some (vR 10 0), some (vI a1)] [] v := z_run [] 400 h
set_option maxRecDepth 100000 in
set_option maxHeartbeats 2000000 in
theorem B_X10_day_0 {d : Nat} {Q : z_RT} {v : z_V} {a1 : Int32}
    (h : ((a1 < 1 → Q v (some (vI (-1)))) ∧ (¬ a1 < 1 → ((60 < a1 → Q v (some (vI (-1)))) ∧ (¬ 60 < a1 → ((((gI v 4 0 5) + a1) ≤ 9999 → z_Wp (z_C d) 1 k_X10_day Q 35 [some (vR 10 0), some (vI a1), some (vI 0), some (vI 0)] [] v) ∧ (¬ ((gI v 4 0 5) + a1) ≤ 9999 → Q v (some (vI (-1)))))))))) :
    z_Wp (z_C d) 1 k_X10_day Q 0 [some (vR 10 0), some (vI a1), none, none] [] v := z_run [35] 400 h
set_option maxRecDepth 100000 in
set_option maxHeartbeats 2000000 in
theorem B_X10_day_35 {d : Nat} {Q : z_RT} {v : z_V} {x1 : Int32} {x2 : Int32} {x3 : Int32}
    (h : ((x1 ≤ x3 → Q v (some (vI x2))) ∧ (¬ x1 ≤ x3 → z_C d m_X9_passDay [vR 9 0, vI 1] v (fun w1 o2 => ∃ i3 : Int32, o2 = some (vI i3) ∧ z_Wp (z_C d) 1 k_X10_day Q 35 [some (vR 10 0), some (vI x1), some (vI (x2 + i3)), some (vI (x3 + 1))] [] w1)))) :
    z_Wp (z_C d) 1 k_X10_day Q 35 [some (vR 10 0), some (vI x1), some (vI x2), some (vI x3)] [] v := z_run [35] 400 h
set_option maxRecDepth 100000 in
set_option maxHeartbeats 2000000 in
theorem B_X10_played_0 {d : Nat} {Q : z_RT} {v : z_V} {a1 : Int32}
    (h : z_C d m_X9_hasText [vR 9 0, vI a1] v (fun w1 o2 => ∃ i3 : Int32, o2 = some (vI i3) ∧ ((¬ i3 = 0 → z_if (z_in a1 4) (z_Wp (z_C d) 1 k_X10_played Q 26 [some (vR 10 0), some (vI a1), some (vR 6 (0 + n_ a1)), some (vI 0)] [] w1)) ∧ (i3 = 0 → Q w1 (some (vI (-2))))))) :
    z_Wp (z_C d) 1 k_X10_played Q 0 [some (vR 10 0), some (vI a1), none, none] [] v := z_run [26] 400 h
set_option maxRecDepth 100000 in
set_option maxHeartbeats 2000000 in
theorem B_X10_played_26 {d : Nat} {Q : z_RT} {v : z_V} {u1 : Option z_AV} {m2 : Nat} {x3 : Int32}
    (h : (((gI v 6 m2 5) ≤ x3 → Q v (some (vI (-1)))) ∧ (¬ (gI v 6 m2 5) ≤ x3 → z_if (z_in x3 24) (z_if (z_in x3 24) (z_if (z_in x3 24) (z_C d m_X9_perform [vR 9 0, vI (gI v 701 m2 (n_ x3)), vI (gI v 702 m2 (n_ x3)), vI (gI v 703 m2 (n_ x3))] v (fun w1 o2 => ∃ i3 : Int32, o2 = some (vI i3) ∧ ((¬ i3 = 0 → z_Wp (z_C d) 1 k_X10_played Q 26 [some (vR 10 0), none, some (vR 6 m2), some (vI (x3 + 1))] [] w1) ∧ (i3 = 0 → Q w1 (some (vI x3))))))))))) :
    z_Wp (z_C d) 1 k_X10_played Q 26 [some (vR 10 0), u1, some (vR 6 m2), some (vI x3)] [] v := z_run [26] 400 h
set_option maxRecDepth 100000 in
set_option maxHeartbeats 2000000 in
theorem B_X10_years_0 {d : Nat} {Q : z_RT} {v : z_V} {a1 : Int32} {a2 : Int32}
    (h : ((a1 < 0 → Q v (some (vI (-1)))) ∧ (¬ a1 < 0 → ((9999 < a1 → Q v (some (vI (-1)))) ∧ (¬ 9999 < a1 → ((a2 < 1 → Q v (some (vI (-1)))) ∧ (¬ a2 < 1 → ((a2 ≤ 40 → z_C d m_X9_keepStep [vR 9 0] v (fun w1 o2 => o2 = none ∧ z_Wp (z_C d) 1 k_X10_years Q 50 [some (vR 10 0), some (vI a1), some (vI a2), some (vI 0)] [] (pI w1 4 0 6 ((a1 * 2) + 439)))) ∧ (¬ a2 ≤ 40 → Q v (some (vI (-1)))))))))))) :
    z_Wp (z_C d) 1 k_X10_years Q 0 [some (vR 10 0), some (vI a1), some (vI a2), none] [] v := z_run [50] 400 h
set_option maxRecDepth 100000 in
set_option maxHeartbeats 2000000 in
theorem B_X10_years_50 {d : Nat} {Q : z_RT} {v : z_V} {u1 : Option z_AV} {x2 : Int32} {x3 : Int32}
    (h : ((x2 ≤ x3 → Q v (some (vI (gI v 4 0 5)))) ∧ (¬ x2 ≤ x3 → z_C d m_X4_draw [vR 4 0] v (fun w1 o2 => ∃ i3 : Int32, o2 = some (vI i3) ∧ z_C d m_X9_drawOnce [vR 9 0, vI i3] w1 (fun w4 o5 => o5 = none ∧ z_Wp (z_C d) 1 k_X10_years Q 50 [some (vR 10 0), none, some (vI x2), some (vI (x3 + 1))] [] w4))))) :
    z_Wp (z_C d) 1 k_X10_years Q 50 [some (vR 10 0), u1, some (vI x2), some (vI x3)] [] v := z_run [50] 400 h
set_option maxRecDepth 100000 in
set_option maxHeartbeats 2000000 in
theorem B_X10_undo_0 {d : Nat} {Q : z_RT} {v : z_V}
    (h : z_C d m_X9_takeBack [vR 9 0] v (fun w1 o2 => ∃ i3 : Int32, o2 = some (vI i3) ∧ Q w1 (some (vI i3)))) :
    z_Wp (z_C d) 1 k_X10_undo Q 0 [some (vR 10 0)] [] v := z_run [] 400 h
set_option maxRecDepth 100000 in
set_option maxHeartbeats 2000000 in
theorem B_X10_of_0 {d : Nat} {Q : z_RT} {v : z_V} {a1 : Int32} {a2 : Int32}
    (h : z_C d m_X9_hasLine [vR 9 0, vI a1] v (fun w1 o2 => ∃ i3 : Int32, o2 = some (vI i3) ∧ ((¬ i3 = 0 → ((a2 = 0 → z_if (z_in a1 10) (Q w1 (some (vI (gI w1 1001 0 (n_ a1)))))) ∧ (¬ a2 = 0 → ((a2 = 1 → z_if (z_in a1 10) (Q w1 (some (vI (gI w1 1002 0 (n_ a1)))))) ∧ (¬ a2 = 1 → ((a2 = 2 → z_C d m_X9_fareOf [vR 9 0, vI a1] w1 (fun w4 o5 => ∃ i6 : Int32, o5 = some (vI i6) ∧ Q w4 (some (vI i6)))) ∧ (¬ a2 = 2 → ((a2 = 3 → z_C d m_X9_openBits [vR 9 0] w1 (fun w7 o8 => ∃ i9 : Int32, o8 = some (vI i9) ∧ Q w7 (some (vI ((i_shr i9 a1) &&& 1))))) ∧ (¬ a2 = 3 → ((a2 = 4 → z_C d m_X9_lawSays [vR 9 0, vI 0, vI a1, vI 0] w1 (fun w10 o11 => ∃ i12 : Int32, o11 = some (vI i12) ∧ Q w10 (some (vI i12)))) ∧ (¬ a2 = 4 → Q w1 (some (vI (-1)))))))))))))) ∧ (i3 = 0 → Q w1 (some (vI (-1))))))) :
    z_Wp (z_C d) 1 k_X10_of Q 0 [some (vR 10 0), some (vI a1), some (vI a2)] [] v := z_run [] 400 h
set_option maxRecDepth 100000 in
set_option maxHeartbeats 2000000 in
theorem B_X10_ofHalt_0 {d : Nat} {Q : z_RT} {v : z_V} {a1 : Int32} {a2 : Int32}
    (h : ((a1 < 0 → Q v (some (vI (-1)))) ∧ (¬ a1 < 0 → ((7 ≤ a1 → Q v (some (vI (-1)))) ∧ (¬ 7 ≤ a1 → ((a2 < 0 → Q v (some (vI (-1)))) ∧ (¬ a2 < 0 → ((a2 ≤ 1 → ((¬ a2 = 0 → z_C d m_X9_besideBits [vR 9 0, vI a1] v (fun w1 o2 => ∃ i3 : Int32, o2 = some (vI i3) ∧ Q w1 (some (vI i3)))) ∧ (a2 = 0 → z_if (z_in a1 7) (Q v (some (vI (gI v 500 0 (n_ a1)))))))) ∧ (¬ a2 ≤ 1 → Q v (some (vI (-1)))))))))))) :
    z_Wp (z_C d) 1 k_X10_ofHalt Q 0 [some (vR 10 0), some (vI a1), some (vI a2)] [] v := z_run [] 400 h
set_option maxRecDepth 100000 in
set_option maxHeartbeats 2000000 in
theorem B_X10_costs_0 {d : Nat} {Q : z_RT} {v : z_V} {a1 : Int32} {a2 : Int32}
    (h : ((a1 < 0 → Q v (some (vI (-100)))) ∧ (¬ a1 < 0 → ((7 ≤ a1 → Q v (some (vI (-100)))) ∧ (¬ 7 ≤ a1 → ((a2 < 0 → Q v (some (vI (-100)))) ∧ (¬ a2 < 0 → ((a2 ≤ 99 → z_C d m_X9_lawSays [vR 9 0, vI 1, vI a1, vI a2] v (fun w1 o2 => ∃ i3 : Int32, o2 = some (vI i3) ∧ Q w1 (some (vI i3)))) ∧ (¬ a2 ≤ 99 → Q v (some (vI (-100)))))))))))) :
    z_Wp (z_C d) 1 k_X10_costs Q 0 [some (vR 10 0), some (vI a1), some (vI a2)] [] v := z_run [] 400 h
set_option maxRecDepth 100000 in
set_option maxHeartbeats 2000000 in
theorem B_X10_is_0 {d : Nat} {Q : z_RT} {v : z_V} {a1 : Int32}
    (h : ((a1 = 0 → Q v (some (vI (gI v 4 0 5)))) ∧ (¬ a1 = 0 → ((a1 = 1 → Q v (some (vI (gI v 4 0 6)))) ∧ (¬ a1 = 1 → ((a1 = 2 → Q v (some (vI (gI v 4 0 4)))) ∧ (¬ a1 = 2 → ((a1 = 3 → z_C d m_X9_openBits [vR 9 0] v (fun w1 o2 => ∃ i3 : Int32, o2 = some (vI i3) ∧ Q w1 (some (vI i3)))) ∧ (¬ a1 = 3 → ((a1 = 4 → z_C d m_X10_openFares [vR 10 0] v (fun w4 o5 => ∃ i6 : Int32, o5 = some (vI i6) ∧ Q w4 (some (vI i6)))) ∧ (¬ a1 = 4 → Q v (some (vI (-2)))))))))))))) :
    z_Wp (z_C d) 1 k_X10_is Q 0 [some (vR 10 0), some (vI a1)] [] v := z_run [] 400 h
set_option maxRecDepth 100000 in
set_option maxHeartbeats 2000000 in
theorem B_X10_openFares_0 {d : Nat} {Q : z_RT} {v : z_V}
    (h : z_C d m_X9_openBits [vR 9 0] v (fun w1 o2 => ∃ i3 : Int32, o2 = some (vI i3) ∧ z_Wp (z_C d) 1 k_X10_openFares Q 12 [some (vR 10 0), some (vI i3), some (vI 0), some (vI 0)] [] w1)) :
    z_Wp (z_C d) 1 k_X10_openFares Q 0 [some (vR 10 0), none, none, none] [] v := z_run [12] 400 h
set_option maxRecDepth 100000 in
set_option maxHeartbeats 2000000 in
theorem B_X10_openFares_12 {d : Nat} {Q : z_RT} {v : z_V} {x1 : Int32} {x2 : Int32} {x3 : Int32}
    (h : ((10 ≤ x3 → Q v (some (vI x2))) ∧ (¬ 10 ≤ x3 → ((((i_shr x1 x3) &&& 1) = 0 → z_Wp (z_C d) 1 k_X10_openFares Q 12 [some (vR 10 0), some (vI x1), some (vI x2), some (vI (x3 + 1))] [] v) ∧ (¬ ((i_shr x1 x3) &&& 1) = 0 → z_C d m_X9_fareOf [vR 9 0, vI x3] v (fun w1 o2 => ∃ i3 : Int32, o2 = some (vI i3) ∧ z_Wp (z_C d) 1 k_X10_openFares Q 12 [some (vR 10 0), some (vI x1), some (vI (x2 + i3)), some (vI (x3 + 1))] [] w1)))))) :
    z_Wp (z_C d) 1 k_X10_openFares Q 12 [some (vR 10 0), some (vI x1), some (vI x2), some (vI x3)] [] v := z_run [12] 400 h
set_option maxRecDepth 100000 in
set_option maxHeartbeats 2000000 in
theorem B_X10_book_0 {d : Nat} {Q : z_RT} {v : z_V} {a1 : Int32} {a2 : Int32}
    (h : ((¬ a1 = (-1) → z_C d m_X4_told [vR 4 0, vI a1, vI a2] v (fun w1 o2 => ∃ i3 : Int32, o2 = some (vI i3) ∧ Q w1 (some (vI i3)))) ∧ (a1 = (-1) → Q v (some (vI (gI v 4 0 2)))))) :
    z_Wp (z_C d) 1 k_X10_book Q 0 [some (vR 10 0), some (vI a1), some (vI a2)] [] v := z_run [] 400 h
set_option maxRecDepth 100000 in
set_option maxHeartbeats 2000000 in
theorem B_X10_foretold_0 {d : Nat} {Q : z_RT} {v : z_V} {a1 : Int32}
    (h : ((a1 < 1 → Q v (some (vI (-1)))) ∧ (¬ a1 < 1 → ((a1 ≤ 60 → z_C d m_X4_become [vR 4 62, vR 4 0] v (fun w1 o2 => o2 = none ∧ z_Wp (z_C d) 1 k_X10_foretold Q 29 [some (vR 10 0), some (vI a1), some (vI 0)] [] w1)) ∧ (¬ a1 ≤ 60 → Q v (some (vI (-1)))))))) :
    z_Wp (z_C d) 1 k_X10_foretold Q 0 [some (vR 10 0), some (vI a1), none] [] v := z_run [29] 400 h
set_option maxRecDepth 100000 in
set_option maxHeartbeats 2000000 in
theorem B_X10_foretold_29 {d : Nat} {Q : z_RT} {v : z_V} {x1 : Int32} {x2 : Int32}
    (h : ((x1 ≤ x2 → z_C d m_X4_become [vR 4 0, vR 4 62] v (fun w1 o2 => o2 = none ∧ Q w1 (some (vI (gI v 4 0 4))))) ∧ (¬ x1 ≤ x2 → ((9999 ≤ (gI v 4 0 5) → z_C d m_X4_become [vR 4 0, vR 4 62] v (fun w3 o4 => o4 = none ∧ Q w3 (some (vI (gI v 4 0 4))))) ∧ (¬ 9999 ≤ (gI v 4 0 5) → z_C d m_X9_passDay [vR 9 0, vI 0] v (fun w5 o6 => ∃ i7 : Int32, o6 = some (vI i7) ∧ z_Wp (z_C d) 1 k_X10_foretold Q 29 [some (vR 10 0), some (vI x1), some (vI (x2 + 1))] [] w5)))))) :
    z_Wp (z_C d) 1 k_X10_foretold Q 29 [some (vR 10 0), some (vI x1), some (vI x2)] [] v := z_run [29] 400 h
set_option maxRecDepth 100000 in
set_option maxHeartbeats 2000000 in
theorem B_X10_fair_0 {d : Nat} {Q : z_RT} {v : z_V}
    (h : z_C d m_X9_openBits [vR 9 0] v (fun w1 o2 => ∃ i3 : Int32, o2 = some (vI i3) ∧ z_Wp (z_C d) 4 k_X10_fair Q 10 [some (vR 10 0), some (vI i3), some (vI 0)] [] w1)) :
    z_Wp (z_C d) 4 k_X10_fair Q 0 [some (vR 10 0), none, none] [] v := z_run [10] 400 h
set_option maxRecDepth 100000 in
set_option maxHeartbeats 2000000 in
theorem B_X10_fair_10 {d : Nat} {Q : z_RT} {v : z_V} {x1 : Int32} {x2 : Int32}
    (h : ((10 ≤ x2 → Q v (some (vI 1))) ∧ (¬ 10 ≤ x2 → ((((i_shr x1 x2) &&& 1) = 0 → z_Wp (z_C d) 4 k_X10_fair Q 10 [some (vR 10 0), some (vI x1), some (vI (x2 + 1))] [] v) ∧ (¬ ((i_shr x1 x2) &&& 1) = 0 → z_C d m_X9_fareOf [vR 9 0, vI x2] v (fun w1 o2 => ∃ i3 : Int32, o2 = some (vI i3) ∧ ((i3 = 0 → Q w1 (some (vI 0))) ∧ (¬ i3 = 0 → z_C d m_X10_likeAbove [vR 10 0, vI x2, vI x1] w1 (fun w4 o5 => ∃ i6 : Int32, o5 = some (vI i6) ∧ ((i6 = (-1) → z_Wp (z_C d) 4 k_X10_fair Q 10 [some (vR 10 0), some (vI x1), some (vI (x2 + 1))] [] w4) ∧ (¬ i6 = (-1) → Q w4 (some (vI 0))))))))))))) :
    z_Wp (z_C d) 4 k_X10_fair Q 10 [some (vR 10 0), some (vI x1), some (vI x2)] [] v := z_run [10] 400 h
set_option maxRecDepth 100000 in
set_option maxHeartbeats 2000000 in
theorem B_X10_likeAbove_0 {d : Nat} {Q : z_RT} {v : z_V} {a1 : Int32} {a2 : Int32}
    (h : z_C d m_X9_fareOf [vR 9 0, vI a1] v (fun w1 o2 => ∃ i3 : Int32, o2 = some (vI i3) ∧ z_Wp (z_C d) 1 k_X10_likeAbove Q 14 [some (vR 10 0), some (vI a1), some (vI a2), some (vI i3), some (vI (a1 + 1))] [] w1)) :
    z_Wp (z_C d) 1 k_X10_likeAbove Q 0 [some (vR 10 0), some (vI a1), some (vI a2), none, none] [] v := z_run [14] 400 h
set_option maxRecDepth 100000 in
set_option maxHeartbeats 2000000 in
theorem B_X10_likeAbove_14 {d : Nat} {Q : z_RT} {v : z_V} {u1 : Option z_AV} {x2 : Int32} {x3 : Int32} {x4 : Int32}
    (h : ((10 ≤ x4 → Q v (some (vI (-1)))) ∧ (¬ 10 ≤ x4 → ((((i_shr x2 x4) &&& 1) = 0 → z_Wp (z_C d) 1 k_X10_likeAbove Q 14 [some (vR 10 0), none, some (vI x2), some (vI x3), some (vI (x4 + 1))] [] v) ∧ (¬ ((i_shr x2 x4) &&& 1) = 0 → z_C d m_X9_fareOf [vR 9 0, vI x4] v (fun w1 o2 => ∃ i3 : Int32, o2 = some (vI i3) ∧ ((¬ i3 = x3 → z_Wp (z_C d) 1 k_X10_likeAbove Q 14 [some (vR 10 0), none, some (vI x2), some (vI x3), some (vI (x4 + 1))] [] w1) ∧ (i3 = x3 → Q w1 (some (vI x4)))))))))) :
    z_Wp (z_C d) 1 k_X10_likeAbove Q 14 [some (vR 10 0), u1, some (vI x2), some (vI x3), some (vI x4)] [] v := z_run [14] 400 h
set_option maxRecDepth 100000 in
set_option maxHeartbeats 2000000 in
theorem B_X10_left_0 {d : Nat} {Q : z_RT} {v : z_V}
    (h : z_C d m_X9_openBits [vR 9 0] v (fun w1 o2 => ∃ i3 : Int32, o2 = some (vI i3) ∧ ((¬ i3 = 0 → z_C d m_J6_bitCount_0f7a4 [vI i3] w1 (fun w4 o5 => ∃ i6 : Int32, o5 = some (vI i6) ∧ z_Wp (z_C d) 1 k_X10_left Q 28 [some (vR 10 0), some (vI i3), some (vI i6), some (vI ((i_shl 1 i6) - 1)), some (vI 0), none] [] w4)) ∧ (i3 = 0 → Q w1 (some (vI (-1))))))) :
    z_Wp (z_C d) 1 k_X10_left Q 0 [some (vR 10 0), none, none, none, none, none] [] v := z_run [28, 57] 400 h
set_option maxRecDepth 100000 in
set_option maxHeartbeats 2000000 in
theorem B_X10_left_28 {d : Nat} {Q : z_RT} {v : z_V} {x1 : Int32} {x2 : Int32} {x3 : Int32} {x4 : Int32} {u5 : Option z_AV}
    (h : ((10 ≤ x4 → Q v (some (vI x3))) ∧ (¬ 10 ≤ x4 → ((((i_shr x1 x4) &&& 1) = 0 → z_Wp (z_C d) 1 k_X10_left Q 57 [some (vR 10 0), some (vI x1), some (vI x2), some (vI x3), some (vI x4), none] [vI 0] v) ∧ (¬ ((i_shr x1 x4) &&& 1) = 0 → z_C d m_X9_fareOf [vR 9 0, vI x4] v (fun w1 o2 => ∃ i3 : Int32, o2 = some (vI i3) ∧ z_Wp (z_C d) 1 k_X10_left Q 57 [some (vR 10 0), some (vI x1), some (vI x2), some (vI x3), some (vI x4), none] [vI i3] w1)))))) :
    z_Wp (z_C d) 1 k_X10_left Q 28 [some (vR 10 0), some (vI x1), some (vI x2), some (vI x3), some (vI x4), u5] [] v := z_run [28, 57] 400 h
set_option maxRecDepth 100000 in
set_option maxHeartbeats 2000000 in
theorem B_X10_left_57 {d : Nat} {Q : z_RT} {v : z_V} {x1 : Int32} {x2 : Int32} {x3 : Int32} {x4 : Int32} {u5 : Option z_AV} {s0 : Int32}
    (h : ((s0 < 1 → z_Wp (z_C d) 1 k_X10_left Q 28 [some (vR 10 0), some (vI x1), some (vI x2), some (vI x3), some (vI (x4 + 1)), some (vI s0)] [] v) ∧ (¬ s0 < 1 → ((x2 < s0 → z_Wp (z_C d) 1 k_X10_left Q 28 [some (vR 10 0), some (vI x1), some (vI x2), some (vI x3), some (vI (x4 + 1)), some (vI s0)] [] v) ∧ (¬ x2 < s0 → z_Wp (z_C d) 1 k_X10_left Q 28 [some (vR 10 0), some (vI x1), some (vI x2), some (vI (x3 &&& ((i_shl 1 (s0 - 1)) ^^^ (-1)))), some (vI (x4 + 1)), some (vI s0)] [] v))))) :
    z_Wp (z_C d) 1 k_X10_left Q 57 [some (vR 10 0), some (vI x1), some (vI x2), some (vI x3), some (vI x4), u5] [vI s0] v := z_run [28, 57] 400 h
set_option maxRecDepth 100000 in
set_option maxHeartbeats 2000000 in
theorem B_X10_twin_0 {d : Nat} {Q : z_RT} {v : z_V} {a1 : Int32}
    (h : z_C d m_X9_openBits [vR 9 0] v (fun w1 o2 => ∃ i3 : Int32, o2 = some (vI i3) ∧ z_Wp (z_C d) 1 k_X10_twin Q 10 [some (vR 10 0), some (vI a1), some (vI i3), some (vI 0), none] [] w1)) :
    z_Wp (z_C d) 1 k_X10_twin Q 0 [some (vR 10 0), some (vI a1), none, none, none] [] v := z_run [10] 400 h
set_option maxRecDepth 100000 in
set_option maxHeartbeats 2000000 in
theorem B_X10_twin_10 {d : Nat} {Q : z_RT} {v : z_V} {x1 : Int32} {x2 : Int32} {x3 : Int32} {u4 : Option z_AV}
    (h : ((10 ≤ x3 → Q v (some (vI (-1)))) ∧ (¬ 10 ≤ x3 → ((((i_shr x2 x3) &&& 1) = 0 → (((-1 : Int32) = (-1) → z_Wp (z_C d) 1 k_X10_twin Q 10 [some (vR 10 0), some (vI x1), some (vI x2), some (vI (x3 + 1)), some (vI (-1))] [] v) ∧ (¬ (-1 : Int32) = (-1) → ((x1 = 0 → Q v (some (vI x3))) ∧ (¬ x1 = 0 → Q v (some (vI (-1)))))))) ∧ (¬ ((i_shr x2 x3) &&& 1) = 0 → z_C d m_X10_likeAbove [vR 10 0, vI x3, vI x2] v (fun w1 o2 => ∃ i3 : Int32, o2 = some (vI i3) ∧ ((i3 = (-1) → z_Wp (z_C d) 1 k_X10_twin Q 10 [some (vR 10 0), some (vI x1), some (vI x2), some (vI (x3 + 1)), some (vI i3)] [] w1) ∧ (¬ i3 = (-1) → ((x1 = 0 → Q w1 (some (vI x3))) ∧ (¬ x1 = 0 → Q w1 (some (vI i3)))))))))))) :
    z_Wp (z_C d) 1 k_X10_twin Q 10 [some (vR 10 0), some (vI x1), some (vI x2), some (vI x3), u4] [] v := z_run [10] 400 h
set_option maxRecDepth 100000 in
set_option maxHeartbeats 2000000 in
theorem B_X10_whole_0 {d : Nat} {Q : z_RT} {v : z_V} {a1 : Int32}
    (h : ((a1 < 0 → Q v (some (vI (-1)))) ∧ (¬ a1 < 0 → ((a1 < 7 → z_C d m_X0_look [vR 0 0, vR 9 0] v (fun w1 o2 => o2 = none ∧ z_C d m_X1_solve [vR 1 0, vR 0 0] w1 (fun w3 o4 => o4 = none ∧ ((¬ (gI w3 1 0 1) = (gI w3 0 0 4) → Q w3 (some (vI (-1)))) ∧ ((gI w3 1 0 1) = (gI w3 0 0 4) → z_C d m_X0_ofSearch [vR 0 0, vR 200 0, vI a1] w3 (fun w5 o6 => ∃ i7 : Int32, o6 = some (vI i7) ∧ Q w5 (some (vI i7)))))))) ∧ (¬ a1 < 7 → Q v (some (vI (-1)))))))) :
    z_Wp (z_C d) 1 k_X10_whole Q 0 [some (vR 10 0), some (vI a1)] [] v := z_run [] 400 h
set_option maxRecDepth 100000 in
set_option maxHeartbeats 2000000 in
theorem B_X10_wholes_0 {d : Nat} {Q : z_RT} {v : z_V}
    (h : z_C d m_X0_look [vR 0 0, vR 9 0] v (fun w1 o2 => o2 = none ∧ z_C d m_X1_wholeWays [vR 1 0, vR 0 0] w1 (fun w3 o4 => ∃ l5 : Int64, o4 = some (vL l5) ∧ Q w3 (some (vL l5))))) :
    z_Wp (z_C d) 2 k_X10_wholes Q 0 [some (vR 10 0)] [] v := z_run [] 400 h
set_option maxRecDepth 100000 in
set_option maxHeartbeats 2000000 in
theorem B_X10_span_0 {d : Nat} {Q : z_RT} {v : z_V} {a1 : Int32}
    (h : ((a1 < (-1) → Q v (some (vI (-1)))) ∧ (¬ a1 < (-1) → ((a1 < 7 → z_C d m_X0_look [vR 0 0, vR 9 0] v (fun w1 o2 => o2 = none ∧ z_C d m_X1_solve [vR 1 0, vR 0 0] w1 (fun w3 o4 => o4 = none ∧ ((¬ a1 = (-1) → z_C d m_X0_ofSearch [vR 0 0, vR 200 0, vI a1] w3 (fun w5 o6 => ∃ i7 : Int32, o6 = some (vI i7) ∧ Q w5 (some (vI i7)))) ∧ (a1 = (-1) → Q w3 (some (vI (gI w3 1 0 1)))))))) ∧ (¬ a1 < 7 → Q v (some (vI (-1)))))))) :
    z_Wp (z_C d) 1 k_X10_span Q 0 [some (vR 10 0), some (vI a1)] [] v := z_run [] 400 h
set_option maxRecDepth 100000 in
set_option maxHeartbeats 2000000 in
theorem B_X10_apart_0 {d : Nat} {Q : z_RT} {v : z_V} {a1 : Int32} {a2 : Int32} {a3 : Int32}
    (h : ((a1 < 0 → Q v (some (vI (-1)))) ∧ (¬ a1 < 0 → ((3 < a1 → Q v (some (vI (-1)))) ∧ (¬ 3 < a1 → ((a2 < 0 → Q v (some (vI (-1)))) ∧ (¬ a2 < 0 → ((3 < a2 → Q v (some (vI (-1)))) ∧ (¬ 3 < a2 → ((a3 < (-1) → Q v (some (vI (-1)))) ∧ (¬ a3 < (-1) → ((a3 < 7 → z_C d m_X0_look [vR 0 0, vR 9 0] v (fun w1 o2 => o2 = none ∧ z_C d m_X2_space [vR 2 0, vR 0 0, vI a1, vI a2] w1 (fun w3 o4 => o4 = none ∧ ((¬ a3 = (-1) → z_C d m_X0_ofSearch [vR 0 0, vR 300 0, vI a3] w3 (fun w5 o6 => ∃ i7 : Int32, o6 = some (vI i7) ∧ Q w5 (some (vI i7)))) ∧ (a3 = (-1) → Q w3 (some (vI (gI w3 2 0 1)))))))) ∧ (¬ a3 < 7 → Q v (some (vI (-1)))))))))))))))) :
    z_Wp (z_C d) 1 k_X10_apart Q 0 [some (vR 10 0), some (vI a1), some (vI a2), some (vI a3)] [] v := z_run [] 400 h
set_option maxRecDepth 100000 in
set_option maxHeartbeats 2000000 in
theorem B_X10_alike_0 {d : Nat} {Q : z_RT} {v : z_V} {a1 : Int32}
    (h : ((a1 < (-1) → Q v (some (vI (-1)))) ∧ (¬ a1 < (-1) → ((a1 < 10 → z_C d m_X0_look [vR 0 0, vR 9 0] v (fun w1 o2 => o2 = none ∧ z_C d m_X8_solveAlike [vR 8 0, vR 0 0] w1 (fun w3 o4 => o4 = none ∧ ((¬ (lg_cmp (gL w3 8 0 3) 0) = 0 → ((¬ a1 = (-1) → z_C d m_X0_isOpen [vR 0 0, vI a1] w3 (fun w5 o6 => ∃ i7 : Int32, o6 = some (vI i7) ∧ ((i7 = 0 → Q w5 (some (vI (-1)))) ∧ (¬ i7 = 0 → z_if (z_in a1 10) (Q w5 (some (vI (gI w5 900 0 (n_ a1))))))))) ∧ (a1 = (-1) → Q w3 (some (vI (gI w3 8 0 2)))))) ∧ ((lg_cmp (gL w3 8 0 3) 0) = 0 → Q w3 (some (vI (-1)))))))) ∧ (¬ a1 < 10 → Q v (some (vI (-1)))))))) :
    z_Wp (z_C d) 1 k_X10_alike Q 0 [some (vR 10 0), some (vI a1)] [] v := z_run [] 400 h
set_option maxRecDepth 100000 in
set_option maxHeartbeats 2000000 in
theorem B_X10_alikes_0 {d : Nat} {Q : z_RT} {v : z_V}
    (h : z_C d m_X0_look [vR 0 0, vR 9 0] v (fun w1 o2 => o2 = none ∧ z_C d m_X8_solveAlike [vR 8 0, vR 0 0] w1 (fun w3 o4 => o4 = none ∧ Q w3 (some (vL (gL w3 8 0 3)))))) :
    z_Wp (z_C d) 2 k_X10_alikes Q 0 [some (vR 10 0)] [] v := z_run [] 400 h
set_option maxRecDepth 100000 in
set_option maxHeartbeats 2000000 in
theorem B_X10_unlike_0 {d : Nat} {Q : z_RT} {v : z_V} {a1 : Int32}
    (h : ((a1 < 0 → Q v (some (vI (-1)))) ∧ (¬ a1 < 0 → ((a1 < 10 → z_C d m_X0_look [vR 0 0, vR 9 0] v (fun w1 o2 => o2 = none ∧ z_C d m_X8_solveUnlike [vR 8 0, vR 0 0] w1 (fun w3 o4 => o4 = none ∧ (((gI w3 8 0 4) = 0 → Q w3 (some (vI (-1)))) ∧ (¬ (gI w3 8 0 4) = 0 → z_C d m_X0_isOpen [vR 0 0, vI a1] w3 (fun w5 o6 => ∃ i7 : Int32, o6 = some (vI i7) ∧ ((i7 = 0 → Q w5 (some (vI (-1)))) ∧ (¬ i7 = 0 → z_if (z_in a1 10) (Q w5 (some (vI (gI w5 901 0 (n_ a1))))))))))))) ∧ (¬ a1 < 10 → Q v (some (vI (-1)))))))) :
    z_Wp (z_C d) 1 k_X10_unlike Q 0 [some (vR 10 0), some (vI a1)] [] v := z_run [] 400 h
set_option maxRecDepth 100000 in
set_option maxHeartbeats 2000000 in
theorem B_X10_band_0 {d : Nat} {Q : z_RT} {v : z_V} {a1 : Int32}
    (h : ((a1 < (-1) → Q v (some (vI (-1)))) ∧ (¬ a1 < (-1) → ((a1 < 7 → z_C d m_X0_look [vR 0 0, vR 9 0] v (fun w1 o2 => o2 = none ∧ z_C d m_X2_bind [vR 2 1, vR 0 0] w1 (fun w3 o4 => o4 = none ∧ ((¬ a1 = (-1) → z_C d m_X0_ofSearch [vR 0 0, vR 300 1, vI a1] w3 (fun w5 o6 => ∃ i7 : Int32, o6 = some (vI i7) ∧ Q w5 (some (vI i7)))) ∧ (a1 = (-1) → Q w3 (some (vI (gI w3 2 1 1)))))))) ∧ (¬ a1 < 7 → Q v (some (vI (-1)))))))) :
    z_Wp (z_C d) 1 k_X10_band Q 0 [some (vR 10 0), some (vI a1)] [] v := z_run [] 400 h
set_option maxRecDepth 100000 in
set_option maxHeartbeats 2000000 in
theorem B_X10_total_0 {d : Nat} {Q : z_RT} {v : z_V}
    (h : z_C d m_X0_look [vR 0 0, vR 9 0] v (fun w1 o2 => o2 = none ∧ z_C d m_X7_leastFares [vR 7 0, vR 0 0] w1 (fun w3 o4 => ∃ i5 : Int32, o4 = some (vI i5) ∧ Q w3 (some (vI i5))))) :
    z_Wp (z_C d) 1 k_X10_total Q 0 [some (vR 10 0)] [] v := z_run [] 400 h
set_option maxRecDepth 100000 in
set_option maxHeartbeats 2000000 in
theorem B_X10_mend_0 {d : Nat} {Q : z_RT} {v : z_V}
    (h : z_C d m_X0_look [vR 0 0, vR 9 0] v (fun w1 o2 => o2 = none ∧ z_C d m_X1_mending [vR 1 0, vR 0 0, vR 500 0] w1 (fun w3 o4 => ∃ i5 : Int32, o4 = some (vI i5) ∧ Q w3 (some (vI i5))))) :
    z_Wp (z_C d) 1 k_X10_mend Q 0 [some (vR 10 0)] [] v := z_run [] 400 h
set_option maxRecDepth 100000 in
set_option maxHeartbeats 2000000 in
theorem B_X10_names_0 {d : Nat} {Q : z_RT} {v : z_V}
    (h : z_C d m_X0_look [vR 0 0, vR 9 0] v (fun w1 o2 => o2 = none ∧ z_C d m_X7_swaps [vR 7 0, vR 0 0] w1 (fun w3 o4 => ∃ i5 : Int32, o4 = some (vI i5) ∧ Q w3 (some (vI i5))))) :
    z_Wp (z_C d) 1 k_X10_names Q 0 [some (vR 10 0)] [] v := z_run [] 400 h
set_option maxRecDepth 100000 in
set_option maxHeartbeats 2000000 in
theorem B_X10_parts_0 {d : Nat} {Q : z_RT} {v : z_V}
    (h : z_C d m_X0_look [vR 0 0, vR 9 0] v (fun w1 o2 => o2 = none ∧ z_C d m_X0_countParts [vR 0 0] w1 (fun w3 o4 => ∃ i5 : Int32, o4 = some (vI i5) ∧ Q w3 (some (vI i5))))) :
    z_Wp (z_C d) 1 k_X10_parts Q 0 [some (vR 10 0)] [] v := z_run [] 400 h
set_option maxRecDepth 100000 in
set_option maxHeartbeats 2000000 in
theorem B_X10_cuts_0 {d : Nat} {Q : z_RT} {v : z_V}
    (h : z_C d m_X0_look [vR 0 0, vR 9 0] v (fun w1 o2 => o2 = none ∧ z_C d m_X0_cutBits [vR 0 0] w1 (fun w3 o4 => ∃ i5 : Int32, o4 = some (vI i5) ∧ Q w3 (some (vI i5))))) :
    z_Wp (z_C d) 1 k_X10_cuts Q 0 [some (vR 10 0)] [] v := z_run [] 400 h
set_option maxRecDepth 100000 in
set_option maxHeartbeats 2000000 in
theorem B_X10_game_0 {d : Nat} {Q : z_RT} {v : z_V} {a1 : Int32}
    (h : ((a1 < 0 → Q v (some (vI (-1)))) ∧ (¬ a1 < 0 → ((a1 ≤ 127 → z_C d m_X0_look [vR 0 0, vR 9 0] v (fun w1 o2 => o2 = none ∧ z_C d m_X7_winner [vR 7 0, vR 0 0, vI a1] w1 (fun w3 o4 => ∃ i5 : Int32, o4 = some (vI i5) ∧ ((¬ i5 = (-1) → Q w3 (some (vI 1))) ∧ (i5 = (-1) → Q w3 (some (vI 0))))))) ∧ (¬ a1 ≤ 127 → Q v (some (vI (-1)))))))) :
    z_Wp (z_C d) 1 k_X10_game Q 0 [some (vR 10 0), some (vI a1)] [] v := z_run [] 400 h
set_option maxRecDepth 100000 in
set_option maxHeartbeats 2000000 in
theorem B_X10_mark_0 {d : Nat} {Q : z_RT} {v : z_V} {a1 : Int32}
    (h : ((a1 < 0 → Q v (some (vI (-1)))) ∧ (¬ a1 < 0 → ((a1 ≤ 127 → z_C d m_X0_look [vR 0 0, vR 9 0] v (fun w1 o2 => o2 = none ∧ z_C d m_X7_winner [vR 7 0, vR 0 0, vI a1] w1 (fun w3 o4 => ∃ i5 : Int32, o4 = some (vI i5) ∧ Q w3 (some (vI i5))))) ∧ (¬ a1 ≤ 127 → Q v (some (vI (-1)))))))) :
    z_Wp (z_C d) 1 k_X10_mark Q 0 [some (vR 10 0), some (vI a1)] [] v := z_run [] 400 h
set_option maxRecDepth 100000 in
set_option maxHeartbeats 2000000 in
theorem B_X10_ride_0 {d : Nat} {Q : z_RT} {v : z_V} {a1 : Int32} {a2 : Int32}
    (h : ((a1 < 0 → Q v (some (vI (-1)))) ∧ (¬ a1 < 0 → ((7 ≤ a1 → Q v (some (vI (-1)))) ∧ (¬ 7 ≤ a1 → ((a2 < 0 → Q v (some (vI (-1)))) ∧ (¬ a2 < 0 → ((a2 < 7 → z_C d m_X0_look [vR 0 0, vR 9 0] v (fun w1 o2 => o2 = none ∧ z_C d m_X7_rideFares [vR 7 0, vR 0 0, vR 500 0, vI a1, vI a2] w1 (fun w3 o4 => ∃ i5 : Int32, o4 = some (vI i5) ∧ Q w3 (some (vI i5))))) ∧ (¬ a2 < 7 → Q v (some (vI (-1)))))))))))) :
    z_Wp (z_C d) 1 k_X10_ride Q 0 [some (vR 10 0), some (vI a1), some (vI a2)] [] v := z_run [] 400 h
set_option maxRecDepth 100000 in
set_option maxHeartbeats 2000000 in
theorem B_X10_change_0 {d : Nat} {Q : z_RT} {v : z_V} {a1 : Int32} {a2 : Int32} {a3 : Int32}
    (h : ((a1 < 0 → Q v (some (vI (-2)))) ∧ (¬ a1 < 0 → ((7 ≤ a1 → Q v (some (vI (-2)))) ∧ (¬ 7 ≤ a1 → ((a2 < 0 → Q v (some (vI (-2)))) ∧ (¬ a2 < 0 → ((7 ≤ a2 → Q v (some (vI (-2)))) ∧ (¬ 7 ≤ a2 → ((a3 < 0 → Q v (some (vI (-2)))) ∧ (¬ a3 < 0 → ((a3 < 7 → z_C d m_X0_look [vR 0 0, vR 9 0] v (fun w1 o2 => o2 = none ∧ z_C d m_X7_rideHalt [vR 7 0, vR 0 0, vR 500 0, vI a1, vI a2, vI a3] w1 (fun w3 o4 => ∃ i5 : Int32, o4 = some (vI i5) ∧ Q w3 (some (vI i5))))) ∧ (¬ a3 < 7 → Q v (some (vI (-2)))))))))))))))) :
    z_Wp (z_C d) 1 k_X10_change Q 0 [some (vR 10 0), some (vI a1), some (vI a2), some (vI a3)] [] v := z_run [] 400 h
set_option maxRecDepth 100000 in
set_option maxHeartbeats 2000000 in
theorem B_X10_said_0 {d : Nat} {Q : z_RT} {v : z_V} {a1 : Int32} {a2 : Int32}
    (h : ((¬ a1 = (-1) → z_C d m_X9_hasLine [vR 9 0, vI a1] v (fun w1 o2 => ∃ i3 : Int32, o2 = some (vI i3) ∧ ((i3 = 0 → Q w1 (some (vI (-2)))) ∧ (¬ i3 = 0 → ((a2 < 0 → Q w1 (some (vI (-2)))) ∧ (¬ a2 < 0 → ((10 < a2 → Q w1 (some (vI (-2)))) ∧ (¬ 10 < a2 → (((gI w1 9 0 11) < 8 → z_if (z_in (gI w1 9 0 11) 8) (z_if (z_in (gI w1 9 0 11) 8) (Q (pI (pI (pI w1 1004 0 (n_ (gI w1 9 0 11)) a1) 1005 0 (n_ (gI w1 9 0 11)) a2) 9 0 11 ((gI w1 9 0 11) + 1)) (some (vI ((gI w1 9 0 11) + 1)))))) ∧ (¬ (gI w1 9 0 11) < 8 → Q w1 (some (vI (-2))))))))))))) ∧ (a1 = (-1) → Q (pI v 9 0 11 0) (some (vI 0))))) :
    z_Wp (z_C d) 1 k_X10_said Q 0 [some (vR 10 0), some (vI a1), some (vI a2)] [] v := z_run [] 400 h
set_option maxRecDepth 100000 in
set_option maxHeartbeats 2000000 in
theorem B_X10_whose_0 {d : Nat} {Q : z_RT} {v : z_V}
    (h : z_Wp (z_C d) 1 k_X10_whose Q 4 [some (vR 10 0), some (vI 0), some (vI 0)] [] v) :
    z_Wp (z_C d) 1 k_X10_whose Q 0 [some (vR 10 0), none, none] [] v := z_run [4] 400 h
set_option maxRecDepth 100000 in
set_option maxHeartbeats 2000000 in
theorem B_X10_whose_4 {d : Nat} {Q : z_RT} {v : z_V} {x1 : Int32} {x2 : Int32}
    (h : (((gI v 9 0 9) ≤ x2 → Q v (some (vI x1))) ∧ (¬ (gI v 9 0 9) ≤ x2 → z_if (z_in x2 4) (z_C d m_X9_saysAll [vR 9 0, vR 6 (0 + n_ x2)] v (fun w1 o2 => ∃ i3 : Int32, o2 = some (vI i3) ∧ ((i3 = 0 → z_Wp (z_C d) 1 k_X10_whose Q 4 [some (vR 10 0), some (vI x1), some (vI (x2 + 1))] [] w1) ∧ (¬ i3 = 0 → z_Wp (z_C d) 1 k_X10_whose Q 4 [some (vR 10 0), some (vI (x1 ||| (i_shl 1 x2))), some (vI (x2 + 1))] [] w1))))))) :
    z_Wp (z_C d) 1 k_X10_whose Q 4 [some (vR 10 0), some (vI x1), some (vI x2)] [] v := z_run [4] 400 h
set_option maxRecDepth 100000 in
set_option maxHeartbeats 2000000 in
theorem B_X10_dearest_0 {d : Nat} {Q : z_RT} {v : z_V}
    (h : z_C d m_X9_openBits [vR 9 0] v (fun w1 o2 => ∃ i3 : Int32, o2 = some (vI i3) ∧ z_Wp (z_C d) 1 k_X10_dearest Q 12 [some (vR 10 0), some (vI i3), some (vI (-1)), some (vI 0)] [] w1)) :
    z_Wp (z_C d) 1 k_X10_dearest Q 0 [some (vR 10 0), none, none, none] [] v := z_run [12] 400 h
set_option maxRecDepth 100000 in
set_option maxHeartbeats 2000000 in
theorem B_X10_dearest_12 {d : Nat} {Q : z_RT} {v : z_V} {x1 : Int32} {x2 : Int32} {x3 : Int32}
    (h : ((10 ≤ x3 → Q v (some (vI x2))) ∧ (¬ 10 ≤ x3 → ((((i_shr x1 x3) &&& 1) = 0 → z_Wp (z_C d) 1 k_X10_dearest Q 12 [some (vR 10 0), some (vI x1), some (vI x2), some (vI (x3 + 1))] [] v) ∧ (¬ ((i_shr x1 x3) &&& 1) = 0 → ((x2 = (-1) → z_Wp (z_C d) 1 k_X10_dearest Q 12 [some (vR 10 0), some (vI x1), some (vI x3), some (vI (x3 + 1))] [] v) ∧ (¬ x2 = (-1) → z_C d m_X9_fareOf [vR 9 0, vI x3] v (fun w1 o2 => ∃ i3 : Int32, o2 = some (vI i3) ∧ z_C d m_X9_fareOf [vR 9 0, vI x2] w1 (fun w4 o5 => ∃ i6 : Int32, o5 = some (vI i6) ∧ ((i3 ≤ i6 → z_Wp (z_C d) 1 k_X10_dearest Q 12 [some (vR 10 0), some (vI x1), some (vI x2), some (vI (x3 + 1))] [] w4) ∧ (¬ i3 ≤ i6 → z_Wp (z_C d) 1 k_X10_dearest Q 12 [some (vR 10 0), some (vI x1), some (vI x3), some (vI (x3 + 1))] [] w4))))))))))) :
    z_Wp (z_C d) 1 k_X10_dearest Q 12 [some (vR 10 0), some (vI x1), some (vI x2), some (vI x3)] [] v := z_run [12] 400 h
set_option maxRecDepth 100000 in
set_option maxHeartbeats 2000000 in
theorem B_X10_highest_0 {d : Nat} {Q : z_RT} {v : z_V}
    (h : z_Wp (z_C d) 1 k_X10_highest Q 4 [some (vR 10 0), some (vI 0), some (vI 1)] [] v) :
    z_Wp (z_C d) 1 k_X10_highest Q 0 [some (vR 10 0), none, none] [] v := z_run [4] 400 h
set_option maxRecDepth 100000 in
set_option maxHeartbeats 2000000 in
theorem B_X10_highest_4 {d : Nat} {Q : z_RT} {v : z_V} {x1 : Int32} {x2 : Int32}
    (h : ((7 ≤ x2 → Q v (some (vI x1))) ∧ (¬ 7 ≤ x2 → z_if (z_in x2 7) (z_if (z_in x1 7) ((((gI v 500 0 (n_ x2)) ≤ (gI v 500 0 (n_ x1)) → z_Wp (z_C d) 1 k_X10_highest Q 4 [some (vR 10 0), some (vI x1), some (vI (x2 + 1))] [] v) ∧ (¬ (gI v 500 0 (n_ x2)) ≤ (gI v 500 0 (n_ x1)) → z_Wp (z_C d) 1 k_X10_highest Q 4 [some (vR 10 0), some (vI x2), some (vI (x2 + 1))] [] v))))))) :
    z_Wp (z_C d) 1 k_X10_highest Q 4 [some (vR 10 0), some (vI x1), some (vI x2)] [] v := z_run [4] 400 h
set_option maxRecDepth 100000 in
set_option maxHeartbeats 2000000 in
theorem B_X10_ledger_0 {d : Nat} {Q : z_RT} {v : z_V} {a1 : Int32}
    (h : ((a1 < 0 → Q v (some (vI (-2)))) ∧ (¬ a1 < 0 → ((a1 ≤ 2 → z_Wp (z_C d) 1 k_X10_ledger Q 16 [some (vR 10 0), some (vI a1), some (vI 0), some (vI 0)] [] v) ∧ (¬ a1 ≤ 2 → Q v (some (vI (-2)))))))) :
    z_Wp (z_C d) 1 k_X10_ledger Q 0 [some (vR 10 0), some (vI a1), none, none] [] v := z_run [16] 400 h
set_option maxRecDepth 100000 in
set_option maxHeartbeats 2000000 in
theorem B_X10_ledger_16 {d : Nat} {Q : z_RT} {v : z_V} {x1 : Int32} {x2 : Int32} {x3 : Int32}
    (h : (((gI v 4 0 2) ≤ x3 → Q v (some (vI x2))) ∧ (¬ (gI v 4 0 2) ≤ x3 → z_C d m_X4_told [vR 4 0, vI x3, vI 1] v (fun w1 o2 => ∃ i3 : Int32, o2 = some (vI i3) ∧ ((¬ i3 = x1 → z_Wp (z_C d) 1 k_X10_ledger Q 16 [some (vR 10 0), some (vI x1), some (vI x2), some (vI (x3 + 1))] [] w1) ∧ (i3 = x1 → z_Wp (z_C d) 1 k_X10_ledger Q 16 [some (vR 10 0), some (vI x1), some (vI (x2 + 1)), some (vI (x3 + 1))] [] w1)))))) :
    z_Wp (z_C d) 1 k_X10_ledger Q 16 [some (vR 10 0), some (vI x1), some (vI x2), some (vI x3)] [] v := z_run [16] 400 h
set_option maxRecDepth 100000 in
set_option maxHeartbeats 2000000 in
theorem B_X10_image_0 {d : Nat} {Q : z_RT} {v : z_V}
    (h : z_C d m_X9_become [vR 9 1, vR 9 0] v (fun w1 o2 => o2 = none ∧ Q w1 (some (vI (gI w1 4 0 5))))) :
    z_Wp (z_C d) 1 k_X10_image Q 0 [some (vR 10 0)] [] v := z_run [] 400 h
set_option maxRecDepth 100000 in
set_option maxHeartbeats 2000000 in
theorem B_X10_back_0 {d : Nat} {Q : z_RT} {v : z_V}
    (h : z_C d m_X9_become [vR 9 0, vR 9 1] v (fun w1 o2 => o2 = none ∧ Q w1 (some (vI (gI w1 4 0 5))))) :
    z_Wp (z_C d) 1 k_X10_back Q 0 [some (vR 10 0)] [] v := z_run [] 400 h
set_option maxRecDepth 100000 in
set_option maxHeartbeats 2000000 in
theorem B_X10_about_0 {d : Nat} {Q : z_RT} {v : z_V} {a1 : Int32}
    (h : ((a1 = 0 → Q v (some (vI (gI v 9 0 8)))) ∧ (¬ a1 = 0 → ((a1 = 1 → Q v (some (vI (gI v 9 0 9)))) ∧ (¬ a1 = 1 → ((a1 = 2 → Q v (some (vI (gI v 9 0 10)))) ∧ (¬ a1 = 2 → ((a1 = 3 → Q v (some (vI (gI v 9 0 12)))) ∧ (¬ a1 = 3 → ((a1 = 4 → Q v (some (vI (gI v 9 0 11)))) ∧ (¬ a1 = 4 → ((a1 = 5 → Q v (some (vI (gI v 3 0 1)))) ∧ (¬ a1 = 5 → Q v (some (vI (-2)))))))))))))))) :
    z_Wp (z_C d) 1 k_X10_about Q 0 [some (vR 10 0), some (vI a1)] [] v := z_run [] 400 h
set_option maxRecDepth 100000 in
set_option maxHeartbeats 2000000 in
theorem B_J6_bitCount_0f7a4_0 {d : Nat} {Q : z_RT} {v : z_V} {a0 : Int32}
    (h : Q v (some (vI ((((((((a0 - ((i_ush a0 1) &&& 1431655765)) &&& 858993459) + ((i_ush (a0 - ((i_ush a0 1) &&& 1431655765)) 2) &&& 858993459)) + (i_ush (((a0 - ((i_ush a0 1) &&& 1431655765)) &&& 858993459) + ((i_ush (a0 - ((i_ush a0 1) &&& 1431655765)) 2) &&& 858993459)) 4)) &&& 252645135) + (i_ush (((((a0 - ((i_ush a0 1) &&& 1431655765)) &&& 858993459) + ((i_ush (a0 - ((i_ush a0 1) &&& 1431655765)) 2) &&& 858993459)) + (i_ush (((a0 - ((i_ush a0 1) &&& 1431655765)) &&& 858993459) + ((i_ush (a0 - ((i_ush a0 1) &&& 1431655765)) 2) &&& 858993459)) 4)) &&& 252645135) 8)) + (i_ush ((((((a0 - ((i_ush a0 1) &&& 1431655765)) &&& 858993459) + ((i_ush (a0 - ((i_ush a0 1) &&& 1431655765)) 2) &&& 858993459)) + (i_ush (((a0 - ((i_ush a0 1) &&& 1431655765)) &&& 858993459) + ((i_ush (a0 - ((i_ush a0 1) &&& 1431655765)) 2) &&& 858993459)) 4)) &&& 252645135) + (i_ush (((((a0 - ((i_ush a0 1) &&& 1431655765)) &&& 858993459) + ((i_ush (a0 - ((i_ush a0 1) &&& 1431655765)) 2) &&& 858993459)) + (i_ush (((a0 - ((i_ush a0 1) &&& 1431655765)) &&& 858993459) + ((i_ush (a0 - ((i_ush a0 1) &&& 1431655765)) 2) &&& 858993459)) 4)) &&& 252645135) 8)) 16)) &&& 63)))) :
    z_Wp (z_C d) 1 k_J6_bitCount_0f7a4 Q 0 [some (vI a0)] [] v := z_run [] 400 h
set_option maxRecDepth 100000 in
set_option maxHeartbeats 2000000 in
theorem B_J13_bitCount_95d88_0 {d : Nat} {Q : z_RT} {v : z_V} {a0 : Int64}
    (h : Q v (some (vI ((((((((((a0 - ((l_ush a0 1) &&& 6148914691236517205)) &&& 3689348814741910323) + ((l_ush (a0 - ((l_ush a0 1) &&& 6148914691236517205)) 2) &&& 3689348814741910323)) + (l_ush (((a0 - ((l_ush a0 1) &&& 6148914691236517205)) &&& 3689348814741910323) + ((l_ush (a0 - ((l_ush a0 1) &&& 6148914691236517205)) 2) &&& 3689348814741910323)) 4)) &&& 1085102592571150095) + (l_ush (((((a0 - ((l_ush a0 1) &&& 6148914691236517205)) &&& 3689348814741910323) + ((l_ush (a0 - ((l_ush a0 1) &&& 6148914691236517205)) 2) &&& 3689348814741910323)) + (l_ush (((a0 - ((l_ush a0 1) &&& 6148914691236517205)) &&& 3689348814741910323) + ((l_ush (a0 - ((l_ush a0 1) &&& 6148914691236517205)) 2) &&& 3689348814741910323)) 4)) &&& 1085102592571150095) 8)) + (l_ush ((((((a0 - ((l_ush a0 1) &&& 6148914691236517205)) &&& 3689348814741910323) + ((l_ush (a0 - ((l_ush a0 1) &&& 6148914691236517205)) 2) &&& 3689348814741910323)) + (l_ush (((a0 - ((l_ush a0 1) &&& 6148914691236517205)) &&& 3689348814741910323) + ((l_ush (a0 - ((l_ush a0 1) &&& 6148914691236517205)) 2) &&& 3689348814741910323)) 4)) &&& 1085102592571150095) + (l_ush (((((a0 - ((l_ush a0 1) &&& 6148914691236517205)) &&& 3689348814741910323) + ((l_ush (a0 - ((l_ush a0 1) &&& 6148914691236517205)) 2) &&& 3689348814741910323)) + (l_ush (((a0 - ((l_ush a0 1) &&& 6148914691236517205)) &&& 3689348814741910323) + ((l_ush (a0 - ((l_ush a0 1) &&& 6148914691236517205)) 2) &&& 3689348814741910323)) 4)) &&& 1085102592571150095) 8)) 16)) + (l_ush (((((((a0 - ((l_ush a0 1) &&& 6148914691236517205)) &&& 3689348814741910323) + ((l_ush (a0 - ((l_ush a0 1) &&& 6148914691236517205)) 2) &&& 3689348814741910323)) + (l_ush (((a0 - ((l_ush a0 1) &&& 6148914691236517205)) &&& 3689348814741910323) + ((l_ush (a0 - ((l_ush a0 1) &&& 6148914691236517205)) 2) &&& 3689348814741910323)) 4)) &&& 1085102592571150095) + (l_ush (((((a0 - ((l_ush a0 1) &&& 6148914691236517205)) &&& 3689348814741910323) + ((l_ush (a0 - ((l_ush a0 1) &&& 6148914691236517205)) 2) &&& 3689348814741910323)) + (l_ush (((a0 - ((l_ush a0 1) &&& 6148914691236517205)) &&& 3689348814741910323) + ((l_ush (a0 - ((l_ush a0 1) &&& 6148914691236517205)) 2) &&& 3689348814741910323)) 4)) &&& 1085102592571150095) 8)) + (l_ush ((((((a0 - ((l_ush a0 1) &&& 6148914691236517205)) &&& 3689348814741910323) + ((l_ush (a0 - ((l_ush a0 1) &&& 6148914691236517205)) 2) &&& 3689348814741910323)) + (l_ush (((a0 - ((l_ush a0 1) &&& 6148914691236517205)) &&& 3689348814741910323) + ((l_ush (a0 - ((l_ush a0 1) &&& 6148914691236517205)) 2) &&& 3689348814741910323)) 4)) &&& 1085102592571150095) + (l_ush (((((a0 - ((l_ush a0 1) &&& 6148914691236517205)) &&& 3689348814741910323) + ((l_ush (a0 - ((l_ush a0 1) &&& 6148914691236517205)) 2) &&& 3689348814741910323)) + (l_ush (((a0 - ((l_ush a0 1) &&& 6148914691236517205)) &&& 3689348814741910323) + ((l_ush (a0 - ((l_ush a0 1) &&& 6148914691236517205)) 2) &&& 3689348814741910323)) 4)) &&& 1085102592571150095) 8)) 16)) 32)).toInt32) &&& 127)))) :
    z_Wp (z_C d) 1 k_J13_bitCount_95d88 Q 0 [some (vL a0), none] [] v := z_run [] 400 h
