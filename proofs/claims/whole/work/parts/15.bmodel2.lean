set_option maxRecDepth 100000 in
set_option maxHeartbeats 2000000 in
theorem B_X11_keep_0 {d : Nat} {Q : z_RT} {v : z_V}
    (h : ((¬ (gI v 1200 0 3) = 30 → z_if (z_in (53 + (38 * (gI v 1200 0 3))) 1218) (z_Wp (z_C d) 0 k_X11_keep Q 81 [some (vR 11 0), some (vI (53 + (38 * (gI v 1200 0 3)))), some (vI 0)] [] (pI v 1200 0 (n_ (53 + (38 * (gI v 1200 0 3)))) (gI v 1200 0 0)))) ∧ ((gI v 1200 0 3) = 30 → z_Wp (z_C d) 0 k_X11_keep Q 13 [some (vR 11 0), some (vI 0), none] [] v))) :
    z_Wp (z_C d) 0 k_X11_keep Q 0 [some (vR 11 0), none, none] [] v := z_run [13, 81, 113] 400 h
set_option maxRecDepth 100000 in
set_option maxHeartbeats 2000000 in
theorem B_X11_keep_81 {d : Nat} {Q : z_RT} {v : z_V} {x1 : Int32} {x2 : Int32}
    (h : ((12 ≤ x2 → z_Wp (z_C d) 0 k_X11_keep Q 113 [some (vR 11 0), some (vI x1), some (vI 0)] [] v) ∧ (¬ 12 ≤ x2 → z_if (z_in (5 + x2) 1218) (z_if (z_in ((x1 + 1) + x2) 1218) (z_Wp (z_C d) 0 k_X11_keep Q 81 [some (vR 11 0), some (vI x1), some (vI (x2 + 1))] [] (pI v 1200 0 (n_ ((x1 + 1) + x2)) (gI v 1200 0 (n_ (5 + x2))))))))) :
    z_Wp (z_C d) 0 k_X11_keep Q 81 [some (vR 11 0), some (vI x1), some (vI x2)] [] v := z_run [13, 81, 113] 400 h
set_option maxRecDepth 100000 in
set_option maxHeartbeats 2000000 in
theorem B_X11_keep_13 {d : Nat} {Q : z_RT} {v : z_V} {x1 : Int32} {u2 : Option z_AV}
    (h : ((1102 ≤ x1 → z_if (z_in (53 + (38 * ((gI v 1200 0 3) - 1))) 1218) (z_Wp (z_C d) 0 k_X11_keep Q 81 [some (vR 11 0), some (vI (53 + (38 * ((gI v 1200 0 3) - 1)))), some (vI 0)] [] (pI (pI v 1200 0 3 ((gI v 1200 0 3) - 1)) 1200 0 (n_ (53 + (38 * ((gI v 1200 0 3) - 1)))) (gI v 1200 0 0)))) ∧ (¬ 1102 ≤ x1 → z_if (z_in (91 + x1) 1218) (z_if (z_in (53 + x1) 1218) (z_Wp (z_C d) 0 k_X11_keep Q 13 [some (vR 11 0), some (vI (x1 + 1)), none] [] (pI v 1200 0 (n_ (53 + x1)) (gI v 1200 0 (n_ (91 + x1))))))))) :
    z_Wp (z_C d) 0 k_X11_keep Q 13 [some (vR 11 0), some (vI x1), u2] [] v := z_run [13, 81, 113] 400 h
set_option maxRecDepth 100000 in
set_option maxHeartbeats 2000000 in
theorem B_X11_keep_113 {d : Nat} {Q : z_RT} {v : z_V} {x1 : Int32} {x2 : Int32}
    (h : ((25 ≤ x2 → Q (pI v 1200 0 3 ((gI v 1200 0 3) + 1)) none) ∧ (¬ 25 ≤ x2 → z_if (z_in (1193 + x2) 1218) (z_if (z_in (((x1 + 1) + 12) + x2) 1218) (z_Wp (z_C d) 0 k_X11_keep Q 113 [some (vR 11 0), some (vI x1), some (vI (x2 + 1))] [] (pI v 1200 0 (n_ (((x1 + 1) + 12) + x2)) (gI v 1200 0 (n_ (1193 + x2))))))))) :
    z_Wp (z_C d) 0 k_X11_keep Q 113 [some (vR 11 0), some (vI x1), some (vI x2)] [] v := z_run [13, 81, 113] 400 h
set_option maxRecDepth 100000 in
set_option maxHeartbeats 2000000 in
theorem B_X11_undo_0 {d : Nat} {Q : z_RT} {v : z_V}
    (h : ((¬ (gI v 1200 0 3) = 0 → z_Wp (z_C d) 1 k_X11_undo Q 36 [some (vR 11 0), some (vI (53 + (38 * ((gI v 1200 0 3) - 1)))), some (vI 0)] [] (pI v 1200 0 3 ((gI v 1200 0 3) - 1))) ∧ ((gI v 1200 0 3) = 0 → Q v (some (vI (-1)))))) :
    z_Wp (z_C d) 1 k_X11_undo Q 0 [some (vR 11 0), none, none] [] v := z_run [36, 73, 104] 400 h
set_option maxRecDepth 100000 in
set_option maxHeartbeats 2000000 in
theorem B_X11_undo_36 {d : Nat} {Q : z_RT} {v : z_V} {x1 : Int32} {x2 : Int32}
    (h : ((12 ≤ x2 → z_if (z_in x1 1218) (z_Wp (z_C d) 1 k_X11_undo Q 73 [some (vR 11 0), some (vI x1), some (vI (gI v 1200 0 (n_ x1)))] [] v)) ∧ (¬ 12 ≤ x2 → z_if (z_in ((x1 + 1) + x2) 1218) (z_if (z_in (5 + x2) 1218) (z_Wp (z_C d) 1 k_X11_undo Q 36 [some (vR 11 0), some (vI x1), some (vI (x2 + 1))] [] (pI v 1200 0 (n_ (5 + x2)) (gI v 1200 0 (n_ ((x1 + 1) + x2))))))))) :
    z_Wp (z_C d) 1 k_X11_undo Q 36 [some (vR 11 0), some (vI x1), some (vI x2)] [] v := z_run [36, 73, 104] 400 h
set_option maxRecDepth 100000 in
set_option maxHeartbeats 2000000 in
theorem B_X11_undo_73 {d : Nat} {Q : z_RT} {v : z_V} {x1 : Int32} {x2 : Int32}
    (h : (((gI v 1200 0 0) ≤ x2 → z_Wp (z_C d) 1 k_X11_undo Q 104 [some (vR 11 0), some (vI x1), some (vI 0)] [] v) ∧ (¬ (gI v 1200 0 0) ≤ x2 → z_Wp (z_C d) 1 k_X11_undo Q 73 [some (vR 11 0), some (vI x1), some (vI (x2 + 1))] [] (pI v 1200 0 9 ((gI v 1200 0 9) ||| (i_shl 1 x2)))))) :
    z_Wp (z_C d) 1 k_X11_undo Q 73 [some (vR 11 0), some (vI x1), some (vI x2)] [] v := z_run [36, 73, 104] 400 h
set_option maxRecDepth 100000 in
set_option maxHeartbeats 2000000 in
theorem B_X11_undo_104 {d : Nat} {Q : z_RT} {v : z_V} {x1 : Int32} {x2 : Int32}
    (h : ((25 ≤ x2 → Q v (some (vI (gI v 1200 0 3)))) ∧ (¬ 25 ≤ x2 → z_if (z_in (((x1 + 1) + 12) + x2) 1218) (z_if (z_in (1193 + x2) 1218) (z_Wp (z_C d) 1 k_X11_undo Q 104 [some (vR 11 0), some (vI x1), some (vI (x2 + 1))] [] (pI v 1200 0 (n_ (1193 + x2)) (gI v 1200 0 (n_ (((x1 + 1) + 12) + x2))))))))) :
    z_Wp (z_C d) 1 k_X11_undo Q 104 [some (vR 11 0), some (vI x1), some (vI x2)] [] v := z_run [36, 73, 104] 400 h
set_option maxRecDepth 100000 in
set_option maxHeartbeats 2000000 in
theorem B_X11_plate_0 {d : Nat} {Q : z_RT} {v : z_V} {a1 : Int32} {a2 : Int32}
    (h : z_C d m_X11_canPlate [vR 11 0, vI a1, vI a2] v (fun w1 o2 => ∃ i3 : Int32, o2 = some (vI i3) ∧ ((¬ i3 = 0 → z_C d m_X11_keep [vR 11 0] w1 (fun w4 o5 => o5 = none ∧ z_C d m_X11_plateNow [vR 11 0, vI a1, vI a2] w4 (fun w6 o7 => ∃ i8 : Int32, o7 = some (vI i8) ∧ Q w6 (some (vI i8))))) ∧ (i3 = 0 → Q w1 (some (vI (-1))))))) :
    z_Wp (z_C d) 1 k_X11_plate Q 0 [some (vR 11 0), some (vI a1), some (vI a2)] [] v := z_run [] 400 h
set_option maxRecDepth 100000 in
set_option maxHeartbeats 2000000 in
theorem B_X11_turn_0 {d : Nat} {Q : z_RT} {v : z_V} {a1 : Int32}
    (h : z_C d m_X11_isLine [vR 11 0, vI a1] v (fun w1 o2 => ∃ i3 : Int32, o2 = some (vI i3) ∧ ((¬ i3 = 0 → z_C d m_X11_keep [vR 11 0] w1 (fun w4 o5 => o5 = none ∧ z_C d m_X11_turnNow [vR 11 0, vI a1] w4 (fun w6 o7 => o7 = none ∧ Q w6 (some (vI 1))))) ∧ (i3 = 0 → Q w1 (some (vI 0)))))) :
    z_Wp (z_C d) 4 k_X11_turn Q 0 [some (vR 11 0), some (vI a1)] [] v := z_run [] 400 h
set_option maxRecDepth 100000 in
set_option maxHeartbeats 2000000 in
theorem B_X11_grant_0 {d : Nat} {Q : z_RT} {v : z_V} {a1 : Int32}
    (h : z_C d m_X11_canGrant [vR 11 0, vI a1] v (fun w1 o2 => ∃ i3 : Int32, o2 = some (vI i3) ∧ ((¬ i3 = 0 → z_C d m_X11_keep [vR 11 0] w1 (fun w4 o5 => o5 = none ∧ Q (pI w4 1200 0 7 ((gI w4 1200 0 7) + a1)) (some (vI 1)))) ∧ (i3 = 0 → Q w1 (some (vI 0)))))) :
    z_Wp (z_C d) 4 k_X11_grant Q 0 [some (vR 11 0), some (vI a1)] [] v := z_run [] 400 h
set_option maxRecDepth 100000 in
set_option maxHeartbeats 2000000 in
theorem B_X11_arePassed_0 {d : Nat} {Q : z_RT} {v : z_V} {a1 : Int32}
    (h : z_Wp (z_C d) 4 k_X11_arePassed Q 7 [some (vR 11 0), some (vI a1), some (vI 0)] [] (pI v 11 0 24 0)) :
    z_Wp (z_C d) 4 k_X11_arePassed Q 0 [some (vR 11 0), some (vI a1), none] [] v := z_run [7] 400 h
set_option maxRecDepth 100000 in
set_option maxHeartbeats 2000000 in
theorem B_X11_arePassed_7 {d : Nat} {Q : z_RT} {v : z_V} {x1 : Int32} {x2 : Int32}
    (h : ((x1 ≤ x2 → Q v (some (vI 1))) ∧ (¬ x1 ≤ x2 → ((¬ (gI v 1200 0 5) = 9999 → z_C d m_X11_keep [vR 11 0] v (fun w1 o2 => o2 = none ∧ z_C d m_X11_pass [vR 11 0] w1 (fun w3 o4 => o4 = none ∧ z_Wp (z_C d) 4 k_X11_arePassed Q 7 [some (vR 11 0), some (vI x1), some (vI (x2 + 1))] [] w3))) ∧ ((gI v 1200 0 5) = 9999 → Q v (some (vI 0))))))) :
    z_Wp (z_C d) 4 k_X11_arePassed Q 7 [some (vR 11 0), some (vI x1), some (vI x2)] [] v := z_run [7] 400 h
set_option maxRecDepth 100000 in
set_option maxHeartbeats 2000000 in
theorem B_X11_day_0 {d : Nat} {Q : z_RT} {v : z_V} {a1 : Int32}
    (h : z_C d m_X11_isIn [vI a1, vI 1, vI 60] v (fun w1 o2 => ∃ i3 : Int32, o2 = some (vI i3) ∧ ((i3 = 0 → Q w1 (some (vI (-1)))) ∧ (¬ i3 = 0 → ((9999 < ((gI w1 1200 0 5) + a1) → Q w1 (some (vI (-1)))) ∧ (¬ 9999 < ((gI w1 1200 0 5) + a1) → z_C d m_X11_arePassed [vR 11 0, vI a1] w1 (fun w4 o5 => ∃ i6 : Int32, o5 = some (vI i6) ∧ ((i6 = 0 → Q w4 (some (vI (-1)))) ∧ (¬ i6 = 0 → Q w4 (some (vI (gI w4 11 0 24)))))))))))) :
    z_Wp (z_C d) 1 k_X11_day Q 0 [some (vR 11 0), some (vI a1)] [] v := z_run [] 400 h
set_option maxRecDepth 100000 in
set_option maxHeartbeats 2000000 in
theorem B_X11_isPlayed_0 {d : Nat} {Q : z_RT} {v : z_V} {a1 : Int32}
    (h : z_if (z_in (a1 + 1) 2724) (z_if (z_in (a1 + 2) 2724) (z_if (z_in a1 2724) ((((gI v 1202 0 (n_ a1)) = 2 → z_C d m_X11_lay [vR 11 0, vI (gI v 1202 0 (n_ (a1 + 1))), vI (gI v 1202 0 (n_ (a1 + 2)))] v (fun w1 o2 => ∃ i3 : Int32, o2 = some (vI i3) ∧ ((i3 < 0 → Q w1 (some (vI 0))) ∧ (¬ i3 < 0 → Q w1 (some (vI 1)))))) ∧ (¬ (gI v 1202 0 (n_ a1)) = 2 → (((gI v 1202 0 (n_ a1)) = 3 → z_C d m_X11_plate [vR 11 0, vI (gI v 1202 0 (n_ (a1 + 2))), vI (gI v 1202 0 (n_ (a1 + 1)))] v (fun w4 o5 => ∃ i6 : Int32, o5 = some (vI i6) ∧ ((i6 < 0 → Q w4 (some (vI 0))) ∧ (¬ i6 < 0 → Q w4 (some (vI 1)))))) ∧ (¬ (gI v 1202 0 (n_ a1)) = 3 → (((gI v 1202 0 (n_ a1)) = 4 → z_C d m_X11_turn [vR 11 0, vI (gI v 1202 0 (n_ (a1 + 1)))] v (fun w7 o8 => ∃ i9 : Int32, o8 = some (vI i9) ∧ z_if (z_01 i9) (Q w7 (some (vI i9))))) ∧ (¬ (gI v 1202 0 (n_ a1)) = 4 → (((gI v 1202 0 (n_ a1)) = 5 → z_C d m_X11_grant [vR 11 0, vI (gI v 1202 0 (n_ (a1 + 1)))] v (fun w10 o11 => ∃ i12 : Int32, o11 = some (vI i12) ∧ z_if (z_01 i12) (Q w10 (some (vI i12))))) ∧ (¬ (gI v 1202 0 (n_ a1)) = 5 → (((gI v 1202 0 (n_ a1)) = 6 → z_C d m_X11_arePassed [vR 11 0, vI (gI v 1202 0 (n_ (a1 + 1)))] v (fun w13 o14 => ∃ i15 : Int32, o14 = some (vI i15) ∧ z_if (z_01 i15) (Q w13 (some (vI i15))))) ∧ (¬ (gI v 1202 0 (n_ a1)) = 6 → Q v (some (vI 1)))))))))))))))) :
    z_Wp (z_C d) 4 k_X11_isPlayed Q 0 [some (vR 11 0), some (vI a1), none, none] [] v := z_run [] 400 h
set_option maxRecDepth 100000 in
set_option maxHeartbeats 2000000 in
theorem B_X11_played_0 {d : Nat} {Q : z_RT} {v : z_V} {a1 : Int32}
    (h : z_C d m_X11_isIn [vI a1, vI 0, vI ((gI v 1200 0 1) - 1)] v (fun w1 o2 => ∃ i3 : Int32, o2 = some (vI i3) ∧ ((¬ i3 = 0 → z_Wp (z_C d) 1 k_X11_played Q 21 [some (vR 11 0), some (vI a1), some (vI 0)] [] w1) ∧ (i3 = 0 → Q w1 (some (vI (-2))))))) :
    z_Wp (z_C d) 1 k_X11_played Q 0 [some (vR 11 0), some (vI a1), none] [] v := z_run [21] 400 h
set_option maxRecDepth 100000 in
set_option maxHeartbeats 2000000 in
theorem B_X11_played_21 {d : Nat} {Q : z_RT} {v : z_V} {x1 : Int32} {x2 : Int32}
    (h : z_if (z_in (681 * x1) 2724) ((((gI v 1202 0 (n_ (681 * x1))) ≤ x2 → Q v (some (vI (-1)))) ∧ (¬ (gI v 1202 0 (n_ (681 * x1))) ≤ x2 → z_C d m_X11_isPlayed [vR 11 0, vI (((681 * x1) + 1) + (3 * x2))] v (fun w1 o2 => ∃ i3 : Int32, o2 = some (vI i3) ∧ ((¬ i3 = 0 → z_Wp (z_C d) 1 k_X11_played Q 21 [some (vR 11 0), some (vI x1), some (vI (x2 + 1))] [] w1) ∧ (i3 = 0 → Q w1 (some (vI x2))))))))) :
    z_Wp (z_C d) 1 k_X11_played Q 21 [some (vR 11 0), some (vI x1), some (vI x2)] [] v := z_run [21] 400 h
set_option maxRecDepth 100000 in
set_option maxHeartbeats 2000000 in
theorem B_X11_happens_0 {d : Nat} {Q : z_RT} {v : z_V} {a1 : Int32}
    (h : (((i_rem a1 6) = 0 → z_C d m_X11_canPlate [vR 11 0, vI (i_rem (a1 / 6) 7), vI (i_rem a1 20)] v (fun w1 o2 => ∃ i3 : Int32, o2 = some (vI i3) ∧ ((i3 = 0 → Q w1 none) ∧ (¬ i3 = 0 → z_C d m_X11_plateNow [vR 11 0, vI (i_rem (a1 / 6) 7), vI (i_rem a1 20)] w1 (fun w4 o5 => ∃ i6 : Int32, o5 = some (vI i6) ∧ Q w4 none))))) ∧ (¬ (i_rem a1 6) = 0 → (((i_rem a1 6) = 1 → ((¬ (i_rem a1 4) = 3 → Q v none) ∧ ((i_rem a1 4) = 3 → z_C d m_X11_isLine [vR 11 0, vI (i_rem (a1 / 6) 10)] v (fun w7 o8 => ∃ i9 : Int32, o8 = some (vI i9) ∧ ((i9 = 0 → Q w7 none) ∧ (¬ i9 = 0 → z_C d m_X11_turnNow [vR 11 0, vI (i_rem (a1 / 6) 10)] w7 (fun w10 o11 => o11 = none ∧ Q w10 none))))))) ∧ (¬ (i_rem a1 6) = 1 → (((i_rem a1 6) = 2 → z_C d m_X11_canGrant [vR 11 0, vI (1 + (i_rem (a1 / 6) 9))] v (fun w12 o13 => ∃ i14 : Int32, o13 = some (vI i14) ∧ ((i14 = 0 → Q w12 none) ∧ (¬ i14 = 0 → Q (pI w12 1200 0 7 ((gI w12 1200 0 7) + (1 + (i_rem (a1 / 6) 9)))) none)))) ∧ (¬ (i_rem a1 6) = 2 → ((9999 ≤ (gI v 1200 0 5) → Q v none) ∧ (¬ 9999 ≤ (gI v 1200 0 5) → z_C d m_X11_pass [vR 11 0] v (fun w15 o16 => o16 = none ∧ Q w15 none)))))))))) :
    z_Wp (z_C d) 0 k_X11_happens Q 0 [some (vR 11 0), some (vI a1), none, none, none] [] v := z_run [] 400 h
set_option maxRecDepth 100000 in
set_option maxHeartbeats 2000000 in
theorem B_X11_years_0 {d : Nat} {Q : z_RT} {v : z_V} {a1 : Int32} {a2 : Int32}
    (h : z_C d m_X11_isIn [vI a1, vI 0, vI 9999] v (fun w1 o2 => ∃ i3 : Int32, o2 = some (vI i3) ∧ ((i3 = 0 → Q w1 (some (vI (-1)))) ∧ (¬ i3 = 0 → z_C d m_X11_isIn [vI a2, vI 1, vI 40] w1 (fun w4 o5 => ∃ i6 : Int32, o5 = some (vI i6) ∧ ((¬ i6 = 0 → z_C d m_X11_keep [vR 11 0] w4 (fun w7 o8 => o8 = none ∧ z_Wp (z_C d) 1 k_X11_years Q 43 [some (vR 11 0), some (vI a1), some (vI a2), some (vI 0), none] [] (pI w7 1200 0 6 ((a1 * 2) + 439)))) ∧ (i6 = 0 → Q w4 (some (vI (-1)))))))))) :
    z_Wp (z_C d) 1 k_X11_years Q 0 [some (vR 11 0), some (vI a1), some (vI a2), none, none] [] v := z_run [43] 400 h
set_option maxRecDepth 100000 in
set_option maxHeartbeats 2000000 in
theorem B_X11_years_43 {d : Nat} {Q : z_RT} {v : z_V} {u1 : Option z_AV} {x2 : Int32} {x3 : Int32} {u4 : Option z_AV}
    (h : ((x2 ≤ x3 → Q v (some (vI (gI v 1200 0 5)))) ∧ (¬ x2 ≤ x3 → z_C d m_X11_anew [vR 11 0] v (fun w1 o2 => o2 = none ∧ z_C d m_X11_happens [vR 11 0, vI (gI v 1200 0 6)] w1 (fun w3 o4 => o4 = none ∧ z_Wp (z_C d) 1 k_X11_years Q 43 [some (vR 11 0), none, some (vI x2), some (vI (x3 + 1)), some (vI (gI v 1200 0 6))] [] w3))))) :
    z_Wp (z_C d) 1 k_X11_years Q 43 [some (vR 11 0), u1, some (vI x2), some (vI x3), u4] [] v := z_run [43] 400 h
set_option maxRecDepth 100000 in
set_option maxHeartbeats 2000000 in
theorem B_X11_of_0 {d : Nat} {Q : z_RT} {v : z_V} {a1 : Int32} {a2 : Int32}
    (h : z_C d m_X11_isLine [vR 11 0, vI a1] v (fun w1 o2 => ∃ i3 : Int32, o2 = some (vI i3) ∧ ((¬ i3 = 0 → ((a2 = 0 → z_C d m_X11_one [vR 11 0, vI a1] w1 (fun w4 o5 => ∃ i6 : Int32, o5 = some (vI i6) ∧ Q w4 (some (vI i6)))) ∧ (¬ a2 = 0 → ((a2 = 1 → z_C d m_X11_other [vR 11 0, vI a1] w1 (fun w7 o8 => ∃ i9 : Int32, o8 = some (vI i9) ∧ Q w7 (some (vI i9)))) ∧ (¬ a2 = 1 → ((a2 = 2 → z_C d m_X11_fareOf [vR 11 0, vI a1] w1 (fun w10 o11 => ∃ i12 : Int32, o11 = some (vI i12) ∧ Q w10 (some (vI i12)))) ∧ (¬ a2 = 2 → ((a2 = 3 → z_C d m_X11_isOpen [vR 11 0, vI a1] w1 (fun w13 o14 => ∃ i15 : Int32, o14 = some (vI i15) ∧ ((i15 = 0 → Q w13 (some (vI 0))) ∧ (¬ i15 = 0 → Q w13 (some (vI 1)))))) ∧ (¬ a2 = 3 → ((a2 = 4 → z_C d m_X11_ridesOf [vR 11 0, vI (gI w1 1200 0 2), vI a1] w1 (fun w16 o17 => ∃ i18 : Int32, o17 = some (vI i18) ∧ Q w16 (some (vI i18)))) ∧ (¬ a2 = 4 → Q w1 (some (vI (-1)))))))))))))) ∧ (i3 = 0 → Q w1 (some (vI (-1))))))) :
    z_Wp (z_C d) 1 k_X11_of Q 0 [some (vR 11 0), some (vI a1), some (vI a2)] [] v := z_run [] 400 h
set_option maxRecDepth 100000 in
set_option maxHeartbeats 2000000 in
theorem B_X11_ofHalt_0 {d : Nat} {Q : z_RT} {v : z_V} {a1 : Int32} {a2 : Int32}
    (h : z_C d m_X11_isHalt [vI a1] v (fun w1 o2 => ∃ i3 : Int32, o2 = some (vI i3) ∧ ((¬ i3 = 0 → ((¬ a2 = 0 → ((¬ a2 = 1 → Q w1 (some (vI (-1)))) ∧ (a2 = 1 → z_C d m_X11_besideOf [vR 11 0, vI a1] w1 (fun w4 o5 => ∃ i6 : Int32, o5 = some (vI i6) ∧ Q w4 (some (vI i6)))))) ∧ (a2 = 0 → z_if (z_in (10 + a1) 1218) (Q w1 (some (vI (gI w1 1200 0 (n_ (10 + a1))))))))) ∧ (i3 = 0 → Q w1 (some (vI (-1))))))) :
    z_Wp (z_C d) 1 k_X11_ofHalt Q 0 [some (vR 11 0), some (vI a1), some (vI a2)] [] v := z_run [] 400 h
set_option maxRecDepth 100000 in
set_option maxHeartbeats 2000000 in
theorem B_X11_costs_0 {d : Nat} {Q : z_RT} {v : z_V} {a1 : Int32} {a2 : Int32}
    (h : z_C d m_X11_isHalt [vI a1] v (fun w1 o2 => ∃ i3 : Int32, o2 = some (vI i3) ∧ ((i3 = 0 → Q w1 (some (vI (-100)))) ∧ (¬ i3 = 0 → z_C d m_X11_isIn [vI a2, vI 0, vI 99] w1 (fun w4 o5 => ∃ i6 : Int32, o5 = some (vI i6) ∧ ((i6 = 0 → Q w4 (some (vI (-100)))) ∧ (¬ i6 = 0 → z_C d m_X11_costsOf [vR 11 0, vI a1, vI a2] w4 (fun w7 o8 => ∃ i9 : Int32, o8 = some (vI i9) ∧ Q w7 (some (vI i9)))))))))) :
    z_Wp (z_C d) 1 k_X11_costs Q 0 [some (vR 11 0), some (vI a1), some (vI a2)] [] v := z_run [] 400 h
set_option maxRecDepth 100000 in
set_option maxHeartbeats 2000000 in
theorem B_X11_is_0 {d : Nat} {Q : z_RT} {v : z_V} {a1 : Int32}
    (h : z_C d m_X11_isIn [vI a1, vI 0, vI 2] v (fun w1 o2 => ∃ i3 : Int32, o2 = some (vI i3) ∧ ((i3 = 0 → z_Wp (z_C d) 1 k_X11_is Q 22 [some (vR 11 0), some (vI a1), some (vI 0), some (vI 0)] [] w1) ∧ (¬ i3 = 0 → z_if (z_in (5 + a1) 1218) (Q w1 (some (vI (gI w1 1200 0 (n_ (5 + a1)))))))))) :
    z_Wp (z_C d) 1 k_X11_is Q 0 [some (vR 11 0), some (vI a1), none, none] [] v := z_run [22] 400 h
set_option maxRecDepth 100000 in
set_option maxHeartbeats 2000000 in
theorem B_X11_is_22 {d : Nat} {Q : z_RT} {v : z_V} {x1 : Int32} {x2 : Int32} {x3 : Int32}
    (h : (((gI v 1200 0 0) ≤ x3 → ((¬ x1 = 3 → ((¬ x1 = 4 → Q v (some (vI (-2)))) ∧ (x1 = 4 → Q v (some (vI x2))))) ∧ (x1 = 3 → Q v (some (vI (gI v 1200 0 9)))))) ∧ (¬ (gI v 1200 0 0) ≤ x3 → z_C d m_X11_isOpen [vR 11 0, vI x3] v (fun w1 o2 => ∃ i3 : Int32, o2 = some (vI i3) ∧ ((i3 = 0 → z_Wp (z_C d) 1 k_X11_is Q 22 [some (vR 11 0), some (vI x1), some (vI (x2 + 0)), some (vI (x3 + 1))] [] w1) ∧ (¬ i3 = 0 → z_C d m_X11_fareOf [vR 11 0, vI x3] w1 (fun w4 o5 => ∃ i6 : Int32, o5 = some (vI i6) ∧ z_Wp (z_C d) 1 k_X11_is Q 22 [some (vR 11 0), some (vI x1), some (vI (x2 + i6)), some (vI (x3 + 1))] [] w4))))))) :
    z_Wp (z_C d) 1 k_X11_is Q 22 [some (vR 11 0), some (vI x1), some (vI x2), some (vI x3)] [] v := z_run [22] 400 h
set_option maxRecDepth 100000 in
set_option maxHeartbeats 2000000 in
theorem B_X11_lineOf_0 {d : Nat} {Q : z_RT} {v : z_V} {a1 : Int32} {a2 : Int32}
    (h : z_if (z_in (1193 + a1) 1218) (((¬ a2 = 0 → ((¬ a2 = 1 → ((¬ a2 = 2 → Q v (some (vI (i_rem (gI v 1200 0 (n_ (1193 + a1))) 100)))) ∧ (a2 = 2 → Q v (some (vI (i_rem ((gI v 1200 0 (n_ (1193 + a1))) / 100) 10)))))) ∧ (a2 = 1 → Q v (some (vI (i_rem ((gI v 1200 0 (n_ (1193 + a1))) / 1000) 3)))))) ∧ (a2 = 0 → Q v (some (vI ((gI v 1200 0 (n_ (1193 + a1))) / 3000))))))) :
    z_Wp (z_C d) 1 k_X11_lineOf Q 0 [some (vR 11 0), some (vI a1), some (vI a2), none] [] v := z_run [] 400 h
set_option maxRecDepth 100000 in
set_option maxHeartbeats 2000000 in
theorem B_X11_book_0 {d : Nat} {Q : z_RT} {v : z_V} {a1 : Int32} {a2 : Int32}
    (h : ((¬ a1 = (-1) → z_C d m_X11_isIn [vI a1, vI 0, vI ((gI v 1200 0 8) - 1)] v (fun w1 o2 => ∃ i3 : Int32, o2 = some (vI i3) ∧ ((i3 = 0 → Q w1 (some (vI (-2)))) ∧ (¬ i3 = 0 → z_C d m_X11_isIn [vI a2, vI 0, vI 3] w1 (fun w4 o5 => ∃ i6 : Int32, o5 = some (vI i6) ∧ ((i6 = 0 → Q w4 (some (vI (-2)))) ∧ (¬ i6 = 0 → z_C d m_X11_lineOf [vR 11 0, vI a1, vI a2] w4 (fun w7 o8 => ∃ i9 : Int32, o8 = some (vI i9) ∧ Q w7 (some (vI i9)))))))))) ∧ (a1 = (-1) → Q v (some (vI (gI v 1200 0 8)))))) :
    z_Wp (z_C d) 1 k_X11_book Q 0 [some (vR 11 0), some (vI a1), some (vI a2)] [] v := z_run [] 400 h
set_option maxRecDepth 100000 in
set_option maxHeartbeats 2000000 in
theorem B_X11_ledger_0 {d : Nat} {Q : z_RT} {v : z_V} {a1 : Int32}
    (h : z_C d m_X11_isIn [vI a1, vI 0, vI 2] v (fun w1 o2 => ∃ i3 : Int32, o2 = some (vI i3) ∧ ((¬ i3 = 0 → z_Wp (z_C d) 1 k_X11_ledger Q 16 [some (vR 11 0), some (vI a1), some (vI 0), some (vI 0)] [] w1) ∧ (i3 = 0 → Q w1 (some (vI (-2))))))) :
    z_Wp (z_C d) 1 k_X11_ledger Q 0 [some (vR 11 0), some (vI a1), none, none] [] v := z_run [16] 400 h
set_option maxRecDepth 100000 in
set_option maxHeartbeats 2000000 in
theorem B_X11_ledger_16 {d : Nat} {Q : z_RT} {v : z_V} {x1 : Int32} {x2 : Int32} {x3 : Int32}
    (h : (((gI v 1200 0 8) ≤ x3 → Q v (some (vI x2))) ∧ (¬ (gI v 1200 0 8) ≤ x3 → z_C d m_X11_lineOf [vR 11 0, vI x3, vI 1] v (fun w1 o2 => ∃ i3 : Int32, o2 = some (vI i3) ∧ ((¬ i3 = x1 → z_Wp (z_C d) 1 k_X11_ledger Q 16 [some (vR 11 0), some (vI x1), some (vI (x2 + 0)), some (vI (x3 + 1))] [] w1) ∧ (i3 = x1 → z_Wp (z_C d) 1 k_X11_ledger Q 16 [some (vR 11 0), some (vI x1), some (vI (x2 + 1)), some (vI (x3 + 1))] [] w1)))))) :
    z_Wp (z_C d) 1 k_X11_ledger Q 16 [some (vR 11 0), some (vI x1), some (vI x2), some (vI x3)] [] v := z_run [16] 400 h
set_option maxRecDepth 100000 in
set_option maxHeartbeats 2000000 in
theorem B_X11_dearest_0 {d : Nat} {Q : z_RT} {v : z_V}
    (h : z_Wp (z_C d) 1 k_X11_dearest Q 4 [some (vR 11 0), some (vI (-1)), some (vI 0)] [] v) :
    z_Wp (z_C d) 1 k_X11_dearest Q 0 [some (vR 11 0), none, none] [] v := z_run [4] 400 h
set_option maxRecDepth 100000 in
set_option maxHeartbeats 2000000 in
theorem B_X11_dearest_4 {d : Nat} {Q : z_RT} {v : z_V} {x1 : Int32} {x2 : Int32}
    (h : (((gI v 1200 0 0) ≤ x2 → Q v (some (vI x1))) ∧ (¬ (gI v 1200 0 0) ≤ x2 → z_C d m_X11_isOpen [vR 11 0, vI x2] v (fun w1 o2 => ∃ i3 : Int32, o2 = some (vI i3) ∧ ((i3 = 0 → z_Wp (z_C d) 1 k_X11_dearest Q 4 [some (vR 11 0), some (vI x1), some (vI (x2 + 1))] [] w1) ∧ (¬ i3 = 0 → ((x1 = (-1) → z_Wp (z_C d) 1 k_X11_dearest Q 4 [some (vR 11 0), some (vI x2), some (vI (x2 + 1))] [] w1) ∧ (¬ x1 = (-1) → z_C d m_X11_fareOf [vR 11 0, vI x2] w1 (fun w4 o5 => ∃ i6 : Int32, o5 = some (vI i6) ∧ z_C d m_X11_fareOf [vR 11 0, vI x1] w4 (fun w7 o8 => ∃ i9 : Int32, o8 = some (vI i9) ∧ ((i6 ≤ i9 → z_Wp (z_C d) 1 k_X11_dearest Q 4 [some (vR 11 0), some (vI x1), some (vI (x2 + 1))] [] w7) ∧ (¬ i6 ≤ i9 → z_Wp (z_C d) 1 k_X11_dearest Q 4 [some (vR 11 0), some (vI x2), some (vI (x2 + 1))] [] w7)))))))))))) :
    z_Wp (z_C d) 1 k_X11_dearest Q 4 [some (vR 11 0), some (vI x1), some (vI x2)] [] v := z_run [4] 400 h
set_option maxRecDepth 100000 in
set_option maxHeartbeats 2000000 in
theorem B_X11_highest_0 {d : Nat} {Q : z_RT} {v : z_V}
    (h : z_Wp (z_C d) 1 k_X11_highest Q 4 [some (vR 11 0), some (vI 0), some (vI 1)] [] v) :
    z_Wp (z_C d) 1 k_X11_highest Q 0 [some (vR 11 0), none, none] [] v := z_run [4] 400 h
set_option maxRecDepth 100000 in
set_option maxHeartbeats 2000000 in
theorem B_X11_highest_4 {d : Nat} {Q : z_RT} {v : z_V} {x1 : Int32} {x2 : Int32}
    (h : ((7 ≤ x2 → Q v (some (vI x1))) ∧ (¬ 7 ≤ x2 → z_if (z_in (10 + x2) 1218) (z_if (z_in (10 + x1) 1218) ((((gI v 1200 0 (n_ (10 + x2))) ≤ (gI v 1200 0 (n_ (10 + x1))) → z_Wp (z_C d) 1 k_X11_highest Q 4 [some (vR 11 0), some (vI x1), some (vI (x2 + 1))] [] v) ∧ (¬ (gI v 1200 0 (n_ (10 + x2))) ≤ (gI v 1200 0 (n_ (10 + x1))) → z_Wp (z_C d) 1 k_X11_highest Q 4 [some (vR 11 0), some (vI x2), some (vI (x2 + 1))] [] v))))))) :
    z_Wp (z_C d) 1 k_X11_highest Q 4 [some (vR 11 0), some (vI x1), some (vI x2)] [] v := z_run [4] 400 h
set_option maxRecDepth 100000 in
set_option maxHeartbeats 2000000 in
theorem B_X11_foretold_0 {d : Nat} {Q : z_RT} {v : z_V} {a1 : Int32}
    (h : z_C d m_X11_isIn [vI a1, vI 1, vI 60] v (fun w1 o2 => ∃ i3 : Int32, o2 = some (vI i3) ∧ ((¬ i3 = 0 → z_Wp (z_C d) 1 k_X11_foretold Q 14 [some (vR 11 0), some (vI a1), some (vI 5), none] [] w1) ∧ (i3 = 0 → Q w1 (some (vI (-1))))))) :
    z_Wp (z_C d) 1 k_X11_foretold Q 0 [some (vR 11 0), some (vI a1), none, none] [] v := z_run [14, 45, 82] 400 h
set_option maxRecDepth 100000 in
set_option maxHeartbeats 2000000 in
theorem B_X11_foretold_14 {d : Nat} {Q : z_RT} {v : z_V} {x1 : Int32} {x2 : Int32} {u3 : Option z_AV}
    (h : ((17 ≤ x2 → z_Wp (z_C d) 1 k_X11_foretold Q 45 [some (vR 11 0), some (vI x1), some (vI 0), none] [] (pI v 11 0 23 0)) ∧ (¬ 17 ≤ x2 → z_if (z_in x2 1218) (z_if (z_in x2 17) (z_Wp (z_C d) 1 k_X11_foretold Q 14 [some (vR 11 0), some (vI x1), some (vI (x2 + 1)), none] [] (pI v 1225 0 (n_ x2) (gI v 1200 0 (n_ x2)))))))) :
    z_Wp (z_C d) 1 k_X11_foretold Q 14 [some (vR 11 0), some (vI x1), some (vI x2), u3] [] v := z_run [14, 45, 82] 400 h
set_option maxRecDepth 100000 in
set_option maxHeartbeats 2000000 in
theorem B_X11_foretold_45 {d : Nat} {Q : z_RT} {v : z_V} {x1 : Int32} {x2 : Int32} {u3 : Option z_AV}
    (h : ((x1 ≤ x2 → z_Wp (z_C d) 1 k_X11_foretold Q 82 [some (vR 11 0), some (vI x1), some (vI (gI v 1200 0 7)), some (vI 5)] [] v) ∧ (¬ x1 ≤ x2 → ((9999 ≤ (gI v 1200 0 5) → z_Wp (z_C d) 1 k_X11_foretold Q 45 [some (vR 11 0), some (vI x1), some (vI (x2 + 1)), none] [] v) ∧ (¬ 9999 ≤ (gI v 1200 0 5) → z_C d m_X11_pass [vR 11 0] v (fun w1 o2 => o2 = none ∧ z_Wp (z_C d) 1 k_X11_foretold Q 45 [some (vR 11 0), some (vI x1), some (vI (x2 + 1)), none] [] w1)))))) :
    z_Wp (z_C d) 1 k_X11_foretold Q 45 [some (vR 11 0), some (vI x1), some (vI x2), u3] [] v := z_run [14, 45, 82] 400 h
set_option maxRecDepth 100000 in
set_option maxHeartbeats 2000000 in
theorem B_X11_foretold_82 {d : Nat} {Q : z_RT} {v : z_V} {u1 : Option z_AV} {x2 : Int32} {x3 : Int32}
    (h : ((17 ≤ x3 → Q (pI v 11 0 23 1) (some (vI x2))) ∧ (¬ 17 ≤ x3 → z_if (z_in x3 17) (z_if (z_in x3 1218) (z_Wp (z_C d) 1 k_X11_foretold Q 82 [some (vR 11 0), none, some (vI x2), some (vI (x3 + 1))] [] (pI v 1200 0 (n_ x3) (gI v 1225 0 (n_ x3)))))))) :
    z_Wp (z_C d) 1 k_X11_foretold Q 82 [some (vR 11 0), u1, some (vI x2), some (vI x3)] [] v := z_run [14, 45, 82] 400 h
set_option maxRecDepth 100000 in
set_option maxHeartbeats 2000000 in
theorem B_X11_twins_0 {d : Nat} {Q : z_RT} {v : z_V}
    (h : z_Wp (z_C d) 1 k_X11_twins Q 2 [some (vR 11 0), some (vI 0), none] [] v) :
    z_Wp (z_C d) 1 k_X11_twins Q 0 [some (vR 11 0), none, none] [] v := z_run [2, 16] 400 h
set_option maxRecDepth 100000 in
set_option maxHeartbeats 2000000 in
theorem B_X11_twins_2 {d : Nat} {Q : z_RT} {v : z_V} {x1 : Int32} {u2 : Option z_AV}
    (h : (((gI v 1200 0 0) ≤ x1 → Q v (some (vI (-1)))) ∧ (¬ (gI v 1200 0 0) ≤ x1 → z_Wp (z_C d) 1 k_X11_twins Q 16 [some (vR 11 0), some (vI x1), some (vI (x1 + 1))] [] v))) :
    z_Wp (z_C d) 1 k_X11_twins Q 2 [some (vR 11 0), some (vI x1), u2] [] v := z_run [2, 16] 400 h
set_option maxRecDepth 100000 in
set_option maxHeartbeats 2000000 in
theorem B_X11_twins_16 {d : Nat} {Q : z_RT} {v : z_V} {x1 : Int32} {x2 : Int32}
    (h : (((gI v 1200 0 0) ≤ x2 → z_Wp (z_C d) 1 k_X11_twins Q 2 [some (vR 11 0), some (vI (x1 + 1)), some (vI x2)] [] v) ∧ (¬ (gI v 1200 0 0) ≤ x2 → z_C d m_X11_isOpen [vR 11 0, vI x1] v (fun w1 o2 => ∃ i3 : Int32, o2 = some (vI i3) ∧ ((i3 = 0 → z_Wp (z_C d) 1 k_X11_twins Q 16 [some (vR 11 0), some (vI x1), some (vI (x2 + 1))] [] w1) ∧ (¬ i3 = 0 → z_C d m_X11_isOpen [vR 11 0, vI x2] w1 (fun w4 o5 => ∃ i6 : Int32, o5 = some (vI i6) ∧ ((i6 = 0 → z_Wp (z_C d) 1 k_X11_twins Q 16 [some (vR 11 0), some (vI x1), some (vI (x2 + 1))] [] w4) ∧ (¬ i6 = 0 → z_C d m_X11_fareOf [vR 11 0, vI x1] w4 (fun w7 o8 => ∃ i9 : Int32, o8 = some (vI i9) ∧ z_C d m_X11_fareOf [vR 11 0, vI x2] w7 (fun w10 o11 => ∃ i12 : Int32, o11 = some (vI i12) ∧ ((¬ i9 = i12 → z_Wp (z_C d) 1 k_X11_twins Q 16 [some (vR 11 0), some (vI x1), some (vI (x2 + 1))] [] w10) ∧ (i9 = i12 → Q w10 (some (vI ((10 * x1) + x2)))))))))))))))) :
    z_Wp (z_C d) 1 k_X11_twins Q 16 [some (vR 11 0), some (vI x1), some (vI x2)] [] v := z_run [2, 16] 400 h
set_option maxRecDepth 100000 in
set_option maxHeartbeats 2000000 in
theorem B_X11_isFair_0 {d : Nat} {Q : z_RT} {v : z_V}
    (h : z_Wp (z_C d) 4 k_X11_isFair Q 2 [some (vR 11 0), some (vI 0)] [] v) :
    z_Wp (z_C d) 4 k_X11_isFair Q 0 [some (vR 11 0), none] [] v := z_run [2] 400 h
set_option maxRecDepth 100000 in
set_option maxHeartbeats 2000000 in
theorem B_X11_isFair_2 {d : Nat} {Q : z_RT} {v : z_V} {x1 : Int32}
    (h : (((gI v 1200 0 0) ≤ x1 → z_C d m_X11_twins [vR 11 0] v (fun w1 o2 => ∃ i3 : Int32, o2 = some (vI i3) ∧ ((¬ i3 = (-1) → Q w1 (some (vI 0))) ∧ (i3 = (-1) → Q w1 (some (vI 1)))))) ∧ (¬ (gI v 1200 0 0) ≤ x1 → z_C d m_X11_isOpen [vR 11 0, vI x1] v (fun w4 o5 => ∃ i6 : Int32, o5 = some (vI i6) ∧ ((i6 = 0 → z_Wp (z_C d) 4 k_X11_isFair Q 2 [some (vR 11 0), some (vI (x1 + 1))] [] w4) ∧ (¬ i6 = 0 → z_C d m_X11_fareOf [vR 11 0, vI x1] w4 (fun w7 o8 => ∃ i9 : Int32, o8 = some (vI i9) ∧ ((¬ i9 = 0 → z_Wp (z_C d) 4 k_X11_isFair Q 2 [some (vR 11 0), some (vI (x1 + 1))] [] w7) ∧ (i9 = 0 → Q w7 (some (vI 0))))))))))) :
    z_Wp (z_C d) 4 k_X11_isFair Q 2 [some (vR 11 0), some (vI x1)] [] v := z_run [2] 400 h
set_option maxRecDepth 100000 in
set_option maxHeartbeats 2000000 in
theorem B_X11_fair_0 {d : Nat} {Q : z_RT} {v : z_V}
    (h : z_C d m_X11_isFair [vR 11 0] v (fun w1 o2 => ∃ i3 : Int32, o2 = some (vI i3) ∧ z_if (z_01 i3) (Q w1 (some (vI i3))))) :
    z_Wp (z_C d) 4 k_X11_fair Q 0 [some (vR 11 0)] [] v := z_run [] 400 h
set_option maxRecDepth 100000 in
set_option maxHeartbeats 2000000 in
theorem B_X11_left_0 {d : Nat} {Q : z_RT} {v : z_V}
    (h : ((¬ (gI v 1200 0 9) = 0 → z_C d m_X11_openMany [vR 11 0] v (fun w1 o2 => ∃ i3 : Int32, o2 = some (vI i3) ∧ z_Wp (z_C d) 1 k_X11_left Q 23 [some (vR 11 0), some (vI ((i_shl 1 i3) - 1)), some (vI 0)] [] w1)) ∧ ((gI v 1200 0 9) = 0 → Q v (some (vI (-1)))))) :
    z_Wp (z_C d) 1 k_X11_left Q 0 [some (vR 11 0), none, none] [] v := z_run [23] 400 h
set_option maxRecDepth 100000 in
set_option maxHeartbeats 2000000 in
theorem B_X11_left_23 {d : Nat} {Q : z_RT} {v : z_V} {x1 : Int32} {x2 : Int32}
    (h : (((gI v 1200 0 0) ≤ x2 → Q v (some (vI x1))) ∧ (¬ (gI v 1200 0 0) ≤ x2 → z_C d m_X11_isOpen [vR 11 0, vI x2] v (fun w1 o2 => ∃ i3 : Int32, o2 = some (vI i3) ∧ ((i3 = 0 → z_Wp (z_C d) 1 k_X11_left Q 23 [some (vR 11 0), some (vI x1), some (vI (x2 + 1))] [] w1) ∧ (¬ i3 = 0 → z_C d m_X11_fareOf [vR 11 0, vI x2] w1 (fun w4 o5 => ∃ i6 : Int32, o5 = some (vI i6) ∧ z_C d m_X11_isIn [vI i6, vI 1, vI 10] w4 (fun w7 o8 => ∃ i9 : Int32, o8 = some (vI i9) ∧ ((i9 = 0 → z_Wp (z_C d) 1 k_X11_left Q 23 [some (vR 11 0), some (vI x1), some (vI (x2 + 1))] [] w7) ∧ (¬ i9 = 0 → z_C d m_X11_fareOf [vR 11 0, vI x2] w7 (fun w10 o11 => ∃ i12 : Int32, o11 = some (vI i12) ∧ z_Wp (z_C d) 1 k_X11_left Q 23 [some (vR 11 0), some (vI (x1 &&& ((i_shl 1 (i12 - 1)) ^^^ (-1)))), some (vI (x2 + 1))] [] w10))))))))))) :
    z_Wp (z_C d) 1 k_X11_left Q 23 [some (vR 11 0), some (vI x1), some (vI x2)] [] v := z_run [23] 400 h
set_option maxRecDepth 100000 in
set_option maxHeartbeats 2000000 in
theorem B_X11_twin_0 {d : Nat} {Q : z_RT} {v : z_V} {a1 : Int32}
    (h : z_C d m_X11_twins [vR 11 0] v (fun w1 o2 => ∃ i3 : Int32, o2 = some (vI i3) ∧ ((¬ i3 = (-1) → ((a1 = 0 → Q w1 (some (vI (i3 / 10)))) ∧ (¬ a1 = 0 → Q w1 (some (vI (i_rem i3 10)))))) ∧ (i3 = (-1) → Q w1 (some (vI (-1))))))) :
    z_Wp (z_C d) 1 k_X11_twin Q 0 [some (vR 11 0), some (vI a1), none] [] v := z_run [] 400 h
set_option maxRecDepth 100000 in
set_option maxHeartbeats 2000000 in
theorem B_X11_layWho_0 {d : Nat} {Q : z_RT} {v : z_V}
    (h : z_Wp (z_C d) 0 k_X11_layWho Q 7 [some (vR 11 0), some (vI 0)] [] (pI v 11 0 28 0)) :
    z_Wp (z_C d) 0 k_X11_layWho Q 0 [some (vR 11 0), none] [] v := z_run [7] 400 h
set_option maxRecDepth 100000 in
set_option maxHeartbeats 2000000 in
theorem B_X11_layWho_7 {d : Nat} {Q : z_RT} {v : z_V} {x1 : Int32}
    (h : ((7 ≤ x1 → Q v none) ∧ (¬ 7 ≤ x1 → z_if (z_in x1 7) (z_C d m_X11_besideOf [vR 11 0, vI x1] (pI v 1226 0 (n_ x1) 0) (fun w1 o2 => ∃ i3 : Int32, o2 = some (vI i3) ∧ ((¬ i3 = 0 → z_if (z_in (gI w1 11 0 28) 7) (z_Wp (z_C d) 0 k_X11_layWho Q 7 [some (vR 11 0), some (vI (x1 + 1))] [] (pI (pI w1 1227 0 (n_ (gI w1 11 0 28)) x1) 11 0 28 ((gI w1 11 0 28) + 1)))) ∧ (i3 = 0 → z_Wp (z_C d) 0 k_X11_layWho Q 7 [some (vR 11 0), some (vI (x1 + 1))] [] w1))))))) :
    z_Wp (z_C d) 0 k_X11_layWho Q 7 [some (vR 11 0), some (vI x1)] [] v := z_run [7] 400 h
set_option maxRecDepth 100000 in
set_option maxHeartbeats 2000000 in
theorem B_X11_areUnlike_0 {d : Nat} {Q : z_RT} {v : z_V} {a1 : Int32}
    (h : z_Wp (z_C d) 4 k_X11_areUnlike Q 4 [some (vR 11 0), some (vI a1), some (vI 0), some (vI 0), none] [] v) :
    z_Wp (z_C d) 4 k_X11_areUnlike Q 0 [some (vR 11 0), some (vI a1), none, none, none] [] v := z_run [4] 400 h
set_option maxRecDepth 100000 in
set_option maxHeartbeats 2000000 in
theorem B_X11_areUnlike_4 {d : Nat} {Q : z_RT} {v : z_V} {x1 : Int32} {x2 : Int32} {x3 : Int32} {u4 : Option z_AV}
    (h : (((gI v 1200 0 0) ≤ x3 → Q v (some (vI 1))) ∧ (¬ (gI v 1200 0 0) ≤ x3 → z_C d m_X11_isOpen [vR 11 0, vI x3] v (fun w1 o2 => ∃ i3 : Int32, o2 = some (vI i3) ∧ ((i3 = 0 → z_Wp (z_C d) 4 k_X11_areUnlike Q 4 [some (vR 11 0), some (vI x1), some (vI x2), some (vI (x3 + 1)), none] [] w1) ∧ (¬ i3 = 0 → z_C d m_X11_one [vR 11 0, vI x3] w1 (fun w4 o5 => ∃ i6 : Int32, o5 = some (vI i6) ∧ z_C d m_X11_isLaid [vR 11 0, vI i6, vI x1] w4 (fun w7 o8 => ∃ i9 : Int32, o8 = some (vI i9) ∧ ((i9 = 0 → z_Wp (z_C d) 4 k_X11_areUnlike Q 4 [some (vR 11 0), some (vI x1), some (vI x2), some (vI (x3 + 1)), none] [] w7) ∧ (¬ i9 = 0 → z_C d m_X11_other [vR 11 0, vI x3] w7 (fun w10 o11 => ∃ i12 : Int32, o11 = some (vI i12) ∧ z_C d m_X11_isLaid [vR 11 0, vI i12, vI x1] w10 (fun w13 o14 => ∃ i15 : Int32, o14 = some (vI i15) ∧ ((¬ i15 = 0 → z_C d m_X11_one [vR 11 0, vI x3] w13 (fun w16 o17 => ∃ i18 : Int32, o17 = some (vI i18) ∧ z_if (z_in i18 7) (z_C d m_X11_other [vR 11 0, vI x3] w16 (fun w19 o20 => ∃ i21 : Int32, o20 = some (vI i21) ∧ z_if (z_in i21 7) (z_C d m_X11_apartBy [vI (gI w16 1226 0 (n_ i18)), vI (gI w19 1226 0 (n_ i21))] w19 (fun w22 o23 => ∃ i24 : Int32, o23 = some (vI i24) ∧ ((31 ≤ i24 → z_Wp (z_C d) 4 k_X11_areUnlike Q 4 [some (vR 11 0), some (vI x1), some (vI (x2 ||| (i_shl 1 i24))), some (vI (x3 + 1)), some (vI i24)] [] w22) ∧ (¬ 31 ≤ i24 → z_C d m_X11_has [vI x2, vI i24] w22 (fun w25 o26 => ∃ i27 : Int32, o26 = some (vI i27) ∧ ((i27 = 0 → z_Wp (z_C d) 4 k_X11_areUnlike Q 4 [some (vR 11 0), some (vI x1), some (vI (x2 ||| (i_shl 1 i24))), some (vI (x3 + 1)), some (vI i24)] [] w25) ∧ (¬ i27 = 0 → Q w25 (some (vI 0))))))))))))) ∧ (i15 = 0 → z_Wp (z_C d) 4 k_X11_areUnlike Q 4 [some (vR 11 0), some (vI x1), some (vI x2), some (vI (x3 + 1)), none] [] w13)))))))))))))) :
    z_Wp (z_C d) 4 k_X11_areUnlike Q 4 [some (vR 11 0), some (vI x1), some (vI x2), some (vI x3), u4] [] v := z_run [4] 400 h
set_option maxRecDepth 100000 in
set_option maxHeartbeats 2000000 in
theorem B_X11_isLaid_0 {d : Nat} {Q : z_RT} {v : z_V} {a1 : Int32} {a2 : Int32}
    (h : z_Wp (z_C d) 4 k_X11_isLaid Q 2 [some (vR 11 0), some (vI a1), some (vI a2), some (vI 0)] [] v) :
    z_Wp (z_C d) 4 k_X11_isLaid Q 0 [some (vR 11 0), some (vI a1), some (vI a2), none] [] v := z_run [2] 400 h
set_option maxRecDepth 100000 in
set_option maxHeartbeats 2000000 in
theorem B_X11_isLaid_2 {d : Nat} {Q : z_RT} {v : z_V} {x1 : Int32} {x2 : Int32} {x3 : Int32}
    (h : ((x2 ≤ x3 → Q v (some (vI 0))) ∧ (¬ x2 ≤ x3 → z_if (z_in x3 7) (((¬ (gI v 1227 0 (n_ x3)) = x1 → z_Wp (z_C d) 4 k_X11_isLaid Q 2 [some (vR 11 0), some (vI x1), some (vI x2), some (vI (x3 + 1))] [] v) ∧ ((gI v 1227 0 (n_ x3)) = x1 → Q v (some (vI 1)))))))) :
    z_Wp (z_C d) 4 k_X11_isLaid Q 2 [some (vR 11 0), some (vI x1), some (vI x2), some (vI x3)] [] v := z_run [2] 400 h
set_option maxRecDepth 100000 in
set_option maxHeartbeats 2000000 in
theorem B_X11_areOverTwo_0 {d : Nat} {Q : z_RT} {v : z_V} {a1 : Int32} {a2 : Int32}
    (h : z_C d m_X11_areBeside [vR 11 0, vI a1, vI a2] v (fun w1 o2 => ∃ i3 : Int32, o2 = some (vI i3) ∧ ((¬ i3 = 0 → Q w1 (some (vI 0))) ∧ (i3 = 0 → z_C d m_X11_besideOf [vR 11 0, vI a1] w1 (fun w4 o5 => ∃ i6 : Int32, o5 = some (vI i6) ∧ z_C d m_X11_besideOf [vR 11 0, vI a2] w4 (fun w7 o8 => ∃ i9 : Int32, o8 = some (vI i9) ∧ (((i6 &&& i9) = 0 → Q w7 (some (vI 0))) ∧ (¬ (i6 &&& i9) = 0 → Q w7 (some (vI 1)))))))))) :
    z_Wp (z_C d) 4 k_X11_areOverTwo Q 0 [some (vR 11 0), some (vI a1), some (vI a2)] [] v := z_run [] 400 h
set_option maxRecDepth 100000 in
set_option maxHeartbeats 2000000 in
theorem B_X11_doFit_0 {d : Nat} {Q : z_RT} {v : z_V} {a1 : Int32} {a2 : Int32} {a3 : Int32}
    (h : z_if (z_in a2 7) (z_if (z_in a3 7) (z_C d m_X11_apartBy [vI (gI v 1226 0 (n_ a2)), vI (gI v 1226 0 (n_ a3))] v (fun w1 o2 => ∃ i3 : Int32, o2 = some (vI i3) ∧ ((¬ a1 = 2 → ((i3 ≤ 0 → Q w1 (some (vI 0))) ∧ (¬ i3 ≤ 0 → ((¬ a1 = 3 → Q w1 (some (vI 1))) ∧ (a1 = 3 → z_C d m_X11_areBeside [vR 11 0, vI a2, vI a3] w1 (fun w4 o5 => ∃ i6 : Int32, o5 = some (vI i6) ∧ ((i6 = 0 → Q w4 (some (vI 1))) ∧ (¬ i6 = 0 → (((gI w4 11 0 31) < i3 → Q w4 (some (vI 0))) ∧ (¬ (gI w4 11 0 31) < i3 → Q w4 (some (vI 1)))))))))))) ∧ (a1 = 2 → z_C d m_X11_areBeside [vR 11 0, vI a2, vI a3] w1 (fun w7 o8 => ∃ i9 : Int32, o8 = some (vI i9) ∧ ((i9 = 0 → z_C d m_X11_areOverTwo [vR 11 0, vI a2, vI a3] w7 (fun w10 o11 => ∃ i12 : Int32, o11 = some (vI i12) ∧ ((i12 = 0 → Q w10 (some (vI 1))) ∧ (¬ i12 = 0 → ((i3 < (gI w10 11 0 30) → Q w10 (some (vI 0))) ∧ (¬ i3 < (gI w10 11 0 30) → Q w10 (some (vI 1)))))))) ∧ (¬ i9 = 0 → ((i3 < (gI w7 11 0 29) → Q w7 (some (vI 0))) ∧ (¬ i3 < (gI w7 11 0 29) → z_C d m_X11_areOverTwo [vR 11 0, vI a2, vI a3] w7 (fun w13 o14 => ∃ i15 : Int32, o14 = some (vI i15) ∧ ((i15 = 0 → Q w13 (some (vI 1))) ∧ (¬ i15 = 0 → ((i3 < (gI w13 11 0 30) → Q w13 (some (vI 0))) ∧ (¬ i3 < (gI w13 11 0 30) → Q w13 (some (vI 1)))))))))))))))))) :
    z_Wp (z_C d) 4 k_X11_doFit Q 0 [some (vR 11 0), some (vI a1), some (vI a2), some (vI a3), none] [] v := z_run [] 400 h
set_option maxRecDepth 100000 in
set_option maxHeartbeats 2000000 in
theorem B_X11_canLabel_0 {d : Nat} {Q : z_RT} {v : z_V} {a1 : Int32} {a2 : Int32}
    (h : z_Wp (z_C d) 4 k_X11_canLabel Q 2 [some (vR 11 0), some (vI a1), some (vI a2), some (vI 0)] [] v) :
    z_Wp (z_C d) 4 k_X11_canLabel Q 0 [some (vR 11 0), some (vI a1), some (vI a2), none] [] v := z_run [2] 400 h
set_option maxRecDepth 100000 in
set_option maxHeartbeats 2000000 in
theorem B_X11_canLabel_2 {d : Nat} {Q : z_RT} {v : z_V} {x1 : Int32} {x2 : Int32} {x3 : Int32}
    (h : (((x2 - 1) ≤ x3 → ((1 < x1 → Q v (some (vI 1))) ∧ (¬ 1 < x1 → z_C d m_X11_areUnlike [vR 11 0, vI x2] v (fun w1 o2 => ∃ i3 : Int32, o2 = some (vI i3) ∧ ((i3 = 0 → Q w1 (some (vI 0))) ∧ (¬ i3 = 0 → Q w1 (some (vI 1)))))))) ∧ (¬ (x2 - 1) ≤ x3 → z_if (z_in x3 7) (z_if (z_in (x2 - 1) 7) (z_C d m_X11_doFit [vR 11 0, vI x1, vI (gI v 1227 0 (n_ x3)), vI (gI v 1227 0 (n_ (x2 - 1)))] v (fun w4 o5 => ∃ i6 : Int32, o5 = some (vI i6) ∧ ((¬ i6 = 0 → z_Wp (z_C d) 4 k_X11_canLabel Q 2 [some (vR 11 0), some (vI x1), some (vI x2), some (vI (x3 + 1))] [] w4) ∧ (i6 = 0 → Q w4 (some (vI 0)))))))))) :
    z_Wp (z_C d) 4 k_X11_canLabel Q 2 [some (vR 11 0), some (vI x1), some (vI x2), some (vI x3)] [] v := z_run [2] 400 h
set_option maxRecDepth 100000 in
set_option maxHeartbeats 2000000 in
theorem B_X11_labelled_0 {d : Nat} {Q : z_RT} {v : z_V} {a1 : Int32} {a2 : Int32} {a3 : Int32}
    (h : z_C d m_X11_layWho [vR 11 0] v (fun w1 o2 => o2 = none ∧ ((¬ (gI w1 11 0 28) = 0 → z_if (z_in (gI w1 1227 0 0) 7) (z_Wp (z_C d) 2 k_X11_labelled Q 31 [some (vR 11 0), some (vI a1), some (vI a2), some (vI a3), some (vL 0), none, some (vI 0)] [] (pI w1 1226 0 (n_ (gI w1 1227 0 0)) (-1)))) ∧ ((gI w1 11 0 28) = 0 → Q w1 (some (vL 1)))))) :
    z_Wp (z_C d) 2 k_X11_labelled Q 0 [some (vR 11 0), some (vI a1), some (vI a2), some (vI a3), none, none, none] [] v := z_run [31] 400 h
set_option maxRecDepth 100000 in
set_option maxHeartbeats 2000000 in
theorem B_X11_labelled_31 {d : Nat} {Q : z_RT} {v : z_V} {x1 : Int32} {x2 : Int32} {x3 : Int32} {y4 : Int64} {x6 : Int32}
    (h : ((x6 < 0 → Q v (some (vL y4))) ∧ (¬ x6 < 0 → z_if (z_in x6 7) (z_if (z_in (gI v 1227 0 (n_ x6)) 7) (z_if (z_in (gI v 1227 0 (n_ x6)) 7) (z_if (z_in x6 7) (z_if (z_in (gI v 1227 0 (n_ x6)) 7) ((((gI (pI v 1226 0 (n_ (gI v 1227 0 (n_ x6))) ((gI v 1226 0 (n_ (gI v 1227 0 (n_ x6)))) + 1)) 1226 0 (n_ (gI v 1227 0 (n_ x6)))) ≤ x2 → z_C d m_X11_canLabel [vR 11 0, vI x1, vI (x6 + 1)] (pI v 1226 0 (n_ (gI v 1227 0 (n_ x6))) ((gI v 1226 0 (n_ (gI v 1227 0 (n_ x6)))) + 1)) (fun w1 o2 => ∃ i3 : Int32, o2 = some (vI i3) ∧ ((¬ i3 = 0 → ((¬ x6 = ((gI w1 11 0 28) - 1) → z_if (z_in (x6 + 1) 7) (z_if (z_in (gI w1 1227 0 (n_ (x6 + 1))) 7) (z_Wp (z_C d) 2 k_X11_labelled Q 31 [some (vR 11 0), some (vI x1), some (vI x2), some (vI x3), some (vL y4), none, some (vI (x6 + 1))] [] (pI w1 1226 0 (n_ (gI w1 1227 0 (n_ (x6 + 1)))) (-1))))) ∧ (x6 = ((gI w1 11 0 28) - 1) → ((¬ x3 = 0 → z_Wp (z_C d) 2 k_X11_labelled Q 31 [some (vR 11 0), some (vI x1), some (vI x2), some (vI x3), some (vL (y4 + 1)), none, some (vI x6)] [] w1) ∧ (x3 = 0 → Q w1 (some (vL (y4 + 1)))))))) ∧ (i3 = 0 → z_Wp (z_C d) 2 k_X11_labelled Q 31 [some (vR 11 0), some (vI x1), some (vI x2), some (vI x3), some (vL y4), none, some (vI x6)] [] w1)))) ∧ (¬ (gI (pI v 1226 0 (n_ (gI v 1227 0 (n_ x6))) ((gI v 1226 0 (n_ (gI v 1227 0 (n_ x6)))) + 1)) 1226 0 (n_ (gI v 1227 0 (n_ x6)))) ≤ x2 → z_Wp (z_C d) 2 k_X11_labelled Q 31 [some (vR 11 0), some (vI x1), some (vI x2), some (vI x3), some (vL y4), none, some (vI (x6 + (-1)))] [] (pI v 1226 0 (n_ (gI v 1227 0 (n_ x6))) ((gI v 1226 0 (n_ (gI v 1227 0 (n_ x6)))) + 1)))))))))))) :
    z_Wp (z_C d) 2 k_X11_labelled Q 31 [some (vR 11 0), some (vI x1), some (vI x2), some (vI x3), some (vL y4), none, some (vI x6)] [] v := z_run [31] 400 h
set_option maxRecDepth 100000 in
set_option maxHeartbeats 2000000 in
theorem B_X11_whole_0 {d : Nat} {Q : z_RT} {v : z_V} {a1 : Int32}
    (h : z_C d m_X11_isHalt [vI a1] v (fun w1 o2 => ∃ i3 : Int32, o2 = some (vI i3) ∧ ((i3 = 0 → Q w1 (some (vI (-1)))) ∧ (¬ i3 = 0 → z_C d m_X11_openMany [vR 11 0] w1 (fun w4 o5 => ∃ i6 : Int32, o5 = some (vI i6) ∧ z_C d m_X11_labelled [vR 11 0, vI 0, vI i6, vI 0] w4 (fun w7 o8 => ∃ l9 : Int64, o8 = some (vL l9) ∧ (((lg_cmp l9 0) ≤ 0 → Q w7 (some (vI (-1)))) ∧ (¬ (lg_cmp l9 0) ≤ 0 → z_if (z_in a1 7) (Q w7 (some (vI (gI w7 1226 0 (n_ a1))))))))))))) :
    z_Wp (z_C d) 1 k_X11_whole Q 0 [some (vR 11 0), some (vI a1)] [] v := z_run [] 400 h
set_option maxRecDepth 100000 in
set_option maxHeartbeats 2000000 in
theorem B_X11_wholes_0 {d : Nat} {Q : z_RT} {v : z_V}
    (h : z_C d m_X11_openMany [vR 11 0] v (fun w1 o2 => ∃ i3 : Int32, o2 = some (vI i3) ∧ z_C d m_X11_labelled [vR 11 0, vI 0, vI i3, vI 1] w1 (fun w4 o5 => ∃ l6 : Int64, o5 = some (vL l6) ∧ Q w4 (some (vL l6))))) :
    z_Wp (z_C d) 2 k_X11_wholes Q 0 [some (vR 11 0)] [] v := z_run [] 400 h
set_option maxRecDepth 100000 in
set_option maxHeartbeats 2000000 in
theorem B_X11_span_0 {d : Nat} {Q : z_RT} {v : z_V} {a1 : Int32}
    (h : ((a1 = (-1) → z_Wp (z_C d) 1 k_X11_span Q 16 [some (vR 11 0), some (vI a1), some (vI 0)] [] v) ∧ (¬ a1 = (-1) → z_C d m_X11_isHalt [vI a1] v (fun w1 o2 => ∃ i3 : Int32, o2 = some (vI i3) ∧ ((¬ i3 = 0 → z_Wp (z_C d) 1 k_X11_span Q 16 [some (vR 11 0), some (vI a1), some (vI 0)] [] w1) ∧ (i3 = 0 → Q w1 (some (vI (-1))))))))) :
    z_Wp (z_C d) 1 k_X11_span Q 0 [some (vR 11 0), some (vI a1), none] [] v := z_run [16] 400 h
set_option maxRecDepth 100000 in
set_option maxHeartbeats 2000000 in
theorem B_X11_span_16 {d : Nat} {Q : z_RT} {v : z_V} {x1 : Int32} {x2 : Int32}
    (h : z_C d m_X11_labelled [vR 11 0, vI 1, vI x2, vI 0] v (fun w1 o2 => ∃ l3 : Int64, o2 = some (vL l3) ∧ ((¬ (lg_cmp l3 0) = 0 → ((¬ x1 = (-1) → z_if (z_in x1 7) (Q w1 (some (vI (gI w1 1226 0 (n_ x1)))))) ∧ (x1 = (-1) → Q w1 (some (vI x2))))) ∧ ((lg_cmp l3 0) = 0 → z_Wp (z_C d) 1 k_X11_span Q 16 [some (vR 11 0), some (vI x1), some (vI (x2 + 1))] [] w1)))) :
    z_Wp (z_C d) 1 k_X11_span Q 16 [some (vR 11 0), some (vI x1), some (vI x2)] [] v := z_run [16] 400 h
set_option maxRecDepth 100000 in
set_option maxHeartbeats 2000000 in
theorem B_X11_apart_0 {d : Nat} {Q : z_RT} {v : z_V} {a1 : Int32} {a2 : Int32} {a3 : Int32}
    (h : z_C d m_X11_isIn [vI a1, vI 0, vI 3] v (fun w1 o2 => ∃ i3 : Int32, o2 = some (vI i3) ∧ ((i3 = 0 → Q w1 (some (vI (-1)))) ∧ (¬ i3 = 0 → z_C d m_X11_isIn [vI a2, vI 0, vI 3] w1 (fun w4 o5 => ∃ i6 : Int32, o5 = some (vI i6) ∧ ((i6 = 0 → Q w4 (some (vI (-1)))) ∧ (¬ i6 = 0 → ((a3 = (-1) → z_Wp (z_C d) 1 k_X11_apart Q 45 [some (vR 11 0), some (vI a1), some (vI a2), some (vI a3), some (vI 0)] [] (pI (pI w4 11 0 29 a1) 11 0 30 a2)) ∧ (¬ a3 = (-1) → z_C d m_X11_isHalt [vI a3] w4 (fun w7 o8 => ∃ i9 : Int32, o8 = some (vI i9) ∧ ((¬ i9 = 0 → z_Wp (z_C d) 1 k_X11_apart Q 45 [some (vR 11 0), some (vI a1), some (vI a2), some (vI a3), some (vI 0)] [] (pI (pI w7 11 0 29 a1) 11 0 30 a2)) ∧ (i9 = 0 → Q w7 (some (vI (-1))))))))))))))) :
    z_Wp (z_C d) 1 k_X11_apart Q 0 [some (vR 11 0), some (vI a1), some (vI a2), some (vI a3), none] [] v := z_run [45] 400 h
set_option maxRecDepth 100000 in
set_option maxHeartbeats 2000000 in
theorem B_X11_apart_45 {d : Nat} {Q : z_RT} {v : z_V} {u1 : Option z_AV} {u2 : Option z_AV} {x3 : Int32} {x4 : Int32}
    (h : z_C d m_X11_labelled [vR 11 0, vI 2, vI x4, vI 0] v (fun w1 o2 => ∃ l3 : Int64, o2 = some (vL l3) ∧ ((¬ (lg_cmp l3 0) = 0 → ((¬ x3 = (-1) → z_if (z_in x3 7) (Q w1 (some (vI (gI w1 1226 0 (n_ x3)))))) ∧ (x3 = (-1) → Q w1 (some (vI x4))))) ∧ ((lg_cmp l3 0) = 0 → z_Wp (z_C d) 1 k_X11_apart Q 45 [some (vR 11 0), none, none, some (vI x3), some (vI (x4 + 1))] [] w1)))) :
    z_Wp (z_C d) 1 k_X11_apart Q 45 [some (vR 11 0), u1, u2, some (vI x3), some (vI x4)] [] v := z_run [45] 400 h
set_option maxRecDepth 100000 in
set_option maxHeartbeats 2000000 in
theorem B_X11_band_0 {d : Nat} {Q : z_RT} {v : z_V} {a1 : Int32}
    (h : ((a1 = (-1) → z_C d m_X11_layWho [vR 11 0] v (fun w1 o2 => o2 = none ∧ z_Wp (z_C d) 1 k_X11_band Q 30 [some (vR 11 0), some (vI a1), some (vI ((gI w1 11 0 28) - 1))] [] (pI w1 11 0 31 0))) ∧ (¬ a1 = (-1) → z_C d m_X11_isHalt [vI a1] v (fun w3 o4 => ∃ i5 : Int32, o4 = some (vI i5) ∧ ((¬ i5 = 0 → z_C d m_X11_layWho [vR 11 0] w3 (fun w6 o7 => o7 = none ∧ z_Wp (z_C d) 1 k_X11_band Q 30 [some (vR 11 0), some (vI a1), some (vI ((gI w6 11 0 28) - 1))] [] (pI w6 11 0 31 0))) ∧ (i5 = 0 → Q w3 (some (vI (-1))))))))) :
    z_Wp (z_C d) 1 k_X11_band Q 0 [some (vR 11 0), some (vI a1), none] [] v := z_run [30] 400 h
set_option maxRecDepth 100000 in
set_option maxHeartbeats 2000000 in
theorem B_X11_band_30 {d : Nat} {Q : z_RT} {v : z_V} {x1 : Int32} {x2 : Int32}
    (h : z_C d m_X11_labelled [vR 11 0, vI 3, vI x2, vI 0] v (fun w1 o2 => ∃ l3 : Int64, o2 = some (vL l3) ∧ ((¬ (lg_cmp l3 0) = 0 → ((¬ x1 = (-1) → z_if (z_in x1 7) (Q w1 (some (vI (gI w1 1226 0 (n_ x1)))))) ∧ (x1 = (-1) → Q w1 (some (vI (gI w1 11 0 31)))))) ∧ ((lg_cmp l3 0) = 0 → z_Wp (z_C d) 1 k_X11_band Q 30 [some (vR 11 0), some (vI x1), some (vI x2)] [] (pI w1 11 0 31 ((gI w1 11 0 31) + 1)))))) :
    z_Wp (z_C d) 1 k_X11_band Q 30 [some (vR 11 0), some (vI x1), some (vI x2)] [] v := z_run [30] 400 h
set_option maxRecDepth 100000 in
set_option maxHeartbeats 2000000 in
theorem B_X11_labelSum_0 {d : Nat} {Q : z_RT} {v : z_V}
    (h : z_Wp (z_C d) 1 k_X11_labelSum Q 4 [some (vR 11 0), some (vI 0), some (vI 0)] [] v) :
    z_Wp (z_C d) 1 k_X11_labelSum Q 0 [some (vR 11 0), none, none] [] v := z_run [4] 400 h
set_option maxRecDepth 100000 in
set_option maxHeartbeats 2000000 in
theorem B_X11_labelSum_4 {d : Nat} {Q : z_RT} {v : z_V} {x1 : Int32} {x2 : Int32}
    (h : (((gI v 1200 0 0) ≤ x2 → Q v (some (vI x1))) ∧ (¬ (gI v 1200 0 0) ≤ x2 → z_C d m_X11_isOpen [vR 11 0, vI x2] v (fun w1 o2 => ∃ i3 : Int32, o2 = some (vI i3) ∧ ((i3 = 0 → z_Wp (z_C d) 1 k_X11_labelSum Q 4 [some (vR 11 0), some (vI (x1 + 0)), some (vI (x2 + 1))] [] w1) ∧ (¬ i3 = 0 → z_C d m_X11_one [vR 11 0, vI x2] w1 (fun w4 o5 => ∃ i6 : Int32, o5 = some (vI i6) ∧ z_if (z_in i6 7) (z_C d m_X11_other [vR 11 0, vI x2] w4 (fun w7 o8 => ∃ i9 : Int32, o8 = some (vI i9) ∧ z_if (z_in i9 7) (z_C d m_X11_apartBy [vI (gI w4 1226 0 (n_ i6)), vI (gI w7 1226 0 (n_ i9))] w7 (fun w10 o11 => ∃ i12 : Int32, o11 = some (vI i12) ∧ z_Wp (z_C d) 1 k_X11_labelSum Q 4 [some (vR 11 0), some (vI (x1 + i12)), some (vI (x2 + 1))] [] w10))))))))))) :
    z_Wp (z_C d) 1 k_X11_labelSum Q 4 [some (vR 11 0), some (vI x1), some (vI x2)] [] v := z_run [4] 400 h
set_option maxRecDepth 100000 in
set_option maxHeartbeats 2000000 in
theorem B_X11_isUsed_0 {d : Nat} {Q : z_RT} {v : z_V} {a1 : Int32} {a2 : Int32}
    (h : z_Wp (z_C d) 4 k_X11_isUsed Q 2 [some (vR 11 0), some (vI a1), some (vI a2), some (vI 0)] [] v) :
    z_Wp (z_C d) 4 k_X11_isUsed Q 0 [some (vR 11 0), some (vI a1), some (vI a2), none] [] v := z_run [2] 400 h
set_option maxRecDepth 100000 in
set_option maxHeartbeats 2000000 in
theorem B_X11_isUsed_2 {d : Nat} {Q : z_RT} {v : z_V} {x1 : Int32} {x2 : Int32} {x3 : Int32}
    (h : ((x1 ≤ x3 → Q v (some (vI 0))) ∧ (¬ x1 ≤ x3 → z_if (z_in x3 7) (z_if (z_in (gI v 1227 0 (n_ x3)) 7) (((¬ (gI v 1226 0 (n_ (gI v 1227 0 (n_ x3)))) = x2 → z_Wp (z_C d) 4 k_X11_isUsed Q 2 [some (vR 11 0), some (vI x1), some (vI x2), some (vI (x3 + 1))] [] v) ∧ ((gI v 1226 0 (n_ (gI v 1227 0 (n_ x3)))) = x2 → Q v (some (vI 1))))))))) :
    z_Wp (z_C d) 4 k_X11_isUsed Q 2 [some (vR 11 0), some (vI x1), some (vI x2), some (vI x3)] [] v := z_run [2] 400 h
set_option maxRecDepth 100000 in
set_option maxHeartbeats 2000000 in
theorem B_X11_total_0 {d : Nat} {Q : z_RT} {v : z_V}
    (h : z_C d m_X11_layWho [vR 11 0] v (fun w1 o2 => o2 = none ∧ ((¬ (gI w1 11 0 28) = 0 → z_if (z_in (gI w1 1227 0 0) 7) (z_Wp (z_C d) 1 k_X11_total Q 31 [some (vR 11 0), some (vI 1000000), some (vI 0), none] [] (pI w1 1226 0 (n_ (gI w1 1227 0 0)) (-1)))) ∧ ((gI w1 11 0 28) = 0 → Q w1 (some (vI 0)))))) :
    z_Wp (z_C d) 1 k_X11_total Q 0 [some (vR 11 0), none, none, none] [] v := z_run [31] 400 h
set_option maxRecDepth 100000 in
set_option maxHeartbeats 2000000 in
theorem B_X11_total_31 {d : Nat} {Q : z_RT} {v : z_V} {x1 : Int32} {x2 : Int32} {u3 : Option z_AV}
    (h : ((x2 < 0 → Q v (some (vI x1))) ∧ (¬ x2 < 0 → z_if (z_in x2 7) (z_if (z_in (gI v 1227 0 (n_ x2)) 7) (z_if (z_in (gI v 1227 0 (n_ x2)) 7) (z_if (z_in x2 7) (z_if (z_in (gI v 1227 0 (n_ x2)) 7) ((((gI (pI v 1226 0 (n_ (gI v 1227 0 (n_ x2))) ((gI v 1226 0 (n_ (gI v 1227 0 (n_ x2)))) + 1)) 1226 0 (n_ (gI v 1227 0 (n_ x2)))) < (gI v 11 0 28) → z_C d m_X11_isUsed [vR 11 0, vI x2, vI (gI (pI v 1226 0 (n_ (gI v 1227 0 (n_ x2))) ((gI v 1226 0 (n_ (gI v 1227 0 (n_ x2)))) + 1)) 1226 0 (n_ (gI v 1227 0 (n_ x2))))] (pI v 1226 0 (n_ (gI v 1227 0 (n_ x2))) ((gI v 1226 0 (n_ (gI v 1227 0 (n_ x2)))) + 1)) (fun w1 o2 => ∃ i3 : Int32, o2 = some (vI i3) ∧ ((¬ i3 = 0 → z_Wp (z_C d) 1 k_X11_total Q 31 [some (vR 11 0), some (vI x1), some (vI x2), some (vI (gI (pI v 1226 0 (n_ (gI v 1227 0 (n_ x2))) ((gI v 1226 0 (n_ (gI v 1227 0 (n_ x2)))) + 1)) 1226 0 (n_ (gI v 1227 0 (n_ x2)))))] [] w1) ∧ (i3 = 0 → ((¬ x2 = ((gI w1 11 0 28) - 1) → z_if (z_in (x2 + 1) 7) (z_if (z_in (gI w1 1227 0 (n_ (x2 + 1))) 7) (z_Wp (z_C d) 1 k_X11_total Q 31 [some (vR 11 0), some (vI x1), some (vI (x2 + 1)), some (vI (gI (pI v 1226 0 (n_ (gI v 1227 0 (n_ x2))) ((gI v 1226 0 (n_ (gI v 1227 0 (n_ x2)))) + 1)) 1226 0 (n_ (gI v 1227 0 (n_ x2)))))] [] (pI w1 1226 0 (n_ (gI w1 1227 0 (n_ (x2 + 1)))) (-1))))) ∧ (x2 = ((gI w1 11 0 28) - 1) → z_C d m_X11_labelSum [vR 11 0] w1 (fun w4 o5 => ∃ i6 : Int32, o5 = some (vI i6) ∧ ((x1 ≤ i6 → z_Wp (z_C d) 1 k_X11_total Q 31 [some (vR 11 0), some (vI x1), some (vI x2), some (vI (gI (pI v 1226 0 (n_ (gI v 1227 0 (n_ x2))) ((gI v 1226 0 (n_ (gI v 1227 0 (n_ x2)))) + 1)) 1226 0 (n_ (gI v 1227 0 (n_ x2)))))] [] w4) ∧ (¬ x1 ≤ i6 → z_C d m_X11_labelSum [vR 11 0] w4 (fun w7 o8 => ∃ i9 : Int32, o8 = some (vI i9) ∧ z_Wp (z_C d) 1 k_X11_total Q 31 [some (vR 11 0), some (vI i9), some (vI x2), some (vI (gI (pI v 1226 0 (n_ (gI v 1227 0 (n_ x2))) ((gI v 1226 0 (n_ (gI v 1227 0 (n_ x2)))) + 1)) 1226 0 (n_ (gI v 1227 0 (n_ x2)))))] [] w7)))))))))) ∧ (¬ (gI (pI v 1226 0 (n_ (gI v 1227 0 (n_ x2))) ((gI v 1226 0 (n_ (gI v 1227 0 (n_ x2)))) + 1)) 1226 0 (n_ (gI v 1227 0 (n_ x2)))) < (gI v 11 0 28) → z_Wp (z_C d) 1 k_X11_total Q 31 [some (vR 11 0), some (vI x1), some (vI (x2 + (-1))), some (vI (gI (pI v 1226 0 (n_ (gI v 1227 0 (n_ x2))) ((gI v 1226 0 (n_ (gI v 1227 0 (n_ x2)))) + 1)) 1226 0 (n_ (gI v 1227 0 (n_ x2)))))] [] (pI v 1226 0 (n_ (gI v 1227 0 (n_ x2))) ((gI v 1226 0 (n_ (gI v 1227 0 (n_ x2)))) + 1)))))))))))) :
    z_Wp (z_C d) 1 k_X11_total Q 31 [some (vR 11 0), some (vI x1), some (vI x2), u3] [] v := z_run [31] 400 h
set_option maxRecDepth 100000 in
set_option maxHeartbeats 2000000 in
theorem B_X11_layOpened_0 {d : Nat} {Q : z_RT} {v : z_V}
    (h : z_Wp (z_C d) 0 k_X11_layOpened Q 7 [some (vR 11 0), some (vI 0)] [] (pI v 11 0 34 0)) :
    z_Wp (z_C d) 0 k_X11_layOpened Q 0 [some (vR 11 0), none] [] v := z_run [7] 400 h
set_option maxRecDepth 100000 in
set_option maxHeartbeats 2000000 in
theorem B_X11_layOpened_7 {d : Nat} {Q : z_RT} {v : z_V} {x1 : Int32}
    (h : (((gI v 1200 0 0) ≤ x1 → Q v none) ∧ (¬ (gI v 1200 0 0) ≤ x1 → z_if (z_in x1 10) (z_C d m_X11_isOpen [vR 11 0, vI x1] (pI v 1232 0 (n_ x1) 0) (fun w1 o2 => ∃ i3 : Int32, o2 = some (vI i3) ∧ ((¬ i3 = 0 → z_if (z_in (gI w1 11 0 34) 10) (z_Wp (z_C d) 0 k_X11_layOpened Q 7 [some (vR 11 0), some (vI (x1 + 1))] [] (pI (pI w1 1233 0 (n_ (gI w1 11 0 34)) x1) 11 0 34 ((gI w1 11 0 34) + 1)))) ∧ (i3 = 0 → z_Wp (z_C d) 0 k_X11_layOpened Q 7 [some (vR 11 0), some (vI (x1 + 1))] [] w1))))))) :
    z_Wp (z_C d) 0 k_X11_layOpened Q 7 [some (vR 11 0), some (vI x1)] [] v := z_run [7] 400 h
set_option maxRecDepth 100000 in
set_option maxHeartbeats 2000000 in
theorem B_X11_weightAt_0 {d : Nat} {Q : z_RT} {v : z_V} {a1 : Int32}
    (h : z_Wp (z_C d) 1 k_X11_weightAt Q 4 [some (vR 11 0), some (vI a1), some (vI 0), some (vI 0)] [] v) :
    z_Wp (z_C d) 1 k_X11_weightAt Q 0 [some (vR 11 0), some (vI a1), none, none] [] v := z_run [4] 400 h
set_option maxRecDepth 100000 in
set_option maxHeartbeats 2000000 in
theorem B_X11_weightAt_4 {d : Nat} {Q : z_RT} {v : z_V} {x1 : Int32} {x2 : Int32} {x3 : Int32}
    (h : (((gI v 1200 0 0) ≤ x3 → Q v (some (vI x2))) ∧ (¬ (gI v 1200 0 0) ≤ x3 → z_C d m_X11_isOpen [vR 11 0, vI x3] v (fun w1 o2 => ∃ i3 : Int32, o2 = some (vI i3) ∧ ((i3 = 0 → z_Wp (z_C d) 1 k_X11_weightAt Q 4 [some (vR 11 0), some (vI x1), some (vI (x2 + 0)), some (vI (x3 + 1))] [] w1) ∧ (¬ i3 = 0 → z_C d m_X11_isOn [vR 11 0, vI x3, vI x1] w1 (fun w4 o5 => ∃ i6 : Int32, o5 = some (vI i6) ∧ ((i6 = 0 → z_Wp (z_C d) 1 k_X11_weightAt Q 4 [some (vR 11 0), some (vI x1), some (vI (x2 + 0)), some (vI (x3 + 1))] [] w4) ∧ (¬ i6 = 0 → z_if (z_in x3 10) (z_Wp (z_C d) 1 k_X11_weightAt Q 4 [some (vR 11 0), some (vI x1), some (vI (x2 + (gI w4 1232 0 (n_ x3)))), some (vI (x3 + 1))] [] w4)))))))))) :
    z_Wp (z_C d) 1 k_X11_weightAt Q 4 [some (vR 11 0), some (vI x1), some (vI x2), some (vI x3)] [] v := z_run [4] 400 h
set_option maxRecDepth 100000 in
set_option maxHeartbeats 2000000 in
theorem B_X11_isDone_0 {d : Nat} {Q : z_RT} {v : z_V} {a1 : Int32} {a2 : Int32}
    (h : z_Wp (z_C d) 4 k_X11_isDone Q 2 [some (vR 11 0), some (vI a1), some (vI a2), some (vI a2)] [] v) :
    z_Wp (z_C d) 4 k_X11_isDone Q 0 [some (vR 11 0), some (vI a1), some (vI a2), none] [] v := z_run [2] 400 h
set_option maxRecDepth 100000 in
set_option maxHeartbeats 2000000 in
theorem B_X11_isDone_2 {d : Nat} {Q : z_RT} {v : z_V} {x1 : Int32} {u2 : Option z_AV} {x3 : Int32}
    (h : (((gI v 11 0 34) ≤ x3 → z_C d m_X11_besideOf [vR 11 0, vI x1] v (fun w1 o2 => ∃ i3 : Int32, o2 = some (vI i3) ∧ ((i3 = 0 → Q w1 (some (vI 0))) ∧ (¬ i3 = 0 → Q w1 (some (vI 1)))))) ∧ (¬ (gI v 11 0 34) ≤ x3 → z_if (z_in x3 10) (z_C d m_X11_isOn [vR 11 0, vI (gI v 1233 0 (n_ x3)), vI x1] v (fun w4 o5 => ∃ i6 : Int32, o5 = some (vI i6) ∧ ((i6 = 0 → z_Wp (z_C d) 4 k_X11_isDone Q 2 [some (vR 11 0), some (vI x1), none, some (vI (x3 + 1))] [] w4) ∧ (¬ i6 = 0 → Q w4 (some (vI 0))))))))) :
    z_Wp (z_C d) 4 k_X11_isDone Q 2 [some (vR 11 0), some (vI x1), u2, some (vI x3)] [] v := z_run [2] 400 h
set_option maxRecDepth 100000 in
set_option maxHeartbeats 2000000 in
theorem B_X11_isWeighed_0 {d : Nat} {Q : z_RT} {v : z_V} {a1 : Int32}
    (h : z_Wp (z_C d) 4 k_X11_isWeighed Q 2 [some (vR 11 0), some (vI a1), some (vI 0)] [] v) :
    z_Wp (z_C d) 4 k_X11_isWeighed Q 0 [some (vR 11 0), some (vI a1), none] [] v := z_run [2] 400 h
set_option maxRecDepth 100000 in
set_option maxHeartbeats 2000000 in
theorem B_X11_isWeighed_2 {d : Nat} {Q : z_RT} {v : z_V} {x1 : Int32} {x2 : Int32}
    (h : (((x1 - 1) ≤ x2 → Q v (some (vI 1))) ∧ (¬ (x1 - 1) ≤ x2 → z_if (z_in x2 10) (z_if (z_in (gI v 1233 0 (n_ x2)) 10) (z_if (z_in (x1 - 1) 10) (z_if (z_in (gI v 1233 0 (n_ (x1 - 1))) 10) (((¬ (gI v 1232 0 (n_ (gI v 1233 0 (n_ x2)))) = (gI v 1232 0 (n_ (gI v 1233 0 (n_ (x1 - 1))))) → z_Wp (z_C d) 4 k_X11_isWeighed Q 2 [some (vR 11 0), some (vI x1), some (vI (x2 + 1))] [] v) ∧ ((gI v 1232 0 (n_ (gI v 1233 0 (n_ x2)))) = (gI v 1232 0 (n_ (gI v 1233 0 (n_ (x1 - 1))))) → Q v (some (vI 0))))))))))) :
    z_Wp (z_C d) 4 k_X11_isWeighed Q 2 [some (vR 11 0), some (vI x1), some (vI x2)] [] v := z_run [2] 400 h
set_option maxRecDepth 100000 in
set_option maxHeartbeats 2000000 in
theorem B_X11_areSums_0 {d : Nat} {Q : z_RT} {v : z_V} {a1 : Int32} {a2 : Int32}
    (h : z_Wp (z_C d) 4 k_X11_areSums Q 2 [some (vR 11 0), some (vI a1), some (vI a2), some (vI 0), none] [] v) :
    z_Wp (z_C d) 4 k_X11_areSums Q 0 [some (vR 11 0), some (vI a1), some (vI a2), none, none] [] v := z_run [2, 69] 400 h
set_option maxRecDepth 100000 in
set_option maxHeartbeats 2000000 in
theorem B_X11_areSums_2 {d : Nat} {Q : z_RT} {v : z_V} {x1 : Int32} {x2 : Int32} {x3 : Int32} {u4 : Option z_AV}
    (h : ((7 ≤ x3 → Q v (some (vI 1))) ∧ (¬ 7 ≤ x3 → z_if (z_in (x2 - 1) 10) (z_C d m_X11_isOn [vR 11 0, vI (gI v 1233 0 (n_ (x2 - 1))), vI x3] v (fun w1 o2 => ∃ i3 : Int32, o2 = some (vI i3) ∧ ((¬ i3 = 0 → ((x1 = 0 → z_Wp (z_C d) 4 k_X11_areSums Q 69 [some (vR 11 0), some (vI x1), some (vI x2), some (vI x3), some (vI 0)] [] w1) ∧ (¬ x1 = 0 → z_C d m_X11_weightAt [vR 11 0, vI x3] w1 (fun w4 o5 => ∃ i6 : Int32, o5 = some (vI i6) ∧ (((gI w4 11 0 35) < i6 → Q w4 (some (vI 0))) ∧ (¬ (gI w4 11 0 35) < i6 → z_C d m_X11_isDone [vR 11 0, vI x3, vI x2] w4 (fun w7 o8 => ∃ i9 : Int32, o8 = some (vI i9) ∧ ((i9 = 0 → z_Wp (z_C d) 4 k_X11_areSums Q 69 [some (vR 11 0), some (vI x1), some (vI x2), some (vI x3), some (vI 0)] [] w7) ∧ (¬ i9 = 0 → z_C d m_X11_weightAt [vR 11 0, vI x3] w7 (fun w10 o11 => ∃ i12 : Int32, o11 = some (vI i12) ∧ (((gI w10 11 0 35) ≤ i12 → z_Wp (z_C d) 4 k_X11_areSums Q 69 [some (vR 11 0), some (vI x1), some (vI x2), some (vI x3), some (vI 0)] [] w10) ∧ (¬ (gI w10 11 0 35) ≤ i12 → Q w10 (some (vI 0)))))))))))))) ∧ (i3 = 0 → z_Wp (z_C d) 4 k_X11_areSums Q 2 [some (vR 11 0), some (vI x1), some (vI x2), some (vI (x3 + 1)), none] [] w1))))))) :
    z_Wp (z_C d) 4 k_X11_areSums Q 2 [some (vR 11 0), some (vI x1), some (vI x2), some (vI x3), u4] [] v := z_run [2, 69] 400 h
set_option maxRecDepth 100000 in
set_option maxHeartbeats 2000000 in
theorem B_X11_areSums_69 {d : Nat} {Q : z_RT} {v : z_V} {x1 : Int32} {x2 : Int32} {x3 : Int32} {x4 : Int32}
    (h : ((7 ≤ x4 → z_Wp (z_C d) 4 k_X11_areSums Q 2 [some (vR 11 0), some (vI x1), some (vI x2), some (vI (x3 + 1)), some (vI x4)] [] v) ∧ (¬ 7 ≤ x4 → ((¬ x1 = 0 → z_Wp (z_C d) 4 k_X11_areSums Q 2 [some (vR 11 0), some (vI x1), some (vI x2), some (vI (x3 + 1)), some (vI x4)] [] v) ∧ (x1 = 0 → z_C d m_X11_isDone [vR 11 0, vI x3, vI x2] v (fun w1 o2 => ∃ i3 : Int32, o2 = some (vI i3) ∧ ((i3 = 0 → z_Wp (z_C d) 4 k_X11_areSums Q 2 [some (vR 11 0), some (vI x1), some (vI x2), some (vI (x3 + 1)), some (vI x4)] [] w1) ∧ (¬ i3 = 0 → ((x4 = x3 → z_Wp (z_C d) 4 k_X11_areSums Q 69 [some (vR 11 0), some (vI x1), some (vI x2), some (vI x3), some (vI (x4 + 1))] [] w1) ∧ (¬ x4 = x3 → z_C d m_X11_isDone [vR 11 0, vI x4, vI x2] w1 (fun w4 o5 => ∃ i6 : Int32, o5 = some (vI i6) ∧ ((i6 = 0 → z_Wp (z_C d) 4 k_X11_areSums Q 69 [some (vR 11 0), some (vI x1), some (vI x2), some (vI x3), some (vI (x4 + 1))] [] w4) ∧ (¬ i6 = 0 → z_C d m_X11_weightAt [vR 11 0, vI x4] w4 (fun w7 o8 => ∃ i9 : Int32, o8 = some (vI i9) ∧ z_C d m_X11_weightAt [vR 11 0, vI x3] w7 (fun w10 o11 => ∃ i12 : Int32, o11 = some (vI i12) ∧ ((¬ i9 = i12 → z_Wp (z_C d) 4 k_X11_areSums Q 69 [some (vR 11 0), some (vI x1), some (vI x2), some (vI x3), some (vI (x4 + 1))] [] w10) ∧ (i9 = i12 → Q w10 (some (vI 0))))))))))))))))))) :
    z_Wp (z_C d) 4 k_X11_areSums Q 69 [some (vR 11 0), some (vI x1), some (vI x2), some (vI x3), some (vI x4)] [] v := z_run [2, 69] 400 h
set_option maxRecDepth 100000 in
set_option maxHeartbeats 2000000 in
theorem B_X11_weighed_0 {d : Nat} {Q : z_RT} {v : z_V} {a1 : Int32} {a2 : Int32}
    (h : z_C d m_X11_layOpened [vR 11 0] v (fun w1 o2 => o2 = none ∧ z_C d m_X11_layWho [vR 11 0] w1 (fun w3 o4 => o4 = none ∧ ((¬ (gI w3 11 0 34) = 0 → z_if (z_nz (gI w3 11 0 28)) (((a1 = 0 → z_Wp (z_C d) 2 k_X11_weighed Q 68 [some (vR 11 0), some (vI a1), some (vI a2), some (vI ((gI w3 11 0 34) * ((gI w3 11 0 34) + 1))), some (vL 0), none, some (vI 0), none] [] (pI w3 11 0 35 (((gI w3 11 0 34) * ((gI w3 11 0 34) + 1)) / (gI w3 11 0 28)))) ∧ (¬ a1 = 0 → z_if (z_nz (gI w3 11 0 28)) ((((i_rem ((gI w3 11 0 34) * ((gI w3 11 0 34) + 1)) (gI w3 11 0 28)) = 0 → z_Wp (z_C d) 2 k_X11_weighed Q 68 [some (vR 11 0), some (vI a1), some (vI a2), some (vI ((gI w3 11 0 34) * ((gI w3 11 0 34) + 1))), some (vL 0), none, some (vI 0), none] [] (pI w3 11 0 35 (((gI w3 11 0 34) * ((gI w3 11 0 34) + 1)) / (gI w3 11 0 28)))) ∧ (¬ (i_rem ((gI w3 11 0 34) * ((gI w3 11 0 34) + 1)) (gI w3 11 0 28)) = 0 → Q (pI w3 11 0 35 (((gI w3 11 0 34) * ((gI w3 11 0 34) + 1)) / (gI w3 11 0 28))) (some (vL 0))))))))) ∧ ((gI w3 11 0 34) = 0 → ((a1 = 0 → Q w3 (some (vL 0))) ∧ (¬ a1 = 0 → Q w3 (some (vL 1))))))))) :
    z_Wp (z_C d) 2 k_X11_weighed Q 0 [some (vR 11 0), some (vI a1), some (vI a2), none, none, none, none, none] [] v := z_run [68] 400 h
set_option maxRecDepth 100000 in
set_option maxHeartbeats 2000000 in
theorem B_X11_weighed_68 {d : Nat} {Q : z_RT} {v : z_V} {x1 : Int32} {x2 : Int32} {u3 : Option z_AV} {y4 : Int64} {x6 : Int32} {u7 : Option z_AV}
    (h : ((x6 < 0 → Q v (some (vL y4))) ∧ (¬ x6 < 0 → z_if (z_in x6 10) (z_if (z_in (gI v 1233 0 (n_ x6)) 10) (z_if (z_in (gI v 1233 0 (n_ x6)) 10) (z_if (z_in (gI v 1233 0 (n_ x6)) 10) ((((gI (pI v 1232 0 (n_ (gI v 1233 0 (n_ x6))) ((gI v 1232 0 (n_ (gI v 1233 0 (n_ x6)))) + 1)) 1232 0 (n_ (gI v 1233 0 (n_ x6)))) ≤ (gI v 11 0 34) → z_C d m_X11_isWeighed [vR 11 0, vI (x6 + 1)] (pI v 1232 0 (n_ (gI v 1233 0 (n_ x6))) ((gI v 1232 0 (n_ (gI v 1233 0 (n_ x6)))) + 1)) (fun w1 o2 => ∃ i3 : Int32, o2 = some (vI i3) ∧ ((i3 = 0 → z_Wp (z_C d) 2 k_X11_weighed Q 68 [some (vR 11 0), some (vI x1), some (vI x2), none, some (vL y4), none, some (vI x6), some (vI (gI v 1233 0 (n_ x6)))] [] w1) ∧ (¬ i3 = 0 → z_C d m_X11_areSums [vR 11 0, vI x1, vI (x6 + 1)] w1 (fun w4 o5 => ∃ i6 : Int32, o5 = some (vI i6) ∧ ((¬ i6 = 0 → ((((gI w4 11 0 34) - 1) ≤ x6 → ((¬ x2 = 0 → z_Wp (z_C d) 2 k_X11_weighed Q 68 [some (vR 11 0), some (vI x1), some (vI x2), none, some (vL (y4 + 1)), none, some (vI x6), some (vI (gI v 1233 0 (n_ x6)))] [] w4) ∧ (x2 = 0 → Q w4 (some (vL (y4 + 1)))))) ∧ (¬ ((gI w4 11 0 34) - 1) ≤ x6 → z_Wp (z_C d) 2 k_X11_weighed Q 68 [some (vR 11 0), some (vI x1), some (vI x2), none, some (vL y4), none, some (vI (x6 + 1)), some (vI (gI v 1233 0 (n_ x6)))] [] w4))) ∧ (i6 = 0 → z_Wp (z_C d) 2 k_X11_weighed Q 68 [some (vR 11 0), some (vI x1), some (vI x2), none, some (vL y4), none, some (vI x6), some (vI (gI v 1233 0 (n_ x6)))] [] w4))))))) ∧ (¬ (gI (pI v 1232 0 (n_ (gI v 1233 0 (n_ x6))) ((gI v 1232 0 (n_ (gI v 1233 0 (n_ x6)))) + 1)) 1232 0 (n_ (gI v 1233 0 (n_ x6)))) ≤ (gI v 11 0 34) → z_if (z_in (gI v 1233 0 (n_ x6)) 10) (z_Wp (z_C d) 2 k_X11_weighed Q 68 [some (vR 11 0), some (vI x1), some (vI x2), none, some (vL y4), none, some (vI (x6 + (-1))), some (vI (gI v 1233 0 (n_ x6)))] [] (pI (pI v 1232 0 (n_ (gI v 1233 0 (n_ x6))) ((gI v 1232 0 (n_ (gI v 1233 0 (n_ x6)))) + 1)) 1232 0 (n_ (gI v 1233 0 (n_ x6))) 0))))))))))) :
    z_Wp (z_C d) 2 k_X11_weighed Q 68 [some (vR 11 0), some (vI x1), some (vI x2), u3, some (vL y4), none, some (vI x6), u7] [] v := z_run [68] 400 h
set_option maxRecDepth 100000 in
set_option maxHeartbeats 2000000 in
theorem B_X11_alike_0 {d : Nat} {Q : z_RT} {v : z_V} {a1 : Int32}
    (h : ((a1 = (-1) → z_Wp (z_C d) 1 k_X11_alike Q 21 [some (vR 11 0), some (vI a1)] [] v) ∧ (¬ a1 = (-1) → z_C d m_X11_isLine [vR 11 0, vI a1] v (fun w1 o2 => ∃ i3 : Int32, o2 = some (vI i3) ∧ ((i3 = 0 → Q w1 (some (vI (-1)))) ∧ (¬ i3 = 0 → z_C d m_X11_isOpen [vR 11 0, vI a1] w1 (fun w4 o5 => ∃ i6 : Int32, o5 = some (vI i6) ∧ ((i6 = 0 → Q w4 (some (vI (-1)))) ∧ (¬ i6 = 0 → z_Wp (z_C d) 1 k_X11_alike Q 21 [some (vR 11 0), some (vI a1)] [] w4))))))))) :
    z_Wp (z_C d) 1 k_X11_alike Q 0 [some (vR 11 0), some (vI a1)] [] v := z_run [21] 400 h
set_option maxRecDepth 100000 in
set_option maxHeartbeats 2000000 in
theorem B_X11_alike_21 {d : Nat} {Q : z_RT} {v : z_V} {x1 : Int32}
    (h : z_C d m_X11_weighed [vR 11 0, vI 1, vI 0] v (fun w1 o2 => ∃ l3 : Int64, o2 = some (vL l3) ∧ ((¬ (lg_cmp l3 0) = 0 → ((x1 = (-1) → ((¬ (gI w1 11 0 34) = 0 → Q w1 (some (vI (gI w1 11 0 35)))) ∧ ((gI w1 11 0 34) = 0 → Q w1 (some (vI 0))))) ∧ (¬ x1 = (-1) → z_if (z_in x1 10) (Q w1 (some (vI (gI w1 1232 0 (n_ x1)))))))) ∧ ((lg_cmp l3 0) = 0 → Q w1 (some (vI (-1))))))) :
    z_Wp (z_C d) 1 k_X11_alike Q 21 [some (vR 11 0), some (vI x1)] [] v := z_run [21] 400 h
set_option maxRecDepth 100000 in
set_option maxHeartbeats 2000000 in
theorem B_X11_alikes_0 {d : Nat} {Q : z_RT} {v : z_V}
    (h : z_C d m_X11_weighed [vR 11 0, vI 1, vI 1] v (fun w1 o2 => ∃ l3 : Int64, o2 = some (vL l3) ∧ Q w1 (some (vL l3)))) :
    z_Wp (z_C d) 2 k_X11_alikes Q 0 [some (vR 11 0)] [] v := z_run [] 400 h
set_option maxRecDepth 100000 in
set_option maxHeartbeats 2000000 in
theorem B_X11_unlike_0 {d : Nat} {Q : z_RT} {v : z_V} {a1 : Int32}
    (h : z_C d m_X11_isLine [vR 11 0, vI a1] v (fun w1 o2 => ∃ i3 : Int32, o2 = some (vI i3) ∧ ((i3 = 0 → Q w1 (some (vI (-1)))) ∧ (¬ i3 = 0 → z_C d m_X11_isOpen [vR 11 0, vI a1] w1 (fun w4 o5 => ∃ i6 : Int32, o5 = some (vI i6) ∧ ((i6 = 0 → Q w4 (some (vI (-1)))) ∧ (¬ i6 = 0 → z_C d m_X11_weighed [vR 11 0, vI 0, vI 0] w4 (fun w7 o8 => ∃ l9 : Int64, o8 = some (vL l9) ∧ (((lg_cmp l9 0) ≤ 0 → Q w7 (some (vI (-1)))) ∧ (¬ (lg_cmp l9 0) ≤ 0 → z_if (z_in a1 10) (Q w7 (some (vI (gI w7 1232 0 (n_ a1))))))))))))))) :
    z_Wp (z_C d) 1 k_X11_unlike Q 0 [some (vR 11 0), some (vI a1)] [] v := z_run [] 400 h
set_option maxRecDepth 100000 in
set_option maxHeartbeats 2000000 in
theorem B_X11_isFareLaid_0 {d : Nat} {Q : z_RT} {v : z_V} {a1 : Int32} {a2 : Int32} {a3 : Int32}
    (h : z_C d m_X11_isOpen [vR 11 0, vI a1] v (fun w1 o2 => ∃ i3 : Int32, o2 = some (vI i3) ∧ ((i3 = 0 → Q w1 (some (vI 0))) ∧ (¬ i3 = 0 → z_C d m_X11_one [vR 11 0, vI a1] w1 (fun w4 o5 => ∃ i6 : Int32, o5 = some (vI i6) ∧ z_C d m_X11_has [vI a2, vI i6] w4 (fun w7 o8 => ∃ i9 : Int32, o8 = some (vI i9) ∧ ((i9 = 0 → z_C d m_X11_other [vR 11 0, vI a1] w7 (fun w10 o11 => ∃ i12 : Int32, o11 = some (vI i12) ∧ z_C d m_X11_has [vI a2, vI i12] w10 (fun w13 o14 => ∃ i15 : Int32, o14 = some (vI i15) ∧ ((i15 = 0 → Q w13 (some (vI 1))) ∧ (¬ i15 = 0 → z_C d m_X11_other [vR 11 0, vI a1] w13 (fun w16 o17 => ∃ i18 : Int32, o17 = some (vI i18) ∧ z_C d m_X11_isLaid [vR 11 0, vI i18, vI a3] w16 (fun w19 o20 => ∃ i21 : Int32, o20 = some (vI i21) ∧ ((i21 = 0 → Q w19 (some (vI 0))) ∧ (¬ i21 = 0 → Q w19 (some (vI 1))))))))))) ∧ (¬ i9 = 0 → z_C d m_X11_one [vR 11 0, vI a1] w7 (fun w22 o23 => ∃ i24 : Int32, o23 = some (vI i24) ∧ z_C d m_X11_isLaid [vR 11 0, vI i24, vI a3] w22 (fun w25 o26 => ∃ i27 : Int32, o26 = some (vI i27) ∧ ((i27 = 0 → Q w25 (some (vI 0))) ∧ (¬ i27 = 0 → z_C d m_X11_other [vR 11 0, vI a1] w25 (fun w28 o29 => ∃ i30 : Int32, o29 = some (vI i30) ∧ z_C d m_X11_has [vI a2, vI i30] w28 (fun w31 o32 => ∃ i33 : Int32, o32 = some (vI i33) ∧ ((i33 = 0 → Q w31 (some (vI 1))) ∧ (¬ i33 = 0 → z_C d m_X11_other [vR 11 0, vI a1] w31 (fun w34 o35 => ∃ i36 : Int32, o35 = some (vI i36) ∧ z_C d m_X11_isLaid [vR 11 0, vI i36, vI a3] w34 (fun w37 o38 => ∃ i39 : Int32, o38 = some (vI i39) ∧ ((i39 = 0 → Q w37 (some (vI 0))) ∧ (¬ i39 = 0 → Q w37 (some (vI 1)))))))))))))))))))))) :
    z_Wp (z_C d) 4 k_X11_isFareLaid Q 0 [some (vR 11 0), some (vI a1), some (vI a2), some (vI a3)] [] v := z_run [] 400 h
set_option maxRecDepth 100000 in
set_option maxHeartbeats 2000000 in
theorem B_X11_isFairSoFar_0 {d : Nat} {Q : z_RT} {v : z_V} {a1 : Int32} {a2 : Int32}
    (h : z_Wp (z_C d) 4 k_X11_isFairSoFar Q 2 [some (vR 11 0), some (vI a1), some (vI a2), some (vI 0), none, none] [] v) :
    z_Wp (z_C d) 4 k_X11_isFairSoFar Q 0 [some (vR 11 0), some (vI a1), some (vI a2), none, none, none] [] v := z_run [2, 60] 400 h
set_option maxRecDepth 100000 in
set_option maxHeartbeats 2000000 in
theorem B_X11_isFairSoFar_2 {d : Nat} {Q : z_RT} {v : z_V} {x1 : Int32} {x2 : Int32} {x3 : Int32} {u4 : Option z_AV} {u5 : Option z_AV}
    (h : (((gI v 1200 0 0) ≤ x3 → Q v (some (vI 1))) ∧ (¬ (gI v 1200 0 0) ≤ x3 → z_C d m_X11_isFareLaid [vR 11 0, vI x3, vI x1, vI x2] v (fun w1 o2 => ∃ i3 : Int32, o2 = some (vI i3) ∧ ((¬ i3 = 0 → z_C d m_X11_one [vR 11 0, vI x3] w1 (fun w4 o5 => ∃ i6 : Int32, o5 = some (vI i6) ∧ z_if (z_in i6 7) (z_C d m_X11_other [vR 11 0, vI x3] w4 (fun w7 o8 => ∃ i9 : Int32, o8 = some (vI i9) ∧ z_if (z_in i9 7) (z_C d m_X11_apartBy [vI (gI w4 1226 0 (n_ i6)), vI (gI w7 1226 0 (n_ i9))] w7 (fun w10 o11 => ∃ i12 : Int32, o11 = some (vI i12) ∧ ((¬ i12 = 0 → z_Wp (z_C d) 4 k_X11_isFairSoFar Q 60 [some (vR 11 0), some (vI x1), some (vI x2), some (vI x3), some (vI i12), some (vI 0)] [] w10) ∧ (i12 = 0 → Q w10 (some (vI 0)))))))))) ∧ (i3 = 0 → z_Wp (z_C d) 4 k_X11_isFairSoFar Q 2 [some (vR 11 0), some (vI x1), some (vI x2), some (vI (x3 + 1)), none, none] [] w1)))))) :
    z_Wp (z_C d) 4 k_X11_isFairSoFar Q 2 [some (vR 11 0), some (vI x1), some (vI x2), some (vI x3), u4, u5] [] v := z_run [2, 60] 400 h
set_option maxRecDepth 100000 in
set_option maxHeartbeats 2000000 in
theorem B_X11_isFairSoFar_60 {d : Nat} {Q : z_RT} {v : z_V} {x1 : Int32} {x2 : Int32} {x3 : Int32} {x4 : Int32} {x5 : Int32}
    (h : ((x3 ≤ x5 → z_Wp (z_C d) 4 k_X11_isFairSoFar Q 2 [some (vR 11 0), some (vI x1), some (vI x2), some (vI (x3 + 1)), some (vI x4), some (vI x5)] [] v) ∧ (¬ x3 ≤ x5 → z_C d m_X11_isFareLaid [vR 11 0, vI x5, vI x1, vI x2] v (fun w1 o2 => ∃ i3 : Int32, o2 = some (vI i3) ∧ ((i3 = 0 → z_Wp (z_C d) 4 k_X11_isFairSoFar Q 60 [some (vR 11 0), some (vI x1), some (vI x2), some (vI x3), some (vI x4), some (vI (x5 + 1))] [] w1) ∧ (¬ i3 = 0 → z_C d m_X11_one [vR 11 0, vI x5] w1 (fun w4 o5 => ∃ i6 : Int32, o5 = some (vI i6) ∧ z_if (z_in i6 7) (z_C d m_X11_other [vR 11 0, vI x5] w4 (fun w7 o8 => ∃ i9 : Int32, o8 = some (vI i9) ∧ z_if (z_in i9 7) (z_C d m_X11_apartBy [vI (gI w4 1226 0 (n_ i6)), vI (gI w7 1226 0 (n_ i9))] w7 (fun w10 o11 => ∃ i12 : Int32, o11 = some (vI i12) ∧ ((¬ i12 = x4 → z_Wp (z_C d) 4 k_X11_isFairSoFar Q 60 [some (vR 11 0), some (vI x1), some (vI x2), some (vI x3), some (vI x4), some (vI (x5 + 1))] [] w10) ∧ (i12 = x4 → Q w10 (some (vI 0))))))))))))))) :
    z_Wp (z_C d) 4 k_X11_isFairSoFar Q 60 [some (vR 11 0), some (vI x1), some (vI x2), some (vI x3), some (vI x4), some (vI x5)] [] v := z_run [2, 60] 400 h
set_option maxRecDepth 100000 in
set_option maxHeartbeats 2000000 in
theorem B_X11_isMended_0 {d : Nat} {Q : z_RT} {v : z_V} {a1 : Int32}
    (h : z_Wp (z_C d) 4 k_X11_isMended Q 7 [some (vR 11 0), some (vI a1), some (vI 0), none] [] (pI v 11 0 28 0)) :
    z_Wp (z_C d) 4 k_X11_isMended Q 0 [some (vR 11 0), some (vI a1), none, none] [] v := z_run [7, 97] 400 h
set_option maxRecDepth 100000 in
set_option maxHeartbeats 2000000 in
theorem B_X11_isMended_7 {d : Nat} {Q : z_RT} {v : z_V} {x1 : Int32} {x2 : Int32} {u3 : Option z_AV}
    (h : ((7 ≤ x2 → z_C d m_X11_isFairSoFar [vR 11 0, vI x1, vI 0] v (fun w1 o2 => ∃ i3 : Int32, o2 = some (vI i3) ∧ ((¬ i3 = 0 → (((gI w1 11 0 28) ≤ 0 → z_Wp (z_C d) 4 k_X11_isMended Q 97 [some (vR 11 0), some (vI x1), some (vI 0), none] [] w1) ∧ (¬ (gI w1 11 0 28) ≤ 0 → z_if (z_in (gI w1 1227 0 0) 7) (z_Wp (z_C d) 4 k_X11_isMended Q 97 [some (vR 11 0), some (vI x1), some (vI 0), none] [] (pI w1 1226 0 (n_ (gI w1 1227 0 0)) (-1)))))) ∧ (i3 = 0 → Q w1 (some (vI 0)))))) ∧ (¬ 7 ≤ x2 → z_if (z_in (10 + x2) 1218) (z_if (z_in x2 7) (z_C d m_X11_has [vI x1, vI x2] (pI v 1226 0 (n_ x2) (gI v 1200 0 (n_ (10 + x2)))) (fun w4 o5 => ∃ i6 : Int32, o5 = some (vI i6) ∧ ((¬ i6 = 0 → z_if (z_in (gI w4 11 0 28) 7) (z_Wp (z_C d) 4 k_X11_isMended Q 7 [some (vR 11 0), some (vI x1), some (vI (x2 + 1)), none] [] (pI (pI w4 1227 0 (n_ (gI w4 11 0 28)) x2) 11 0 28 ((gI w4 11 0 28) + 1)))) ∧ (i6 = 0 → z_Wp (z_C d) 4 k_X11_isMended Q 7 [some (vR 11 0), some (vI x1), some (vI (x2 + 1)), none] [] w4)))))))) :
    z_Wp (z_C d) 4 k_X11_isMended Q 7 [some (vR 11 0), some (vI x1), some (vI x2), u3] [] v := z_run [7, 97] 400 h
set_option maxRecDepth 100000 in
set_option maxHeartbeats 2000000 in
theorem B_X11_isMended_97 {d : Nat} {Q : z_RT} {v : z_V} {x1 : Int32} {x2 : Int32} {u3 : Option z_AV}
    (h : ((x2 < 0 → ((¬ x2 = (gI v 11 0 28) → Q v (some (vI 0))) ∧ (x2 = (gI v 11 0 28) → Q v (some (vI 1))))) ∧ (¬ x2 < 0 → (((gI v 11 0 28) ≤ x2 → ((¬ x2 = (gI v 11 0 28) → Q v (some (vI 0))) ∧ (x2 = (gI v 11 0 28) → Q v (some (vI 1))))) ∧ (¬ (gI v 11 0 28) ≤ x2 → z_if (z_in x2 7) (z_if (z_in (gI v 1227 0 (n_ x2)) 7) (z_if (z_in (gI v 1227 0 (n_ x2)) 7) (z_if (z_in (gI v 1227 0 (n_ x2)) 7) ((((gI (pI v 1226 0 (n_ (gI v 1227 0 (n_ x2))) ((gI v 1226 0 (n_ (gI v 1227 0 (n_ x2)))) + 1)) 1226 0 (n_ (gI v 1227 0 (n_ x2)))) ≤ 20 → z_if (z_in (gI v 1227 0 (n_ x2)) 7) (z_if (z_in (10 + (gI v 1227 0 (n_ x2))) 1218) ((((gI (pI v 1226 0 (n_ (gI v 1227 0 (n_ x2))) ((gI v 1226 0 (n_ (gI v 1227 0 (n_ x2)))) + 1)) 1226 0 (n_ (gI v 1227 0 (n_ x2)))) = (gI v 1200 0 (n_ (10 + (gI v 1227 0 (n_ x2))))) → z_Wp (z_C d) 4 k_X11_isMended Q 97 [some (vR 11 0), some (vI x1), some (vI x2), some (vI (gI v 1227 0 (n_ x2)))] [] (pI v 1226 0 (n_ (gI v 1227 0 (n_ x2))) ((gI v 1226 0 (n_ (gI v 1227 0 (n_ x2)))) + 1))) ∧ (¬ (gI (pI v 1226 0 (n_ (gI v 1227 0 (n_ x2))) ((gI v 1226 0 (n_ (gI v 1227 0 (n_ x2)))) + 1)) 1226 0 (n_ (gI v 1227 0 (n_ x2)))) = (gI v 1200 0 (n_ (10 + (gI v 1227 0 (n_ x2))))) → z_C d m_X11_isFairSoFar [vR 11 0, vI x1, vI (x2 + 1)] (pI v 1226 0 (n_ (gI v 1227 0 (n_ x2))) ((gI v 1226 0 (n_ (gI v 1227 0 (n_ x2)))) + 1)) (fun w1 o2 => ∃ i3 : Int32, o2 = some (vI i3) ∧ ((i3 = 0 → z_Wp (z_C d) 4 k_X11_isMended Q 97 [some (vR 11 0), some (vI x1), some (vI x2), some (vI (gI v 1227 0 (n_ x2)))] [] w1) ∧ (¬ i3 = 0 → (((gI w1 11 0 28) ≤ (x2 + 1) → z_Wp (z_C d) 4 k_X11_isMended Q 97 [some (vR 11 0), some (vI x1), some (vI (x2 + 1)), some (vI (gI v 1227 0 (n_ x2)))] [] w1) ∧ (¬ (gI w1 11 0 28) ≤ (x2 + 1) → z_if (z_in (x2 + 1) 7) (z_if (z_in (gI w1 1227 0 (n_ (x2 + 1))) 7) (z_Wp (z_C d) 4 k_X11_isMended Q 97 [some (vR 11 0), some (vI x1), some (vI (x2 + 1)), some (vI (gI v 1227 0 (n_ x2)))] [] (pI w1 1226 0 (n_ (gI w1 1227 0 (n_ (x2 + 1)))) (-1)))))))))))))) ∧ (¬ (gI (pI v 1226 0 (n_ (gI v 1227 0 (n_ x2))) ((gI v 1226 0 (n_ (gI v 1227 0 (n_ x2)))) + 1)) 1226 0 (n_ (gI v 1227 0 (n_ x2)))) ≤ 20 → z_Wp (z_C d) 4 k_X11_isMended Q 97 [some (vR 11 0), some (vI x1), some (vI (x2 + (-1))), some (vI (gI v 1227 0 (n_ x2)))] [] (pI v 1226 0 (n_ (gI v 1227 0 (n_ x2))) ((gI v 1226 0 (n_ (gI v 1227 0 (n_ x2)))) + 1))))))))))))) :
    z_Wp (z_C d) 4 k_X11_isMended Q 97 [some (vR 11 0), some (vI x1), some (vI x2), u3] [] v := z_run [7, 97] 400 h
set_option maxRecDepth 100000 in
set_option maxHeartbeats 2000000 in
theorem B_X11_mend_0 {d : Nat} {Q : z_RT} {v : z_V}
    (h : z_Wp (z_C d) 1 k_X11_mend Q 2 [some (vR 11 0), some (vI 0), none] [] v) :
    z_Wp (z_C d) 1 k_X11_mend Q 0 [some (vR 11 0), none, none] [] v := z_run [2, 10] 400 h
set_option maxRecDepth 100000 in
set_option maxHeartbeats 2000000 in
theorem B_X11_mend_2 {d : Nat} {Q : z_RT} {v : z_V} {x1 : Int32} {u2 : Option z_AV}
    (h : ((7 < x1 → Q v (some (vI (-1)))) ∧ (¬ 7 < x1 → z_Wp (z_C d) 1 k_X11_mend Q 10 [some (vR 11 0), some (vI x1), some (vI 0)] [] v))) :
    z_Wp (z_C d) 1 k_X11_mend Q 2 [some (vR 11 0), some (vI x1), u2] [] v := z_run [2, 10] 400 h
set_option maxRecDepth 100000 in
set_option maxHeartbeats 2000000 in
theorem B_X11_mend_10 {d : Nat} {Q : z_RT} {v : z_V} {x1 : Int32} {x2 : Int32}
    (h : ((127 < x2 → z_Wp (z_C d) 1 k_X11_mend Q 2 [some (vR 11 0), some (vI (x1 + 1)), some (vI x2)] [] v) ∧ (¬ 127 < x2 → z_C d m_X11_bits [vI x2] v (fun w1 o2 => ∃ i3 : Int32, o2 = some (vI i3) ∧ ((¬ i3 = x1 → z_Wp (z_C d) 1 k_X11_mend Q 10 [some (vR 11 0), some (vI x1), some (vI (x2 + 1))] [] w1) ∧ (i3 = x1 → z_C d m_X11_isMended [vR 11 0, vI x2] w1 (fun w4 o5 => ∃ i6 : Int32, o5 = some (vI i6) ∧ ((i6 = 0 → z_Wp (z_C d) 1 k_X11_mend Q 10 [some (vR 11 0), some (vI x1), some (vI (x2 + 1))] [] w4) ∧ (¬ i6 = 0 → Q w4 (some (vI x2))))))))))) :
    z_Wp (z_C d) 1 k_X11_mend Q 10 [some (vR 11 0), some (vI x1), some (vI x2)] [] v := z_run [2, 10] 400 h
set_option maxRecDepth 100000 in
set_option maxHeartbeats 2000000 in
theorem B_X11_names_0 {d : Nat} {Q : z_RT} {v : z_V}
    (h : z_Wp (z_C d) 1 k_X11_names Q 11 [some (vR 11 0), some (vI 0), some (vI 0)] [] (pI v 1226 0 0 (-1))) :
    z_Wp (z_C d) 1 k_X11_names Q 0 [some (vR 11 0), none, none] [] v := z_run [11] 400 h
set_option maxRecDepth 100000 in
set_option maxHeartbeats 2000000 in
theorem B_X11_names_11 {d : Nat} {Q : z_RT} {v : z_V} {x1 : Int32} {x2 : Int32}
    (h : ((x2 < 0 → Q v (some (vI x1))) ∧ (¬ x2 < 0 → z_if (z_in x2 7) (z_if (z_in x2 7) (z_if (z_in x2 7) ((((gI (pI v 1226 0 (n_ x2) ((gI v 1226 0 (n_ x2)) + 1)) 1226 0 (n_ x2)) < 7 → z_C d m_X11_isNamed [vR 11 0, vI x2] (pI v 1226 0 (n_ x2) ((gI v 1226 0 (n_ x2)) + 1)) (fun w1 o2 => ∃ i3 : Int32, o2 = some (vI i3) ∧ ((i3 = 0 → z_Wp (z_C d) 1 k_X11_names Q 11 [some (vR 11 0), some (vI x1), some (vI x2)] [] w1) ∧ (¬ i3 = 0 → ((¬ x2 = 6 → z_if (z_in (x2 + 1) 7) (z_Wp (z_C d) 1 k_X11_names Q 11 [some (vR 11 0), some (vI x1), some (vI (x2 + 1))] [] (pI w1 1226 0 (n_ (x2 + 1)) (-1)))) ∧ (x2 = 6 → z_Wp (z_C d) 1 k_X11_names Q 11 [some (vR 11 0), some (vI (x1 + 1)), some (vI x2)] [] w1)))))) ∧ (¬ (gI (pI v 1226 0 (n_ x2) ((gI v 1226 0 (n_ x2)) + 1)) 1226 0 (n_ x2)) < 7 → z_Wp (z_C d) 1 k_X11_names Q 11 [some (vR 11 0), some (vI x1), some (vI (x2 + (-1)))] [] (pI v 1226 0 (n_ x2) ((gI v 1226 0 (n_ x2)) + 1)))))))))) :
    z_Wp (z_C d) 1 k_X11_names Q 11 [some (vR 11 0), some (vI x1), some (vI x2)] [] v := z_run [11] 400 h
set_option maxRecDepth 100000 in
set_option maxHeartbeats 2000000 in
theorem B_X11_isNamed_0 {d : Nat} {Q : z_RT} {v : z_V} {a1 : Int32}
    (h : z_Wp (z_C d) 4 k_X11_isNamed Q 2 [some (vR 11 0), some (vI a1), some (vI 0)] [] v) :
    z_Wp (z_C d) 4 k_X11_isNamed Q 0 [some (vR 11 0), some (vI a1), none] [] v := z_run [2] 400 h
set_option maxRecDepth 100000 in
set_option maxHeartbeats 2000000 in
theorem B_X11_isNamed_2 {d : Nat} {Q : z_RT} {v : z_V} {x1 : Int32} {x2 : Int32}
    (h : ((x1 ≤ x2 → Q v (some (vI 1))) ∧ (¬ x1 ≤ x2 → z_if (z_in x2 7) (z_if (z_in x1 7) ((((gI v 1226 0 (n_ x2)) = (gI v 1226 0 (n_ x1)) → Q v (some (vI 0))) ∧ (¬ (gI v 1226 0 (n_ x2)) = (gI v 1226 0 (n_ x1)) → z_C d m_X11_areBeside [vR 11 0, vI x2, vI x1] v (fun w1 o2 => ∃ i3 : Int32, o2 = some (vI i3) ∧ z_if (z_in x2 7) (z_if (z_in x1 7) (z_C d m_X11_areBeside [vR 11 0, vI (gI w1 1226 0 (n_ x2)), vI (gI w1 1226 0 (n_ x1))] w1 (fun w4 o5 => ∃ i6 : Int32, o5 = some (vI i6) ∧ ((i3 = i6 → z_Wp (z_C d) 4 k_X11_isNamed Q 2 [some (vR 11 0), some (vI x1), some (vI (x2 + 1))] [] w4) ∧ (¬ i3 = i6 → Q w4 (some (vI 0))))))))))))))) :
    z_Wp (z_C d) 4 k_X11_isNamed Q 2 [some (vR 11 0), some (vI x1), some (vI x2)] [] v := z_run [2] 400 h
set_option maxRecDepth 100000 in
set_option maxHeartbeats 2000000 in
theorem B_X11_comeBy_0 {d : Nat} {Q : z_RT} {v : z_V} {a1 : Int32} {a2 : Int32}
    (h : z_Wp (z_C d) 1 k_X11_comeBy Q 7 [some (vR 11 0), some (vI a1), some (vI a2), some (vI (i_shl 1 a1)), some (vI 0), none] [] v) :
    z_Wp (z_C d) 1 k_X11_comeBy Q 0 [some (vR 11 0), some (vI a1), some (vI a2), none, none, none] [] v := z_run [7, 19] 400 h
set_option maxRecDepth 100000 in
set_option maxHeartbeats 2000000 in
theorem B_X11_comeBy_7 {d : Nat} {Q : z_RT} {v : z_V} {u1 : Option z_AV} {x2 : Int32} {x3 : Int32} {x4 : Int32} {u5 : Option z_AV}
    (h : ((x4 = x3 → Q v (some (vI x3))) ∧ (¬ x4 = x3 → z_Wp (z_C d) 1 k_X11_comeBy Q 19 [some (vR 11 0), none, some (vI x2), some (vI x3), some (vI x3), some (vI 0)] [] v))) :
    z_Wp (z_C d) 1 k_X11_comeBy Q 7 [some (vR 11 0), u1, some (vI x2), some (vI x3), some (vI x4), u5] [] v := z_run [7, 19] 400 h
set_option maxRecDepth 100000 in
set_option maxHeartbeats 2000000 in
theorem B_X11_comeBy_19 {d : Nat} {Q : z_RT} {v : z_V} {u1 : Option z_AV} {x2 : Int32} {x3 : Int32} {x4 : Int32} {x5 : Int32}
    (h : (((gI v 1200 0 0) ≤ x5 → z_Wp (z_C d) 1 k_X11_comeBy Q 7 [some (vR 11 0), none, some (vI x2), some (vI x3), some (vI x4), some (vI x5)] [] v) ∧ (¬ (gI v 1200 0 0) ≤ x5 → z_C d m_X11_has [vI x2, vI x5] v (fun w1 o2 => ∃ i3 : Int32, o2 = some (vI i3) ∧ ((i3 = 0 → z_Wp (z_C d) 1 k_X11_comeBy Q 19 [some (vR 11 0), none, some (vI x2), some (vI x3), some (vI x4), some (vI (x5 + 1))] [] w1) ∧ (¬ i3 = 0 → z_C d m_X11_one [vR 11 0, vI x5] w1 (fun w4 o5 => ∃ i6 : Int32, o5 = some (vI i6) ∧ z_C d m_X11_has [vI x3, vI i6] w4 (fun w7 o8 => ∃ i9 : Int32, o8 = some (vI i9) ∧ ((¬ i9 = 0 → z_C d m_X11_one [vR 11 0, vI x5] w7 (fun w10 o11 => ∃ i12 : Int32, o11 = some (vI i12) ∧ z_C d m_X11_other [vR 11 0, vI x5] w10 (fun w13 o14 => ∃ i15 : Int32, o14 = some (vI i15) ∧ z_Wp (z_C d) 1 k_X11_comeBy Q 19 [some (vR 11 0), none, some (vI x2), some (vI (x3 ||| ((i_shl 1 i12) ||| (i_shl 1 i15)))), some (vI x4), some (vI (x5 + 1))] [] w13))) ∧ (i9 = 0 → z_C d m_X11_other [vR 11 0, vI x5] w7 (fun w16 o17 => ∃ i18 : Int32, o17 = some (vI i18) ∧ z_C d m_X11_has [vI x3, vI i18] w16 (fun w19 o20 => ∃ i21 : Int32, o20 = some (vI i21) ∧ ((i21 = 0 → z_Wp (z_C d) 1 k_X11_comeBy Q 19 [some (vR 11 0), none, some (vI x2), some (vI x3), some (vI x4), some (vI (x5 + 1))] [] w19) ∧ (¬ i21 = 0 → z_C d m_X11_one [vR 11 0, vI x5] w19 (fun w22 o23 => ∃ i24 : Int32, o23 = some (vI i24) ∧ z_C d m_X11_other [vR 11 0, vI x5] w22 (fun w25 o26 => ∃ i27 : Int32, o26 = some (vI i27) ∧ z_Wp (z_C d) 1 k_X11_comeBy Q 19 [some (vR 11 0), none, some (vI x2), some (vI (x3 ||| ((i_shl 1 i24) ||| (i_shl 1 i27)))), some (vI x4), some (vI (x5 + 1))] [] w25)))))))))))))))) :
    z_Wp (z_C d) 1 k_X11_comeBy Q 19 [some (vR 11 0), u1, some (vI x2), some (vI x3), some (vI x4), some (vI x5)] [] v := z_run [7, 19] 400 h
set_option maxRecDepth 100000 in
set_option maxHeartbeats 2000000 in
theorem B_X11_partsBy_0 {d : Nat} {Q : z_RT} {v : z_V} {a1 : Int32}
    (h : z_Wp (z_C d) 1 k_X11_partsBy Q 8 [some (vR 11 0), some (vI a1), some (vI 0), some (vI 127), some (vI 0)] [] v) :
    z_Wp (z_C d) 1 k_X11_partsBy Q 0 [some (vR 11 0), some (vI a1), none, none, none] [] v := z_run [8] 400 h
set_option maxRecDepth 100000 in
set_option maxHeartbeats 2000000 in
theorem B_X11_partsBy_8 {d : Nat} {Q : z_RT} {v : z_V} {x1 : Int32} {x2 : Int32} {x3 : Int32} {x4 : Int32}
    (h : ((7 ≤ x4 → Q v (some (vI x2))) ∧ (¬ 7 ≤ x4 → z_C d m_X11_has [vI x3, vI x4] v (fun w1 o2 => ∃ i3 : Int32, o2 = some (vI i3) ∧ ((¬ i3 = 0 → z_C d m_X11_comeBy [vR 11 0, vI x4, vI x1] w1 (fun w4 o5 => ∃ i6 : Int32, o5 = some (vI i6) ∧ z_Wp (z_C d) 1 k_X11_partsBy Q 8 [some (vR 11 0), some (vI x1), some (vI (x2 + 1)), some (vI (x3 &&& (i6 ^^^ (-1)))), some (vI (x4 + 1))] [] w4)) ∧ (i3 = 0 → z_Wp (z_C d) 1 k_X11_partsBy Q 8 [some (vR 11 0), some (vI x1), some (vI x2), some (vI x3), some (vI (x4 + 1))] [] w1)))))) :
    z_Wp (z_C d) 1 k_X11_partsBy Q 8 [some (vR 11 0), some (vI x1), some (vI x2), some (vI x3), some (vI x4)] [] v := z_run [8] 400 h
set_option maxRecDepth 100000 in
set_option maxHeartbeats 2000000 in
theorem B_X11_parts_0 {d : Nat} {Q : z_RT} {v : z_V}
    (h : z_C d m_X11_partsBy [vR 11 0, vI (gI v 1200 0 9)] v (fun w1 o2 => ∃ i3 : Int32, o2 = some (vI i3) ∧ Q w1 (some (vI i3)))) :
    z_Wp (z_C d) 1 k_X11_parts Q 0 [some (vR 11 0)] [] v := z_run [] 400 h
set_option maxRecDepth 100000 in
set_option maxHeartbeats 2000000 in
theorem B_X11_cuts_0 {d : Nat} {Q : z_RT} {v : z_V}
    (h : z_Wp (z_C d) 1 k_X11_cuts Q 4 [some (vR 11 0), some (vI 0), some (vI 0)] [] v) :
    z_Wp (z_C d) 1 k_X11_cuts Q 0 [some (vR 11 0), none, none] [] v := z_run [4] 400 h
set_option maxRecDepth 100000 in
set_option maxHeartbeats 2000000 in
theorem B_X11_cuts_4 {d : Nat} {Q : z_RT} {v : z_V} {x1 : Int32} {x2 : Int32}
    (h : (((gI v 1200 0 0) ≤ x2 → Q v (some (vI x1))) ∧ (¬ (gI v 1200 0 0) ≤ x2 → z_C d m_X11_isOpen [vR 11 0, vI x2] v (fun w1 o2 => ∃ i3 : Int32, o2 = some (vI i3) ∧ ((i3 = 0 → z_Wp (z_C d) 1 k_X11_cuts Q 4 [some (vR 11 0), some (vI x1), some (vI (x2 + 1))] [] w1) ∧ (¬ i3 = 0 → z_C d m_X11_partsBy [vR 11 0, vI ((gI w1 1200 0 9) &&& ((i_shl 1 x2) ^^^ (-1)))] w1 (fun w4 o5 => ∃ i6 : Int32, o5 = some (vI i6) ∧ z_C d m_X11_partsBy [vR 11 0, vI (gI w4 1200 0 9)] w4 (fun w7 o8 => ∃ i9 : Int32, o8 = some (vI i9) ∧ ((i6 ≤ i9 → z_Wp (z_C d) 1 k_X11_cuts Q 4 [some (vR 11 0), some (vI x1), some (vI (x2 + 1))] [] w7) ∧ (¬ i6 ≤ i9 → z_Wp (z_C d) 1 k_X11_cuts Q 4 [some (vR 11 0), some (vI (x1 ||| (i_shl 1 x2))), some (vI (x2 + 1))] [] w7)))))))))) :
    z_Wp (z_C d) 1 k_X11_cuts Q 4 [some (vR 11 0), some (vI x1), some (vI x2)] [] v := z_run [4] 400 h
set_option maxRecDepth 100000 in
set_option maxHeartbeats 2000000 in
theorem B_X11_markOf_0 {d : Nat} {Q : z_RT} {v : z_V} {a1 : Int32}
    (h : z_Wp (z_C d) 1 k_X11_markOf Q 2 [some (vR 11 0), some (vI a1), some (vI 0)] [] v) :
    z_Wp (z_C d) 1 k_X11_markOf Q 0 [some (vR 11 0), some (vI a1), none] [] v := z_run [2] 400 h
set_option maxRecDepth 100000 in
set_option maxHeartbeats 2000000 in
theorem B_X11_markOf_2 {d : Nat} {Q : z_RT} {v : z_V} {x1 : Int32} {x2 : Int32}
    (h : ((7 ≤ x2 → Q v (some (vI (-1)))) ∧ (¬ 7 ≤ x2 → z_C d m_X11_has [vI x1, vI x2] v (fun w1 o2 => ∃ i3 : Int32, o2 = some (vI i3) ∧ ((¬ i3 = 0 → z_Wp (z_C d) 1 k_X11_markOf Q 2 [some (vR 11 0), some (vI x1), some (vI (x2 + 1))] [] w1) ∧ (i3 = 0 → z_C d m_X11_besideOf [vR 11 0, vI x2] w1 (fun w4 o5 => ∃ i6 : Int32, o5 = some (vI i6) ∧ ((¬ (i6 &&& x1) = 0 → z_Wp (z_C d) 1 k_X11_markOf Q 2 [some (vR 11 0), some (vI x1), some (vI (x2 + 1))] [] w4) ∧ ((i6 &&& x1) = 0 → z_if (z_in (x1 ||| (i_shl 1 x2)) 128) (((¬ (gI w4 1236 0 (n_ (x1 ||| (i_shl 1 x2)))) = 0 → z_Wp (z_C d) 1 k_X11_markOf Q 2 [some (vR 11 0), some (vI x1), some (vI (x2 + 1))] [] w4) ∧ ((gI w4 1236 0 (n_ (x1 ||| (i_shl 1 x2)))) = 0 → Q w4 (some (vI x2)))))))))))))) :
    z_Wp (z_C d) 1 k_X11_markOf Q 2 [some (vR 11 0), some (vI x1), some (vI x2)] [] v := z_run [2] 400 h
set_option maxRecDepth 100000 in
set_option maxHeartbeats 2000000 in
theorem B_X11_areHalts_0 {d : Nat} {Q : z_RT} {v : z_V} {a0 : Int32}
    (h : z_C d m_X11_isIn [vI a0, vI 0, vI 127] v (fun w1 o2 => ∃ i3 : Int32, o2 = some (vI i3) ∧ z_if (z_01 i3) (Q w1 (some (vI i3))))) :
    z_Wp (z_C d) 4 k_X11_areHalts Q 0 [some (vI a0)] [] v := z_run [] 400 h
set_option maxRecDepth 100000 in
set_option maxHeartbeats 2000000 in
theorem B_X11_markFirst_0 {d : Nat} {Q : z_RT} {v : z_V} {a1 : Int32}
    (h : z_Wp (z_C d) 1 k_X11_markFirst Q 3 [some (vR 11 0), some (vI a1), some (vI 127)] [] v) :
    z_Wp (z_C d) 1 k_X11_markFirst Q 0 [some (vR 11 0), some (vI a1), none] [] v := z_run [3] 400 h
set_option maxRecDepth 100000 in
set_option maxHeartbeats 2000000 in
theorem B_X11_markFirst_3 {d : Nat} {Q : z_RT} {v : z_V} {x1 : Int32} {x2 : Int32}
    (h : ((x2 ≤ x1 → z_C d m_X11_markOf [vR 11 0, vI x1] v (fun w1 o2 => ∃ i3 : Int32, o2 = some (vI i3) ∧ Q w1 (some (vI i3)))) ∧ (¬ x2 ≤ x1 → z_C d m_X11_markOf [vR 11 0, vI x2] v (fun w4 o5 => ∃ i6 : Int32, o5 = some (vI i6) ∧ ((i6 = (-1) → z_if (z_in x2 128 && true) (z_Wp (z_C d) 1 k_X11_markFirst Q 3 [some (vR 11 0), some (vI x1), some (vI (x2 + (-1)))] [] (pI w4 1236 0 (n_ x2) 0))) ∧ (¬ i6 = (-1) → z_if (z_in x2 128 && true) (z_Wp (z_C d) 1 k_X11_markFirst Q 3 [some (vR 11 0), some (vI x1), some (vI (x2 + (-1)))] [] (pI w4 1236 0 (n_ x2) 1)))))))) :
    z_Wp (z_C d) 1 k_X11_markFirst Q 3 [some (vR 11 0), some (vI x1), some (vI x2)] [] v := z_run [3] 400 h
set_option maxRecDepth 100000 in
set_option maxHeartbeats 2000000 in
theorem B_X11_game_0 {d : Nat} {Q : z_RT} {v : z_V} {a1 : Int32}
    (h : z_C d m_X11_areHalts [vI a1] v (fun w1 o2 => ∃ i3 : Int32, o2 = some (vI i3) ∧ ((¬ i3 = 0 → z_C d m_X11_markFirst [vR 11 0, vI a1] w1 (fun w4 o5 => ∃ i6 : Int32, o5 = some (vI i6) ∧ ((¬ i6 = (-1) → Q w4 (some (vI 1))) ∧ (i6 = (-1) → Q w4 (some (vI 0)))))) ∧ (i3 = 0 → Q w1 (some (vI (-1))))))) :
    z_Wp (z_C d) 1 k_X11_game Q 0 [some (vR 11 0), some (vI a1)] [] v := z_run [] 400 h
set_option maxRecDepth 100000 in
set_option maxHeartbeats 2000000 in
theorem B_X11_mark_0 {d : Nat} {Q : z_RT} {v : z_V} {a1 : Int32}
    (h : z_C d m_X11_areHalts [vI a1] v (fun w1 o2 => ∃ i3 : Int32, o2 = some (vI i3) ∧ ((i3 = 0 → Q w1 (some (vI (-1)))) ∧ (¬ i3 = 0 → z_C d m_X11_markFirst [vR 11 0, vI a1] w1 (fun w4 o5 => ∃ i6 : Int32, o5 = some (vI i6) ∧ Q w4 (some (vI i6))))))) :
    z_Wp (z_C d) 1 k_X11_mark Q 0 [some (vR 11 0), some (vI a1)] [] v := z_run [] 400 h
set_option maxRecDepth 100000 in
set_option maxHeartbeats 2000000 in
theorem B_X11_layRides_0 {d : Nat} {Q : z_RT} {v : z_V} {a1 : Int32}
    (h : z_Wp (z_C d) 0 k_X11_layRides Q 2 [some (vR 11 0), some (vI a1), some (vI 0), none, none] [] v) :
    z_Wp (z_C d) 0 k_X11_layRides Q 0 [some (vR 11 0), some (vI a1), none, none, none] [] v := z_run [2, 34, 42, 124] 400 h
set_option maxRecDepth 100000 in
set_option maxHeartbeats 2000000 in
theorem B_X11_layRides_2 {d : Nat} {Q : z_RT} {v : z_V} {x1 : Int32} {x2 : Int32} {u3 : Option z_AV} {u4 : Option z_AV}
    (h : ((7 ≤ x2 → z_Wp (z_C d) 0 k_X11_layRides Q 34 [some (vR 11 0), some (vI x1), some (vI 0), none, none] [] v) ∧ (¬ 7 ≤ x2 → ((¬ x2 = x1 → z_if (z_in x2 7) (z_Wp (z_C d) 0 k_X11_layRides Q 2 [some (vR 11 0), some (vI x1), some (vI (x2 + 1)), none, none] [] (pI v 1237 0 (n_ x2) 1000000))) ∧ (x2 = x1 → z_if (z_in x2 7) (z_Wp (z_C d) 0 k_X11_layRides Q 2 [some (vR 11 0), some (vI x1), some (vI (x2 + 1)), none, none] [] (pI v 1237 0 (n_ x2) 0))))))) :
    z_Wp (z_C d) 0 k_X11_layRides Q 2 [some (vR 11 0), some (vI x1), some (vI x2), u3, u4] [] v := z_run [2, 34, 42, 124] 400 h
set_option maxRecDepth 100000 in
set_option maxHeartbeats 2000000 in
theorem B_X11_layRides_34 {d : Nat} {Q : z_RT} {v : z_V} {u1 : Option z_AV} {x2 : Int32} {u3 : Option z_AV} {u4 : Option z_AV}
    (h : ((7 ≤ x2 → Q v none) ∧ (¬ 7 ≤ x2 → z_Wp (z_C d) 0 k_X11_layRides Q 42 [some (vR 11 0), none, some (vI x2), some (vI 0), none] [] v))) :
    z_Wp (z_C d) 0 k_X11_layRides Q 34 [some (vR 11 0), u1, some (vI x2), u3, u4] [] v := z_run [2, 34, 42, 124] 400 h
set_option maxRecDepth 100000 in
set_option maxHeartbeats 2000000 in
theorem B_X11_layRides_42 {d : Nat} {Q : z_RT} {v : z_V} {u1 : Option z_AV} {x2 : Int32} {x3 : Int32} {u4 : Option z_AV}
    (h : (((gI v 1200 0 0) ≤ x3 → z_Wp (z_C d) 0 k_X11_layRides Q 34 [some (vR 11 0), none, some (vI (x2 + 1)), some (vI x3), none] [] v) ∧ (¬ (gI v 1200 0 0) ≤ x3 → z_C d m_X11_isOpen [vR 11 0, vI x3] v (fun w1 o2 => ∃ i3 : Int32, o2 = some (vI i3) ∧ ((¬ i3 = 0 → z_C d m_X11_fareOf [vR 11 0, vI x3] w1 (fun w4 o5 => ∃ i6 : Int32, o5 = some (vI i6) ∧ z_C d m_X11_one [vR 11 0, vI x3] w4 (fun w7 o8 => ∃ i9 : Int32, o8 = some (vI i9) ∧ z_if (z_in i9 7) (z_C d m_X11_other [vR 11 0, vI x3] w7 (fun w10 o11 => ∃ i12 : Int32, o11 = some (vI i12) ∧ z_if (z_in i12 7) ((((gI w10 1237 0 (n_ i12)) ≤ ((gI w7 1237 0 (n_ i9)) + ((10 * i6) + 1)) → z_Wp (z_C d) 0 k_X11_layRides Q 124 [some (vR 11 0), none, some (vI x2), some (vI x3), some (vI ((10 * i6) + 1))] [] w10) ∧ (¬ (gI w10 1237 0 (n_ i12)) ≤ ((gI w7 1237 0 (n_ i9)) + ((10 * i6) + 1)) → z_C d m_X11_other [vR 11 0, vI x3] w10 (fun w13 o14 => ∃ i15 : Int32, o14 = some (vI i15) ∧ z_C d m_X11_one [vR 11 0, vI x3] w13 (fun w16 o17 => ∃ i18 : Int32, o17 = some (vI i18) ∧ z_if (z_in i18 7) (z_if (z_in i15 7) (z_Wp (z_C d) 0 k_X11_layRides Q 124 [some (vR 11 0), none, some (vI x2), some (vI x3), some (vI ((10 * i6) + 1))] [] (pI w16 1237 0 (n_ i15) ((gI w16 1237 0 (n_ i18)) + ((10 * i6) + 1))))))))))))))) ∧ (i3 = 0 → z_Wp (z_C d) 0 k_X11_layRides Q 42 [some (vR 11 0), none, some (vI x2), some (vI (x3 + 1)), none] [] w1)))))) :
    z_Wp (z_C d) 0 k_X11_layRides Q 42 [some (vR 11 0), u1, some (vI x2), some (vI x3), u4] [] v := z_run [2, 34, 42, 124] 400 h
set_option maxRecDepth 100000 in
set_option maxHeartbeats 2000000 in
theorem B_X11_layRides_124 {d : Nat} {Q : z_RT} {v : z_V} {u1 : Option z_AV} {x2 : Int32} {x3 : Int32} {x4 : Int32}
    (h : z_C d m_X11_other [vR 11 0, vI x3] v (fun w1 o2 => ∃ i3 : Int32, o2 = some (vI i3) ∧ z_if (z_in i3 7) (z_C d m_X11_one [vR 11 0, vI x3] w1 (fun w4 o5 => ∃ i6 : Int32, o5 = some (vI i6) ∧ z_if (z_in i6 7) ((((gI w4 1237 0 (n_ i6)) ≤ ((gI w1 1237 0 (n_ i3)) + x4) → z_Wp (z_C d) 0 k_X11_layRides Q 42 [some (vR 11 0), none, some (vI x2), some (vI (x3 + 1)), some (vI x4)] [] w4) ∧ (¬ (gI w4 1237 0 (n_ i6)) ≤ ((gI w1 1237 0 (n_ i3)) + x4) → z_C d m_X11_one [vR 11 0, vI x3] w4 (fun w7 o8 => ∃ i9 : Int32, o8 = some (vI i9) ∧ z_C d m_X11_other [vR 11 0, vI x3] w7 (fun w10 o11 => ∃ i12 : Int32, o11 = some (vI i12) ∧ z_if (z_in i12 7) (z_if (z_in i9 7) (z_Wp (z_C d) 0 k_X11_layRides Q 42 [some (vR 11 0), none, some (vI x2), some (vI (x3 + 1)), some (vI x4)] [] (pI w10 1237 0 (n_ i9) ((gI w10 1237 0 (n_ i12)) + x4))))))))))))) :
    z_Wp (z_C d) 0 k_X11_layRides Q 124 [some (vR 11 0), u1, some (vI x2), some (vI x3), some (vI x4)] [] v := z_run [2, 34, 42, 124] 400 h
set_option maxRecDepth 100000 in
set_option maxHeartbeats 2000000 in
theorem B_X11_ride_0 {d : Nat} {Q : z_RT} {v : z_V} {a1 : Int32} {a2 : Int32}
    (h : z_C d m_X11_isHalt [vI a1] v (fun w1 o2 => ∃ i3 : Int32, o2 = some (vI i3) ∧ ((i3 = 0 → Q w1 (some (vI (-1)))) ∧ (¬ i3 = 0 → z_C d m_X11_isHalt [vI a2] w1 (fun w4 o5 => ∃ i6 : Int32, o5 = some (vI i6) ∧ ((¬ i6 = 0 → z_C d m_X11_layRides [vR 11 0, vI a2] w4 (fun w7 o8 => o8 = none ∧ z_if (z_in a1 7) ((((gI w7 1237 0 (n_ a1)) < 1000000 → z_if (z_in a1 7) (Q w7 (some (vI ((gI w7 1237 0 (n_ a1)) / 10))))) ∧ (¬ (gI w7 1237 0 (n_ a1)) < 1000000 → Q w7 (some (vI (-1)))))))) ∧ (i6 = 0 → Q w4 (some (vI (-1)))))))))) :
    z_Wp (z_C d) 1 k_X11_ride Q 0 [some (vR 11 0), some (vI a1), some (vI a2)] [] v := z_run [] 400 h
set_option maxRecDepth 100000 in
set_option maxHeartbeats 2000000 in
theorem B_X11_isNext_0 {d : Nat} {Q : z_RT} {v : z_V} {a1 : Int32} {a2 : Int32}
    (h : z_Wp (z_C d) 4 k_X11_isNext Q 2 [some (vR 11 0), some (vI a1), some (vI a2), some (vI 0)] [] v) :
    z_Wp (z_C d) 4 k_X11_isNext Q 0 [some (vR 11 0), some (vI a1), some (vI a2), none] [] v := z_run [2] 400 h
set_option maxRecDepth 100000 in
set_option maxHeartbeats 2000000 in
theorem B_X11_isNext_2 {d : Nat} {Q : z_RT} {v : z_V} {x1 : Int32} {x2 : Int32} {x3 : Int32}
    (h : (((gI v 1200 0 0) ≤ x3 → Q v (some (vI 0))) ∧ (¬ (gI v 1200 0 0) ≤ x3 → z_C d m_X11_isOpen [vR 11 0, vI x3] v (fun w1 o2 => ∃ i3 : Int32, o2 = some (vI i3) ∧ ((i3 = 0 → z_Wp (z_C d) 4 k_X11_isNext Q 2 [some (vR 11 0), some (vI x1), some (vI x2), some (vI (x3 + 1))] [] w1) ∧ (¬ i3 = 0 → ((x2 = x1 → z_Wp (z_C d) 4 k_X11_isNext Q 2 [some (vR 11 0), some (vI x1), some (vI x2), some (vI (x3 + 1))] [] w1) ∧ (¬ x2 = x1 → z_C d m_X11_isOn [vR 11 0, vI x3, vI x1] w1 (fun w4 o5 => ∃ i6 : Int32, o5 = some (vI i6) ∧ ((i6 = 0 → z_Wp (z_C d) 4 k_X11_isNext Q 2 [some (vR 11 0), some (vI x1), some (vI x2), some (vI (x3 + 1))] [] w4) ∧ (¬ i6 = 0 → z_C d m_X11_isOn [vR 11 0, vI x3, vI x2] w4 (fun w7 o8 => ∃ i9 : Int32, o8 = some (vI i9) ∧ ((i9 = 0 → z_Wp (z_C d) 4 k_X11_isNext Q 2 [some (vR 11 0), some (vI x1), some (vI x2), some (vI (x3 + 1))] [] w7) ∧ (¬ i9 = 0 → z_if (z_in x2 7) (z_C d m_X11_fareOf [vR 11 0, vI x3] w7 (fun w10 o11 => ∃ i12 : Int32, o11 = some (vI i12) ∧ z_if (z_in x1 7) (((¬ (((gI w7 1237 0 (n_ x2)) + (10 * i12)) + 1) = (gI w10 1237 0 (n_ x1)) → z_Wp (z_C d) 4 k_X11_isNext Q 2 [some (vR 11 0), some (vI x1), some (vI x2), some (vI (x3 + 1))] [] w10) ∧ ((((gI w7 1237 0 (n_ x2)) + (10 * i12)) + 1) = (gI w10 1237 0 (n_ x1)) → Q w10 (some (vI 1))))))))))))))))))))) :
    z_Wp (z_C d) 4 k_X11_isNext Q 2 [some (vR 11 0), some (vI x1), some (vI x2), some (vI x3)] [] v := z_run [2] 400 h
set_option maxRecDepth 100000 in
set_option maxHeartbeats 2000000 in
theorem B_X11_change_0 {d : Nat} {Q : z_RT} {v : z_V} {a1 : Int32} {a2 : Int32} {a3 : Int32}
    (h : z_C d m_X11_isHalt [vI a1] v (fun w1 o2 => ∃ i3 : Int32, o2 = some (vI i3) ∧ ((i3 = 0 → Q w1 (some (vI (-2)))) ∧ (¬ i3 = 0 → z_C d m_X11_isHalt [vI a2] w1 (fun w4 o5 => ∃ i6 : Int32, o5 = some (vI i6) ∧ ((i6 = 0 → Q w4 (some (vI (-2)))) ∧ (¬ i6 = 0 → ((0 ≤ a3 → z_C d m_X11_layRides [vR 11 0, vI a2] w4 (fun w7 o8 => o8 = none ∧ z_if (z_in a1 7) (((1000000 ≤ (gI w7 1237 0 (n_ a1)) → Q w7 (some (vI (-2)))) ∧ (¬ 1000000 ≤ (gI w7 1237 0 (n_ a1)) → z_if (z_in a1 7) (((a3 ≤ (i_rem (gI w7 1237 0 (n_ a1)) 10) → z_Wp (z_C d) 1 k_X11_change Q 60 [some (vR 11 0), some (vI a1), some (vI a2), some (vI a3), some (vI a1), some (vI 0), none] [] w7) ∧ (¬ a3 ≤ (i_rem (gI w7 1237 0 (n_ a1)) 10) → Q w7 (some (vI (-2))))))))))) ∧ (¬ 0 ≤ a3 → Q w4 (some (vI (-2)))))))))))) :
    z_Wp (z_C d) 1 k_X11_change Q 0 [some (vR 11 0), some (vI a1), some (vI a2), some (vI a3), none, none, none] [] v := z_run [60, 69] 400 h
set_option maxRecDepth 100000 in
set_option maxHeartbeats 2000000 in
theorem B_X11_change_60 {d : Nat} {Q : z_RT} {v : z_V} {u1 : Option z_AV} {u2 : Option z_AV} {x3 : Int32} {x4 : Int32} {x5 : Int32} {u6 : Option z_AV}
    (h : ((x3 ≤ x5 → Q v (some (vI x4))) ∧ (¬ x3 ≤ x5 → z_Wp (z_C d) 1 k_X11_change Q 69 [some (vR 11 0), none, none, some (vI x3), some (vI x4), some (vI x5), some (vI 0)] [] v))) :
    z_Wp (z_C d) 1 k_X11_change Q 60 [some (vR 11 0), u1, u2, some (vI x3), some (vI x4), some (vI x5), u6] [] v := z_run [60, 69] 400 h
set_option maxRecDepth 100000 in
set_option maxHeartbeats 2000000 in
theorem B_X11_change_69 {d : Nat} {Q : z_RT} {v : z_V} {u1 : Option z_AV} {u2 : Option z_AV} {x3 : Int32} {x4 : Int32} {x5 : Int32} {x6 : Int32}
    (h : z_C d m_X11_isNext [vR 11 0, vI x4, vI x6] v (fun w1 o2 => ∃ i3 : Int32, o2 = some (vI i3) ∧ ((¬ i3 = 0 → z_Wp (z_C d) 1 k_X11_change Q 60 [some (vR 11 0), none, none, some (vI x3), some (vI x6), some (vI (x5 + 1)), some (vI x6)] [] w1) ∧ (i3 = 0 → z_Wp (z_C d) 1 k_X11_change Q 69 [some (vR 11 0), none, none, some (vI x3), some (vI x4), some (vI x5), some (vI (x6 + 1))] [] w1)))) :
    z_Wp (z_C d) 1 k_X11_change Q 69 [some (vR 11 0), u1, u2, some (vI x3), some (vI x4), some (vI x5), some (vI x6)] [] v := z_run [60, 69] 400 h
set_option maxRecDepth 100000 in
set_option maxHeartbeats 16000000 in
theorem B_X11_said_0 {d : Nat} {Q : z_RT} {v : z_V} {a1 : Int32} {a2 : Int32}
    (h : ((¬ a1 = (-1) → z_C d m_X11_isLine [vR 11 0, vI a1] v (fun w1 o2 => ∃ i3 : Int32, o2 = some (vI i3) ∧ ((i3 = 0 → Q w1 (some (vI (-2)))) ∧ (¬ i3 = 0 → z_C d m_X11_isIn [vI a2, vI 0, vI 10] w1 (fun w4 o5 => ∃ i6 : Int32, o5 = some (vI i6) ∧ ((i6 = 0 → Q w4 (some (vI (-2)))) ∧ (¬ i6 = 0 → ((¬ (gI w4 1200 0 4) = 8 → z_if (z_in (37 + (2 * (gI w4 1200 0 4))) 1218) (z_if (z_in ((37 + (2 * (gI (pI w4 1200 0 (n_ (37 + (2 * (gI w4 1200 0 4)))) a1) 1200 0 4))) + 1) 1218) (z_Wp (z_C d) 1 k_X11_said Q 92 [some (vR 11 0), some (vI a1), some (vI a2)] [] (pI (pI (pI w4 1200 0 (n_ (37 + (2 * (gI w4 1200 0 4)))) a1) 1200 0 (n_ ((37 + (2 * (gI (pI w4 1200 0 (n_ (37 + (2 * (gI w4 1200 0 4)))) a1) 1200 0 4))) + 1)) a2) 1200 0 4 ((gI (pI (pI w4 1200 0 (n_ (37 + (2 * (gI w4 1200 0 4)))) a1) 1200 0 (n_ ((37 + (2 * (gI (pI w4 1200 0 (n_ (37 + (2 * (gI w4 1200 0 4)))) a1) 1200 0 4))) + 1)) a2) 1200 0 4) + 1))))) ∧ ((gI w4 1200 0 4) = 8 → Q w4 (some (vI (-2)))))))))))) ∧ (a1 = (-1) → Q (pI v 1200 0 4 0) (some (vI 0))))) :
    z_Wp (z_C d) 1 k_X11_said Q 0 [some (vR 11 0), some (vI a1), some (vI a2)] [] v := z_run [92] 400 h
set_option maxRecDepth 100000 in
set_option maxHeartbeats 16000000 in
theorem B_X11_said_92 {d : Nat} {Q : z_RT} {v : z_V} {u1 : Option z_AV} {u2 : Option z_AV}
    (h : Q v (some (vI (gI v 1200 0 4)))) :
    z_Wp (z_C d) 1 k_X11_said Q 92 [some (vR 11 0), u1, u2] [] v := z_run [92] 400 h
set_option maxRecDepth 100000 in
set_option maxHeartbeats 2000000 in
theorem B_X11_whose_0 {d : Nat} {Q : z_RT} {v : z_V}
    (h : z_Wp (z_C d) 1 k_X11_whose Q 4 [some (vR 11 0), some (vI 0), some (vI 0), none, none] [] v) :
    z_Wp (z_C d) 1 k_X11_whose Q 0 [some (vR 11 0), none, none, none, none] [] v := z_run [4, 20] 400 h
set_option maxRecDepth 100000 in
set_option maxHeartbeats 2000000 in
theorem B_X11_whose_4 {d : Nat} {Q : z_RT} {v : z_V} {x1 : Int32} {x2 : Int32} {u3 : Option z_AV} {u4 : Option z_AV}
    (h : (((gI v 1200 0 1) ≤ x2 → Q v (some (vI x1))) ∧ (¬ (gI v 1200 0 1) ≤ x2 → z_Wp (z_C d) 1 k_X11_whose Q 20 [some (vR 11 0), some (vI x1), some (vI x2), some (vI 1), some (vI 37)] [] v))) :
    z_Wp (z_C d) 1 k_X11_whose Q 4 [some (vR 11 0), some (vI x1), some (vI x2), u3, u4] [] v := z_run [4, 20] 400 h
set_option maxRecDepth 100000 in
set_option maxHeartbeats 2000000 in
theorem B_X11_whose_20 {d : Nat} {Q : z_RT} {v : z_V} {x1 : Int32} {x2 : Int32} {x3 : Int32} {x4 : Int32}
    (h : (((37 + (2 * (gI v 1200 0 4))) ≤ x4 → ((x3 = 0 → z_Wp (z_C d) 1 k_X11_whose Q 4 [some (vR 11 0), some (vI (x1 ||| 0)), some (vI (x2 + 1)), some (vI x3), some (vI x4)] [] v) ∧ (¬ x3 = 0 → z_Wp (z_C d) 1 k_X11_whose Q 4 [some (vR 11 0), some (vI (x1 ||| (i_shl 1 x2))), some (vI (x2 + 1)), some (vI x3), some (vI x4)] [] v))) ∧ (¬ (37 + (2 * (gI v 1200 0 4))) ≤ x4 → ((x3 = 0 → z_Wp (z_C d) 1 k_X11_whose Q 20 [some (vR 11 0), some (vI x1), some (vI x2), some (vI 0), some (vI (x4 + 2))] [] v) ∧ (¬ x3 = 0 → z_if (z_in x4 1218) (z_C d m_X11_ridesOf [vR 11 0, vI x2, vI (gI v 1200 0 (n_ x4))] v (fun w1 o2 => ∃ i3 : Int32, o2 = some (vI i3) ∧ z_if (z_in (x4 + 1) 1218) (((¬ i3 = (gI w1 1200 0 (n_ (x4 + 1))) → z_Wp (z_C d) 1 k_X11_whose Q 20 [some (vR 11 0), some (vI x1), some (vI x2), some (vI 0), some (vI (x4 + 2))] [] w1) ∧ (i3 = (gI w1 1200 0 (n_ (x4 + 1))) → z_Wp (z_C d) 1 k_X11_whose Q 20 [some (vR 11 0), some (vI x1), some (vI x2), some (vI 1), some (vI (x4 + 2))] [] w1)))))))))) :
    z_Wp (z_C d) 1 k_X11_whose Q 20 [some (vR 11 0), some (vI x1), some (vI x2), some (vI x3), some (vI x4)] [] v := z_run [4, 20] 400 h
set_option maxRecDepth 100000 in
set_option maxHeartbeats 2000000 in
theorem B_X11_image_0 {d : Nat} {Q : z_RT} {v : z_V}
    (h : z_C d m_X11_copy [vR 1200 0, vR 1201 0] v (fun w1 o2 => o2 = none ∧ Q w1 (some (vI (gI w1 1200 0 5))))) :
    z_Wp (z_C d) 1 k_X11_image Q 0 [some (vR 11 0)] [] v := z_run [] 400 h
set_option maxRecDepth 100000 in
set_option maxHeartbeats 2000000 in
theorem B_X11_back_0 {d : Nat} {Q : z_RT} {v : z_V}
    (h : z_C d m_X11_copy [vR 1201 0, vR 1200 0] v (fun w1 o2 => o2 = none ∧ Q w1 (some (vI (gI w1 1200 0 5))))) :
    z_Wp (z_C d) 1 k_X11_back Q 0 [some (vR 11 0)] [] v := z_run [] 400 h
set_option maxRecDepth 100000 in
set_option maxHeartbeats 2000000 in
theorem B_X11_about_0 {d : Nat} {Q : z_RT} {v : z_V} {a1 : Int32}
    (h : z_C d m_X11_isIn [vI a1, vI 0, vI 4] v (fun w1 o2 => ∃ i3 : Int32, o2 = some (vI i3) ∧ ((i3 = 0 → ((¬ a1 = 5 → Q w1 (some (vI (-2)))) ∧ (a1 = 5 → Q w1 (some (vI (gI w1 11 0 4)))))) ∧ (¬ i3 = 0 → z_if (z_in a1 1218) (Q w1 (some (vI (gI w1 1200 0 (n_ a1))))))))) :
    z_Wp (z_C d) 1 k_X11_about Q 0 [some (vR 11 0), some (vI a1)] [] v := z_run [] 400 h
