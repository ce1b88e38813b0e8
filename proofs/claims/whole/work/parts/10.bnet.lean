set_option maxRecDepth 100000 in
set_option maxHeartbeats 2000000 in
theorem B_X0_look_0 {d : Nat} {Q : z_RT} {v : z_V} {n1 : Nat}
    (h : z_C d m_X9_openBits [vR 9 n1] v (fun w1 o2 => ∃ i3 : Int32, o2 = some (vI i3) ∧ z_C d m_J6_bitCount_0f7a4 [vI i3] (pI w1 0 0 3 i3) (fun w4 o5 => ∃ i6 : Int32, o5 = some (vI i6) ∧ z_Wp (z_C d) 0 k_X0_look Q 26 [some (vR 0 0), some (vR 9 n1), some (vI 0)] [] (pL (pI w4 0 0 4 i6) 0 0 7 0)))) :
    z_Wp (z_C d) 0 k_X0_look Q 0 [some (vR 0 0), some (vR 9 n1), none] [] v := z_run [26, 47, 118, 181] 400 h
set_option maxRecDepth 100000 in
set_option maxHeartbeats 2000000 in
theorem B_X0_look_26 {d : Nat} {Q : z_RT} {v : z_V} {n1 : Nat} {x2 : Int32}
    (h : ((7 ≤ x2 → z_Wp (z_C d) 0 k_X0_look Q 47 [some (vR 0 0), some (vR 9 n1), some (vI 0)] [] v) ∧ (¬ 7 ≤ x2 → z_if (z_in x2 7) (z_Wp (z_C d) 0 k_X0_look Q 26 [some (vR 0 0), some (vR 9 n1), some (vI (x2 + 1))] [] (pI v 102 0 (n_ x2) 0))))) :
    z_Wp (z_C d) 0 k_X0_look Q 26 [some (vR 0 0), some (vR 9 n1), some (vI x2)] [] v := z_run [26, 47, 118, 181] 400 h
set_option maxRecDepth 100000 in
set_option maxHeartbeats 2000000 in
theorem B_X0_look_47 {d : Nat} {Q : z_RT} {v : z_V} {n1 : Nat} {x2 : Int32}
    (h : ((10 ≤ x2 → z_Wp (z_C d) 0 k_X0_look Q 181 [some (vR 0 0), some (vR 9 n1), some (vI 0)] [] (pI v 0 0 5 0)) ∧ (¬ 10 ≤ x2 → z_C d m_X0_isOpen [vR 0 0, vI x2] (pL v 0 0 7 (l_shl (gL v 0 0 7) 6)) (fun w1 o2 => ∃ i3 : Int32, o2 = some (vI i3) ∧ ((i3 = 0 → z_Wp (z_C d) 0 k_X0_look Q 47 [some (vR 0 0), some (vR 9 n1), some (vI (x2 + 1))] [] w1) ∧ (¬ i3 = 0 → z_if (z_in x2 10) (z_if (z_in x2 10) (z_if (z_in x2 10) (z_if (z_in x2 10) (z_if (z_in x2 10) (z_if (z_in (gI (pI w1 100 0 (n_ x2) (gI w1 1001 n1 (n_ x2))) 100 0 (n_ x2)) 7) (z_if (z_in x2 10) (z_if (z_in (gI (pI w1 100 0 (n_ x2) (gI w1 1001 n1 (n_ x2))) 100 0 (n_ x2)) 7) (z_Wp (z_C d) 0 k_X0_look Q 118 [some (vR 0 0), some (vR 9 n1), some (vI x2)] [] (pI (pI (pI w1 100 0 (n_ x2) (gI w1 1001 n1 (n_ x2))) 101 0 (n_ x2) (gI w1 1002 n1 (n_ x2))) 102 0 (n_ (gI (pI w1 100 0 (n_ x2) (gI w1 1001 n1 (n_ x2))) 100 0 (n_ x2))) ((gI w1 102 0 (n_ (gI (pI w1 100 0 (n_ x2) (gI w1 1001 n1 (n_ x2))) 100 0 (n_ x2)))) ||| (i_shl 1 (gI (pI (pI w1 100 0 (n_ x2) (gI w1 1001 n1 (n_ x2))) 101 0 (n_ x2) (gI w1 1002 n1 (n_ x2))) 101 0 (n_ x2))))))))))))))))))) :
    z_Wp (z_C d) 0 k_X0_look Q 47 [some (vR 0 0), some (vR 9 n1), some (vI x2)] [] v := z_run [26, 47, 118, 181] 400 h
set_option maxRecDepth 100000 in
set_option maxHeartbeats 2000000 in
theorem B_X0_look_181 {d : Nat} {Q : z_RT} {v : z_V} {u1 : Option z_AV} {x2 : Int32}
    (h : ((7 ≤ x2 → z_C d m_J6_bitCount_0f7a4 [vI (gI v 0 0 5)] v (fun w1 o2 => ∃ i3 : Int32, o2 = some (vI i3) ∧ Q (pI w1 0 0 6 i3) none)) ∧ (¬ 7 ≤ x2 → z_if (z_in x2 7) ((((gI v 102 0 (n_ x2)) = 0 → z_Wp (z_C d) 0 k_X0_look Q 181 [some (vR 0 0), none, some (vI (x2 + 1))] [] v) ∧ (¬ (gI v 102 0 (n_ x2)) = 0 → z_Wp (z_C d) 0 k_X0_look Q 181 [some (vR 0 0), none, some (vI (x2 + 1))] [] (pI v 0 0 5 ((gI v 0 0 5) ||| (i_shl 1 x2))))))))) :
    z_Wp (z_C d) 0 k_X0_look Q 181 [some (vR 0 0), u1, some (vI x2)] [] v := z_run [26, 47, 118, 181] 400 h
set_option maxRecDepth 100000 in
set_option maxHeartbeats 2000000 in
theorem B_X0_look_118 {d : Nat} {Q : z_RT} {v : z_V} {n1 : Nat} {x2 : Int32}
    (h : z_if (z_in x2 10) (z_if (z_in (gI v 101 0 (n_ x2)) 7) (z_if (z_in x2 10) (z_if (z_in (gI v 101 0 (n_ x2)) 7) (z_if (z_in x2 10) (z_if (z_in x2 10) (z_Wp (z_C d) 0 k_X0_look Q 47 [some (vR 0 0), some (vR 9 n1), some (vI (x2 + 1))] [] (pL (pI v 102 0 (n_ (gI v 101 0 (n_ x2))) ((gI v 102 0 (n_ (gI v 101 0 (n_ x2)))) ||| (i_shl 1 (gI v 100 0 (n_ x2))))) 0 0 7 ((gL v 0 0 7) + (((1 + ((gI v 100 0 (n_ x2)) * 7)) + (gI v 101 0 (n_ x2))).toInt64)))))))))) :
    z_Wp (z_C d) 0 k_X0_look Q 118 [some (vR 0 0), some (vR 9 n1), some (vI x2)] [] v := z_run [26, 47, 118, 181] 400 h
set_option maxRecDepth 100000 in
set_option maxHeartbeats 2000000 in
theorem B_X0_isOpen_0 {d : Nat} {Q : z_RT} {v : z_V} {a1 : Int32}
    (h : ((((i_shr (gI v 0 0 3) a1) &&& 1) = 0 → Q v (some (vI 0))) ∧ (¬ ((i_shr (gI v 0 0 3) a1) &&& 1) = 0 → Q v (some (vI 1))))) :
    z_Wp (z_C d) 4 k_X0_isOpen Q 0 [some (vR 0 0), some (vI a1)] [] v := z_run [] 400 h
set_option maxRecDepth 100000 in
set_option maxHeartbeats 2000000 in
theorem B_X0_isBeside_0 {d : Nat} {Q : z_RT} {v : z_V} {a1 : Int32}
    (h : ((((i_shr (gI v 0 0 5) a1) &&& 1) = 0 → Q v (some (vI 0))) ∧ (¬ ((i_shr (gI v 0 0 5) a1) &&& 1) = 0 → Q v (some (vI 1))))) :
    z_Wp (z_C d) 4 k_X0_isBeside Q 0 [some (vR 0 0), some (vI a1)] [] v := z_run [] 400 h
set_option maxRecDepth 100000 in
set_option maxHeartbeats 2000000 in
theorem B_X0_ofSearch_a_0 {d : Nat} {Q : z_RT} {v : z_V} {a2 : Int32}
    (h : z_C d m_X0_isBeside [vR 0 0, vI a2] v (fun w1 o2 => ∃ i3 : Int32, o2 = some (vI i3) ∧ ((i3 = 0 → Q w1 (some (vI 0))) ∧ (¬ i3 = 0 → z_if (z_in a2 7) (Q w1 (some (vI (gI w1 200 0 (n_ a2))))))))) :
    z_Wp (z_C d) 1 k_X0_ofSearch Q 0 [some (vR 0 0), some (vR 200 0), some (vI a2)] [] v := z_run [] 400 h
set_option maxRecDepth 100000 in
set_option maxHeartbeats 2000000 in
theorem B_X0_ofSearch_b_0 {d : Nat} {Q : z_RT} {v : z_V} {n1 : Nat} {a2 : Int32}
    (h : z_C d m_X0_isBeside [vR 0 0, vI a2] v (fun w1 o2 => ∃ i3 : Int32, o2 = some (vI i3) ∧ ((i3 = 0 → Q w1 (some (vI 0))) ∧ (¬ i3 = 0 → z_if (z_in a2 7) (Q w1 (some (vI (gI w1 300 n1 (n_ a2))))))))) :
    z_Wp (z_C d) 1 k_X0_ofSearch Q 0 [some (vR 0 0), some (vR 300 n1), some (vI a2)] [] v := z_run [] 400 h
set_option maxRecDepth 100000 in
set_option maxHeartbeats 2000000 in
theorem B_X0_reached_0 {d : Nat} {Q : z_RT} {v : z_V} {a1 : Int32} {a2 : Int32}
    (h : z_Wp (z_C d) 1 k_X0_reached Q 7 [some (vR 0 0), some (vI a1), some (vI a2), some (vI (i_shl 1 a1)), some (vI 1), none] [] v) :
    z_Wp (z_C d) 1 k_X0_reached Q 0 [some (vR 0 0), some (vI a1), some (vI a2), none, none, none] [] v := z_run [7, 17] 400 h
set_option maxRecDepth 100000 in
set_option maxHeartbeats 2000000 in
theorem B_X0_reached_7 {d : Nat} {Q : z_RT} {v : z_V} {u1 : Option z_AV} {x2 : Int32} {x3 : Int32} {x4 : Int32} {u5 : Option z_AV}
    (h : ((7 ≤ x4 → Q v (some (vI x3))) ∧ (¬ 7 ≤ x4 → z_Wp (z_C d) 1 k_X0_reached Q 17 [some (vR 0 0), none, some (vI x2), some (vI x3), some (vI x4), some (vI 0)] [] v))) :
    z_Wp (z_C d) 1 k_X0_reached Q 7 [some (vR 0 0), u1, some (vI x2), some (vI x3), some (vI x4), u5] [] v := z_run [7, 17] 400 h
set_option maxRecDepth 100000 in
set_option maxHeartbeats 2000000 in
theorem B_X0_reached_17 {d : Nat} {Q : z_RT} {v : z_V} {u1 : Option z_AV} {x2 : Int32} {x3 : Int32} {x4 : Int32} {x5 : Int32}
    (h : ((10 ≤ x5 → z_Wp (z_C d) 1 k_X0_reached Q 7 [some (vR 0 0), none, some (vI x2), some (vI x3), some (vI (x4 + 1)), some (vI x5)] [] v) ∧ (¬ 10 ≤ x5 → z_C d m_X0_isOpen [vR 0 0, vI x5] v (fun w1 o2 => ∃ i3 : Int32, o2 = some (vI i3) ∧ ((i3 = 0 → z_Wp (z_C d) 1 k_X0_reached Q 17 [some (vR 0 0), none, some (vI x2), some (vI x3), some (vI x4), some (vI (x5 + 1))] [] w1) ∧ (¬ i3 = 0 → ((x5 = x2 → z_Wp (z_C d) 1 k_X0_reached Q 17 [some (vR 0 0), none, some (vI x2), some (vI x3), some (vI x4), some (vI (x5 + 1))] [] w1) ∧ (¬ x5 = x2 → z_if (z_in x5 10) (z_if (z_in x5 10) (((((i_shr x3 (gI w1 100 0 (n_ x5))) &&& 1) = ((i_shr x3 (gI w1 101 0 (n_ x5))) &&& 1) → z_Wp (z_C d) 1 k_X0_reached Q 17 [some (vR 0 0), none, some (vI x2), some (vI x3), some (vI x4), some (vI (x5 + 1))] [] w1) ∧ (¬ ((i_shr x3 (gI w1 100 0 (n_ x5))) &&& 1) = ((i_shr x3 (gI w1 101 0 (n_ x5))) &&& 1) → z_if (z_in x5 10) (z_if (z_in x5 10) (z_Wp (z_C d) 1 k_X0_reached Q 17 [some (vR 0 0), none, some (vI x2), some (vI (x3 ||| ((i_shl 1 (gI w1 100 0 (n_ x5))) ||| (i_shl 1 (gI w1 101 0 (n_ x5)))))), some (vI x4), some (vI (x5 + 1))] [] w1)))))))))))))) :
    z_Wp (z_C d) 1 k_X0_reached Q 17 [some (vR 0 0), u1, some (vI x2), some (vI x3), some (vI x4), some (vI x5)] [] v := z_run [7, 17] 400 h
set_option maxRecDepth 100000 in
set_option maxHeartbeats 2000000 in
theorem B_X0_countParts_0 {d : Nat} {Q : z_RT} {v : z_V}
    (h : z_Wp (z_C d) 1 k_X0_countParts Q 6 [some (vR 0 0), some (vI 0), some (vI 0), some (vI 0)] [] v) :
    z_Wp (z_C d) 1 k_X0_countParts Q 0 [some (vR 0 0), none, none, none] [] v := z_run [6] 400 h
set_option maxRecDepth 100000 in
set_option maxHeartbeats 2000000 in
theorem B_X0_countParts_6 {d : Nat} {Q : z_RT} {v : z_V} {x1 : Int32} {x2 : Int32} {x3 : Int32}
    (h : ((7 ≤ x3 → Q v (some (vI x2))) ∧ (¬ 7 ≤ x3 → ((¬ ((i_shr x1 x3) &&& 1) = 0 → z_Wp (z_C d) 1 k_X0_countParts Q 6 [some (vR 0 0), some (vI x1), some (vI x2), some (vI (x3 + 1))] [] v) ∧ (((i_shr x1 x3) &&& 1) = 0 → z_C d m_X0_reached [vR 0 0, vI x3, vI (-1)] v (fun w1 o2 => ∃ i3 : Int32, o2 = some (vI i3) ∧ z_Wp (z_C d) 1 k_X0_countParts Q 6 [some (vR 0 0), some (vI (x1 ||| i3)), some (vI (x2 + 1)), some (vI (x3 + 1))] [] w1)))))) :
    z_Wp (z_C d) 1 k_X0_countParts Q 6 [some (vR 0 0), some (vI x1), some (vI x2), some (vI x3)] [] v := z_run [6] 400 h
set_option maxRecDepth 100000 in
set_option maxHeartbeats 2000000 in
theorem B_X0_cutBits_0 {d : Nat} {Q : z_RT} {v : z_V}
    (h : z_Wp (z_C d) 1 k_X0_cutBits Q 4 [some (vR 0 0), some (vI 0), some (vI 0)] [] v) :
    z_Wp (z_C d) 1 k_X0_cutBits Q 0 [some (vR 0 0), none, none] [] v := z_run [4] 400 h
set_option maxRecDepth 100000 in
set_option maxHeartbeats 2000000 in
theorem B_X0_cutBits_4 {d : Nat} {Q : z_RT} {v : z_V} {x1 : Int32} {x2 : Int32}
    (h : ((10 ≤ x2 → Q v (some (vI x1))) ∧ (¬ 10 ≤ x2 → z_C d m_X0_isOpen [vR 0 0, vI x2] v (fun w1 o2 => ∃ i3 : Int32, o2 = some (vI i3) ∧ ((i3 = 0 → z_Wp (z_C d) 1 k_X0_cutBits Q 4 [some (vR 0 0), some (vI x1), some (vI (x2 + 1))] [] w1) ∧ (¬ i3 = 0 → z_if (z_in x2 10) (z_C d m_X0_reached [vR 0 0, vI (gI w1 100 0 (n_ x2)), vI x2] w1 (fun w4 o5 => ∃ i6 : Int32, o5 = some (vI i6) ∧ z_if (z_in x2 10) (((¬ ((i_shr i6 (gI w4 101 0 (n_ x2))) &&& 1) = 0 → z_Wp (z_C d) 1 k_X0_cutBits Q 4 [some (vR 0 0), some (vI x1), some (vI (x2 + 1))] [] w4) ∧ (((i_shr i6 (gI w4 101 0 (n_ x2))) &&& 1) = 0 → z_Wp (z_C d) 1 k_X0_cutBits Q 4 [some (vR 0 0), some (vI (x1 ||| (i_shl 1 x2))), some (vI (x2 + 1))] [] w4))))))))))) :
    z_Wp (z_C d) 1 k_X0_cutBits Q 4 [some (vR 0 0), some (vI x1), some (vI x2)] [] v := z_run [4] 400 h
set_option maxRecDepth 100000 in
set_option maxHeartbeats 2000000 in
theorem B_X1_solve_0 {d : Nat} {Q : z_RT} {v : z_V}
    (h : ((¬ (lg_cmp (gL v 1 0 3) (gL v 0 0 7)) = 0 → z_C d m_X1_begin [vR 1 0, vI 1, vI 0, vI (i_max (gI v 0 0 4) ((gI v 0 0 6) - 1))] (pL v 1 0 3 (gL v 0 0 7)) (fun w1 o2 => o2 = none ∧ z_Wp (z_C d) 0 k_X1_solve Q 51 [some (vR 1 0), some (vR 0 0), some (vI (gI w1 1 0 7))] [] (pI w1 1 0 1 63))) ∧ ((lg_cmp (gL v 1 0 3) (gL v 0 0 7)) = 0 → Q v none))) :
    z_Wp (z_C d) 0 k_X1_solve Q 0 [some (vR 1 0), some (vR 0 0), none] [] v := z_run [51] 400 h
set_option maxRecDepth 100000 in
set_option maxHeartbeats 2000000 in
theorem B_X1_solve_51 {d : Nat} {Q : z_RT} {v : z_V} {x2 : Int32}
    (h : ((63 < x2 → z_C d m_X1_clear [vR 1 0] (pI v 1 0 9 1) (fun w1 o2 => o2 = none ∧ z_C d m_X1_goOn [vR 1 0, vR 0 0, vI (gI w1 0 0 5), vI 0] w1 (fun w3 o4 => ∃ i5 : Int32, o4 = some (vI i5) ∧ Q (pC w3 202 0 0 200 0 0 7) none))) ∧ (¬ 63 < x2 → z_C d m_X1_clear [vR 1 0] (pI v 1 0 7 x2) (fun w6 o7 => o7 = none ∧ z_C d m_X1_goOn [vR 1 0, vR 0 0, vI (gI w6 0 0 5), vI 0] w6 (fun w8 o9 => ∃ i10 : Int32, o9 = some (vI i10) ∧ ((i10 = 0 → z_Wp (z_C d) 0 k_X1_solve Q 51 [some (vR 1 0), some (vR 0 0), some (vI (x2 + 1))] [] w8) ∧ (¬ i10 = 0 → z_C d m_X1_clear [vR 1 0] (pI (pI w8 1 0 1 x2) 1 0 9 1) (fun w11 o12 => o12 = none ∧ z_C d m_X1_goOn [vR 1 0, vR 0 0, vI (gI w11 0 0 5), vI 0] w11 (fun w13 o14 => ∃ i15 : Int32, o14 = some (vI i15) ∧ Q (pC w13 202 0 0 200 0 0 7) none))))))))) :
    z_Wp (z_C d) 0 k_X1_solve Q 51 [some (vR 1 0), some (vR 0 0), some (vI x2)] [] v := z_run [51] 400 h
set_option maxRecDepth 100000 in
set_option maxHeartbeats 2000000 in
theorem B_X1_wholeWays_0 {d : Nat} {Q : z_RT} {v : z_V}
    (h : ((¬ (gI v 0 0 4) = 0 → ((((gI v 0 0 6) - 1) ≤ (gI v 0 0 4) → (((lg_cmp (gL v 1 0 4) (gL v 0 0 7)) = 0 → Q v (some (vL (gL v 1 0 5)))) ∧ (¬ (lg_cmp (gL v 1 0 4) (gL v 0 0 7)) = 0 → z_C d m_X1_begin [vR 1 0, vI 1, vI 1, vI (gI v 0 0 4)] (pL v 1 0 4 (gL v 0 0 7)) (fun w1 o2 => o2 = none ∧ z_C d m_X1_goOn [vR 1 0, vR 0 0, vI (gI w1 0 0 5), vI 0] w1 (fun w3 o4 => ∃ i5 : Int32, o4 = some (vI i5) ∧ Q w3 (some (vL (gL w3 1 0 5)))))))) ∧ (¬ ((gI v 0 0 6) - 1) ≤ (gI v 0 0 4) → Q v (some (vL 0))))) ∧ ((gI v 0 0 4) = 0 → Q v (some (vL 1))))) :
    z_Wp (z_C d) 2 k_X1_wholeWays Q 0 [some (vR 1 0), some (vR 0 0)] [] v := z_run [] 400 h
set_option maxRecDepth 100000 in
set_option maxHeartbeats 2000000 in
theorem B_X1_mending_0 {d : Nat} {Q : z_RT} {v : z_V} {n2 : Nat}
    (h : z_C d m_X1_begin [vR 1 0, vI 0, vI 0, vI 20] v (fun w1 o2 => o2 = none ∧ z_Wp (z_C d) 1 k_X1_mending Q 10 [some (vR 1 0), some (vR 0 0), some (vR 500 n2), some (vI 0), none, none] [] w1)) :
    z_Wp (z_C d) 1 k_X1_mending Q 0 [some (vR 1 0), some (vR 0 0), some (vR 500 n2), none, none, none] [] v := z_run [10, 21] 400 h
set_option maxRecDepth 100000 in
set_option maxHeartbeats 2000000 in
theorem B_X1_mending_10 {d : Nat} {Q : z_RT} {v : z_V} {n2 : Nat} {x3 : Int32} {u4 : Option z_AV} {u5 : Option z_AV}
    (h : (((gI v 0 0 6) < x3 → Q v (some (vI (-1)))) ∧ (¬ (gI v 0 0 6) < x3 → z_Wp (z_C d) 1 k_X1_mending Q 21 [some (vR 1 0), some (vR 0 0), some (vR 500 n2), some (vI x3), some (vI 0), none] [] v))) :
    z_Wp (z_C d) 1 k_X1_mending Q 10 [some (vR 1 0), some (vR 0 0), some (vR 500 n2), some (vI x3), u4, u5] [] v := z_run [10, 21] 400 h
set_option maxRecDepth 100000 in
set_option maxHeartbeats 2000000 in
theorem B_X1_mending_21 {d : Nat} {Q : z_RT} {v : z_V} {n2 : Nat} {x3 : Int32} {x4 : Int32} {u5 : Option z_AV}
    (h : ((127 < x4 → z_Wp (z_C d) 1 k_X1_mending Q 10 [some (vR 1 0), some (vR 0 0), some (vR 500 n2), some (vI (x3 + 1)), some (vI x4), none] [] v) ∧ (¬ 127 < x4 → ((¬ (x4 &&& ((gI v 0 0 5) ^^^ (-1))) = 0 → (((0 : Int32) = 0 → z_Wp (z_C d) 1 k_X1_mending Q 21 [some (vR 1 0), some (vR 0 0), some (vR 500 n2), some (vI x3), some (vI (x4 + 1)), some (vI 0)] [] v) ∧ (¬ (0 : Int32) = 0 → z_C d m_X1_mends [vR 1 0, vR 0 0, vR 500 n2, vI x4] v (fun w1 o2 => ∃ i3 : Int32, o2 = some (vI i3) ∧ ((i3 = 0 → z_Wp (z_C d) 1 k_X1_mending Q 21 [some (vR 1 0), some (vR 0 0), some (vR 500 n2), some (vI x3), some (vI (x4 + 1)), some (vI 0)] [] w1) ∧ (¬ i3 = 0 → Q w1 (some (vI x4)))))))) ∧ ((x4 &&& ((gI v 0 0 5) ^^^ (-1))) = 0 → z_C d m_J6_bitCount_0f7a4 [vI x4] v (fun w4 o5 => ∃ i6 : Int32, o5 = some (vI i6) ∧ ((¬ i6 = x3 → (((0 : Int32) = 0 → z_Wp (z_C d) 1 k_X1_mending Q 21 [some (vR 1 0), some (vR 0 0), some (vR 500 n2), some (vI x3), some (vI (x4 + 1)), some (vI 0)] [] w4) ∧ (¬ (0 : Int32) = 0 → z_C d m_X1_mends [vR 1 0, vR 0 0, vR 500 n2, vI x4] w4 (fun w7 o8 => ∃ i9 : Int32, o8 = some (vI i9) ∧ ((i9 = 0 → z_Wp (z_C d) 1 k_X1_mending Q 21 [some (vR 1 0), some (vR 0 0), some (vR 500 n2), some (vI x3), some (vI (x4 + 1)), some (vI 0)] [] w7) ∧ (¬ i9 = 0 → Q w7 (some (vI x4)))))))) ∧ (i6 = x3 → (((1 : Int32) = 0 → z_Wp (z_C d) 1 k_X1_mending Q 21 [some (vR 1 0), some (vR 0 0), some (vR 500 n2), some (vI x3), some (vI (x4 + 1)), some (vI 1)] [] w4) ∧ (¬ (1 : Int32) = 0 → z_C d m_X1_mends [vR 1 0, vR 0 0, vR 500 n2, vI x4] w4 (fun w10 o11 => ∃ i12 : Int32, o11 = some (vI i12) ∧ ((i12 = 0 → z_Wp (z_C d) 1 k_X1_mending Q 21 [some (vR 1 0), some (vR 0 0), some (vR 500 n2), some (vI x3), some (vI (x4 + 1)), some (vI 1)] [] w10) ∧ (¬ i12 = 0 → Q w10 (some (vI x4))))))))))))))) :
    z_Wp (z_C d) 1 k_X1_mending Q 21 [some (vR 1 0), some (vR 0 0), some (vR 500 n2), some (vI x3), some (vI x4), u5] [] v := z_run [10, 21] 400 h
set_option maxRecDepth 100000 in
set_option maxHeartbeats 2000000 in
theorem B_X1_mends_0 {d : Nat} {Q : z_RT} {v : z_V} {n2 : Nat} {a3 : Int32}
    (h : z_C d m_X1_clear [vR 1 0] v (fun w1 o2 => o2 = none ∧ z_Wp (z_C d) 4 k_X1_mends Q 19 [some (vR 1 0), some (vR 0 0), some (vR 500 n2), some (vI a3), some (vI 0)] [] (pC w1 500 n2 0 202 0 0 7))) :
    z_Wp (z_C d) 4 k_X1_mends Q 0 [some (vR 1 0), some (vR 0 0), some (vR 500 n2), some (vI a3), none] [] v := z_run [19] 400 h
set_option maxRecDepth 100000 in
set_option maxHeartbeats 2000000 in
theorem B_X1_mends_19 {d : Nat} {Q : z_RT} {v : z_V} {u2 : Option z_AV} {x3 : Int32} {x4 : Int32}
    (h : ((10 ≤ x4 → z_C d m_X1_goOn [vR 1 0, vR 0 0, vI x3, vI ((gI v 0 0 5) &&& (x3 ^^^ (-1)))] v (fun w1 o2 => ∃ i3 : Int32, o2 = some (vI i3) ∧ z_if (z_01 i3) (Q w1 (some (vI i3))))) ∧ (¬ 10 ≤ x4 → z_C d m_X0_isOpen [vR 0 0, vI x4] v (fun w4 o5 => ∃ i6 : Int32, o5 = some (vI i6) ∧ ((i6 = 0 → z_Wp (z_C d) 4 k_X1_mends Q 19 [some (vR 1 0), some (vR 0 0), none, some (vI x3), some (vI (x4 + 1))] [] w4) ∧ (¬ i6 = 0 → z_if (z_in x4 10) (z_if (z_in x4 10) ((((((i_shr x3 (gI w4 100 0 (n_ x4))) ||| (i_shr x3 (gI w4 101 0 (n_ x4)))) &&& 1) = 0 → z_if (z_in x4 10) (z_if (z_in (gI w4 100 0 (n_ x4)) 7) (z_if (z_in x4 10) (z_if (z_in (gI w4 101 0 (n_ x4)) 7) (z_C d m_X1_note [vR 1 0, vI (i_abs ((gI w4 202 0 (n_ (gI w4 100 0 (n_ x4)))) - (gI w4 202 0 (n_ (gI w4 101 0 (n_ x4))))))] w4 (fun w7 o8 => ∃ i9 : Int32, o8 = some (vI i9) ∧ ((¬ i9 = 0 → z_Wp (z_C d) 4 k_X1_mends Q 19 [some (vR 1 0), some (vR 0 0), none, some (vI x3), some (vI (x4 + 1))] [] w7) ∧ (i9 = 0 → Q w7 (some (vI 0)))))))))) ∧ (¬ (((i_shr x3 (gI w4 100 0 (n_ x4))) ||| (i_shr x3 (gI w4 101 0 (n_ x4)))) &&& 1) = 0 → z_Wp (z_C d) 4 k_X1_mends Q 19 [some (vR 1 0), some (vR 0 0), none, some (vI x3), some (vI (x4 + 1))] [] w4)))))))))) :
    z_Wp (z_C d) 4 k_X1_mends Q 19 [some (vR 1 0), some (vR 0 0), u2, some (vI x3), some (vI x4)] [] v := z_run [19] 400 h
set_option maxRecDepth 100000 in
set_option maxHeartbeats 2000000 in
theorem B_X1_begin_0 {d : Nat} {Q : z_RT} {v : z_V} {a1 : Int32} {a2 : Int32} {a3 : Int32}
    (h : z_if (z_01 a1) (z_if (z_01 a2) (((a2 = 0 → z_C d m_X1_clear [vR 1 0] (pL (pI (pI (pI (pI v 1 0 8 a1) 1 0 10 a2) 1 0 9 0) 1 0 7 a3) 1 0 5 (gL v 1 0 5)) (fun w1 o2 => o2 = none ∧ Q w1 none)) ∧ (¬ a2 = 0 → z_C d m_X1_clear [vR 1 0] (pL (pI (pI (pI (pI v 1 0 8 a1) 1 0 10 a2) 1 0 9 0) 1 0 7 a3) 1 0 5 0) (fun w3 o4 => o4 = none ∧ Q w3 none)))))) :
    z_Wp (z_C d) 0 k_X1_begin Q 0 [some (vR 1 0), some (vI a1), some (vI a2), some (vI a3)] [] v := z_run [] 400 h
set_option maxRecDepth 100000 in
set_option maxHeartbeats 2000000 in
theorem B_X1_clear_0 {d : Nat} {Q : z_RT} {v : z_V}
    (h : Q (pL (pL (pL (pL v 1 0 11 0) 1 0 12 1) 1 0 13 (-9223372036854775808)) 1 0 14 0) none) :
    z_Wp (z_C d) 0 k_X1_clear Q 0 [some (vR 1 0)] [] v := z_run [] 400 h
set_option maxRecDepth 100000 in
set_option maxHeartbeats 2000000 in
theorem B_X1_goOn_0 {d : Nat} {Q : z_RT} {v : z_V} {a2 : Int32} {a3 : Int32}
    (h : z_C d m_X1_nextOf [vR 1 0, vR 0 0, vI a2, vI a3] v (fun w1 o2 => ∃ i3 : Int32, o2 = some (vI i3) ∧ ((¬ i3 = (-1) → z_C d m_X1_fitting [vR 1 0, vR 0 0, vI i3, vI a3] w1 (fun w4 o5 => ∃ l6 : Int64, o5 = some (vL l6) ∧ (((gI w4 1 0 10) = 0 → z_Wp (z_C d) 4 k_X1_goOn Q 72 [some (vR 1 0), some (vR 0 0), some (vI a2), some (vI a3), some (vI i3), some (vL l6), none, some (vI (a2 &&& ((i_shl 1 i3) ^^^ (-1)))), none, none] [] w4) ∧ (¬ (gI w4 1 0 10) = 0 → ((¬ (a2 &&& ((i_shl 1 i3) ^^^ (-1))) = 0 → z_Wp (z_C d) 4 k_X1_goOn Q 72 [some (vR 1 0), some (vR 0 0), some (vI a2), some (vI a3), some (vI i3), some (vL l6), none, some (vI (a2 &&& ((i_shl 1 i3) ^^^ (-1)))), none, none] [] w4) ∧ ((a2 &&& ((i_shl 1 i3) ^^^ (-1))) = 0 → z_C d m_J13_bitCount_95d88 [vL l6] w4 (fun w7 o8 => ∃ i9 : Int32, o8 = some (vI i9) ∧ Q (pL w7 1 0 5 ((gL w4 1 0 5) + (((gI w4 1 0 6).toInt64) * i9.toInt64))) (some (vI 0))))))))) ∧ (i3 = (-1) → Q w1 (some (vI 1)))))) :
    z_Wp (z_C d) 4 k_X1_goOn Q 0 [some (vR 1 0), some (vR 0 0), some (vI a2), some (vI a3), none, none, none, none, none, none] [] v := z_run [72, 101] 400 h
set_option maxRecDepth 100000 in
set_option maxHeartbeats 2000000 in
theorem B_X1_goOn_72 {d : Nat} {Q : z_RT} {v : z_V} {u2 : Option z_AV} {x3 : Int32} {x4 : Int32} {y5 : Int64} {x7 : Int32} {u8 : Option z_AV} {u9 : Option z_AV}
    (h : (((gI v 1 0 10) = 0 → z_Wp (z_C d) 4 k_X1_goOn Q 101 [some (vR 1 0), some (vR 0 0), none, some (vI x3), some (vI x4), some (vL y5), none, some (vI x7), some (vI (gI v 1 0 7)), some (vI 0)] [] v) ∧ (¬ (gI v 1 0 10) = 0 → ((¬ x3 = 0 → z_Wp (z_C d) 4 k_X1_goOn Q 101 [some (vR 1 0), some (vR 0 0), none, some (vI x3), some (vI x4), some (vL y5), none, some (vI x7), some (vI (gI v 1 0 7)), some (vI 0)] [] v) ∧ (x3 = 0 → z_Wp (z_C d) 4 k_X1_goOn Q 101 [some (vR 1 0), some (vR 0 0), none, some (vI x3), some (vI x4), some (vL y5), none, some (vI x7), some (vI ((gI v 1 0 7) / 2)), some (vI 0)] [] v))))) :
    z_Wp (z_C d) 4 k_X1_goOn Q 72 [some (vR 1 0), some (vR 0 0), u2, some (vI x3), some (vI x4), some (vL y5), none, some (vI x7), u8, u9] [] v := z_run [72, 101] 400 h
set_option maxRecDepth 100000 in
set_option maxHeartbeats 2000000 in
theorem B_X1_goOn_101 {d : Nat} {Q : z_RT} {v : z_V} {u2 : Option z_AV} {x3 : Int32} {x4 : Int32} {y5 : Int64} {x7 : Int32} {x8 : Int32} {x9 : Int32}
    (h : ((x8 < x9 → Q v (some (vI 0))) ∧ (¬ x8 < x9 → ((¬ (lg_cmp ((l_shr y5 x9) &&& 1) 0) = 0 → ((¬ x3 = 0 → z_C d m_X1_goOnWith [vR 1 0, vR 0 0, vI x4, vI x9, vI x7, vI x3] v (fun w1 o2 => ∃ i3 : Int32, o2 = some (vI i3) ∧ ((i3 = 0 → z_Wp (z_C d) 4 k_X1_goOn Q 101 [some (vR 1 0), some (vR 0 0), none, some (vI x3), some (vI x4), some (vL y5), none, some (vI x7), some (vI x8), some (vI (x9 + 1))] [] w1) ∧ (¬ i3 = 0 → Q w1 (some (vI 1)))))) ∧ (x3 = 0 → ((¬ (x9 * 2) = (gI v 1 0 7) → z_C d m_X1_goOnWith [vR 1 0, vR 0 0, vI x4, vI x9, vI x7, vI x3] (pI v 1 0 6 2) (fun w4 o5 => ∃ i6 : Int32, o5 = some (vI i6) ∧ ((i6 = 0 → z_Wp (z_C d) 4 k_X1_goOn Q 101 [some (vR 1 0), some (vR 0 0), none, some (vI x3), some (vI x4), some (vL y5), none, some (vI x7), some (vI x8), some (vI (x9 + 1))] [] w4) ∧ (¬ i6 = 0 → Q w4 (some (vI 1)))))) ∧ ((x9 * 2) = (gI v 1 0 7) → z_C d m_X1_goOnWith [vR 1 0, vR 0 0, vI x4, vI x9, vI x7, vI x3] (pI v 1 0 6 1) (fun w7 o8 => ∃ i9 : Int32, o8 = some (vI i9) ∧ ((i9 = 0 → z_Wp (z_C d) 4 k_X1_goOn Q 101 [some (vR 1 0), some (vR 0 0), none, some (vI x3), some (vI x4), some (vL y5), none, some (vI x7), some (vI x8), some (vI (x9 + 1))] [] w7) ∧ (¬ i9 = 0 → Q w7 (some (vI 1)))))))))) ∧ ((lg_cmp ((l_shr y5 x9) &&& 1) 0) = 0 → z_Wp (z_C d) 4 k_X1_goOn Q 101 [some (vR 1 0), some (vR 0 0), none, some (vI x3), some (vI x4), some (vL y5), none, some (vI x7), some (vI x8), some (vI (x9 + 1))] [] v))))) :
    z_Wp (z_C d) 4 k_X1_goOn Q 101 [some (vR 1 0), some (vR 0 0), u2, some (vI x3), some (vI x4), some (vL y5), none, some (vI x7), some (vI x8), some (vI x9)] [] v := z_run [72, 101] 400 h
set_option maxRecDepth 100000 in
set_option maxHeartbeats 2000000 in
theorem B_X1_goOnWith_0 {d : Nat} {Q : z_RT} {v : z_V} {a2 : Int32} {a3 : Int32} {a4 : Int32} {a5 : Int32}
    (h : z_if (z_in a2 7) (z_Wp (z_C d) 4 k_X1_goOnWith Q 40 [some (vR 1 0), some (vR 0 0), some (vI a2), some (vI a3), some (vI a4), some (vI a5), some (vL (gL v 1 0 12)), none, some (vL (gL v 1 0 13)), none, some (vL (gL v 1 0 14)), none, some (vI 0)] [] (pL (pI v 202 0 (n_ a2) a3) 1 0 11 ((gL v 1 0 11) ||| (l_shl 1 a3))))) :
    z_Wp (z_C d) 4 k_X1_goOnWith Q 0 [some (vR 1 0), some (vR 0 0), some (vI a2), some (vI a3), some (vI a4), some (vI a5), none, none, none, none, none, none, none] [] v := z_run [40] 400 h
set_option maxRecDepth 100000 in
set_option maxHeartbeats 2000000 in
theorem B_X1_goOnWith_40 {d : Nat} {Q : z_RT} {v : z_V} {x2 : Int32} {x3 : Int32} {x4 : Int32} {x5 : Int32} {y6 : Int64} {y8 : Int64} {y10 : Int64} {x12 : Int32}
    (h : ((7 ≤ x12 → z_C d m_X1_goOn [vR 1 0, vR 0 0, vI x4, vI (x5 ||| (i_shl 1 x2))] v (fun w1 o2 => ∃ i3 : Int32, o2 = some (vI i3) ∧ ((i3 = 0 → Q (pL (pL (pL (pL w1 1 0 11 ((gL w1 1 0 11) &&& ((l_shl 1 x3) ^^^ (-1)))) 1 0 12 y6) 1 0 13 y8) 1 0 14 y10) (some (vI 0))) ∧ (¬ i3 = 0 → Q w1 (some (vI 1)))))) ∧ (¬ 7 ≤ x12 → z_if (z_in x2 7) ((((((gI v 102 0 (n_ x2)) &&& x5) &&& (i_shl 1 x12)) = 0 → z_Wp (z_C d) 4 k_X1_goOnWith Q 40 [some (vR 1 0), some (vR 0 0), some (vI x2), some (vI x3), some (vI x4), some (vI x5), some (vL y6), none, some (vL y8), none, some (vL y10), none, some (vI (x12 + 1))] [] v) ∧ (¬ (((gI v 102 0 (n_ x2)) &&& x5) &&& (i_shl 1 x12)) = 0 → z_if (z_in x12 7) (z_C d m_X1_note [vR 1 0, vI (i_abs (x3 - (gI v 202 0 (n_ x12))))] v (fun w4 o5 => ∃ i6 : Int32, o5 = some (vI i6) ∧ z_Wp (z_C d) 4 k_X1_goOnWith Q 40 [some (vR 1 0), some (vR 0 0), some (vI x2), some (vI x3), some (vI x4), some (vI x5), some (vL y6), none, some (vL y8), none, some (vL y10), none, some (vI (x12 + 1))] [] w4)))))))) :
    z_Wp (z_C d) 4 k_X1_goOnWith Q 40 [some (vR 1 0), some (vR 0 0), some (vI x2), some (vI x3), some (vI x4), some (vI x5), some (vL y6), none, some (vL y8), none, some (vL y10), none, some (vI x12)] [] v := z_run [40] 400 h
set_option maxRecDepth 100000 in
set_option maxHeartbeats 2000000 in
theorem B_X1_nextOf_0 {d : Nat} {Q : z_RT} {v : z_V} {a2 : Int32} {a3 : Int32}
    (h : z_Wp (z_C d) 1 k_X1_nextOf Q 9 [some (vR 1 0), some (vR 0 0), some (vI a2), some (vI a3), some (vI (-1)), some (vI (-1)), some (vI 0), none, none] [] v) :
    z_Wp (z_C d) 1 k_X1_nextOf Q 0 [some (vR 1 0), some (vR 0 0), some (vI a2), some (vI a3), none, none, none, none, none] [] v := z_run [9] 400 h
set_option maxRecDepth 100000 in
set_option maxHeartbeats 2000000 in
theorem B_X1_nextOf_9 {d : Nat} {Q : z_RT} {v : z_V} {x2 : Int32} {x3 : Int32} {x4 : Int32} {x5 : Int32} {x6 : Int32} {u7 : Option z_AV} {u8 : Option z_AV}
    (h : ((7 ≤ x6 → Q v (some (vI x4))) ∧ (¬ 7 ≤ x6 → ((¬ ((i_shr x2 x6) &&& 1) = 0 → (((gI v 1 0 9) = 0 → z_if (z_in x6 7) (z_C d m_J6_bitCount_0f7a4 [vI ((gI v 102 0 (n_ x6)) &&& x3)] v (fun w1 o2 => ∃ i3 : Int32, o2 = some (vI i3) ∧ z_C d m_J6_bitCount_0f7a4 [vI (gI v 102 0 (n_ x6))] w1 (fun w4 o5 => ∃ i6 : Int32, o5 = some (vI i6) ∧ ((((i3 * 7) + i6) ≤ x5 → z_Wp (z_C d) 1 k_X1_nextOf Q 9 [some (vR 1 0), some (vR 0 0), some (vI x2), some (vI x3), some (vI x4), some (vI x5), some (vI (x6 + 1)), some (vI (gI v 102 0 (n_ x6))), some (vI ((i3 * 7) + i6))] [] w4) ∧ (¬ ((i3 * 7) + i6) ≤ x5 → z_Wp (z_C d) 1 k_X1_nextOf Q 9 [some (vR 1 0), some (vR 0 0), some (vI x2), some (vI x3), some (vI x6), some (vI ((i3 * 7) + i6)), some (vI (x6 + 1)), some (vI (gI v 102 0 (n_ x6))), some (vI ((i3 * 7) + i6))] [] w4)))))) ∧ (¬ (gI v 1 0 9) = 0 → Q v (some (vI x6))))) ∧ (((i_shr x2 x6) &&& 1) = 0 → z_Wp (z_C d) 1 k_X1_nextOf Q 9 [some (vR 1 0), some (vR 0 0), some (vI x2), some (vI x3), some (vI x4), some (vI x5), some (vI (x6 + 1)), none, none] [] v))))) :
    z_Wp (z_C d) 1 k_X1_nextOf Q 9 [some (vR 1 0), some (vR 0 0), some (vI x2), some (vI x3), some (vI x4), some (vI x5), some (vI x6), u7, u8] [] v := z_run [9] 400 h
set_option maxRecDepth 100000 in
set_option maxHeartbeats 2000000 in
theorem B_X1_fitting_0 {d : Nat} {Q : z_RT} {v : z_V} {a2 : Int32} {a3 : Int32}
    (h : z_if (z_in a2 7) ((((gI v 1 0 8) = 0 → z_Wp (z_C d) 2 k_X1_fitting Q 36 [some (vR 1 0), some (vR 0 0), some (vI a2), some (vI a3), some (vI ((gI v 102 0 (n_ a2)) &&& a3)), some (vL (-1)), none, some (vI 0), none] [] v) ∧ (¬ (gI v 1 0 8) = 0 → z_Wp (z_C d) 2 k_X1_fitting Q 36 [some (vR 1 0), some (vR 0 0), some (vI a2), some (vI a3), some (vI ((gI v 102 0 (n_ a2)) &&& a3)), some (vL ((gL v 1 0 11) ^^^ (-1))), none, some (vI 0), none] [] v)))) :
    z_Wp (z_C d) 2 k_X1_fitting Q 0 [some (vR 1 0), some (vR 0 0), some (vI a2), some (vI a3), none, none, none, none, none] [] v := z_run [36, 82] 400 h
set_option maxRecDepth 100000 in
set_option maxHeartbeats 2000000 in
theorem B_X1_fitting_36 {d : Nat} {Q : z_RT} {v : z_V} {u1 : Option z_AV} {u2 : Option z_AV} {u3 : Option z_AV} {x4 : Int32} {y5 : Int64} {x7 : Int32} {u8 : Option z_AV}
    (h : ((7 ≤ x7 → (((gI v 1 0 7) < 63 → Q v (some (vL (y5 &&& ((l_shl 1 ((gI v 1 0 7) + 1)) - 1))))) ∧ (¬ (gI v 1 0 7) < 63 → Q v (some (vL y5))))) ∧ (¬ 7 ≤ x7 → ((¬ ((i_shr x4 x7) &&& 1) = 0 → z_if (z_in x7 7) (z_C d m_X1_spoilt [vR 1 0, vI (gI v 202 0 (n_ x7))] v (fun w1 o2 => ∃ l3 : Int64, o2 = some (vL l3) ∧ z_Wp (z_C d) 2 k_X1_fitting Q 82 [some (vR 1 0), none, none, none, some (vI x4), some (vL (y5 &&& (l3 ^^^ (-1)))), none, some (vI x7), some (vI (x7 + 1))] [] w1))) ∧ (((i_shr x4 x7) &&& 1) = 0 → z_Wp (z_C d) 2 k_X1_fitting Q 36 [some (vR 1 0), none, none, none, some (vI x4), some (vL y5), none, some (vI (x7 + 1)), none] [] v))))) :
    z_Wp (z_C d) 2 k_X1_fitting Q 36 [some (vR 1 0), u1, u2, u3, some (vI x4), some (vL y5), none, some (vI x7), u8] [] v := z_run [36, 82] 400 h
set_option maxRecDepth 100000 in
set_option maxHeartbeats 2000000 in
theorem B_X1_fitting_82 {d : Nat} {Q : z_RT} {v : z_V} {u1 : Option z_AV} {u2 : Option z_AV} {u3 : Option z_AV} {x4 : Int32} {y5 : Int64} {x7 : Int32} {x8 : Int32}
    (h : ((7 ≤ x8 → z_Wp (z_C d) 2 k_X1_fitting Q 36 [some (vR 1 0), none, none, none, some (vI x4), some (vL y5), none, some (vI (x7 + 1)), some (vI x8)] [] v) ∧ (¬ 7 ≤ x8 → ((((i_shr x4 x8) &&& 1) = 0 → z_Wp (z_C d) 2 k_X1_fitting Q 82 [some (vR 1 0), none, none, none, some (vI x4), some (vL y5), none, some (vI x7), some (vI (x8 + 1))] [] v) ∧ (¬ ((i_shr x4 x8) &&& 1) = 0 → z_if (z_in x7 7) (z_if (z_in x8 7) (z_C d m_X1_halfWay [vI (gI v 202 0 (n_ x7)), vI (gI v 202 0 (n_ x8))] v (fun w1 o2 => ∃ l3 : Int64, o2 = some (vL l3) ∧ z_Wp (z_C d) 2 k_X1_fitting Q 82 [some (vR 1 0), none, none, none, some (vI x4), some (vL (y5 &&& (l3 ^^^ (-1)))), none, some (vI x7), some (vI (x8 + 1))] [] w1)))))))) :
    z_Wp (z_C d) 2 k_X1_fitting Q 82 [some (vR 1 0), u1, u2, u3, some (vI x4), some (vL y5), none, some (vI x7), some (vI x8)] [] v := z_run [36, 82] 400 h
set_option maxRecDepth 100000 in
set_option maxHeartbeats 2000000 in
theorem B_X1_spoilt_0 {d : Nat} {Q : z_RT} {v : z_V} {a1 : Int32}
    (h : ((63 < a1 → Q v (some (vL ((l_ush (gL v 1 0 14) (127 - a1)) ||| (l_shl (gL v 1 0 13) (a1 - 63)))))) ∧ (¬ 63 < a1 → Q v (some (vL ((l_shl (gL v 1 0 12) a1) ||| (l_ush (gL v 1 0 13) (63 - a1)))))))) :
    z_Wp (z_C d) 2 k_X1_spoilt Q 0 [some (vR 1 0), some (vI a1)] [] v := z_run [] 400 h
set_option maxRecDepth 100000 in
set_option maxHeartbeats 2000000 in
theorem B_X1_halfWay_0 {d : Nat} {Q : z_RT} {v : z_V} {a0 : Int32} {a1 : Int32}
    (h : ((¬ a0 = a1 → ((¬ ((a0 + a1) &&& 1) = 0 → Q v (some (vL 0))) ∧ (((a0 + a1) &&& 1) = 0 → ((128 ≤ (a0 + a1) → Q v (some (vL 0))) ∧ (¬ 128 ≤ (a0 + a1) → Q v (some (vL (l_shl 1 ((a0 + a1) / 2))))))))) ∧ (a0 = a1 → Q v (some (vL (-1)))))) :
    z_Wp (z_C d) 2 k_X1_halfWay Q 0 [some (vI a0), some (vI a1), none] [] v := z_run [] 400 h
set_option maxRecDepth 100000 in
set_option maxHeartbeats 2000000 in
theorem B_X1_note_0 {d : Nat} {Q : z_RT} {v : z_V} {a1 : Int32}
    (h : ((a1 ≤ 63 → ((¬ (lg_cmp ((l_shr (gL v 1 0 12) a1) &&& 1) 0) = 0 → Q (pL (pL v 1 0 12 ((gL v 1 0 12) ||| (l_shl 1 a1))) 1 0 13 ((gL v 1 0 13) ||| (l_shl 1 (63 - a1)))) (some (vI 0))) ∧ ((lg_cmp ((l_shr (gL v 1 0 12) a1) &&& 1) 0) = 0 → Q (pL (pL v 1 0 12 ((gL v 1 0 12) ||| (l_shl 1 a1))) 1 0 13 ((gL v 1 0 13) ||| (l_shl 1 (63 - a1)))) (some (vI 1))))) ∧ (¬ a1 ≤ 63 → ((¬ (lg_cmp ((gL v 1 0 14) &&& (l_shl 1 (127 - a1))) 0) = 0 → Q (pL v 1 0 14 ((gL v 1 0 14) ||| (l_shl 1 (127 - a1)))) (some (vI 0))) ∧ ((lg_cmp ((gL v 1 0 14) &&& (l_shl 1 (127 - a1))) 0) = 0 → Q (pL v 1 0 14 ((gL v 1 0 14) ||| (l_shl 1 (127 - a1)))) (some (vI 1))))))) :
    z_Wp (z_C d) 4 k_X1_note Q 0 [some (vR 1 0), some (vI a1), none, none, none] [] v := z_run [] 400 h
set_option maxRecDepth 100000 in
set_option maxHeartbeats 2000000 in
theorem B_X2_space_0 {d : Nat} {Q : z_RT} {v : z_V} {n : Nat} {a2 : Int32} {a3 : Int32}
    (h : ((¬ (lg_cmp (gL v 2 n 4) (gL v 0 0 7)) = 0 → z_Wp (z_C d) 0 k_X2_space Q 29 [some (vR 2 n), some (vR 0 0), some (vI a2), some (vI a3), none, none, none, none] [] v) ∧ ((lg_cmp (gL v 2 n 4) (gL v 0 0 7)) = 0 → ((¬ (gI v 2 n 5) = a2 → z_Wp (z_C d) 0 k_X2_space Q 29 [some (vR 2 n), some (vR 0 0), some (vI a2), some (vI a3), none, none, none, none] [] v) ∧ ((gI v 2 n 5) = a2 → ((¬ (gI v 2 n 6) = a3 → z_Wp (z_C d) 0 k_X2_space Q 29 [some (vR 2 n), some (vR 0 0), some (vI a2), some (vI a3), none, none, none, none] [] v) ∧ ((gI v 2 n 6) = a3 → Q v none))))))) :
    z_Wp (z_C d) 0 k_X2_space Q 0 [some (vR 2 n), some (vR 0 0), some (vI a2), some (vI a3), none, none, none, none] [] v := z_run [29, 50, 68, 95, 171] 400 h
set_option maxRecDepth 100000 in
set_option maxHeartbeats 2000000 in
theorem B_X2_space_29 {d : Nat} {Q : z_RT} {v : z_V} {n : Nat} {x2 : Int32} {x3 : Int32} {u4 : Option z_AV} {u5 : Option z_AV} {u6 : Option z_AV} {u7 : Option z_AV}
    (h : z_Wp (z_C d) 0 k_X2_space Q 50 [some (vR 2 n), some (vR 0 0), some (vI x2), some (vI x3), some (vI 0), none, none, none] [] (pI (pI (pL v 2 n 4 (gL v 0 0 7)) 2 n 5 x2) 2 n 6 x3)) :
    z_Wp (z_C d) 0 k_X2_space Q 29 [some (vR 2 n), some (vR 0 0), some (vI x2), some (vI x3), u4, u5, u6, u7] [] v := z_run [29, 50, 68, 95, 171] 400 h
set_option maxRecDepth 100000 in
set_option maxHeartbeats 2000000 in
theorem B_X2_space_50 {d : Nat} {Q : z_RT} {v : z_V} {n : Nat} {x2 : Int32} {x3 : Int32} {x4 : Int32} {u5 : Option z_AV} {u6 : Option z_AV} {u7 : Option z_AV}
    (h : ((7 ≤ x4 → z_C d m_X2_sums [vI x2, vI x3] v (fun w1 o2 => ∃ l3 : Int64, o2 = some (vL l3) ∧ z_Wp (z_C d) 0 k_X2_space Q 171 [some (vR 2 n), some (vR 0 0), some (vI x2), some (vI x3), some (vL l3), none, some (vI 0), none] [] (pI w1 2 n 1 30))) ∧ (¬ 7 ≤ x4 → z_C d m_X2_overTwo [vR 0 0, vI x4] v (fun w4 o5 => ∃ i6 : Int32, o5 = some (vI i6) ∧ z_Wp (z_C d) 0 k_X2_space Q 68 [some (vR 2 n), some (vR 0 0), some (vI x2), some (vI x3), some (vI x4), some (vI i6), some (vI 0), none] [] w4)))) :
    z_Wp (z_C d) 0 k_X2_space Q 50 [some (vR 2 n), some (vR 0 0), some (vI x2), some (vI x3), some (vI x4), u5, u6, u7] [] v := z_run [29, 50, 68, 95, 171] 400 h
set_option maxRecDepth 100000 in
set_option maxHeartbeats 2000000 in
theorem B_X2_space_171 {d : Nat} {Q : z_RT} {v : z_V} {n : Nat} {u2 : Option z_AV} {u3 : Option z_AV} {y4 : Int64} {x6 : Int32} {u7 : Option z_AV}
    (h : ((30 < x6 → Q v none) ∧ (¬ 30 < x6 → z_C d m_X2_goOn [vR 2 n, vI (gI v 0 0 5), vI 0] (pL v 2 n 7 (y4 &&& ((l_shl 1 (x6 + 1)) - 1))) (fun w1 o2 => ∃ i3 : Int32, o2 = some (vI i3) ∧ ((i3 = 0 → z_Wp (z_C d) 0 k_X2_space Q 171 [some (vR 2 n), some (vR 0 0), none, none, some (vL y4), none, some (vI (x6 + 1)), none] [] w1) ∧ (¬ i3 = 0 → Q (pI w1 2 n 1 x6) none)))))) :
    z_Wp (z_C d) 0 k_X2_space Q 171 [some (vR 2 n), some (vR 0 0), u2, u3, some (vL y4), none, some (vI x6), u7] [] v := z_run [29, 50, 68, 95, 171] 400 h
set_option maxRecDepth 100000 in
set_option maxHeartbeats 2000000 in
theorem B_X2_space_68 {d : Nat} {Q : z_RT} {v : z_V} {n : Nat} {x2 : Int32} {x3 : Int32} {x4 : Int32} {x5 : Int32} {x6 : Int32} {u7 : Option z_AV}
    (h : ((7 ≤ x6 → z_Wp (z_C d) 0 k_X2_space Q 50 [some (vR 2 n), some (vR 0 0), some (vI x2), some (vI x3), some (vI (x4 + 1)), some (vI x5), some (vI x6), none] [] v) ∧ (¬ 7 ≤ x6 → z_if (z_in x4 7) (((((i_shr (gI v 102 0 (n_ x4)) x6) &&& 1) = 0 → z_Wp (z_C d) 0 k_X2_space Q 95 [some (vR 2 n), some (vR 0 0), some (vI x2), some (vI x3), some (vI x4), some (vI x5), some (vI x6), none] [vI 0] v) ∧ (¬ ((i_shr (gI v 102 0 (n_ x4)) x6) &&& 1) = 0 → z_Wp (z_C d) 0 k_X2_space Q 95 [some (vR 2 n), some (vR 0 0), some (vI x2), some (vI x3), some (vI x4), some (vI x5), some (vI x6), none] [vI 1] v)))))) :
    z_Wp (z_C d) 0 k_X2_space Q 68 [some (vR 2 n), some (vR 0 0), some (vI x2), some (vI x3), some (vI x4), some (vI x5), some (vI x6), u7] [] v := z_run [29, 50, 68, 95, 171] 400 h
set_option maxRecDepth 100000 in
set_option maxHeartbeats 2000000 in
theorem B_X2_space_95 {d : Nat} {Q : z_RT} {v : z_V} {n : Nat} {x2 : Int32} {x3 : Int32} {x4 : Int32} {x5 : Int32} {x6 : Int32} {u7 : Option z_AV} {s0 : Int32}
    (h : z_if (z_in x4 7) (((s0 = 0 → ((((i_shr x5 x6) &&& 1) = 0 → z_if (z_in x6 7) (z_if (z_in x4 7) (z_if (z_in x6 7) (z_Wp (z_C d) 0 k_X2_space Q 68 [some (vR 2 n), some (vR 0 0), some (vI x2), some (vI x3), some (vI x4), some (vI x5), some (vI (x6 + 1)), some (vI s0)] [] (pI (pI v 352 (7 * n + n_ x4) (n_ x6) 0) 353 (7 * n + n_ x4) (n_ x6) 30))))) ∧ (¬ ((i_shr x5 x6) &&& 1) = 0 → z_if (z_in x6 7) (z_if (z_in x4 7) (z_if (z_in x6 7) (z_Wp (z_C d) 0 k_X2_space Q 68 [some (vR 2 n), some (vR 0 0), some (vI x2), some (vI x3), some (vI x4), some (vI x5), some (vI (x6 + 1)), some (vI s0)] [] (pI (pI v 352 (7 * n + n_ x4) (n_ x6) x3) 353 (7 * n + n_ x4) (n_ x6) 30))))))) ∧ (¬ s0 = 0 → z_if (z_in x6 7) (z_if (z_in x4 7) (z_if (z_in x6 7) (z_Wp (z_C d) 0 k_X2_space Q 68 [some (vR 2 n), some (vR 0 0), some (vI x2), some (vI x3), some (vI x4), some (vI x5), some (vI (x6 + 1)), some (vI s0)] [] (pI (pI v 352 (7 * n + n_ x4) (n_ x6) x2) 353 (7 * n + n_ x4) (n_ x6) 30)))))))) :
    z_Wp (z_C d) 0 k_X2_space Q 95 [some (vR 2 n), some (vR 0 0), some (vI x2), some (vI x3), some (vI x4), some (vI x5), some (vI x6), u7] [vI s0] v := z_run [29, 50, 68, 95, 171] 400 h
set_option maxRecDepth 100000 in
set_option maxHeartbeats 2000000 in
theorem B_X2_overTwo_0 {d : Nat} {Q : z_RT} {v : z_V} {a1 : Int32}
    (h : z_Wp (z_C d) 1 k_X2_overTwo Q 4 [some (vR 0 0), some (vI a1), some (vI 0), some (vI 0)] [] v) :
    z_Wp (z_C d) 1 k_X2_overTwo Q 0 [some (vR 0 0), some (vI a1), none, none] [] v := z_run [4] 400 h
set_option maxRecDepth 100000 in
set_option maxHeartbeats 2000000 in
theorem B_X2_overTwo_4 {d : Nat} {Q : z_RT} {v : z_V} {x1 : Int32} {x2 : Int32} {x3 : Int32}
    (h : ((7 ≤ x3 → z_if (z_in x1 7) (Q v (some (vI ((x2 &&& ((gI v 102 0 (n_ x1)) ^^^ (-1))) &&& ((i_shl 1 x1) ^^^ (-1))))))) ∧ (¬ 7 ≤ x3 → z_if (z_in x1 7) (((((i_shr (gI v 102 0 (n_ x1)) x3) &&& 1) = 0 → z_Wp (z_C d) 1 k_X2_overTwo Q 4 [some (vR 0 0), some (vI x1), some (vI x2), some (vI (x3 + 1))] [] v) ∧ (¬ ((i_shr (gI v 102 0 (n_ x1)) x3) &&& 1) = 0 → z_if (z_in x3 7) (z_Wp (z_C d) 1 k_X2_overTwo Q 4 [some (vR 0 0), some (vI x1), some (vI (x2 ||| (gI v 102 0 (n_ x3)))), some (vI (x3 + 1))] [] v))))))) :
    z_Wp (z_C d) 1 k_X2_overTwo Q 4 [some (vR 0 0), some (vI x1), some (vI x2), some (vI x3)] [] v := z_run [4] 400 h
set_option maxRecDepth 100000 in
set_option maxHeartbeats 2000000 in
theorem B_X2_sums_0 {d : Nat} {Q : z_RT} {v : z_V} {a0 : Int32} {a1 : Int32}
    (h : z_Wp (z_C d) 2 k_X2_sums Q 5 [some (vI a0), some (vI a1), some (vL 1), none, some (vI 1), none, none] [] v) :
    z_Wp (z_C d) 2 k_X2_sums Q 0 [some (vI a0), some (vI a1), none, none, none, none, none] [] v := z_run [5, 40, 70] 400 h
set_option maxRecDepth 100000 in
set_option maxHeartbeats 2000000 in
theorem B_X2_sums_5 {d : Nat} {Q : z_RT} {v : z_V} {x0 : Int32} {x1 : Int32} {y2 : Int64} {x4 : Int32} {u5 : Option z_AV} {u6 : Option z_AV}
    (h : ((30 < x4 → Q v (some (vL y2))) ∧ (¬ 30 < x4 → ((x0 ≤ 0 → z_Wp (z_C d) 2 k_X2_sums Q 40 [some (vI x0), some (vI x1), some (vL y2), none, some (vI x4), none, none] [vI 0] v) ∧ (¬ x0 ≤ 0 → ((x4 < x0 → z_Wp (z_C d) 2 k_X2_sums Q 40 [some (vI x0), some (vI x1), some (vL y2), none, some (vI x4), none, none] [vI 0] v) ∧ (¬ x4 < x0 → (((lg_cmp ((l_shr y2 (x4 - x0)) &&& 1) 0) = 0 → z_Wp (z_C d) 2 k_X2_sums Q 40 [some (vI x0), some (vI x1), some (vL y2), none, some (vI x4), none, none] [vI 0] v) ∧ (¬ (lg_cmp ((l_shr y2 (x4 - x0)) &&& 1) 0) = 0 → z_Wp (z_C d) 2 k_X2_sums Q 40 [some (vI x0), some (vI x1), some (vL y2), none, some (vI x4), none, none] [vI 1] v))))))))) :
    z_Wp (z_C d) 2 k_X2_sums Q 5 [some (vI x0), some (vI x1), some (vL y2), none, some (vI x4), u5, u6] [] v := z_run [5, 40, 70] 400 h
set_option maxRecDepth 100000 in
set_option maxHeartbeats 2000000 in
theorem B_X2_sums_40 {d : Nat} {Q : z_RT} {v : z_V} {x0 : Int32} {x1 : Int32} {y2 : Int64} {x4 : Int32} {u5 : Option z_AV} {u6 : Option z_AV} {s0 : Int32}
    (h : ((x1 ≤ 0 → z_Wp (z_C d) 2 k_X2_sums Q 70 [some (vI x0), some (vI x1), some (vL y2), none, some (vI x4), some (vI s0), none] [vI 0] v) ∧ (¬ x1 ≤ 0 → ((x4 < x1 → z_Wp (z_C d) 2 k_X2_sums Q 70 [some (vI x0), some (vI x1), some (vL y2), none, some (vI x4), some (vI s0), none] [vI 0] v) ∧ (¬ x4 < x1 → (((lg_cmp ((l_shr y2 (x4 - x1)) &&& 1) 0) = 0 → z_Wp (z_C d) 2 k_X2_sums Q 70 [some (vI x0), some (vI x1), some (vL y2), none, some (vI x4), some (vI s0), none] [vI 0] v) ∧ (¬ (lg_cmp ((l_shr y2 (x4 - x1)) &&& 1) 0) = 0 → z_Wp (z_C d) 2 k_X2_sums Q 70 [some (vI x0), some (vI x1), some (vL y2), none, some (vI x4), some (vI s0), none] [vI 1] v))))))) :
    z_Wp (z_C d) 2 k_X2_sums Q 40 [some (vI x0), some (vI x1), some (vL y2), none, some (vI x4), u5, u6] [vI s0] v := z_run [5, 40, 70] 400 h
set_option maxRecDepth 100000 in
set_option maxHeartbeats 2000000 in
theorem B_X2_sums_70 {d : Nat} {Q : z_RT} {v : z_V} {x0 : Int32} {x1 : Int32} {y2 : Int64} {x4 : Int32} {x5 : Int32} {u6 : Option z_AV} {s0 : Int32}
    (h : ((¬ x5 = 0 → z_Wp (z_C d) 2 k_X2_sums Q 5 [some (vI x0), some (vI x1), some (vL (y2 ||| (l_shl 1 x4))), none, some (vI (x4 + 1)), some (vI x5), some (vI s0)] [] v) ∧ (x5 = 0 → ((s0 = 0 → z_Wp (z_C d) 2 k_X2_sums Q 5 [some (vI x0), some (vI x1), some (vL y2), none, some (vI (x4 + 1)), some (vI x5), some (vI s0)] [] v) ∧ (¬ s0 = 0 → z_Wp (z_C d) 2 k_X2_sums Q 5 [some (vI x0), some (vI x1), some (vL (y2 ||| (l_shl 1 x4))), none, some (vI (x4 + 1)), some (vI x5), some (vI s0)] [] v))))) :
    z_Wp (z_C d) 2 k_X2_sums Q 70 [some (vI x0), some (vI x1), some (vL y2), none, some (vI x4), some (vI x5), u6] [vI s0] v := z_run [5, 40, 70] 400 h
set_option maxRecDepth 100000 in
set_option maxHeartbeats 2000000 in
theorem B_X2_bind_0 {d : Nat} {Q : z_RT} {v : z_V} {n : Nat}
    (h : ((¬ (lg_cmp (gL v 2 n 4) (gL v 0 0 7)) = 0 → z_Wp (z_C d) 0 k_X2_bind Q 41 [some (vR 2 n), some (vR 0 0), some (vI 0), none, none] [] (pI (pL (pL v 2 n 4 (gL v 0 0 7)) 2 n 7 ((l_shl 1 (gI v 0 0 6)) - 1)) 2 n 1 7)) ∧ ((lg_cmp (gL v 2 n 4) (gL v 0 0 7)) = 0 → Q v none))) :
    z_Wp (z_C d) 0 k_X2_bind Q 0 [some (vR 2 n), some (vR 0 0), none, none, none] [] v := z_run [41, 49, 58] 400 h
set_option maxRecDepth 100000 in
set_option maxHeartbeats 2000000 in
theorem B_X2_bind_41 {d : Nat} {Q : z_RT} {v : z_V} {n : Nat} {x2 : Int32} {u3 : Option z_AV} {u4 : Option z_AV}
    (h : ((7 ≤ x2 → Q v none) ∧ (¬ 7 ≤ x2 → z_Wp (z_C d) 0 k_X2_bind Q 49 [some (vR 2 n), some (vR 0 0), some (vI x2), some (vI 0), none] [] v))) :
    z_Wp (z_C d) 0 k_X2_bind Q 41 [some (vR 2 n), some (vR 0 0), some (vI x2), u3, u4] [] v := z_run [41, 49, 58] 400 h
set_option maxRecDepth 100000 in
set_option maxHeartbeats 2000000 in
theorem B_X2_bind_49 {d : Nat} {Q : z_RT} {v : z_V} {n : Nat} {x2 : Int32} {x3 : Int32} {u4 : Option z_AV}
    (h : ((7 ≤ x3 → z_C d m_X2_goOn [vR 2 n, vI (gI v 0 0 5), vI 0] v (fun w1 o2 => ∃ i3 : Int32, o2 = some (vI i3) ∧ ((i3 = 0 → z_Wp (z_C d) 0 k_X2_bind Q 41 [some (vR 2 n), some (vR 0 0), some (vI (x2 + 1)), some (vI x3), none] [] w1) ∧ (¬ i3 = 0 → Q (pI w1 2 n 1 x2) none)))) ∧ (¬ 7 ≤ x3 → z_Wp (z_C d) 0 k_X2_bind Q 58 [some (vR 2 n), some (vR 0 0), some (vI x2), some (vI x3), some (vI 0)] [] v))) :
    z_Wp (z_C d) 0 k_X2_bind Q 49 [some (vR 2 n), some (vR 0 0), some (vI x2), some (vI x3), u4] [] v := z_run [41, 49, 58] 400 h
set_option maxRecDepth 100000 in
set_option maxHeartbeats 2000000 in
theorem B_X2_bind_58 {d : Nat} {Q : z_RT} {v : z_V} {n : Nat} {x2 : Int32} {x3 : Int32} {x4 : Int32}
    (h : ((7 ≤ x4 → z_Wp (z_C d) 0 k_X2_bind Q 49 [some (vR 2 n), some (vR 0 0), some (vI x2), some (vI (x3 + 1)), some (vI x4)] [] v) ∧ (¬ 7 ≤ x4 → z_if (z_in x3 7) (z_if (z_in x4 7) (z_if (z_in x3 7) (z_if (z_in x3 7) (((((i_shr (gI v 102 0 (n_ x3)) x4) &&& 1) = 0 → z_if (z_in x4 7) (z_Wp (z_C d) 0 k_X2_bind Q 58 [some (vR 2 n), some (vR 0 0), some (vI x2), some (vI x3), some (vI (x4 + 1))] [] (pI (pI v 352 (7 * n + n_ x3) (n_ x4) 1) 353 (7 * n + n_ x3) (n_ x4) 30))) ∧ (¬ ((i_shr (gI v 102 0 (n_ x3)) x4) &&& 1) = 0 → z_if (z_in x4 7) (z_Wp (z_C d) 0 k_X2_bind Q 58 [some (vR 2 n), some (vR 0 0), some (vI x2), some (vI x3), some (vI (x4 + 1))] [] (pI (pI v 352 (7 * n + n_ x3) (n_ x4) 1) 353 (7 * n + n_ x3) (n_ x4) x2))))))))))) :
    z_Wp (z_C d) 0 k_X2_bind Q 58 [some (vR 2 n), some (vR 0 0), some (vI x2), some (vI x3), some (vI x4)] [] v := z_run [41, 49, 58] 400 h
set_option maxRecDepth 100000 in
set_option maxHeartbeats 2000000 in
theorem B_X2_goOn_0 {d : Nat} {Q : z_RT} {v : z_V} {n : Nat} {a1 : Int32} {a2 : Int32}
    (h : z_Wp (z_C d) 4 k_X2_goOn Q 2 [some (vR 2 n), some (vI a1), some (vI a2), some (vI 0), none, none, none] [] v) :
    z_Wp (z_C d) 4 k_X2_goOn Q 0 [some (vR 2 n), some (vI a1), some (vI a2), none, none, none, none] [] v := z_run [2, 41] 400 h
set_option maxRecDepth 100000 in
set_option maxHeartbeats 2000000 in
theorem B_X2_goOn_2 {d : Nat} {Q : z_RT} {v : z_V} {n : Nat} {x1 : Int32} {x2 : Int32} {x3 : Int32} {u4 : Option z_AV} {u5 : Option z_AV} {u6 : Option z_AV}
    (h : ((7 ≤ x3 → ((x3 < 7 → z_C d m_X2_fitting [vR 2 n, vI x3, vI x2] v (fun w1 o2 => ∃ l3 : Int64, o2 = some (vL l3) ∧ z_Wp (z_C d) 4 k_X2_goOn Q 41 [some (vR 2 n), some (vI x1), some (vI x2), some (vI x3), some (vL l3), none, some (vI 0)] [] w1)) ∧ (¬ x3 < 7 → Q v (some (vI 1))))) ∧ (¬ 7 ≤ x3 → ((¬ ((i_shr x1 x3) &&& 1) = 0 → ((x3 < 7 → z_C d m_X2_fitting [vR 2 n, vI x3, vI x2] v (fun w4 o5 => ∃ l6 : Int64, o5 = some (vL l6) ∧ z_Wp (z_C d) 4 k_X2_goOn Q 41 [some (vR 2 n), some (vI x1), some (vI x2), some (vI x3), some (vL l6), none, some (vI 0)] [] w4)) ∧ (¬ x3 < 7 → Q v (some (vI 1))))) ∧ (((i_shr x1 x3) &&& 1) = 0 → z_Wp (z_C d) 4 k_X2_goOn Q 2 [some (vR 2 n), some (vI x1), some (vI x2), some (vI (x3 + 1)), none, none, none] [] v))))) :
    z_Wp (z_C d) 4 k_X2_goOn Q 2 [some (vR 2 n), some (vI x1), some (vI x2), some (vI x3), u4, u5, u6] [] v := z_run [2, 41] 400 h
set_option maxRecDepth 100000 in
set_option maxHeartbeats 2000000 in
theorem B_X2_goOn_41 {d : Nat} {Q : z_RT} {v : z_V} {n : Nat} {x1 : Int32} {x2 : Int32} {x3 : Int32} {y4 : Int64} {x6 : Int32}
    (h : ((30 < x6 → Q v (some (vI 0))) ∧ (¬ 30 < x6 → (((lg_cmp ((l_shr y4 x6) &&& 1) 0) = 0 → z_Wp (z_C d) 4 k_X2_goOn Q 41 [some (vR 2 n), some (vI x1), some (vI x2), some (vI x3), some (vL y4), none, some (vI (x6 + 1))] [] v) ∧ (¬ (lg_cmp ((l_shr y4 x6) &&& 1) 0) = 0 → z_C d m_X2_goOnWith [vR 2 n, vI x3, vI x6, vI x1, vI x2] v (fun w1 o2 => ∃ i3 : Int32, o2 = some (vI i3) ∧ ((i3 = 0 → z_Wp (z_C d) 4 k_X2_goOn Q 41 [some (vR 2 n), some (vI x1), some (vI x2), some (vI x3), some (vL y4), none, some (vI (x6 + 1))] [] w1) ∧ (¬ i3 = 0 → Q w1 (some (vI 1)))))))))) :
    z_Wp (z_C d) 4 k_X2_goOn Q 41 [some (vR 2 n), some (vI x1), some (vI x2), some (vI x3), some (vL y4), none, some (vI x6)] [] v := z_run [2, 41] 400 h
set_option maxRecDepth 100000 in
set_option maxHeartbeats 2000000 in
theorem B_X2_goOnWith_0 {d : Nat} {Q : z_RT} {v : z_V} {n : Nat} {a1 : Int32} {a2 : Int32} {a3 : Int32} {a4 : Int32}
    (h : z_if (z_in a1 7) (z_C d m_X2_goOn [vR 2 n, vI (a3 &&& ((i_shl 1 a1) ^^^ (-1))), vI (a4 ||| (i_shl 1 a1))] (pI v 300 n (n_ a1) a2) (fun w1 o2 => ∃ i3 : Int32, o2 = some (vI i3) ∧ z_if (z_01 i3) (Q w1 (some (vI i3)))))) :
    z_Wp (z_C d) 4 k_X2_goOnWith Q 0 [some (vR 2 n), some (vI a1), some (vI a2), some (vI a3), some (vI a4)] [] v := z_run [] 400 h
set_option maxRecDepth 100000 in
set_option maxHeartbeats 2000000 in
theorem B_X2_fitting_0 {d : Nat} {Q : z_RT} {v : z_V} {n : Nat} {a1 : Int32} {a2 : Int32}
    (h : z_Wp (z_C d) 2 k_X2_fitting Q 8 [some (vR 2 n), some (vI a1), some (vI a2), some (vL (gL v 2 n 7)), none, some (vI 0)] [] v) :
    z_Wp (z_C d) 2 k_X2_fitting Q 0 [some (vR 2 n), some (vI a1), some (vI a2), none, none, none] [] v := z_run [8] 400 h
set_option maxRecDepth 100000 in
set_option maxHeartbeats 2000000 in
theorem B_X2_fitting_8 {d : Nat} {Q : z_RT} {v : z_V} {n : Nat} {x1 : Int32} {x2 : Int32} {y3 : Int64} {x5 : Int32}
    (h : ((7 ≤ x5 → Q v (some (vL y3))) ∧ (¬ 7 ≤ x5 → ((((i_shr x2 x5) &&& 1) = 0 → z_Wp (z_C d) 2 k_X2_fitting Q 8 [some (vR 2 n), some (vI x1), some (vI x2), some (vL y3), none, some (vI (x5 + 1))] [] v) ∧ (¬ ((i_shr x2 x5) &&& 1) = 0 → z_if (z_in x5 7) (z_if (z_in x1 7) (z_if (z_in x5 7) (z_C d m_X2_around [vI (gI v 300 n (n_ x5)), vI (gI v 353 (7 * n + n_ x1) (n_ x5))] v (fun w1 o2 => ∃ l3 : Int64, o2 = some (vL l3) ∧ z_if (z_in x5 7) (z_if (z_in x1 7) (z_if (z_in x5 7) (z_C d m_X2_around [vI (gI w1 300 n (n_ x5)), vI ((gI w1 352 (7 * n + n_ x1) (n_ x5)) - 1)] w1 (fun w4 o5 => ∃ l6 : Int64, o5 = some (vL l6) ∧ z_Wp (z_C d) 2 k_X2_fitting Q 8 [some (vR 2 n), some (vI x1), some (vI x2), some (vL (y3 &&& (l3 &&& (l6 ^^^ (-1))))), none, some (vI (x5 + 1))] [] w4))))))))))))) :
    z_Wp (z_C d) 2 k_X2_fitting Q 8 [some (vR 2 n), some (vI x1), some (vI x2), some (vL y3), none, some (vI x5)] [] v := z_run [8] 400 h
set_option maxRecDepth 100000 in
set_option maxHeartbeats 2000000 in
theorem B_X2_around_0 {d : Nat} {Q : z_RT} {v : z_V} {a0 : Int32} {a1 : Int32}
    (h : ((0 ≤ a1 → Q v (some (vL (l_shl ((l_shl 1 (((i_min 30 (a0 + a1)) - (i_max 0 (a0 - a1))) + 1)) - 1) (i_max 0 (a0 - a1)))))) ∧ (¬ 0 ≤ a1 → Q v (some (vL 0))))) :
    z_Wp (z_C d) 2 k_X2_around Q 0 [some (vI a0), some (vI a1), none, none] [] v := z_run [] 400 h
