set_option maxRecDepth 100000 in
set_option maxHeartbeats 2000000 in
theorem B_X4_become_0 {d : Nat} {Q : z_RT} {v : z_V} {n : Nat} {n1 : Nat}
    (h : Q (pI (pI (pI (pI (pI (pC (pC v 500 n1 0 500 n 0 7) 501 n1 0 501 n 0 25) 4 n 2 (gI v 4 n1 2)) 4 n 3 (gI v 4 n1 3)) 4 n 4 (gI v 4 n1 4)) 4 n 5 (gI v 4 n1 5)) 4 n 6 (gI v 4 n1 6)) none) :
    z_Wp (z_C d) 0 k_X4_become Q 0 [some (vR 4 n), some (vR 4 n1)] [] v := z_run [] 400 h
set_option maxRecDepth 100000 in
set_option maxHeartbeats 2000000 in
theorem B_X4_draw_0 {d : Nat} {Q : z_RT} {v : z_V} {n : Nat}
    (h : Q (pI v 4 n 6 (i_rem (((gI v 4 n 6) * 691) + 569) 31013)) (some (vI (gI v 4 n 6)))) :
    z_Wp (z_C d) 1 k_X4_draw Q 0 [some (vR 4 n), none] [] v := z_run [] 400 h
set_option maxRecDepth 100000 in
set_option maxHeartbeats 2000000 in
theorem B_X4_write_0 {d : Nat} {Q : z_RT} {v : z_V} {n : Nat} {a1 : Int32} {a2 : Int32} {a3 : Int32}
    (h : (((gI v 4 n 2) < 25 → z_Wp (z_C d) 0 k_X4_write Q 30 [some (vR 4 n), some (vI a1), some (vI a2), some (vI a3)] [] v) ∧ (¬ (gI v 4 n 2) < 25 → z_Wp (z_C d) 0 k_X4_write Q 30 [some (vR 4 n), some (vI a1), some (vI a2), some (vI a3)] [] (pI (pC v 501 n 1 501 n 0 24) 4 n 2 24)))) :
    z_Wp (z_C d) 0 k_X4_write Q 0 [some (vR 4 n), some (vI a1), some (vI a2), some (vI a3)] [] v := z_run [30] 400 h
set_option maxRecDepth 100000 in
set_option maxHeartbeats 2000000 in
theorem B_X4_write_30 {d : Nat} {Q : z_RT} {v : z_V} {n : Nat} {x1 : Int32} {x2 : Int32} {x3 : Int32}
    (h : z_if (z_in (gI v 4 n 2) 25) (Q (pI (pI v 501 n (n_ (gI v 4 n 2)) (((((((gI v 4 n 5) * 3) + x1) * 10) + x2) * 100) + x3)) 4 n 2 ((gI v 4 n 2) + 1)) none)) :
    z_Wp (z_C d) 0 k_X4_write Q 30 [some (vR 4 n), some (vI x1), some (vI x2), some (vI x3)] [] v := z_run [30] 400 h
set_option maxRecDepth 100000 in
set_option maxHeartbeats 2000000 in
theorem B_X4_told_0 {d : Nat} {Q : z_RT} {v : z_V} {n : Nat} {a1 : Int32} {a2 : Int32}
    (h : ((a1 < 0 → Q v (some (vI (-2)))) ∧ (¬ a1 < 0 → ((a1 < (gI v 4 n 2) → z_if (z_in a1 25) (((a2 = 0 → Q v (some (vI ((gI v 501 n (n_ a1)) / 3000)))) ∧ (¬ a2 = 0 → ((a2 = 1 → Q v (some (vI (i_rem ((gI v 501 n (n_ a1)) / 1000) 3)))) ∧ (¬ a2 = 1 → ((a2 = 2 → Q v (some (vI (i_rem ((gI v 501 n (n_ a1)) / 100) 10)))) ∧ (¬ a2 = 2 → ((a2 = 3 → Q v (some (vI (i_rem (gI v 501 n (n_ a1)) 100)))) ∧ (¬ a2 = 3 → Q v (some (vI (-2))))))))))))) ∧ (¬ a1 < (gI v 4 n 2) → Q v (some (vI (-2)))))))) :
    z_Wp (z_C d) 1 k_X4_told Q 0 [some (vR 4 n), some (vI a1), some (vI a2), none] [] v := z_run [] 400 h
set_option maxRecDepth 100000 in
set_option maxHeartbeats 2000000 in
theorem B_X5_tell_a_0 {d : Nat} {Q : z_RT} {v : z_V} {n : Nat} {n1 : Nat} {n2 : Nat} {a3 : Int32} {a4 : Int32} {a5 : Int32}
    (h : ((¬ a3 = 0 → z_Wp (z_C d) 1 k_X5_tell Q 9 [some (vR 5 n), some (vR 9 n1), some (vR 6 n2), some (vI a3), some (vI a4), some (vI a5), none, none, none, none, none, none] [vI 0] v) ∧ (a3 = 0 → z_Wp (z_C d) 1 k_X5_tell Q 9 [some (vR 5 n), some (vR 9 n1), some (vR 6 n2), some (vI a3), some (vI a4), some (vI a5), none, none, none, none, none, none] [vI 1] v))) :
    z_Wp (z_C d) 1 k_X5_tell Q 0 [some (vR 5 n), some (vR 9 n1), some (vR 6 n2), some (vI a3), some (vI a4), some (vI a5), none, none, none, none, none, none] [] v := z_run [9, 90, 204] 400 h
set_option maxRecDepth 100000 in
set_option maxHeartbeats 2000000 in
theorem B_X5_tell_a_9 {d : Nat} {Q : z_RT} {v : z_V} {n : Nat} {n1 : Nat} {n2 : Nat} {x3 : Int32} {x4 : Int32} {x5 : Int32} {u6 : Option z_AV} {u7 : Option z_AV} {u8 : Option z_AV} {u9 : Option z_AV} {u10 : Option z_AV} {u11 : Option z_AV} {s0 : Int32}
    (h : z_C d m_X6_has [vR 6 n2, vI x3] v (fun w1 o2 => ∃ i3 : Int32, o2 = some (vI i3) ∧ ((¬ i3 = 0 → ((s0 = 0 → ((s0 = 0 → z_Wp (z_C d) 1 k_X5_tell Q 90 [some (vR 5 n), some (vR 9 n1), some (vR 6 n2), some (vI x3), some (vI x4), some (vI x5), some (vI s0), some (vI (gI w1 6 n2 8)), some (vI (gI w1 6 n2 9)), some (vI 0), none, none] [] (pI (pI (pI w1 5 n 2 x4) 5 n 3 x5) 5 n 1 0)) ∧ (¬ s0 = 0 → z_Wp (z_C d) 1 k_X5_tell Q 90 [some (vR 5 n), some (vR 9 n1), some (vR 6 n2), some (vI x3), some (vI x4), some (vI x5), some (vI s0), some (vI (gI w1 6 n2 8)), some (vI (gI w1 6 n2 7)), some (vI 0), none, none] [] (pI (pI (pI w1 5 n 2 x4) 5 n 3 x5) 5 n 1 0)))) ∧ (¬ s0 = 0 → ((s0 = 0 → z_Wp (z_C d) 1 k_X5_tell Q 90 [some (vR 5 n), some (vR 9 n1), some (vR 6 n2), some (vI x3), some (vI x4), some (vI x5), some (vI s0), some (vI (gI w1 6 n2 6)), some (vI (gI w1 6 n2 9)), some (vI 0), none, none] [] (pI (pI (pI w1 5 n 2 x4) 5 n 3 x5) 5 n 1 0)) ∧ (¬ s0 = 0 → z_Wp (z_C d) 1 k_X5_tell Q 90 [some (vR 5 n), some (vR 9 n1), some (vR 6 n2), some (vI x3), some (vI x4), some (vI x5), some (vI s0), some (vI (gI w1 6 n2 6)), some (vI (gI w1 6 n2 7)), some (vI 0), none, none] [] (pI (pI (pI w1 5 n 2 x4) 5 n 3 x5) 5 n 1 0)))))) ∧ (i3 = 0 → ((s0 = 0 → Q w1 (some (vI 1))) ∧ (¬ s0 = 0 → Q w1 (some (vI 5)))))))) :
    z_Wp (z_C d) 1 k_X5_tell Q 9 [some (vR 5 n), some (vR 9 n1), some (vR 6 n2), some (vI x3), some (vI x4), some (vI x5), u6, u7, u8, u9, u10, u11] [vI s0] v := z_run [9, 90, 204] 400 h
set_option maxRecDepth 100000 in
set_option maxHeartbeats 2000000 in
theorem B_X5_tell_a_90 {d : Nat} {Q : z_RT} {v : z_V} {n : Nat} {n1 : Nat} {n2 : Nat} {u3 : Option z_AV} {u4 : Option z_AV} {u5 : Option z_AV} {x6 : Int32} {x7 : Int32} {x8 : Int32} {x9 : Int32} {u10 : Option z_AV} {u11 : Option z_AV}
    (h : ((300 ≤ x9 → z_Wp (z_C d) 1 k_X5_tell Q 204 [some (vR 5 n), some (vR 9 n1), some (vR 6 n2), none, none, none, some (vI x6), some (vI x7), some (vI x8), some (vI x9), none, none] [] v) ∧ (¬ 300 ≤ x9 → ((x7 < 0 → z_Wp (z_C d) 1 k_X5_tell Q 204 [some (vR 5 n), some (vR 9 n1), some (vR 6 n2), none, none, none, some (vI x6), some (vI x7), some (vI x8), some (vI x9), none, none] [] v) ∧ (¬ x7 < 0 → ((x8 ≤ x7 → z_Wp (z_C d) 1 k_X5_tell Q 204 [some (vR 5 n), some (vR 9 n1), some (vR 6 n2), none, none, none, some (vI x6), some (vI x7), some (vI x8), some (vI x9), none, none] [] v) ∧ (¬ x8 ≤ x7 → ((300 ≤ x7 → z_Wp (z_C d) 1 k_X5_tell Q 204 [some (vR 5 n), some (vR 9 n1), some (vR 6 n2), none, none, none, some (vI x6), some (vI x7), some (vI x8), some (vI x9), none, none] [] v) ∧ (¬ 300 ≤ x7 → z_if (z_in x7 300) (z_if (z_in x7 300) (((¬ ((gI v 700 n2 (n_ x7)) &&& 63) = 21 → ((¬ ((gI v 700 n2 (n_ x7)) &&& 63) = 22 → z_C d m_X5_valueOf [vR 5 n, vR 9 n1, vI ((gI v 700 n2 (n_ x7)) &&& 63), vI (i_shr (gI v 700 n2 (n_ x7)) 6)] v (fun w1 o2 => ∃ i3 : Int32, o2 = some (vI i3) ∧ z_C d m_X5_push [vR 5 n, vI i3] w1 (fun w4 o5 => o5 = none ∧ z_Wp (z_C d) 1 k_X5_tell Q 90 [some (vR 5 n), some (vR 9 n1), some (vR 6 n2), none, none, none, some (vI x6), some (vI (x7 + 1)), some (vI x8), some (vI (x9 + 1)), some (vI ((gI v 700 n2 (n_ x7)) &&& 63)), some (vI (i_shr (gI v 700 n2 (n_ x7)) 6))] [] w4))) ∧ (((gI v 700 n2 (n_ x7)) &&& 63) = 22 → z_Wp (z_C d) 1 k_X5_tell Q 90 [some (vR 5 n), some (vR 9 n1), some (vR 6 n2), none, none, none, some (vI x6), some (vI (i_shr (gI v 700 n2 (n_ x7)) 6)), some (vI x8), some (vI (x9 + 1)), some (vI ((gI v 700 n2 (n_ x7)) &&& 63)), some (vI (i_shr (gI v 700 n2 (n_ x7)) 6))] [] v))) ∧ (((gI v 700 n2 (n_ x7)) &&& 63) = 21 → z_C d m_X5_pop [vR 5 n] v (fun w6 o7 => ∃ i8 : Int32, o7 = some (vI i8) ∧ ((¬ i8 = 0 → z_Wp (z_C d) 1 k_X5_tell Q 90 [some (vR 5 n), some (vR 9 n1), some (vR 6 n2), none, none, none, some (vI x6), some (vI (x7 + 1)), some (vI x8), some (vI (x9 + 1)), some (vI ((gI v 700 n2 (n_ x7)) &&& 63)), some (vI (i_shr (gI v 700 n2 (n_ x7)) 6))] [] w6) ∧ (i8 = 0 → z_Wp (z_C d) 1 k_X5_tell Q 90 [some (vR 5 n), some (vR 9 n1), some (vR 6 n2), none, none, none, some (vI x6), some (vI (i_shr (gI v 700 n2 (n_ x7)) 6)), some (vI x8), some (vI (x9 + 1)), some (vI ((gI v 700 n2 (n_ x7)) &&& 63)), some (vI (i_shr (gI v 700 n2 (n_ x7)) 6))] [] w6)))))))))))))))) :
    z_Wp (z_C d) 1 k_X5_tell Q 90 [some (vR 5 n), some (vR 9 n1), some (vR 6 n2), u3, u4, u5, some (vI x6), some (vI x7), some (vI x8), some (vI x9), u10, u11] [] v := z_run [9, 90, 204] 400 h
set_option maxRecDepth 100000 in
set_option maxHeartbeats 2000000 in
theorem B_X5_tell_a_204 {d : Nat} {Q : z_RT} {v : z_V} {n : Nat} {u1 : Option z_AV} {u2 : Option z_AV} {u3 : Option z_AV} {u4 : Option z_AV} {u5 : Option z_AV} {x6 : Int32} {u7 : Option z_AV} {u8 : Option z_AV} {u9 : Option z_AV} {u10 : Option z_AV} {u11 : Option z_AV}
    (h : ((x6 = 0 → z_C d m_X5_pop [vR 5 n] v (fun w1 o2 => ∃ i3 : Int32, o2 = some (vI i3) ∧ Q w1 (some (vI (i_max 0 (i_min 99 i3)))))) ∧ (¬ x6 = 0 → z_C d m_X5_pop [vR 5 n] v (fun w4 o5 => ∃ i6 : Int32, o5 = some (vI i6) ∧ Q w4 (some (vI (i_max 0 (i_min 10 i6)))))))) :
    z_Wp (z_C d) 1 k_X5_tell Q 204 [some (vR 5 n), u1, u2, u3, u4, u5, some (vI x6), u7, u8, u9, u10, u11] [] v := z_run [9, 90, 204] 400 h
set_option maxRecDepth 100000 in
set_option maxHeartbeats 2000000 in
theorem B_X5_tell_b_0 {d : Nat} {Q : z_RT} {v : z_V} {n : Nat} {n1 : Nat} {a3 : Int32} {a4 : Int32} {a5 : Int32}
    (h : ((¬ a3 = 0 → z_Wp (z_C d) 1 k_X5_tell Q 9 [some (vR 5 n), some (vR 9 n1), some (vQ none), some (vI a3), some (vI a4), some (vI a5), none, none, none, none, none, none] [vI 0] v) ∧ (a3 = 0 → z_Wp (z_C d) 1 k_X5_tell Q 9 [some (vR 5 n), some (vR 9 n1), some (vQ none), some (vI a3), some (vI a4), some (vI a5), none, none, none, none, none, none] [vI 1] v))) :
    z_Wp (z_C d) 1 k_X5_tell Q 0 [some (vR 5 n), some (vR 9 n1), some (vQ none), some (vI a3), some (vI a4), some (vI a5), none, none, none, none, none, none] [] v := z_run [9, 90, 204] 400 h
set_option maxRecDepth 100000 in
set_option maxHeartbeats 2000000 in
theorem B_X5_tell_b_9 {d : Nat} {Q : z_RT} {v : z_V} {n : Nat} {n1 : Nat} {x3 : Int32} {x4 : Int32} {x5 : Int32} {u6 : Option z_AV} {u7 : Option z_AV} {u8 : Option z_AV} {u9 : Option z_AV} {u10 : Option z_AV} {u11 : Option z_AV} {s0 : Int32}
    (h : ((s0 = 0 → Q v (some (vI 1))) ∧ (¬ s0 = 0 → Q v (some (vI 5))))) :
    z_Wp (z_C d) 1 k_X5_tell Q 9 [some (vR 5 n), some (vR 9 n1), some (vQ none), some (vI x3), some (vI x4), some (vI x5), u6, u7, u8, u9, u10, u11] [vI s0] v := z_run [9, 90, 204] 400 h
set_option maxRecDepth 100000 in
set_option maxHeartbeats 2000000 in
theorem B_X5_push_0 {d : Nat} {Q : z_RT} {v : z_V} {n : Nat} {a1 : Int32}
    (h : ((64 ≤ (gI v 5 n 1) → Q v none) ∧ (¬ 64 ≤ (gI v 5 n 1) → z_if (z_in (gI v 5 n 1) 64) (Q (pI (pI v 600 n (n_ (gI v 5 n 1)) (i_max (-1000000) (i_min 1000000 a1))) 5 n 1 ((gI v 5 n 1) + 1)) none)))) :
    z_Wp (z_C d) 0 k_X5_push Q 0 [some (vR 5 n), some (vI a1)] [] v := z_run [] 400 h
set_option maxRecDepth 100000 in
set_option maxHeartbeats 2000000 in
theorem B_X5_pop_0 {d : Nat} {Q : z_RT} {v : z_V} {n : Nat}
    (h : ((0 < (gI v 5 n 1) → z_if (z_in (gI (pI v 5 n 1 ((gI v 5 n 1) - 1)) 5 n 1) 64) (Q (pI v 5 n 1 ((gI v 5 n 1) - 1)) (some (vI (gI v 600 n (n_ (gI (pI v 5 n 1 ((gI v 5 n 1) - 1)) 5 n 1))))))) ∧ (¬ 0 < (gI v 5 n 1) → Q v (some (vI 0))))) :
    z_Wp (z_C d) 1 k_X5_pop Q 0 [some (vR 5 n)] [] v := z_run [] 400 h
set_option maxRecDepth 100000 in
set_option maxHeartbeats 2000000 in
theorem B_X5_valueOf_0 {d : Nat} {Q : z_RT} {v : z_V} {n : Nat} {n1 : Nat} {a2 : Int32} {a3 : Int32}
    (h : ((¬ a2 = 27 → ((a2 < 8 → z_Wp (z_C d) 1 k_X5_valueOf Q 27 [some (vR 5 n), some (vR 9 n1), some (vI a2), some (vI a3), none] [] v) ∧ (¬ a2 < 8 → ((17 < a2 → z_Wp (z_C d) 1 k_X5_valueOf Q 27 [some (vR 5 n), some (vR 9 n1), some (vI a2), some (vI a3), none] [] v) ∧ (¬ 17 < a2 → z_C d m_X5_nameOf [vR 5 n, vR 9 n1, vI a2] v (fun w1 o2 => ∃ i3 : Int32, o2 = some (vI i3) ∧ Q w1 (some (vI i3)))))))) ∧ (a2 = 27 → Q v (some (vI a3))))) :
    z_Wp (z_C d) 1 k_X5_valueOf Q 0 [some (vR 5 n), some (vR 9 n1), some (vI a2), some (vI a3), none] [] v := z_run [27] 400 h
set_option maxRecDepth 100000 in
set_option maxHeartbeats 2000000 in
theorem B_X5_valueOf_27 {d : Nat} {Q : z_RT} {v : z_V} {n : Nat} {n1 : Nat} {x2 : Int32} {u3 : Option z_AV} {u4 : Option z_AV}
    (h : z_C d m_X5_pop [vR 5 n] v (fun w1 o2 => ∃ i3 : Int32, o2 = some (vI i3) ∧ ((x2 = 18 → z_C d m_X9_fareOf [vR 9 n1, vI i3] w1 (fun w4 o5 => ∃ i6 : Int32, o5 = some (vI i6) ∧ Q w4 (some (vI i6)))) ∧ (¬ x2 = 18 → ((x2 = 19 → z_C d m_X5_signOf [vR 9 n1, vI i3] w1 (fun w7 o8 => ∃ i9 : Int32, o8 = some (vI i9) ∧ Q w7 (some (vI i9)))) ∧ (¬ x2 = 19 → ((x2 = 26 → ((¬ i3 = 0 → Q w1 (some (vI 0))) ∧ (i3 = 0 → Q w1 (some (vI 1))))) ∧ (¬ x2 = 26 → ((x2 = 43 → Q w1 (some (vI (-i3)))) ∧ (¬ x2 = 43 → z_C d m_X5_pop [vR 5 n] w1 (fun w10 o11 => ∃ i12 : Int32, o11 = some (vI i12) ∧ z_C d m_X5_joined [vI x2, vI i12, vI i3] w10 (fun w13 o14 => ∃ i15 : Int32, o14 = some (vI i15) ∧ Q w13 (some (vI i15)))))))))))))) :
    z_Wp (z_C d) 1 k_X5_valueOf Q 27 [some (vR 5 n), some (vR 9 n1), some (vI x2), u3, u4] [] v := z_run [27] 400 h
set_option maxRecDepth 100000 in
set_option maxHeartbeats 2000000 in
theorem B_X5_nameOf_0 {d : Nat} {Q : z_RT} {v : z_V} {n : Nat} {n1 : Nat} {a2 : Int32}
    (h : ((a2 = 8 → Q v (some (vI (gI v 4 (31 * n1) 5)))) ∧ (¬ a2 = 8 → ((a2 = 9 → Q v (some (vI (gI v 5 n 2)))) ∧ (¬ a2 = 9 → ((a2 = 10 → Q v (some (vI (gI v 4 (31 * n1) 4)))) ∧ (¬ a2 = 10 → ((a2 = 11 → z_C d m_X9_openBits [vR 9 n1] v (fun w1 o2 => ∃ i3 : Int32, o2 = some (vI i3) ∧ z_C d m_J6_bitCount_0f7a4 [vI i3] w1 (fun w4 o5 => ∃ i6 : Int32, o5 = some (vI i6) ∧ Q w4 (some (vI i6))))) ∧ (¬ a2 = 11 → ((a2 = 12 → z_C d m_X9_fareOf [vR 9 n1, vI (gI v 5 n 2)] v (fun w7 o8 => ∃ i9 : Int32, o8 = some (vI i9) ∧ Q w7 (some (vI i9)))) ∧ (¬ a2 = 12 → ((a2 = 13 → z_C d m_X5_endSign [vR 5 n, vR 9 n1, vR 1001 n1] v (fun w10 o11 => ∃ i12 : Int32, o11 = some (vI i12) ∧ z_C d m_X5_endSign [vR 5 n, vR 9 n1, vR 1002 n1] w10 (fun w13 o14 => ∃ i15 : Int32, o14 = some (vI i15) ∧ Q w13 (some (vI (i_min i12 i15)))))) ∧ (¬ a2 = 13 → ((a2 = 14 → z_C d m_X5_endSign [vR 5 n, vR 9 n1, vR 1001 n1] v (fun w16 o17 => ∃ i18 : Int32, o17 = some (vI i18) ∧ z_C d m_X5_endSign [vR 5 n, vR 9 n1, vR 1002 n1] w16 (fun w19 o20 => ∃ i21 : Int32, o20 = some (vI i21) ∧ Q w19 (some (vI (i_max i18 i21)))))) ∧ (¬ a2 = 14 → ((a2 = 15 → z_C d m_X5_signOf [vR 9 n1, vI (gI v 5 n 2)] v (fun w22 o23 => ∃ i24 : Int32, o23 = some (vI i24) ∧ Q w22 (some (vI i24)))) ∧ (¬ a2 = 15 → ((a2 = 16 → Q v (some (vI (gI v 5 n 3)))) ∧ (¬ a2 = 16 → z_C d m_X9_besideBits [vR 9 n1, vI (gI v 5 n 2)] v (fun w25 o26 => ∃ i27 : Int32, o26 = some (vI i27) ∧ z_C d m_J6_bitCount_0f7a4 [vI i27] w25 (fun w28 o29 => ∃ i30 : Int32, o29 = some (vI i30) ∧ Q w28 (some (vI i30))))))))))))))))))))))) :
    z_Wp (z_C d) 1 k_X5_nameOf Q 0 [some (vR 5 n), some (vR 9 n1), some (vI a2)] [] v := z_run [] 400 h
set_option maxRecDepth 100000 in
set_option maxHeartbeats 2000000 in
theorem B_X5_signOf_0 {d : Nat} {Q : z_RT} {v : z_V} {n0 : Nat} {a1 : Int32}
    (h : ((a1 < 0 → Q v (some (vI 0))) ∧ (¬ a1 < 0 → ((7 ≤ a1 → Q v (some (vI 0))) ∧ (¬ 7 ≤ a1 → z_if (z_in a1 7) (Q v (some (vI (gI v 500 (31 * n0) (n_ a1)))))))))) :
    z_Wp (z_C d) 1 k_X5_signOf Q 0 [some (vR 9 n0), some (vI a1)] [] v := z_run [] 400 h
set_option maxRecDepth 100000 in
set_option maxHeartbeats 2000000 in
theorem B_X5_endSign_a_0 {d : Nat} {Q : z_RT} {v : z_V} {n : Nat} {n1 : Nat}
    (h : z_C d m_X9_hasLine [vR 9 n1, vI (gI v 5 n 2)] v (fun w1 o2 => ∃ i3 : Int32, o2 = some (vI i3) ∧ ((i3 = 0 → Q w1 (some (vI 0))) ∧ (¬ i3 = 0 → z_if (z_in (gI w1 5 n 2) 10) (z_C d m_X5_signOf [vR 9 n1, vI (gI w1 1001 n1 (n_ (gI w1 5 n 2)))] w1 (fun w4 o5 => ∃ i6 : Int32, o5 = some (vI i6) ∧ Q w4 (some (vI i6)))))))) :
    z_Wp (z_C d) 1 k_X5_endSign Q 0 [some (vR 5 n), some (vR 9 n1), some (vR 1001 n1)] [] v := z_run [] 400 h
set_option maxRecDepth 100000 in
set_option maxHeartbeats 2000000 in
theorem B_X5_endSign_b_0 {d : Nat} {Q : z_RT} {v : z_V} {n : Nat} {n1 : Nat}
    (h : z_C d m_X9_hasLine [vR 9 n1, vI (gI v 5 n 2)] v (fun w1 o2 => ∃ i3 : Int32, o2 = some (vI i3) ∧ ((i3 = 0 → Q w1 (some (vI 0))) ∧ (¬ i3 = 0 → z_if (z_in (gI w1 5 n 2) 10) (z_C d m_X5_signOf [vR 9 n1, vI (gI w1 1002 n1 (n_ (gI w1 5 n 2)))] w1 (fun w4 o5 => ∃ i6 : Int32, o5 = some (vI i6) ∧ Q w4 (some (vI i6)))))))) :
    z_Wp (z_C d) 1 k_X5_endSign Q 0 [some (vR 5 n), some (vR 9 n1), some (vR 1002 n1)] [] v := z_run [] 400 h
set_option maxRecDepth 100000 in
set_option maxHeartbeats 2000000 in
theorem B_X5_joined_0 {d : Nat} {Q : z_RT} {v : z_V} {a0 : Int32} {a1 : Int32} {a2 : Int32}
    (h : ((a0 = 34 → Q v (some (vI (a1 + a2)))) ∧ (¬ a0 = 34 → ((a0 = 35 → Q v (some (vI (a1 - a2)))) ∧ (¬ a0 = 35 → ((a0 = 36 → z_C d m_X5_product [vL a1.toInt64, vL a2.toInt64] v (fun w1 o2 => ∃ i3 : Int32, o2 = some (vI i3) ∧ Q w1 (some (vI i3)))) ∧ (¬ a0 = 36 → ((a0 = 37 → ((¬ a2 = 0 → z_if (z_nz a2) (Q v (some (vI (a1 / a2))))) ∧ (a2 = 0 → Q v (some (vI 0))))) ∧ (¬ a0 = 37 → z_C d m_X5_holds [vI a0, vI a1, vI a2] v (fun w4 o5 => ∃ i6 : Int32, o5 = some (vI i6) ∧ ((i6 = 0 → Q w4 (some (vI 0))) ∧ (¬ i6 = 0 → Q w4 (some (vI 1)))))))))))))) :
    z_Wp (z_C d) 1 k_X5_joined Q 0 [some (vI a0), some (vI a1), some (vI a2)] [] v := z_run [] 400 h
set_option maxRecDepth 100000 in
set_option maxHeartbeats 2000000 in
theorem B_X5_product_0 {d : Nat} {Q : z_RT} {v : z_V} {a0 : Int64} {a1 : Int64}
    (h : Q v (some (vI ((l_max (-1000000) (l_min 1000000 (a0 * a1))).toInt32)))) :
    z_Wp (z_C d) 1 k_X5_product Q 0 [some (vL a0), none, some (vL a1), none] [] v := z_run [] 400 h
set_option maxRecDepth 100000 in
set_option maxHeartbeats 2000000 in
theorem B_X5_holds_0 {d : Nat} {Q : z_RT} {v : z_V} {a0 : Int32} {a1 : Int32} {a2 : Int32}
    (h : ((a0 = 25 → ((a1 = 0 → Q v (some (vI 0))) ∧ (¬ a1 = 0 → ((a2 = 0 → Q v (some (vI 0))) ∧ (¬ a2 = 0 → Q v (some (vI 1))))))) ∧ (¬ a0 = 25 → ((a0 = 26 → ((¬ a1 = 0 → Q v (some (vI 1))) ∧ (a1 = 0 → ((a2 = 0 → Q v (some (vI 0))) ∧ (¬ a2 = 0 → Q v (some (vI 1))))))) ∧ (¬ a0 = 26 → ((a0 = 27 → ((¬ a1 = 0 → Q v (some (vI 1))) ∧ (a1 = 0 → ((a2 = 0 → Q v (some (vI 0))) ∧ (¬ a2 = 0 → Q v (some (vI 1))))))) ∧ (¬ a0 = 27 → ((a0 = 28 → ((a2 ≤ a1 → Q v (some (vI 0))) ∧ (¬ a2 ≤ a1 → Q v (some (vI 1))))) ∧ (¬ a0 = 28 → ((a0 = 29 → ((a2 < a1 → Q v (some (vI 0))) ∧ (¬ a2 < a1 → Q v (some (vI 1))))) ∧ (¬ a0 = 29 → ((a0 = 30 → ((a1 ≤ a2 → Q v (some (vI 0))) ∧ (¬ a1 ≤ a2 → Q v (some (vI 1))))) ∧ (¬ a0 = 30 → ((a0 = 31 → ((a1 < a2 → Q v (some (vI 0))) ∧ (¬ a1 < a2 → Q v (some (vI 1))))) ∧ (¬ a0 = 31 → ((a0 = 32 → ((¬ a1 = a2 → Q v (some (vI 0))) ∧ (a1 = a2 → Q v (some (vI 1))))) ∧ (¬ a0 = 32 → ((a0 = 33 → ((a1 = a2 → Q v (some (vI 0))) ∧ (¬ a1 = a2 → Q v (some (vI 1))))) ∧ (¬ a0 = 33 → ((¬ a1 = 0 → Q v (some (vI 1))) ∧ (a1 = 0 → ((a2 = 0 → Q v (some (vI 0))) ∧ (¬ a2 = 0 → Q v (some (vI 1))))))))))))))))))))))))) :
    z_Wp (z_C d) 4 k_X5_holds Q 0 [some (vI a0), some (vI a1), some (vI a2)] [] v := z_run [] 400 h
set_option maxRecDepth 100000 in
set_option maxHeartbeats 2000000 in
theorem B_X6_clear_0 {d : Nat} {Q : z_RT} {v : z_V} {n : Nat}
    (h : Q (pI (pI (pI (pI (pI (pI v 6 n 4 0) 6 n 5 0) 6 n 6 0) 6 n 7 0) 6 n 8 0) 6 n 9 0) none) :
    z_Wp (z_C d) 0 k_X6_clear Q 0 [some (vR 6 n)] [] v := z_run [] 400 h
set_option maxRecDepth 100000 in
set_option maxHeartbeats 2000000 in
theorem B_X6_become_0 {d : Nat} {Q : z_RT} {v : z_V} {n : Nat} {n1 : Nat}
    (h : Q (pI (pI (pI (pI (pI (pI (pC (pC (pC (pC v 700 n1 0 700 n 0 300) 701 n1 0 701 n 0 24) 702 n1 0 702 n 0 24) 703 n1 0 703 n 0 24) 6 n 4 (gI v 6 n1 4)) 6 n 5 (gI v 6 n1 5)) 6 n 6 (gI v 6 n1 6)) 6 n 7 (gI v 6 n1 7)) 6 n 8 (gI v 6 n1 8)) 6 n 9 (gI v 6 n1 9)) none) :
    z_Wp (z_C d) 0 k_X6_become Q 0 [some (vR 6 n), some (vR 6 n1)] [] v := z_run [] 400 h
set_option maxRecDepth 100000 in
set_option maxHeartbeats 2000000 in
theorem B_X6_has_0 {d : Nat} {Q : z_RT} {v : z_V} {n : Nat} {a1 : Int32}
    (h : ((¬ a1 = 0 → (((gI v 6 n 9) ≤ (gI v 6 n 8) → Q v (some (vI 0))) ∧ (¬ (gI v 6 n 9) ≤ (gI v 6 n 8) → Q v (some (vI 1))))) ∧ (a1 = 0 → (((gI v 6 n 7) ≤ (gI v 6 n 6) → Q v (some (vI 0))) ∧ (¬ (gI v 6 n 7) ≤ (gI v 6 n 6) → Q v (some (vI 1))))))) :
    z_Wp (z_C d) 4 k_X6_has Q 0 [some (vR 6 n), some (vI a1)] [] v := z_run [] 400 h
set_option maxRecDepth 100000 in
set_option maxHeartbeats 2000000 in
theorem B_X6_emit_0 {d : Nat} {Q : z_RT} {v : z_V} {n : Nat} {a1 : Int32} {a2 : Int32}
    (h : (((gI v 6 n 4) < 300 → z_if (z_in (gI v 6 n 4) 300) (Q (pI (pI v 700 n (n_ (gI v 6 n 4)) ((i_shl a2 6) ||| a1)) 6 n 4 ((gI v 6 n 4) + 1)) (some (vI ((gI (pI (pI v 700 n (n_ (gI v 6 n 4)) ((i_shl a2 6) ||| a1)) 6 n 4 ((gI v 6 n 4) + 1)) 6 n 4) - 1))))) ∧ (¬ (gI v 6 n 4) < 300 → Q v (some (vI 299))))) :
    z_Wp (z_C d) 1 k_X6_emit Q 0 [some (vR 6 n), some (vI a1), some (vI a2)] [] v := z_run [] 400 h
set_option maxRecDepth 100000 in
set_option maxHeartbeats 2000000 in
theorem B_X6_land_0 {d : Nat} {Q : z_RT} {v : z_V} {n : Nat} {a1 : Int32}
    (h : ((a1 < 0 → Q v none) ∧ (¬ a1 < 0 → ((300 ≤ a1 → Q v none) ∧ (¬ 300 ≤ a1 → z_if (z_in a1 300) (z_if (z_in a1 300) (Q (pI v 700 n (n_ a1) ((i_shl (gI v 6 n 4) 6) ||| ((gI v 700 n (n_ a1)) &&& 63))) none))))))) :
    z_Wp (z_C d) 0 k_X6_land Q 0 [some (vR 6 n), some (vI a1)] [] v := z_run [] 400 h
set_option maxRecDepth 100000 in
set_option maxHeartbeats 2000000 in
theorem B_X6_addLaw_0 {d : Nat} {Q : z_RT} {v : z_V} {n : Nat} {a1 : Int32} {a2 : Int32}
    (h : ((¬ a1 = 0 → z_C d m_X6_add [vR 6 n, vI a1, vI 0, vI 0] (pI (pI v 6 n 8 a2) 6 n 9 (gI v 6 n 4)) (fun w1 o2 => o2 = none ∧ Q w1 none)) ∧ (a1 = 0 → z_C d m_X6_add [vR 6 n, vI a1, vI 0, vI 0] (pI (pI v 6 n 6 a2) 6 n 7 (gI v 6 n 4)) (fun w3 o4 => o4 = none ∧ Q w3 none)))) :
    z_Wp (z_C d) 0 k_X6_addLaw Q 0 [some (vR 6 n), some (vI a1), some (vI a2)] [] v := z_run [] 400 h
set_option maxRecDepth 100000 in
set_option maxHeartbeats 2000000 in
theorem B_X6_add_0 {d : Nat} {Q : z_RT} {v : z_V} {n : Nat} {a1 : Int32} {a2 : Int32} {a3 : Int32}
    (h : ((24 ≤ (gI v 6 n 5) → Q v none) ∧ (¬ 24 ≤ (gI v 6 n 5) → z_if (z_in (gI v 6 n 5) 24) (z_if (z_in (gI v 6 n 5) 24) (z_if (z_in (gI v 6 n 5) 24) (Q (pI (pI (pI (pI v 701 n (n_ (gI v 6 n 5)) a1) 702 n (n_ (gI v 6 n 5)) a2) 703 n (n_ (gI v 6 n 5)) a3) 6 n 5 ((gI v 6 n 5) + 1)) none)))))) :
    z_Wp (z_C d) 0 k_X6_add Q 0 [some (vR 6 n), some (vI a1), some (vI a2), some (vI a3)] [] v := z_run [] 400 h
set_option maxRecDepth 100000 in
set_option maxHeartbeats 2000000 in
theorem B_X7_leastFares_0 {d : Nat} {Q : z_RT} {v : z_V}
    (h : z_Wp (z_C d) 1 k_X7_leastFares Q 9 [some (vR 7 0), some (vR 0 0), some (vI 1), none, none, none] [] (pI v 800 0 0 0)) :
    z_Wp (z_C d) 1 k_X7_leastFares Q 0 [some (vR 7 0), some (vR 0 0), none, none, none, none] [] v := z_run [9, 24] 400 h
set_option maxRecDepth 100000 in
set_option maxHeartbeats 2000000 in
theorem B_X7_leastFares_9 {d : Nat} {Q : z_RT} {v : z_V} {x2 : Int32} {u3 : Option z_AV} {u4 : Option z_AV} {u5 : Option z_AV}
    (h : ((127 < x2 → Q v (some (vI (gI v 800 0 127)))) ∧ (¬ 127 < x2 → z_Wp (z_C d) 1 k_X7_leastFares Q 24 [some (vR 7 0), some (vR 0 0), some (vI x2), some (vI 1000000), some (vI 0), some (vI 0)] [] v))) :
    z_Wp (z_C d) 1 k_X7_leastFares Q 9 [some (vR 7 0), some (vR 0 0), some (vI x2), u3, u4, u5] [] v := z_run [9, 24] 400 h
set_option maxRecDepth 100000 in
set_option maxHeartbeats 2000000 in
theorem B_X7_leastFares_24 {d : Nat} {Q : z_RT} {v : z_V} {x2 : Int32} {x3 : Int32} {x4 : Int32} {x5 : Int32}
    (h : ((7 ≤ x5 → z_if (z_in x2 128) (z_Wp (z_C d) 1 k_X7_leastFares Q 9 [some (vR 7 0), some (vR 0 0), some (vI (x2 + 1)), some (vI x3), some (vI x4), some (vI x5)] [] (pI v 800 0 (n_ x2) (x3 + x4)))) ∧ (¬ 7 ≤ x5 → ((((i_shr x2 x5) &&& 1) = 0 → z_Wp (z_C d) 1 k_X7_leastFares Q 24 [some (vR 7 0), some (vR 0 0), some (vI x2), some (vI x3), some (vI x4), some (vI (x5 + 1))] [] v) ∧ (¬ ((i_shr x2 x5) &&& 1) = 0 → z_if (z_in (x2 &&& ((i_shl 1 x5) ^^^ (-1))) 128) (z_if (z_in x5 7) (z_C d m_J6_bitCount_0f7a4 [vI ((gI v 102 0 (n_ x5)) &&& (x2 ^^^ (-1)))] v (fun w1 o2 => ∃ i3 : Int32, o2 = some (vI i3) ∧ z_Wp (z_C d) 1 k_X7_leastFares Q 24 [some (vR 7 0), some (vR 0 0), some (vI x2), some (vI (i_min x3 (gI v 800 0 (n_ (x2 &&& ((i_shl 1 x5) ^^^ (-1))))))), some (vI (x4 + i3)), some (vI (x5 + 1))] [] w1)))))))) :
    z_Wp (z_C d) 1 k_X7_leastFares Q 24 [some (vR 7 0), some (vR 0 0), some (vI x2), some (vI x3), some (vI x4), some (vI x5)] [] v := z_run [9, 24] 400 h
set_option maxRecDepth 100000 in
set_option maxHeartbeats 2000000 in
theorem B_X7_swaps_0 {d : Nat} {Q : z_RT} {v : z_V}
    (h : z_C d m_X7_swapsFrom [vR 7 0, vR 0 0, vI 0, vI 0] v (fun w1 o2 => ∃ i3 : Int32, o2 = some (vI i3) ∧ z_Wp (z_C d) 1 k_X7_swaps Q 10 [some (vR 7 0), some (vR 0 0), some (vI i3), some (vI 2)] [] w1)) :
    z_Wp (z_C d) 1 k_X7_swaps Q 0 [some (vR 7 0), some (vR 0 0), none, none] [] v := z_run [10] 400 h
set_option maxRecDepth 100000 in
set_option maxHeartbeats 2000000 in
theorem B_X7_swaps_10 {d : Nat} {Q : z_RT} {v : z_V} {u0 : Option z_AV} {x2 : Int32} {x3 : Int32}
    (h : (((7 - (gI v 0 0 6)) < x3 → Q v (some (vI x2))) ∧ (¬ (7 - (gI v 0 0 6)) < x3 → z_Wp (z_C d) 1 k_X7_swaps Q 10 [none, some (vR 0 0), some (vI (x2 * x3)), some (vI (x3 + 1))] [] v))) :
    z_Wp (z_C d) 1 k_X7_swaps Q 10 [u0, some (vR 0 0), some (vI x2), some (vI x3)] [] v := z_run [10] 400 h
set_option maxRecDepth 100000 in
set_option maxHeartbeats 2000000 in
theorem B_X7_swapsFrom_0 {d : Nat} {Q : z_RT} {v : z_V} {a2 : Int32} {a3 : Int32}
    (h : z_Wp (z_C d) 1 k_X7_swapsFrom Q 3 [some (vR 7 0), some (vR 0 0), some (vI a2), some (vI a3), some (vI a2), none, none] [] v) :
    z_Wp (z_C d) 1 k_X7_swapsFrom Q 0 [some (vR 7 0), some (vR 0 0), some (vI a2), some (vI a3), none, none, none] [] v := z_run [3, 40] 400 h
set_option maxRecDepth 100000 in
set_option maxHeartbeats 2000000 in
theorem B_X7_swapsFrom_3 {d : Nat} {Q : z_RT} {v : z_V} {u2 : Option z_AV} {x3 : Int32} {x4 : Int32} {u5 : Option z_AV} {u6 : Option z_AV}
    (h : ((7 ≤ x4 → ((x4 < 7 → z_Wp (z_C d) 1 k_X7_swapsFrom Q 40 [some (vR 7 0), some (vR 0 0), none, some (vI x3), some (vI x4), some (vI 0), some (vI 0)] [] v) ∧ (¬ x4 < 7 → Q v (some (vI 1))))) ∧ (¬ 7 ≤ x4 → z_C d m_X0_isBeside [vR 0 0, vI x4] v (fun w1 o2 => ∃ i3 : Int32, o2 = some (vI i3) ∧ ((¬ i3 = 0 → ((x4 < 7 → z_Wp (z_C d) 1 k_X7_swapsFrom Q 40 [some (vR 7 0), some (vR 0 0), none, some (vI x3), some (vI x4), some (vI 0), some (vI 0)] [] w1) ∧ (¬ x4 < 7 → Q w1 (some (vI 1))))) ∧ (i3 = 0 → z_Wp (z_C d) 1 k_X7_swapsFrom Q 3 [some (vR 7 0), some (vR 0 0), none, some (vI x3), some (vI (x4 + 1)), none, none] [] w1)))))) :
    z_Wp (z_C d) 1 k_X7_swapsFrom Q 3 [some (vR 7 0), some (vR 0 0), u2, some (vI x3), some (vI x4), u5, u6] [] v := z_run [3, 40] 400 h
set_option maxRecDepth 100000 in
set_option maxHeartbeats 2000000 in
theorem B_X7_swapsFrom_40 {d : Nat} {Q : z_RT} {v : z_V} {u2 : Option z_AV} {x3 : Int32} {x4 : Int32} {x5 : Int32} {x6 : Int32}
    (h : ((7 ≤ x6 → Q v (some (vI x5))) ∧ (¬ 7 ≤ x6 → ((¬ ((i_shr x3 x6) &&& 1) = 0 → z_Wp (z_C d) 1 k_X7_swapsFrom Q 40 [some (vR 7 0), some (vR 0 0), none, some (vI x3), some (vI x4), some (vI x5), some (vI (x6 + 1))] [] v) ∧ (((i_shr x3 x6) &&& 1) = 0 → z_C d m_X0_isBeside [vR 0 0, vI x6] v (fun w1 o2 => ∃ i3 : Int32, o2 = some (vI i3) ∧ ((i3 = 0 → z_Wp (z_C d) 1 k_X7_swapsFrom Q 40 [some (vR 7 0), some (vR 0 0), none, some (vI x3), some (vI x4), some (vI x5), some (vI (x6 + 1))] [] w1) ∧ (¬ i3 = 0 → z_C d m_X7_keepsBeside [vR 7 0, vR 0 0, vI x4, vI x6] w1 (fun w4 o5 => ∃ i6 : Int32, o5 = some (vI i6) ∧ ((i6 = 0 → z_Wp (z_C d) 1 k_X7_swapsFrom Q 40 [some (vR 7 0), some (vR 0 0), none, some (vI x3), some (vI x4), some (vI x5), some (vI (x6 + 1))] [] w4) ∧ (¬ i6 = 0 → z_C d m_X7_swapsWith [vR 7 0, vR 0 0, vI x4, vI x6, vI x3] w4 (fun w7 o8 => ∃ i9 : Int32, o8 = some (vI i9) ∧ z_Wp (z_C d) 1 k_X7_swapsFrom Q 40 [some (vR 7 0), some (vR 0 0), none, some (vI x3), some (vI x4), some (vI (x5 + i9)), some (vI (x6 + 1))] [] w7)))))))))))) :
    z_Wp (z_C d) 1 k_X7_swapsFrom Q 40 [some (vR 7 0), some (vR 0 0), u2, some (vI x3), some (vI x4), some (vI x5), some (vI x6)] [] v := z_run [3, 40] 400 h
set_option maxRecDepth 100000 in
set_option maxHeartbeats 2000000 in
theorem B_X7_swapsWith_0 {d : Nat} {Q : z_RT} {v : z_V} {a2 : Int32} {a3 : Int32} {a4 : Int32}
    (h : z_if (z_in a2 7) (z_C d m_X7_swapsFrom [vR 7 0, vR 0 0, vI (a2 + 1), vI (a4 ||| (i_shl 1 a3))] (pI v 802 0 (n_ a2) a3) (fun w1 o2 => ∃ i3 : Int32, o2 = some (vI i3) ∧ Q w1 (some (vI i3))))) :
    z_Wp (z_C d) 1 k_X7_swapsWith Q 0 [some (vR 7 0), some (vR 0 0), some (vI a2), some (vI a3), some (vI a4)] [] v := z_run [] 400 h
set_option maxRecDepth 100000 in
set_option maxHeartbeats 2000000 in
theorem B_X7_keepsBeside_0 {d : Nat} {Q : z_RT} {v : z_V} {a2 : Int32} {a3 : Int32}
    (h : z_if (z_in a2 7) (z_C d m_J6_bitCount_0f7a4 [vI (gI v 102 0 (n_ a2))] v (fun w1 o2 => ∃ i3 : Int32, o2 = some (vI i3) ∧ z_if (z_in a3 7) (z_C d m_J6_bitCount_0f7a4 [vI (gI w1 102 0 (n_ a3))] w1 (fun w4 o5 => ∃ i6 : Int32, o5 = some (vI i6) ∧ ((i3 = i6 → z_Wp (z_C d) 4 k_X7_keepsBeside Q 26 [some (vR 7 0), some (vR 0 0), some (vI a2), some (vI a3), some (vI 0), none] [] w4) ∧ (¬ i3 = i6 → Q w4 (some (vI 0))))))))) :
    z_Wp (z_C d) 4 k_X7_keepsBeside Q 0 [some (vR 7 0), some (vR 0 0), some (vI a2), some (vI a3), none, none] [] v := z_run [26, 51] 400 h
set_option maxRecDepth 100000 in
set_option maxHeartbeats 2000000 in
theorem B_X7_keepsBeside_26 {d : Nat} {Q : z_RT} {v : z_V} {x2 : Int32} {x3 : Int32} {x4 : Int32} {u5 : Option z_AV}
    (h : ((x2 ≤ x4 → Q v (some (vI 1))) ∧ (¬ x2 ≤ x4 → z_if (z_in x2 7) (((((i_shr (gI v 102 0 (n_ x2)) x4) &&& 1) = 0 → z_Wp (z_C d) 4 k_X7_keepsBeside Q 51 [some (vR 7 0), some (vR 0 0), some (vI x2), some (vI x3), some (vI x4), none] [vI 0] v) ∧ (¬ ((i_shr (gI v 102 0 (n_ x2)) x4) &&& 1) = 0 → z_Wp (z_C d) 4 k_X7_keepsBeside Q 51 [some (vR 7 0), some (vR 0 0), some (vI x2), some (vI x3), some (vI x4), none] [vI 1] v)))))) :
    z_Wp (z_C d) 4 k_X7_keepsBeside Q 26 [some (vR 7 0), some (vR 0 0), some (vI x2), some (vI x3), some (vI x4), u5] [] v := z_run [26, 51] 400 h
set_option maxRecDepth 100000 in
set_option maxHeartbeats 2000000 in
theorem B_X7_keepsBeside_51 {d : Nat} {Q : z_RT} {v : z_V} {x2 : Int32} {x3 : Int32} {x4 : Int32} {u5 : Option z_AV} {s0 : Int32}
    (h : z_C d m_X0_isBeside [vR 0 0, vI x4] v (fun w1 o2 => ∃ i3 : Int32, o2 = some (vI i3) ∧ ((i3 = 0 → z_Wp (z_C d) 4 k_X7_keepsBeside Q 26 [some (vR 7 0), some (vR 0 0), some (vI x2), some (vI x3), some (vI (x4 + 1)), some (vI s0)] [] w1) ∧ (¬ i3 = 0 → z_if (z_in x3 7) (z_if (z_in x4 7) (((((i_shr (gI w1 102 0 (n_ x3)) (gI w1 802 0 (n_ x4))) &&& 1) = 0 → ((s0 = 0 → z_Wp (z_C d) 4 k_X7_keepsBeside Q 26 [some (vR 7 0), some (vR 0 0), some (vI x2), some (vI x3), some (vI (x4 + 1)), some (vI s0)] [] w1) ∧ (¬ s0 = 0 → Q w1 (some (vI 0))))) ∧ (¬ ((i_shr (gI w1 102 0 (n_ x3)) (gI w1 802 0 (n_ x4))) &&& 1) = 0 → ((s0 = 1 → z_Wp (z_C d) 4 k_X7_keepsBeside Q 26 [some (vR 7 0), some (vR 0 0), some (vI x2), some (vI x3), some (vI (x4 + 1)), some (vI s0)] [] w1) ∧ (¬ s0 = 1 → Q w1 (some (vI 0)))))))))))) :
    z_Wp (z_C d) 4 k_X7_keepsBeside Q 51 [some (vR 7 0), some (vR 0 0), some (vI x2), some (vI x3), some (vI x4), u5] [vI s0] v := z_run [26, 51] 400 h
set_option maxRecDepth 100000 in
set_option maxHeartbeats 2000000 in
theorem B_X7_winner_0 {d : Nat} {Q : z_RT} {v : z_V} {a2 : Int32}
    (h : z_Wp (z_C d) 1 k_X7_winner Q 3 [some (vR 7 0), some (vR 0 0), some (vI a2), some (vI 127), none, none] [] v) :
    z_Wp (z_C d) 1 k_X7_winner Q 0 [some (vR 7 0), some (vR 0 0), some (vI a2), none, none, none] [] v := z_run [3, 19, 50] 400 h
set_option maxRecDepth 100000 in
set_option maxHeartbeats 2000000 in
theorem B_X7_winner_3 {d : Nat} {Q : z_RT} {v : z_V} {x2 : Int32} {x3 : Int32} {u4 : Option z_AV} {u5 : Option z_AV}
    (h : ((x3 < x2 → z_if (z_in x2 128) (Q v (some (vI (gI v 800 0 (n_ x2)))))) ∧ (¬ x3 < x2 → z_if (z_in x3 128) (z_Wp (z_C d) 1 k_X7_winner Q 19 [some (vR 7 0), some (vR 0 0), some (vI x2), some (vI x3), some (vI 6), none] [] (pI v 800 0 (n_ x3) (-1)))))) :
    z_Wp (z_C d) 1 k_X7_winner Q 3 [some (vR 7 0), some (vR 0 0), some (vI x2), some (vI x3), u4, u5] [] v := z_run [3, 19, 50] 400 h
set_option maxRecDepth 100000 in
set_option maxHeartbeats 2000000 in
theorem B_X7_winner_19 {d : Nat} {Q : z_RT} {v : z_V} {x2 : Int32} {x3 : Int32} {x4 : Int32} {u5 : Option z_AV}
    (h : ((x4 < 0 → z_Wp (z_C d) 1 k_X7_winner Q 3 [some (vR 7 0), some (vR 0 0), some (vI x2), some (vI (x3 + (-1))), some (vI x4), none] [] v) ∧ (¬ x4 < 0 → ((¬ ((i_shr x3 x4) &&& 1) = 0 → z_Wp (z_C d) 1 k_X7_winner Q 50 [some (vR 7 0), some (vR 0 0), some (vI x2), some (vI x3), some (vI x4), none] [vI 0] v) ∧ (((i_shr x3 x4) &&& 1) = 0 → z_if (z_in x4 7) (((¬ ((gI v 102 0 (n_ x4)) &&& x3) = 0 → z_Wp (z_C d) 1 k_X7_winner Q 50 [some (vR 7 0), some (vR 0 0), some (vI x2), some (vI x3), some (vI x4), none] [vI 0] v) ∧ (((gI v 102 0 (n_ x4)) &&& x3) = 0 → z_Wp (z_C d) 1 k_X7_winner Q 50 [some (vR 7 0), some (vR 0 0), some (vI x2), some (vI x3), some (vI x4), none] [vI 1] v)))))))) :
    z_Wp (z_C d) 1 k_X7_winner Q 19 [some (vR 7 0), some (vR 0 0), some (vI x2), some (vI x3), some (vI x4), u5] [] v := z_run [3, 19, 50] 400 h
set_option maxRecDepth 100000 in
set_option maxHeartbeats 2000000 in
theorem B_X7_winner_50 {d : Nat} {Q : z_RT} {v : z_V} {x2 : Int32} {x3 : Int32} {x4 : Int32} {u5 : Option z_AV} {s0 : Int32}
    (h : ((s0 = 0 → z_Wp (z_C d) 1 k_X7_winner Q 19 [some (vR 7 0), some (vR 0 0), some (vI x2), some (vI x3), some (vI (x4 + (-1))), some (vI s0)] [] v) ∧ (¬ s0 = 0 → z_if (z_in (x3 ||| (i_shl 1 x4)) 128) (((¬ (gI v 800 0 (n_ (x3 ||| (i_shl 1 x4)))) = (-1) → z_Wp (z_C d) 1 k_X7_winner Q 19 [some (vR 7 0), some (vR 0 0), some (vI x2), some (vI x3), some (vI (x4 + (-1))), some (vI s0)] [] v) ∧ ((gI v 800 0 (n_ (x3 ||| (i_shl 1 x4)))) = (-1) → z_if (z_in x3 128) (z_Wp (z_C d) 1 k_X7_winner Q 19 [some (vR 7 0), some (vR 0 0), some (vI x2), some (vI x3), some (vI (x4 + (-1))), some (vI s0)] [] (pI v 800 0 (n_ x3) x4)))))))) :
    z_Wp (z_C d) 1 k_X7_winner Q 50 [some (vR 7 0), some (vR 0 0), some (vI x2), some (vI x3), some (vI x4), u5] [vI s0] v := z_run [3, 19, 50] 400 h
set_option maxRecDepth 100000 in
set_option maxHeartbeats 2000000 in
theorem B_X7_rideFares_0 {d : Nat} {Q : z_RT} {v : z_V} {n2 : Nat} {a3 : Int32} {a4 : Int32}
    (h : z_C d m_X7_reckon [vR 7 0, vR 0 0, vR 500 n2, vI a4] v (fun w1 o2 => o2 = none ∧ z_if (z_in a3 7) ((((gI w1 801 0 (n_ a3)) < 1000000 → z_if (z_in a3 7) (Q w1 (some (vI ((gI w1 801 0 (n_ a3)) / 8))))) ∧ (¬ (gI w1 801 0 (n_ a3)) < 1000000 → Q w1 (some (vI (-1)))))))) :
    z_Wp (z_C d) 1 k_X7_rideFares Q 0 [some (vR 7 0), some (vR 0 0), some (vR 500 n2), some (vI a3), some (vI a4)] [] v := z_run [] 400 h
set_option maxRecDepth 100000 in
set_option maxHeartbeats 2000000 in
theorem B_X7_rideHalt_0 {d : Nat} {Q : z_RT} {v : z_V} {n2 : Nat} {a3 : Int32} {a4 : Int32} {a5 : Int32}
    (h : z_C d m_X7_reckon [vR 7 0, vR 0 0, vR 500 n2, vI a4] v (fun w1 o2 => o2 = none ∧ z_if (z_in a3 7) ((((gI w1 801 0 (n_ a3)) < 1000000 → z_Wp (z_C d) 1 k_X7_rideHalt Q 28 [some (vR 7 0), some (vR 0 0), some (vR 500 n2), some (vI a3), some (vI a4), some (vI a5), some (vI a3), some (vI 0)] [] w1) ∧ (¬ (gI w1 801 0 (n_ a3)) < 1000000 → Q w1 (some (vI (-2)))))))) :
    z_Wp (z_C d) 1 k_X7_rideHalt Q 0 [some (vR 7 0), some (vR 0 0), some (vR 500 n2), some (vI a3), some (vI a4), some (vI a5), none, none] [] v := z_run [28] 400 h
set_option maxRecDepth 100000 in
set_option maxHeartbeats 2000000 in
theorem B_X7_rideHalt_28 {d : Nat} {Q : z_RT} {v : z_V} {n2 : Nat} {u3 : Option z_AV} {x4 : Int32} {x5 : Int32} {x6 : Int32} {x7 : Int32}
    (h : ((x5 ≤ x7 → Q v (some (vI x6))) ∧ (¬ x5 ≤ x7 → ((¬ x6 = x4 → z_C d m_X7_nextHalt [vR 7 0, vR 0 0, vR 500 n2, vI x6] v (fun w1 o2 => ∃ i3 : Int32, o2 = some (vI i3) ∧ z_Wp (z_C d) 1 k_X7_rideHalt Q 28 [some (vR 7 0), some (vR 0 0), some (vR 500 n2), none, some (vI x4), some (vI x5), some (vI i3), some (vI (x7 + 1))] [] w1)) ∧ (x6 = x4 → Q v (some (vI (-2)))))))) :
    z_Wp (z_C d) 1 k_X7_rideHalt Q 28 [some (vR 7 0), some (vR 0 0), some (vR 500 n2), u3, some (vI x4), some (vI x5), some (vI x6), some (vI x7)] [] v := z_run [28] 400 h
set_option maxRecDepth 100000 in
set_option maxHeartbeats 2000000 in
theorem B_X7_reckon_0 {d : Nat} {Q : z_RT} {v : z_V} {n2 : Nat} {a3 : Int32}
    (h : z_Wp (z_C d) 0 k_X7_reckon Q 3 [some (vR 7 0), some (vR 0 0), some (vR 500 n2), some (vI a3), some (vI 0), none, none, none, none] [] v) :
    z_Wp (z_C d) 0 k_X7_reckon Q 0 [some (vR 7 0), some (vR 0 0), some (vR 500 n2), some (vI a3), none, none, none, none, none] [] v := z_run [3, 38, 48, 146] 400 h
set_option maxRecDepth 100000 in
set_option maxHeartbeats 2000000 in
theorem B_X7_reckon_3 {d : Nat} {Q : z_RT} {v : z_V} {n2 : Nat} {x3 : Int32} {x4 : Int32} {u5 : Option z_AV} {u6 : Option z_AV} {u7 : Option z_AV} {u8 : Option z_AV}
    (h : ((7 ≤ x4 → z_Wp (z_C d) 0 k_X7_reckon Q 38 [some (vR 7 0), some (vR 0 0), some (vR 500 n2), some (vI x3), some (vI 1), none, none, none, none] [] v) ∧ (¬ 7 ≤ x4 → ((¬ x4 = x3 → z_if (z_in x4 7) (z_Wp (z_C d) 0 k_X7_reckon Q 3 [some (vR 7 0), some (vR 0 0), some (vR 500 n2), some (vI x3), some (vI (x4 + 1)), none, none, none, none] [] (pI v 801 0 (n_ x4) 1000000))) ∧ (x4 = x3 → z_if (z_in x4 7) (z_Wp (z_C d) 0 k_X7_reckon Q 3 [some (vR 7 0), some (vR 0 0), some (vR 500 n2), some (vI x3), some (vI (x4 + 1)), none, none, none, none] [] (pI v 801 0 (n_ x4) 0))))))) :
    z_Wp (z_C d) 0 k_X7_reckon Q 3 [some (vR 7 0), some (vR 0 0), some (vR 500 n2), some (vI x3), some (vI x4), u5, u6, u7, u8] [] v := z_run [3, 38, 48, 146] 400 h
set_option maxRecDepth 100000 in
set_option maxHeartbeats 2000000 in
theorem B_X7_reckon_38 {d : Nat} {Q : z_RT} {v : z_V} {n2 : Nat} {u3 : Option z_AV} {x4 : Int32} {u5 : Option z_AV} {u6 : Option z_AV} {u7 : Option z_AV} {u8 : Option z_AV}
    (h : ((7 ≤ x4 → Q v none) ∧ (¬ 7 ≤ x4 → z_Wp (z_C d) 0 k_X7_reckon Q 48 [some (vR 7 0), some (vR 0 0), some (vR 500 n2), none, some (vI x4), some (vI 0), none, none, none] [] v))) :
    z_Wp (z_C d) 0 k_X7_reckon Q 38 [some (vR 7 0), some (vR 0 0), some (vR 500 n2), u3, some (vI x4), u5, u6, u7, u8] [] v := z_run [3, 38, 48, 146] 400 h
set_option maxRecDepth 100000 in
set_option maxHeartbeats 2000000 in
theorem B_X7_reckon_48 {d : Nat} {Q : z_RT} {v : z_V} {n2 : Nat} {u3 : Option z_AV} {x4 : Int32} {x5 : Int32} {u6 : Option z_AV} {u7 : Option z_AV} {u8 : Option z_AV}
    (h : ((10 ≤ x5 → z_Wp (z_C d) 0 k_X7_reckon Q 38 [some (vR 7 0), some (vR 0 0), some (vR 500 n2), none, some (vI (x4 + 1)), some (vI x5), none, none, none] [] v) ∧ (¬ 10 ≤ x5 → z_C d m_X0_isOpen [vR 0 0, vI x5] v (fun w1 o2 => ∃ i3 : Int32, o2 = some (vI i3) ∧ ((i3 = 0 → z_Wp (z_C d) 0 k_X7_reckon Q 146 [some (vR 7 0), some (vR 0 0), some (vR 500 n2), none, some (vI x4), some (vI x5), none, none, none] [] w1) ∧ (¬ i3 = 0 → z_if (z_in x5 10) (z_if (z_in x5 10) (z_C d m_X7_stepWorth [vR 500 n2, vI (gI w1 100 0 (n_ x5)), vI (gI w1 101 0 (n_ x5))] w1 (fun w4 o5 => ∃ i6 : Int32, o5 = some (vI i6) ∧ z_if (z_in (gI w1 100 0 (n_ x5)) 7) (z_if (z_in (gI w1 101 0 (n_ x5)) 7) (z_if (z_in (gI w1 100 0 (n_ x5)) 7) (z_if (z_in (gI w1 101 0 (n_ x5)) 7) (z_if (z_in (gI w1 100 0 (n_ x5)) 7) (z_if (z_in (gI w1 101 0 (n_ x5)) 7) (z_Wp (z_C d) 0 k_X7_reckon Q 146 [some (vR 7 0), some (vR 0 0), some (vR 500 n2), none, some (vI x4), some (vI x5), some (vI (gI w1 100 0 (n_ x5))), some (vI (gI w1 101 0 (n_ x5))), some (vI i6)] [] (pI (pI w4 801 0 (n_ (gI w1 100 0 (n_ x5))) (i_min (gI w4 801 0 (n_ (gI w1 100 0 (n_ x5)))) ((gI w4 801 0 (n_ (gI w1 101 0 (n_ x5)))) + i6))) 801 0 (n_ (gI w1 101 0 (n_ x5))) (i_min (gI (pI w4 801 0 (n_ (gI w1 100 0 (n_ x5))) (i_min (gI w4 801 0 (n_ (gI w1 100 0 (n_ x5)))) ((gI w4 801 0 (n_ (gI w1 101 0 (n_ x5)))) + i6))) 801 0 (n_ (gI w1 101 0 (n_ x5)))) ((gI (pI w4 801 0 (n_ (gI w1 100 0 (n_ x5))) (i_min (gI w4 801 0 (n_ (gI w1 100 0 (n_ x5)))) ((gI w4 801 0 (n_ (gI w1 101 0 (n_ x5)))) + i6))) 801 0 (n_ (gI w1 100 0 (n_ x5)))) + i6)))))))))))))))))) :
    z_Wp (z_C d) 0 k_X7_reckon Q 48 [some (vR 7 0), some (vR 0 0), some (vR 500 n2), u3, some (vI x4), some (vI x5), u6, u7, u8] [] v := z_run [3, 38, 48, 146] 400 h
set_option maxRecDepth 100000 in
set_option maxHeartbeats 2000000 in
theorem B_X7_reckon_146 {d : Nat} {Q : z_RT} {v : z_V} {n2 : Nat} {u3 : Option z_AV} {x4 : Int32} {x5 : Int32} {u6 : Option z_AV} {u7 : Option z_AV} {u8 : Option z_AV}
    (h : z_Wp (z_C d) 0 k_X7_reckon Q 48 [some (vR 7 0), some (vR 0 0), some (vR 500 n2), none, some (vI x4), some (vI (x5 + 1)), none, none, none] [] v) :
    z_Wp (z_C d) 0 k_X7_reckon Q 146 [some (vR 7 0), some (vR 0 0), some (vR 500 n2), u3, some (vI x4), some (vI x5), u6, u7, u8] [] v := z_run [3, 38, 48, 146] 400 h
set_option maxRecDepth 100000 in
set_option maxHeartbeats 2000000 in
theorem B_X7_stepWorth_0 {d : Nat} {Q : z_RT} {v : z_V} {n0 : Nat} {a1 : Int32} {a2 : Int32}
    (h : z_if (z_in a1 7) (z_if (z_in a2 7) (Q v (some (vI (((i_abs ((gI v 500 n0 (n_ a1)) - (gI v 500 n0 (n_ a2)))) * 8) + 1)))))) :
    z_Wp (z_C d) 1 k_X7_stepWorth Q 0 [some (vR 500 n0), some (vI a1), some (vI a2)] [] v := z_run [] 400 h
set_option maxRecDepth 100000 in
set_option maxHeartbeats 2000000 in
theorem B_X7_nextHalt_0 {d : Nat} {Q : z_RT} {v : z_V} {n2 : Nat} {a3 : Int32}
    (h : z_Wp (z_C d) 1 k_X7_nextHalt Q 3 [some (vR 7 0), some (vR 0 0), some (vR 500 n2), some (vI a3), some (vI 0), none] [] v) :
    z_Wp (z_C d) 1 k_X7_nextHalt Q 0 [some (vR 7 0), some (vR 0 0), some (vR 500 n2), some (vI a3), none, none] [] v := z_run [3, 29] 400 h
set_option maxRecDepth 100000 in
set_option maxHeartbeats 2000000 in
theorem B_X7_nextHalt_3 {d : Nat} {Q : z_RT} {v : z_V} {n2 : Nat} {x3 : Int32} {x4 : Int32} {u5 : Option z_AV}
    (h : ((7 ≤ x4 → Q v (some (vI x3))) ∧ (¬ 7 ≤ x4 → z_if (z_in x3 7) (((((i_shr (gI v 102 0 (n_ x3)) x4) &&& 1) = 0 → z_Wp (z_C d) 1 k_X7_nextHalt Q 29 [some (vR 7 0), some (vR 0 0), some (vR 500 n2), some (vI x3), some (vI x4), none] [vI 0] v) ∧ (¬ ((i_shr (gI v 102 0 (n_ x3)) x4) &&& 1) = 0 → z_Wp (z_C d) 1 k_X7_nextHalt Q 29 [some (vR 7 0), some (vR 0 0), some (vR 500 n2), some (vI x3), some (vI x4), none] [vI 1] v)))))) :
    z_Wp (z_C d) 1 k_X7_nextHalt Q 3 [some (vR 7 0), some (vR 0 0), some (vR 500 n2), some (vI x3), some (vI x4), u5] [] v := z_run [3, 29] 400 h
set_option maxRecDepth 100000 in
set_option maxHeartbeats 2000000 in
theorem B_X7_nextHalt_29 {d : Nat} {Q : z_RT} {v : z_V} {n2 : Nat} {x3 : Int32} {x4 : Int32} {u5 : Option z_AV} {s0 : Int32}
    (h : ((s0 = 0 → z_Wp (z_C d) 1 k_X7_nextHalt Q 3 [some (vR 7 0), some (vR 0 0), some (vR 500 n2), some (vI x3), some (vI (x4 + 1)), some (vI s0)] [] v) ∧ (¬ s0 = 0 → z_if (z_in x4 7) (z_C d m_X7_stepWorth [vR 500 n2, vI x3, vI x4] v (fun w1 o2 => ∃ i3 : Int32, o2 = some (vI i3) ∧ z_if (z_in x3 7) (((¬ ((gI v 801 0 (n_ x4)) + i3) = (gI w1 801 0 (n_ x3)) → z_Wp (z_C d) 1 k_X7_nextHalt Q 3 [some (vR 7 0), some (vR 0 0), some (vR 500 n2), some (vI x3), some (vI (x4 + 1)), some (vI s0)] [] w1) ∧ (((gI v 801 0 (n_ x4)) + i3) = (gI w1 801 0 (n_ x3)) → Q w1 (some (vI x4)))))))))) :
    z_Wp (z_C d) 1 k_X7_nextHalt Q 29 [some (vR 7 0), some (vR 0 0), some (vR 500 n2), some (vI x3), some (vI x4), u5] [vI s0] v := z_run [3, 29] 400 h
set_option maxRecDepth 100000 in
set_option maxHeartbeats 2000000 in
theorem B_X8_solveAlike_0 {d : Nat} {Q : z_RT} {v : z_V}
    (h : ((¬ (lg_cmp (gL v 8 0 9) (gL v 0 0 7)) = 0 → ((¬ (gI v 0 0 6) = 0 → z_if (z_nz (gI v 0 0 6)) (((¬ (i_rem ((gI v 0 0 4) * ((gI v 0 0 4) + 1)) (gI v 0 0 6)) = 0 → Q (pL (pL v 8 0 9 (gL v 0 0 7)) 8 0 3 0) none) ∧ ((i_rem ((gI v 0 0 4) * ((gI v 0 0 4) + 1)) (gI v 0 0 6)) = 0 → z_if (z_nz (gI v 0 0 6)) (z_C d m_X8_begin [vR 8 0, vR 0 0, vI (((gI v 0 0 4) * ((gI v 0 0 4) + 1)) / (gI v 0 0 6))] (pI (pL (pL v 8 0 9 (gL v 0 0 7)) 8 0 3 0) 8 0 2 (((gI v 0 0 4) * ((gI v 0 0 4) + 1)) / (gI v 0 0 6))) (fun w1 o2 => o2 = none ∧ z_C d m_X8_goAlike [vR 8 0, vR 0 0, vI (gI w1 0 0 3)] w1 (fun w3 o4 => o4 = none ∧ Q w3 none))))))) ∧ ((gI v 0 0 6) = 0 → Q (pL (pI (pL (pL v 8 0 9 (gL v 0 0 7)) 8 0 3 0) 8 0 2 0) 8 0 3 1) none))) ∧ ((lg_cmp (gL v 8 0 9) (gL v 0 0 7)) = 0 → Q v none))) :
    z_Wp (z_C d) 0 k_X8_solveAlike Q 0 [some (vR 8 0), some (vR 0 0), none] [] v := z_run [] 400 h
set_option maxRecDepth 100000 in
set_option maxHeartbeats 2000000 in
theorem B_X8_begin_0 {d : Nat} {Q : z_RT} {v : z_V} {a2 : Int32}
    (h : z_Wp (z_C d) 0 k_X8_begin Q 7 [some (vR 8 0), some (vR 0 0), some (vI a2), some (vI 0)] [] (pI v 8 0 8 0)) :
    z_Wp (z_C d) 0 k_X8_begin Q 0 [some (vR 8 0), some (vR 0 0), some (vI a2), none] [] v := z_run [7] 400 h
set_option maxRecDepth 100000 in
set_option maxHeartbeats 2000000 in
theorem B_X8_begin_7 {d : Nat} {Q : z_RT} {v : z_V} {x2 : Int32} {x3 : Int32}
    (h : ((7 ≤ x3 → Q v none) ∧ (¬ 7 ≤ x3 → z_if (z_in x3 7) (z_if (z_in x3 7) (z_C d m_J6_bitCount_0f7a4 [vI (gI v 102 0 (n_ x3))] (pI v 906 0 (n_ x3) x2) (fun w1 o2 => ∃ i3 : Int32, o2 = some (vI i3) ∧ z_if (z_in x3 7) (z_Wp (z_C d) 0 k_X8_begin Q 7 [some (vR 8 0), some (vR 0 0), some (vI x2), some (vI (x3 + 1))] [] (pI w1 907 0 (n_ x3) i3)))))))) :
    z_Wp (z_C d) 0 k_X8_begin Q 7 [some (vR 8 0), some (vR 0 0), some (vI x2), some (vI x3)] [] v := z_run [7] 400 h
set_option maxRecDepth 100000 in
set_option maxHeartbeats 2000000 in
theorem B_X8_goAlike_0 {d : Nat} {Q : z_RT} {v : z_V} {a2 : Int32}
    (h : z_C d m_X8_tightest [vR 8 0, vR 0 0, vI a2] v (fun w1 o2 => ∃ i3 : Int32, o2 = some (vI i3) ∧ ((¬ i3 = (-1) → z_if (z_in i3 10) (z_if (z_in i3 10) (z_if (z_in (gI w1 100 0 (n_ i3)) 7) ((((gI w1 907 0 (n_ (gI w1 100 0 (n_ i3)))) = 1 → z_Wp (z_C d) 0 k_X8_goAlike Q 75 [some (vR 8 0), some (vR 0 0), some (vI a2), some (vI i3), some (vI (gI w1 100 0 (n_ i3))), some (vI (gI w1 101 0 (n_ i3))), some (vI 1), some (vI (gI w1 0 0 4)), none] [] w1) ∧ (¬ (gI w1 907 0 (n_ (gI w1 100 0 (n_ i3)))) = 1 → z_if (z_in (gI w1 101 0 (n_ i3)) 7) (((¬ (gI w1 907 0 (n_ (gI w1 101 0 (n_ i3)))) = 1 → z_Wp (z_C d) 0 k_X8_goAlike Q 122 [some (vR 8 0), some (vR 0 0), some (vI a2), some (vI i3), some (vI (gI w1 100 0 (n_ i3))), some (vI (gI w1 101 0 (n_ i3))), some (vI 1), some (vI (gI w1 0 0 4)), some (vI 1)] [] w1) ∧ ((gI w1 907 0 (n_ (gI w1 101 0 (n_ i3)))) = 1 → z_Wp (z_C d) 0 k_X8_goAlike Q 75 [some (vR 8 0), some (vR 0 0), some (vI a2), some (vI i3), some (vI (gI w1 100 0 (n_ i3))), some (vI (gI w1 101 0 (n_ i3))), some (vI 1), some (vI (gI w1 0 0 4)), none] [] w1))))))))) ∧ (i3 = (-1) → z_C d m_X8_keepLowest [vR 8 0, vR 0 0] (pL w1 8 0 3 ((gL w1 8 0 3) + 1)) (fun w4 o5 => o5 = none ∧ Q w4 none))))) :
    z_Wp (z_C d) 0 k_X8_goAlike Q 0 [some (vR 8 0), some (vR 0 0), some (vI a2), none, none, none, none, none, none] [] v := z_run [75, 122] 400 h
set_option maxRecDepth 100000 in
set_option maxHeartbeats 2000000 in
theorem B_X8_goAlike_75 {d : Nat} {Q : z_RT} {v : z_V} {x2 : Int32} {x3 : Int32} {x4 : Int32} {x5 : Int32} {u6 : Option z_AV} {x7 : Int32} {u8 : Option z_AV}
    (h : z_if (z_in x4 7) (((¬ (gI v 907 0 (n_ x4)) = 1 → z_if (z_in x5 7) (z_Wp (z_C d) 0 k_X8_goAlike Q 122 [some (vR 8 0), some (vR 0 0), some (vI x2), some (vI x3), some (vI x4), some (vI x5), some (vI (i_max 1 (gI v 906 0 (n_ x5)))), some (vI (i_min x7 (i_max 1 (gI v 906 0 (n_ x5))))), some (vI (i_max 1 (gI v 906 0 (n_ x5))))] [] v)) ∧ ((gI v 907 0 (n_ x4)) = 1 → z_if (z_in x4 7) (z_Wp (z_C d) 0 k_X8_goAlike Q 122 [some (vR 8 0), some (vR 0 0), some (vI x2), some (vI x3), some (vI x4), some (vI x5), some (vI (i_max 1 (gI v 906 0 (n_ x4)))), some (vI (i_min x7 (i_max 1 (gI v 906 0 (n_ x4))))), some (vI (i_max 1 (gI v 906 0 (n_ x4))))] [] v))))) :
    z_Wp (z_C d) 0 k_X8_goAlike Q 75 [some (vR 8 0), some (vR 0 0), some (vI x2), some (vI x3), some (vI x4), some (vI x5), u6, some (vI x7), u8] [] v := z_run [75, 122] 400 h
set_option maxRecDepth 100000 in
set_option maxHeartbeats 2000000 in
theorem B_X8_goAlike_122 {d : Nat} {Q : z_RT} {v : z_V} {x2 : Int32} {x3 : Int32} {u4 : Option z_AV} {u5 : Option z_AV} {u6 : Option z_AV} {x7 : Int32} {x8 : Int32}
    (h : ((x7 < x8 → Q v none) ∧ (¬ x7 < x8 → ((¬ ((i_shr (gI v 8 0 8) x8) &&& 1) = 0 → z_Wp (z_C d) 0 k_X8_goAlike Q 122 [some (vR 8 0), some (vR 0 0), some (vI x2), some (vI x3), none, none, none, some (vI x7), some (vI (x8 + 1))] [] v) ∧ (((i_shr (gI v 8 0 8) x8) &&& 1) = 0 → z_C d m_X8_goAlikeWith [vR 8 0, vR 0 0, vI x2, vI x3, vI x8] v (fun w1 o2 => o2 = none ∧ z_Wp (z_C d) 0 k_X8_goAlike Q 122 [some (vR 8 0), some (vR 0 0), some (vI x2), some (vI x3), none, none, none, some (vI x7), some (vI (x8 + 1))] [] w1)))))) :
    z_Wp (z_C d) 0 k_X8_goAlike Q 122 [some (vR 8 0), some (vR 0 0), some (vI x2), some (vI x3), u4, u5, u6, some (vI x7), some (vI x8)] [] v := z_run [75, 122] 400 h
set_option maxRecDepth 100000 in
set_option maxHeartbeats 2000000 in
theorem B_X8_goAlikeWith_0 {d : Nat} {Q : z_RT} {v : z_V} {a2 : Int32} {a3 : Int32} {a4 : Int32}
    (h : z_if (z_in a3 10) (z_if (z_in a3 10) (z_C d m_X8_put [vR 8 0, vI a3, vI (gI v 100 0 (n_ a3)), vI (gI v 101 0 (n_ a3)), vI a4, vI (-1)] v (fun w1 o2 => o2 = none ∧ z_C d m_X8_canBe [vR 8 0, vR 0 0, vI (gI v 100 0 (n_ a3))] w1 (fun w3 o4 => ∃ i5 : Int32, o4 = some (vI i5) ∧ ((i5 = 0 → z_C d m_X8_takeOff [vR 8 0, vI (gI v 100 0 (n_ a3)), vI (gI v 101 0 (n_ a3)), vI a4, vI (-1)] w3 (fun w6 o7 => o7 = none ∧ Q w6 none)) ∧ (¬ i5 = 0 → z_C d m_X8_canBe [vR 8 0, vR 0 0, vI (gI v 101 0 (n_ a3))] w3 (fun w8 o9 => ∃ i10 : Int32, o9 = some (vI i10) ∧ ((i10 = 0 → z_C d m_X8_takeOff [vR 8 0, vI (gI v 100 0 (n_ a3)), vI (gI v 101 0 (n_ a3)), vI a4, vI (-1)] w8 (fun w11 o12 => o12 = none ∧ Q w11 none)) ∧ (¬ i10 = 0 → z_C d m_X8_goAlike [vR 8 0, vR 0 0, vI (a2 &&& ((i_shl 1 a3) ^^^ (-1)))] w8 (fun w13 o14 => o14 = none ∧ z_C d m_X8_takeOff [vR 8 0, vI (gI v 100 0 (n_ a3)), vI (gI v 101 0 (n_ a3)), vI a4, vI (-1)] w13 (fun w15 o16 => o16 = none ∧ Q w15 none)))))))))))) :
    z_Wp (z_C d) 0 k_X8_goAlikeWith Q 0 [some (vR 8 0), some (vR 0 0), some (vI a2), some (vI a3), some (vI a4), none, none] [] v := z_run [] 400 h
set_option maxRecDepth 100000 in
set_option maxHeartbeats 2000000 in
theorem B_X8_put_0 {d : Nat} {Q : z_RT} {v : z_V} {a1 : Int32} {a2 : Int32} {a3 : Int32} {a4 : Int32} {a5 : Int32}
    (h : z_if (z_in a1 10) (z_if (z_in a2 7) (z_if (z_in a2 7) (z_if (z_in a3 7) (z_if (z_in a3 7) (z_Wp (z_C d) 0 k_X8_put Q 49 [some (vR 8 0), some (vI a1), some (vI a2), some (vI a3), some (vI a4), some (vI a5)] [] (pI (pI (pI (pI v 905 0 (n_ a1) a4) 8 0 8 ((gI v 8 0 8) ||| (i_shl 1 a4))) 906 0 (n_ a2) ((gI v 906 0 (n_ a2)) + (a4 * a5))) 906 0 (n_ a3) ((gI (pI (pI (pI v 905 0 (n_ a1) a4) 8 0 8 ((gI v 8 0 8) ||| (i_shl 1 a4))) 906 0 (n_ a2) ((gI v 906 0 (n_ a2)) + (a4 * a5))) 906 0 (n_ a3)) + (a4 * a5))))))))) :
    z_Wp (z_C d) 0 k_X8_put Q 0 [some (vR 8 0), some (vI a1), some (vI a2), some (vI a3), some (vI a4), some (vI a5)] [] v := z_run [49] 400 h
set_option maxRecDepth 100000 in
set_option maxHeartbeats 2000000 in
theorem B_X8_put_49 {d : Nat} {Q : z_RT} {v : z_V} {u1 : Option z_AV} {x2 : Int32} {x3 : Int32} {u4 : Option z_AV} {u5 : Option z_AV}
    (h : z_if (z_in x2 7) (z_if (z_in x2 7) (z_if (z_in x3 7) (z_if (z_in x3 7) (Q (pI (pI v 907 0 (n_ x2) ((gI v 907 0 (n_ x2)) - 1)) 907 0 (n_ x3) ((gI (pI v 907 0 (n_ x2) ((gI v 907 0 (n_ x2)) - 1)) 907 0 (n_ x3)) - 1)) none))))) :
    z_Wp (z_C d) 0 k_X8_put Q 49 [some (vR 8 0), u1, some (vI x2), some (vI x3), u4, u5] [] v := z_run [49] 400 h
set_option maxRecDepth 100000 in
set_option maxHeartbeats 2000000 in
theorem B_X8_takeOff_0 {d : Nat} {Q : z_RT} {v : z_V} {a1 : Int32} {a2 : Int32} {a3 : Int32} {a4 : Int32}
    (h : z_if (z_in a1 7) (z_if (z_in a1 7) (z_if (z_in a2 7) (z_if (z_in a2 7) (z_Wp (z_C d) 0 k_X8_takeOff Q 40 [some (vR 8 0), some (vI a1), some (vI a2), some (vI a3), some (vI a4)] [] (pI (pI (pI v 8 0 8 ((gI v 8 0 8) &&& ((i_shl 1 a3) ^^^ (-1)))) 906 0 (n_ a1) ((gI v 906 0 (n_ a1)) - (a3 * a4))) 906 0 (n_ a2) ((gI (pI (pI v 8 0 8 ((gI v 8 0 8) &&& ((i_shl 1 a3) ^^^ (-1)))) 906 0 (n_ a1) ((gI v 906 0 (n_ a1)) - (a3 * a4))) 906 0 (n_ a2)) - (a3 * a4)))))))) :
    z_Wp (z_C d) 0 k_X8_takeOff Q 0 [some (vR 8 0), some (vI a1), some (vI a2), some (vI a3), some (vI a4)] [] v := z_run [40] 400 h
set_option maxRecDepth 100000 in
set_option maxHeartbeats 2000000 in
theorem B_X8_takeOff_40 {d : Nat} {Q : z_RT} {v : z_V} {x1 : Int32} {x2 : Int32} {u3 : Option z_AV} {u4 : Option z_AV}
    (h : z_if (z_in x1 7) (z_if (z_in x1 7) (z_if (z_in x2 7) (z_if (z_in x2 7) (Q (pI (pI v 907 0 (n_ x1) ((gI v 907 0 (n_ x1)) + 1)) 907 0 (n_ x2) ((gI (pI v 907 0 (n_ x1) ((gI v 907 0 (n_ x1)) + 1)) 907 0 (n_ x2)) + 1)) none))))) :
    z_Wp (z_C d) 0 k_X8_takeOff Q 40 [some (vR 8 0), some (vI x1), some (vI x2), u3, u4] [] v := z_run [40] 400 h
set_option maxRecDepth 100000 in
set_option maxHeartbeats 2000000 in
theorem B_X8_canBe_0 {d : Nat} {Q : z_RT} {v : z_V} {a2 : Int32}
    (h : z_if (z_in a2 7) (z_if (z_in a2 7) (((¬ (gI v 907 0 (n_ a2)) = 1 → (((gI v 906 0 (n_ a2)) < (((gI v 907 0 (n_ a2)) * ((gI v 907 0 (n_ a2)) + 1)) / 2) → Q v (some (vI 0))) ∧ (¬ (gI v 906 0 (n_ a2)) < (((gI v 907 0 (n_ a2)) * ((gI v 907 0 (n_ a2)) + 1)) / 2) → (((((gI v 907 0 (n_ a2)) * (((2 * (gI v 0 0 4)) - (gI v 907 0 (n_ a2))) + 1)) / 2) < (gI v 906 0 (n_ a2)) → Q v (some (vI 0))) ∧ (¬ (((gI v 907 0 (n_ a2)) * (((2 * (gI v 0 0 4)) - (gI v 907 0 (n_ a2))) + 1)) / 2) < (gI v 906 0 (n_ a2)) → Q v (some (vI 1))))))) ∧ ((gI v 907 0 (n_ a2)) = 1 → (((gI v 906 0 (n_ a2)) < 1 → Q v (some (vI 0))) ∧ (¬ (gI v 906 0 (n_ a2)) < 1 → (((gI v 0 0 4) < (gI v 906 0 (n_ a2)) → Q v (some (vI 0))) ∧ (¬ (gI v 0 0 4) < (gI v 906 0 (n_ a2)) → ((¬ ((i_shr (gI v 8 0 8) (gI v 906 0 (n_ a2))) &&& 1) = 0 → Q v (some (vI 0))) ∧ (((i_shr (gI v 8 0 8) (gI v 906 0 (n_ a2))) &&& 1) = 0 → Q v (some (vI 1))))))))))))) :
    z_Wp (z_C d) 4 k_X8_canBe Q 0 [some (vR 8 0), some (vR 0 0), some (vI a2), none, none] [] v := z_run [] 400 h
set_option maxRecDepth 100000 in
set_option maxHeartbeats 2000000 in
theorem B_X8_tightest_0 {d : Nat} {Q : z_RT} {v : z_V} {a2 : Int32}
    (h : z_Wp (z_C d) 1 k_X8_tightest Q 9 [some (vR 8 0), some (vR 0 0), some (vI a2), some (vI (-1)), some (vI 11), some (vI 0), none] [] v) :
    z_Wp (z_C d) 1 k_X8_tightest Q 0 [some (vR 8 0), some (vR 0 0), some (vI a2), none, none, none, none] [] v := z_run [9] 400 h
set_option maxRecDepth 100000 in
set_option maxHeartbeats 2000000 in
theorem B_X8_tightest_9 {d : Nat} {Q : z_RT} {v : z_V} {x2 : Int32} {x3 : Int32} {x4 : Int32} {x5 : Int32} {u6 : Option z_AV}
    (h : ((10 ≤ x5 → Q v (some (vI x3))) ∧ (¬ 10 ≤ x5 → ((((i_shr x2 x5) &&& 1) = 0 → z_Wp (z_C d) 1 k_X8_tightest Q 9 [some (vR 8 0), some (vR 0 0), some (vI x2), some (vI x3), some (vI x4), some (vI (x5 + 1)), none] [] v) ∧ (¬ ((i_shr x2 x5) &&& 1) = 0 → z_if (z_in x5 10) (z_if (z_in (gI v 100 0 (n_ x5)) 7) (z_if (z_in x5 10) (z_if (z_in (gI v 101 0 (n_ x5)) 7) (((x4 ≤ (i_min (gI v 907 0 (n_ (gI v 100 0 (n_ x5)))) (gI v 907 0 (n_ (gI v 101 0 (n_ x5))))) → z_Wp (z_C d) 1 k_X8_tightest Q 9 [some (vR 8 0), some (vR 0 0), some (vI x2), some (vI x3), some (vI x4), some (vI (x5 + 1)), some (vI (i_min (gI v 907 0 (n_ (gI v 100 0 (n_ x5)))) (gI v 907 0 (n_ (gI v 101 0 (n_ x5))))))] [] v) ∧ (¬ x4 ≤ (i_min (gI v 907 0 (n_ (gI v 100 0 (n_ x5)))) (gI v 907 0 (n_ (gI v 101 0 (n_ x5))))) → z_Wp (z_C d) 1 k_X8_tightest Q 9 [some (vR 8 0), some (vR 0 0), some (vI x2), some (vI x5), some (vI (i_min (gI v 907 0 (n_ (gI v 100 0 (n_ x5)))) (gI v 907 0 (n_ (gI v 101 0 (n_ x5)))))), some (vI (x5 + 1)), some (vI (i_min (gI v 907 0 (n_ (gI v 100 0 (n_ x5)))) (gI v 907 0 (n_ (gI v 101 0 (n_ x5))))))] [] v))))))))))) :
    z_Wp (z_C d) 1 k_X8_tightest Q 9 [some (vR 8 0), some (vR 0 0), some (vI x2), some (vI x3), some (vI x4), some (vI x5), u6] [] v := z_run [9] 400 h
set_option maxRecDepth 100000 in
set_option maxHeartbeats 2000000 in
theorem B_X8_keepLowest_0 {d : Nat} {Q : z_RT} {v : z_V}
    (h : (((lg_cmp (gL v 8 0 3) 1) ≤ 0 → Q (pC v 905 0 0 900 0 0 10) none) ∧ (¬ (lg_cmp (gL v 8 0 3) 1) ≤ 0 → z_C d m_X8_isLower [vR 8 0, vR 0 0] v (fun w1 o2 => ∃ i3 : Int32, o2 = some (vI i3) ∧ ((¬ i3 = 0 → Q (pC w1 905 0 0 900 0 0 10) none) ∧ (i3 = 0 → Q w1 none)))))) :
    z_Wp (z_C d) 0 k_X8_keepLowest Q 0 [some (vR 8 0), some (vR 0 0)] [] v := z_run [] 400 h
set_option maxRecDepth 100000 in
set_option maxHeartbeats 2000000 in
theorem B_X8_isLower_0 {d : Nat} {Q : z_RT} {v : z_V}
    (h : z_Wp (z_C d) 4 k_X8_isLower Q 2 [some (vR 8 0), some (vR 0 0), some (vI 0)] [] v) :
    z_Wp (z_C d) 4 k_X8_isLower Q 0 [some (vR 8 0), some (vR 0 0), none] [] v := z_run [2] 400 h
set_option maxRecDepth 100000 in
set_option maxHeartbeats 2000000 in
theorem B_X8_isLower_2 {d : Nat} {Q : z_RT} {v : z_V} {x2 : Int32}
    (h : ((10 ≤ x2 → Q v (some (vI 0))) ∧ (¬ 10 ≤ x2 → z_C d m_X0_isOpen [vR 0 0, vI x2] v (fun w1 o2 => ∃ i3 : Int32, o2 = some (vI i3) ∧ ((i3 = 0 → z_Wp (z_C d) 4 k_X8_isLower Q 2 [some (vR 8 0), some (vR 0 0), some (vI (x2 + 1))] [] w1) ∧ (¬ i3 = 0 → z_if (z_in x2 10) (z_if (z_in x2 10) ((((gI w1 905 0 (n_ x2)) = (gI w1 900 0 (n_ x2)) → z_Wp (z_C d) 4 k_X8_isLower Q 2 [some (vR 8 0), some (vR 0 0), some (vI (x2 + 1))] [] w1) ∧ (¬ (gI w1 905 0 (n_ x2)) = (gI w1 900 0 (n_ x2)) → z_if (z_in x2 10) (z_if (z_in x2 10) ((((gI w1 900 0 (n_ x2)) ≤ (gI w1 905 0 (n_ x2)) → Q w1 (some (vI 0))) ∧ (¬ (gI w1 900 0 (n_ x2)) ≤ (gI w1 905 0 (n_ x2)) → Q w1 (some (vI 1)))))))))))))))) :
    z_Wp (z_C d) 4 k_X8_isLower Q 2 [some (vR 8 0), some (vR 0 0), some (vI x2)] [] v := z_run [2] 400 h
set_option maxRecDepth 100000 in
set_option maxHeartbeats 2000000 in
theorem B_X8_solveUnlike_0 {d : Nat} {Q : z_RT} {v : z_V}
    (h : ((¬ (lg_cmp (gL v 8 0 10) (gL v 0 0 7)) = 0 → z_C d m_X8_begin [vR 8 0, vR 0 0, vI 0] (pL v 8 0 10 (gL v 0 0 7)) (fun w1 o2 => o2 = none ∧ z_C d m_X8_hasLone [vR 8 0, vR 0 0] w1 (fun w3 o4 => ∃ i5 : Int32, o4 = some (vI i5) ∧ ((¬ i5 = 0 → Q (pC (pI w3 8 0 4 0) 905 0 0 901 0 0 10) none) ∧ (i5 = 0 → z_C d m_X8_goUnlike [vR 8 0, vR 0 0, vI 0] w3 (fun w6 o7 => ∃ i8 : Int32, o7 = some (vI i8) ∧ ((i8 = 0 → Q (pC (pI w6 8 0 4 0) 905 0 0 901 0 0 10) none) ∧ (¬ i8 = 0 → Q (pC (pI w6 8 0 4 1) 905 0 0 901 0 0 10) none)))))))) ∧ ((lg_cmp (gL v 8 0 10) (gL v 0 0 7)) = 0 → Q v none))) :
    z_Wp (z_C d) 0 k_X8_solveUnlike Q 0 [some (vR 8 0), some (vR 0 0)] [] v := z_run [] 400 h
set_option maxRecDepth 100000 in
set_option maxHeartbeats 2000000 in
theorem B_X8_hasLone_0 {d : Nat} {Q : z_RT} {v : z_V}
    (h : z_Wp (z_C d) 4 k_X8_hasLone Q 2 [some (vR 8 0), some (vR 0 0), some (vI 0)] [] v) :
    z_Wp (z_C d) 4 k_X8_hasLone Q 0 [some (vR 8 0), some (vR 0 0), none] [] v := z_run [2] 400 h
set_option maxRecDepth 100000 in
set_option maxHeartbeats 2000000 in
theorem B_X8_hasLone_2 {d : Nat} {Q : z_RT} {v : z_V} {x2 : Int32}
    (h : ((10 ≤ x2 → Q v (some (vI 0))) ∧ (¬ 10 ≤ x2 → z_C d m_X0_isOpen [vR 0 0, vI x2] v (fun w1 o2 => ∃ i3 : Int32, o2 = some (vI i3) ∧ ((i3 = 0 → z_Wp (z_C d) 4 k_X8_hasLone Q 2 [some (vR 8 0), some (vR 0 0), some (vI (x2 + 1))] [] w1) ∧ (¬ i3 = 0 → z_if (z_in x2 10) (z_if (z_in (gI w1 100 0 (n_ x2)) 7) (((¬ (gI w1 907 0 (n_ (gI w1 100 0 (n_ x2)))) = 1 → z_Wp (z_C d) 4 k_X8_hasLone Q 2 [some (vR 8 0), some (vR 0 0), some (vI (x2 + 1))] [] w1) ∧ ((gI w1 907 0 (n_ (gI w1 100 0 (n_ x2)))) = 1 → z_if (z_in x2 10) (z_if (z_in (gI w1 101 0 (n_ x2)) 7) (((¬ (gI w1 907 0 (n_ (gI w1 101 0 (n_ x2)))) = 1 → z_Wp (z_C d) 4 k_X8_hasLone Q 2 [some (vR 8 0), some (vR 0 0), some (vI (x2 + 1))] [] w1) ∧ ((gI w1 907 0 (n_ (gI w1 101 0 (n_ x2)))) = 1 → Q w1 (some (vI 1)))))))))))))))) :
    z_Wp (z_C d) 4 k_X8_hasLone Q 2 [some (vR 8 0), some (vR 0 0), some (vI x2)] [] v := z_run [2] 400 h
set_option maxRecDepth 100000 in
set_option maxHeartbeats 2000000 in
theorem B_X8_goUnlike_0 {d : Nat} {Q : z_RT} {v : z_V} {a2 : Int32}
    (h : z_Wp (z_C d) 4 k_X8_goUnlike Q 2 [some (vR 8 0), some (vR 0 0), some (vI a2), some (vI a2), none] [] v) :
    z_Wp (z_C d) 4 k_X8_goUnlike Q 0 [some (vR 8 0), some (vR 0 0), some (vI a2), none, none] [] v := z_run [2, 33] 400 h
set_option maxRecDepth 100000 in
set_option maxHeartbeats 2000000 in
theorem B_X8_goUnlike_2 {d : Nat} {Q : z_RT} {v : z_V} {u2 : Option z_AV} {x3 : Int32} {u4 : Option z_AV}
    (h : ((10 ≤ x3 → ((x3 < 10 → z_Wp (z_C d) 4 k_X8_goUnlike Q 33 [some (vR 8 0), some (vR 0 0), none, some (vI x3), some (vI 1)] [] v) ∧ (¬ x3 < 10 → Q v (some (vI 1))))) ∧ (¬ 10 ≤ x3 → z_C d m_X0_isOpen [vR 0 0, vI x3] v (fun w1 o2 => ∃ i3 : Int32, o2 = some (vI i3) ∧ ((¬ i3 = 0 → ((x3 < 10 → z_Wp (z_C d) 4 k_X8_goUnlike Q 33 [some (vR 8 0), some (vR 0 0), none, some (vI x3), some (vI 1)] [] w1) ∧ (¬ x3 < 10 → Q w1 (some (vI 1))))) ∧ (i3 = 0 → z_Wp (z_C d) 4 k_X8_goUnlike Q 2 [some (vR 8 0), some (vR 0 0), none, some (vI (x3 + 1)), none] [] w1)))))) :
    z_Wp (z_C d) 4 k_X8_goUnlike Q 2 [some (vR 8 0), some (vR 0 0), u2, some (vI x3), u4] [] v := z_run [2, 33] 400 h
set_option maxRecDepth 100000 in
set_option maxHeartbeats 2000000 in
theorem B_X8_goUnlike_33 {d : Nat} {Q : z_RT} {v : z_V} {u2 : Option z_AV} {x3 : Int32} {x4 : Int32}
    (h : (((gI v 0 0 4) < x4 → Q v (some (vI 0))) ∧ (¬ (gI v 0 0 4) < x4 → ((¬ ((i_shr (gI v 8 0 8) x4) &&& 1) = 0 → z_Wp (z_C d) 4 k_X8_goUnlike Q 33 [some (vR 8 0), some (vR 0 0), none, some (vI x3), some (vI (x4 + 1))] [] v) ∧ (((i_shr (gI v 8 0 8) x4) &&& 1) = 0 → z_C d m_X8_goUnlikeWith [vR 8 0, vR 0 0, vI x3, vI x4] v (fun w1 o2 => ∃ i3 : Int32, o2 = some (vI i3) ∧ ((i3 = 0 → z_Wp (z_C d) 4 k_X8_goUnlike Q 33 [some (vR 8 0), some (vR 0 0), none, some (vI x3), some (vI (x4 + 1))] [] w1) ∧ (¬ i3 = 0 → Q w1 (some (vI 1)))))))))) :
    z_Wp (z_C d) 4 k_X8_goUnlike Q 33 [some (vR 8 0), some (vR 0 0), u2, some (vI x3), some (vI x4)] [] v := z_run [2, 33] 400 h
set_option maxRecDepth 100000 in
set_option maxHeartbeats 2000000 in
theorem B_X8_goUnlikeWith_0 {d : Nat} {Q : z_RT} {v : z_V} {a2 : Int32} {a3 : Int32}
    (h : z_if (z_in a2 10) (z_if (z_in a2 10) (z_C d m_X8_put [vR 8 0, vI a2, vI (gI v 100 0 (n_ a2)), vI (gI v 101 0 (n_ a2)), vI a3, vI 1] v (fun w1 o2 => o2 = none ∧ z_C d m_X8_isMet [vR 8 0, vR 0 0, vI (gI v 100 0 (n_ a2))] w1 (fun w3 o4 => ∃ i5 : Int32, o4 = some (vI i5) ∧ ((¬ i5 = 0 → z_C d m_X8_takeOff [vR 8 0, vI (gI v 100 0 (n_ a2)), vI (gI v 101 0 (n_ a2)), vI a3, vI 1] w3 (fun w6 o7 => o7 = none ∧ Q w6 (some (vI 0)))) ∧ (i5 = 0 → z_C d m_X8_isMet [vR 8 0, vR 0 0, vI (gI v 101 0 (n_ a2))] w3 (fun w8 o9 => ∃ i10 : Int32, o9 = some (vI i10) ∧ ((¬ i10 = 0 → z_C d m_X8_takeOff [vR 8 0, vI (gI v 100 0 (n_ a2)), vI (gI v 101 0 (n_ a2)), vI a3, vI 1] w8 (fun w11 o12 => o12 = none ∧ Q w11 (some (vI 0)))) ∧ (i10 = 0 → z_C d m_X8_goUnlike [vR 8 0, vR 0 0, vI (a2 + 1)] w8 (fun w13 o14 => ∃ i15 : Int32, o14 = some (vI i15) ∧ ((i15 = 0 → z_C d m_X8_takeOff [vR 8 0, vI (gI v 100 0 (n_ a2)), vI (gI v 101 0 (n_ a2)), vI a3, vI 1] w13 (fun w16 o17 => o17 = none ∧ Q w16 (some (vI 0)))) ∧ (¬ i15 = 0 → Q w13 (some (vI 1))))))))))))))) :
    z_Wp (z_C d) 4 k_X8_goUnlikeWith Q 0 [some (vR 8 0), some (vR 0 0), some (vI a2), some (vI a3), none, none] [] v := z_run [] 400 h
set_option maxRecDepth 100000 in
set_option maxHeartbeats 2000000 in
theorem B_X8_isMet_0 {d : Nat} {Q : z_RT} {v : z_V} {a2 : Int32}
    (h : z_if (z_in a2 7) ((((gI v 907 0 (n_ a2)) ≤ 0 → z_Wp (z_C d) 4 k_X8_isMet Q 13 [some (vR 8 0), some (vR 0 0), some (vI a2), some (vI 0), none] [] v) ∧ (¬ (gI v 907 0 (n_ a2)) ≤ 0 → Q v (some (vI 0)))))) :
    z_Wp (z_C d) 4 k_X8_isMet Q 0 [some (vR 8 0), some (vR 0 0), some (vI a2), none, none] [] v := z_run [13, 45] 400 h
set_option maxRecDepth 100000 in
set_option maxHeartbeats 2000000 in
theorem B_X8_isMet_13 {d : Nat} {Q : z_RT} {v : z_V} {x2 : Int32} {x3 : Int32} {u4 : Option z_AV}
    (h : ((7 ≤ x3 → Q v (some (vI 0))) ∧ (¬ 7 ≤ x3 → ((x3 = x2 → z_Wp (z_C d) 4 k_X8_isMet Q 45 [some (vR 8 0), some (vR 0 0), some (vI x2), some (vI x3), none] [] v) ∧ (¬ x3 = x2 → z_C d m_X0_isBeside [vR 0 0, vI x3] v (fun w1 o2 => ∃ i3 : Int32, o2 = some (vI i3) ∧ ((i3 = 0 → z_Wp (z_C d) 4 k_X8_isMet Q 45 [some (vR 8 0), some (vR 0 0), some (vI x2), some (vI x3), none] [] w1) ∧ (¬ i3 = 0 → z_if (z_in x3 7) (((¬ (gI w1 907 0 (n_ x3)) = 0 → z_Wp (z_C d) 4 k_X8_isMet Q 45 [some (vR 8 0), some (vR 0 0), some (vI x2), some (vI x3), none] [] w1) ∧ ((gI w1 907 0 (n_ x3)) = 0 → (((1 : Int32) = 0 → z_Wp (z_C d) 4 k_X8_isMet Q 13 [some (vR 8 0), some (vR 0 0), some (vI x2), some (vI (x3 + 1)), some (vI 1)] [] w1) ∧ (¬ (1 : Int32) = 0 → z_if (z_in x3 7) (z_if (z_in x2 7) (((¬ (gI w1 906 0 (n_ x3)) = (gI w1 906 0 (n_ x2)) → z_Wp (z_C d) 4 k_X8_isMet Q 13 [some (vR 8 0), some (vR 0 0), some (vI x2), some (vI (x3 + 1)), some (vI 1)] [] w1) ∧ ((gI w1 906 0 (n_ x3)) = (gI w1 906 0 (n_ x2)) → Q w1 (some (vI 1))))))))))))))))))) :
    z_Wp (z_C d) 4 k_X8_isMet Q 13 [some (vR 8 0), some (vR 0 0), some (vI x2), some (vI x3), u4] [] v := z_run [13, 45] 400 h
set_option maxRecDepth 100000 in
set_option maxHeartbeats 2000000 in
theorem B_X8_isMet_45 {d : Nat} {Q : z_RT} {v : z_V} {x2 : Int32} {x3 : Int32} {u4 : Option z_AV}
    (h : (((0 : Int32) = 0 → z_Wp (z_C d) 4 k_X8_isMet Q 13 [some (vR 8 0), some (vR 0 0), some (vI x2), some (vI (x3 + 1)), some (vI 0)] [] v) ∧ (¬ (0 : Int32) = 0 → z_if (z_in x3 7) (z_if (z_in x2 7) (((¬ (gI v 906 0 (n_ x3)) = (gI v 906 0 (n_ x2)) → z_Wp (z_C d) 4 k_X8_isMet Q 13 [some (vR 8 0), some (vR 0 0), some (vI x2), some (vI (x3 + 1)), some (vI 0)] [] v) ∧ ((gI v 906 0 (n_ x3)) = (gI v 906 0 (n_ x2)) → Q v (some (vI 1))))))))) :
    z_Wp (z_C d) 4 k_X8_isMet Q 45 [some (vR 8 0), some (vR 0 0), some (vI x2), some (vI x3), u4] [] v := z_run [13, 45] 400 h
set_option maxRecDepth 100000 in
set_option maxHeartbeats 2000000 in
theorem B_X9_become_0 {d : Nat} {Q : z_RT} {v : z_V} {n : Nat} {n1 : Nat}
    (h : z_C d m_X4_become [vR 4 (31 * n), vR 4 (31 * n1)] v (fun w1 o2 => o2 = none ∧ z_Wp (z_C d) 0 k_X9_become Q 73 [some (vR 9 n), some (vR 9 n1), some (vI 0)] [] (pC (pC (pC (pC w1 1001 n1 0 1001 n 0 10) 1002 n1 0 1002 n 0 10) 1004 n1 0 1004 n 0 8) 1005 n1 0 1005 n 0 8))) :
    z_Wp (z_C d) 0 k_X9_become Q 0 [some (vR 9 n), some (vR 9 n1), none] [] v := z_run [73, 101] 400 h
set_option maxRecDepth 100000 in
set_option maxHeartbeats 2000000 in
theorem B_X9_become_73 {d : Nat} {Q : z_RT} {v : z_V} {n : Nat} {n1 : Nat} {x2 : Int32}
    (h : ((4 ≤ x2 → z_Wp (z_C d) 0 k_X9_become Q 101 [some (vR 9 n), some (vR 9 n1), some (vI 0)] [] v) ∧ (¬ 4 ≤ x2 → z_if (z_in x2 4) (z_if (z_in x2 4) (z_C d m_X6_become [vR 6 (4 * n + n_ x2), vR 6 (4 * n1 + n_ x2)] v (fun w1 o2 => o2 = none ∧ z_Wp (z_C d) 0 k_X9_become Q 73 [some (vR 9 n), some (vR 9 n1), some (vI (x2 + 1))] [] w1)))))) :
    z_Wp (z_C d) 0 k_X9_become Q 73 [some (vR 9 n), some (vR 9 n1), some (vI x2)] [] v := z_run [73, 101] 400 h
set_option maxRecDepth 100000 in
set_option maxHeartbeats 2000000 in
theorem B_X9_become_101 {d : Nat} {Q : z_RT} {v : z_V} {n : Nat} {n1 : Nat} {x2 : Int32}
    (h : ((30 ≤ x2 → Q (pI (pI (pI (pI (pI (pI v 9 n 8 (gI v 9 n1 8)) 9 n 9 (gI v 9 n1 9)) 9 n 10 (gI v 9 n1 10)) 9 n 11 (gI v 9 n1 11)) 9 n 12 (gI v 9 n1 12)) 9 n 13 (gI v 9 n1 13)) none) ∧ (¬ 30 ≤ x2 → z_if (z_in x2 30) (z_if (z_in x2 30) (z_C d m_X4_become [vR 4 (31 * n + 1 + n_ x2), vR 4 (31 * n1 + 1 + n_ x2)] v (fun w1 o2 => o2 = none ∧ z_Wp (z_C d) 0 k_X9_become Q 101 [some (vR 9 n), some (vR 9 n1), some (vI (x2 + 1))] [] w1)))))) :
    z_Wp (z_C d) 0 k_X9_become Q 101 [some (vR 9 n), some (vR 9 n1), some (vI x2)] [] v := z_run [73, 101] 400 h
set_option maxRecDepth 100000 in
set_option maxHeartbeats 2000000 in
theorem B_X9_hasLine_0 {d : Nat} {Q : z_RT} {v : z_V} {n : Nat} {a1 : Int32}
    (h : ((a1 < 0 → Q v (some (vI 0))) ∧ (¬ a1 < 0 → (((gI v 9 n 8) ≤ a1 → Q v (some (vI 0))) ∧ (¬ (gI v 9 n 8) ≤ a1 → Q v (some (vI 1))))))) :
    z_Wp (z_C d) 4 k_X9_hasLine Q 0 [some (vR 9 n), some (vI a1)] [] v := z_run [] 400 h
set_option maxRecDepth 100000 in
set_option maxHeartbeats 2000000 in
theorem B_X9_hasText_0 {d : Nat} {Q : z_RT} {v : z_V} {n : Nat} {a1 : Int32}
    (h : ((a1 < 0 → Q v (some (vI 0))) ∧ (¬ a1 < 0 → (((gI v 9 n 9) ≤ a1 → Q v (some (vI 0))) ∧ (¬ (gI v 9 n 9) ≤ a1 → Q v (some (vI 1))))))) :
    z_Wp (z_C d) 4 k_X9_hasText Q 0 [some (vR 9 n), some (vI a1)] [] v := z_run [] 400 h
set_option maxRecDepth 100000 in
set_option maxHeartbeats 2000000 in
theorem B_X9_openBits_0 {d : Nat} {Q : z_RT} {v : z_V} {n : Nat}
    (h : Q v (some (vI (((i_shl 1 (gI v 9 n 8)) - 1) &&& ((gI v 4 (31 * n) 3) ^^^ (-1)))))) :
    z_Wp (z_C d) 1 k_X9_openBits Q 0 [some (vR 9 n)] [] v := z_run [] 400 h
set_option maxRecDepth 100000 in
set_option maxHeartbeats 2000000 in
theorem B_X9_fareOf_0 {d : Nat} {Q : z_RT} {v : z_V} {n : Nat} {a1 : Int32}
    (h : ((a1 < 0 → Q v (some (vI 0))) ∧ (¬ a1 < 0 → ((a1 < (gI v 9 n 8) → z_if (z_in a1 10) (z_if (z_in (gI v 1001 n (n_ a1)) 7) (z_if (z_in a1 10) (z_if (z_in (gI v 1002 n (n_ a1)) 7) (Q v (some (vI (i_abs ((gI v 500 (31 * n) (n_ (gI v 1001 n (n_ a1)))) - (gI v 500 (31 * n) (n_ (gI v 1002 n (n_ a1))))))))))))) ∧ (¬ a1 < (gI v 9 n 8) → Q v (some (vI 0))))))) :
    z_Wp (z_C d) 1 k_X9_fareOf Q 0 [some (vR 9 n), some (vI a1)] [] v := z_run [] 400 h
set_option maxRecDepth 100000 in
set_option maxHeartbeats 2000000 in
theorem B_X9_besideBits_0 {d : Nat} {Q : z_RT} {v : z_V} {n : Nat} {a1 : Int32}
    (h : z_Wp (z_C d) 1 k_X9_besideBits Q 4 [some (vR 9 n), some (vI a1), some (vI 0), some (vI 0)] [] v) :
    z_Wp (z_C d) 1 k_X9_besideBits Q 0 [some (vR 9 n), some (vI a1), none, none] [] v := z_run [4] 400 h
set_option maxRecDepth 100000 in
set_option maxHeartbeats 2000000 in
theorem B_X9_besideBits_4 {d : Nat} {Q : z_RT} {v : z_V} {n : Nat} {x1 : Int32} {x2 : Int32} {x3 : Int32}
    (h : (((gI v 9 n 8) ≤ x3 → Q v (some (vI x2))) ∧ (¬ (gI v 9 n 8) ≤ x3 → ((((i_shr (gI v 4 (31 * n) 3) x3) &&& 1) = 0 → z_if (z_in x3 10) (((¬ (gI v 1001 n (n_ x3)) = x1 → z_if (z_in x3 10) (((¬ (gI v 1002 n (n_ x3)) = x1 → z_Wp (z_C d) 1 k_X9_besideBits Q 4 [some (vR 9 n), some (vI x1), some (vI x2), some (vI (x3 + 1))] [] v) ∧ ((gI v 1002 n (n_ x3)) = x1 → z_if (z_in x3 10) (z_Wp (z_C d) 1 k_X9_besideBits Q 4 [some (vR 9 n), some (vI x1), some (vI (x2 ||| (i_shl 1 (gI v 1001 n (n_ x3))))), some (vI (x3 + 1))] [] v))))) ∧ ((gI v 1001 n (n_ x3)) = x1 → z_if (z_in x3 10) (z_Wp (z_C d) 1 k_X9_besideBits Q 4 [some (vR 9 n), some (vI x1), some (vI (x2 ||| (i_shl 1 (gI v 1002 n (n_ x3))))), some (vI (x3 + 1))] [] v))))) ∧ (¬ ((i_shr (gI v 4 (31 * n) 3) x3) &&& 1) = 0 → z_Wp (z_C d) 1 k_X9_besideBits Q 4 [some (vR 9 n), some (vI x1), some (vI x2), some (vI (x3 + 1))] [] v))))) :
    z_Wp (z_C d) 1 k_X9_besideBits Q 4 [some (vR 9 n), some (vI x1), some (vI x2), some (vI x3)] [] v := z_run [4] 400 h
set_option maxRecDepth 100000 in
set_option maxHeartbeats 2000000 in
theorem B_X9_theText_0 {d : Nat} {Q : z_RT} {v : z_V} {n : Nat}
    (h : z_C d m_X9_hasText [vR 9 n, vI (gI v 9 n 10)] v (fun w1 o2 => ∃ i3 : Int32, o2 = some (vI i3) ∧ ((i3 = 0 → Q w1 (some (vQ none))) ∧ (¬ i3 = 0 → z_if (z_in (gI w1 9 n 10) 4) (Q w1 (some (vR 6 (4 * n + n_ (gI w1 9 n 10))))))))) :
    z_Wp (z_C d) 3 k_X9_theText Q 0 [some (vR 9 n)] [] v := z_run [] 400 h
set_option maxRecDepth 100000 in
set_option maxHeartbeats 2000000 in
theorem B_X9_lawSays_0 {d : Nat} {Q : z_RT} {v : z_V} {n : Nat} {a1 : Int32} {a2 : Int32} {a3 : Int32}
    (h : z_C d m_X9_theText [vR 9 n] v (fun w1 o2 => ∃ p3 : Option (Nat × Nat), o2 = some (vQ p3) ∧ z_C d m_X5_tell [vR 5 n, vR 9 n, vQ p3, vI a1, vI a2, vI a3] w1 (fun w4 o5 => ∃ i6 : Int32, o5 = some (vI i6) ∧ Q w4 (some (vI i6))))) :
    z_Wp (z_C d) 1 k_X9_lawSays Q 0 [some (vR 9 n), some (vI a1), some (vI a2), some (vI a3)] [] v := z_run [] 400 h
set_option maxRecDepth 100000 in
set_option maxHeartbeats 2000000 in
theorem B_X9_saysAll_0 {d : Nat} {Q : z_RT} {v : z_V} {n : Nat} {n1 : Nat}
    (h : z_Wp (z_C d) 4 k_X9_saysAll Q 2 [some (vR 9 n), some (vR 6 n1), some (vI 0)] [] v) :
    z_Wp (z_C d) 4 k_X9_saysAll Q 0 [some (vR 9 n), some (vR 6 n1), none] [] v := z_run [2] 400 h
set_option maxRecDepth 100000 in
set_option maxHeartbeats 2000000 in
theorem B_X9_saysAll_2 {d : Nat} {Q : z_RT} {v : z_V} {n : Nat} {n1 : Nat} {x2 : Int32}
    (h : (((gI v 9 n 11) ≤ x2 → Q v (some (vI 1))) ∧ (¬ (gI v 9 n 11) ≤ x2 → z_if (z_in x2 8) (z_C d m_X5_tell [vR 5 n, vR 9 n, vR 6 n1, vI 0, vI (gI v 1004 n (n_ x2)), vI 0] v (fun w1 o2 => ∃ i3 : Int32, o2 = some (vI i3) ∧ z_if (z_in x2 8) (((i3 = (gI w1 1005 n (n_ x2)) → z_Wp (z_C d) 4 k_X9_saysAll Q 2 [some (vR 9 n), some (vR 6 n1), some (vI (x2 + 1))] [] w1) ∧ (¬ i3 = (gI w1 1005 n (n_ x2)) → Q w1 (some (vI 0)))))))))) :
    z_Wp (z_C d) 4 k_X9_saysAll Q 2 [some (vR 9 n), some (vR 6 n1), some (vI x2)] [] v := z_run [2] 400 h
set_option maxRecDepth 100000 in
set_option maxHeartbeats 2000000 in
theorem B_X9_addLine_0 {d : Nat} {Q : z_RT} {v : z_V} {n : Nat} {a1 : Int32} {a2 : Int32}
    (h : ((a1 < 0 → Q v (some (vI (-1)))) ∧ (¬ a1 < 0 → ((7 ≤ a1 → Q v (some (vI (-1)))) ∧ (¬ 7 ≤ a1 → ((a2 < 0 → Q v (some (vI (-1)))) ∧ (¬ a2 < 0 → ((7 ≤ a2 → Q v (some (vI (-1)))) ∧ (¬ 7 ≤ a2 → ((a1 = a2 → Q v (some (vI (-1)))) ∧ (¬ a1 = a2 → (((gI v 9 n 8) < 10 → z_Wp (z_C d) 1 k_X9_addLine Q 38 [some (vR 9 n), some (vI a1), some (vI a2), some (vI 0)] [] v) ∧ (¬ (gI v 9 n 8) < 10 → Q v (some (vI (-1)))))))))))))))) :
    z_Wp (z_C d) 1 k_X9_addLine Q 0 [some (vR 9 n), some (vI a1), some (vI a2), none] [] v := z_run [38] 400 h
set_option maxRecDepth 100000 in
set_option maxHeartbeats 2000000 in
theorem B_X9_addLine_38 {d : Nat} {Q : z_RT} {v : z_V} {n : Nat} {x1 : Int32} {x2 : Int32} {x3 : Int32}
    (h : (((gI v 9 n 8) ≤ x3 → z_if (z_in (gI v 9 n 8) 10) (z_if (z_in (gI v 9 n 8) 10) (Q (pI (pI (pI v 1001 n (n_ (gI v 9 n 8)) x1) 1002 n (n_ (gI v 9 n 8)) x2) 9 n 8 ((gI v 9 n 8) + 1)) (some (vI ((gI (pI (pI (pI v 1001 n (n_ (gI v 9 n 8)) x1) 1002 n (n_ (gI v 9 n 8)) x2) 9 n 8 ((gI v 9 n 8) + 1)) 9 n 8) - 1)))))) ∧ (¬ (gI v 9 n 8) ≤ x3 → z_if (z_in x3 10) (((¬ (gI v 1001 n (n_ x3)) = x1 → z_if (z_in x3 10) (((¬ (gI v 1001 n (n_ x3)) = x2 → z_Wp (z_C d) 1 k_X9_addLine Q 38 [some (vR 9 n), some (vI x1), some (vI x2), some (vI (x3 + 1))] [] v) ∧ ((gI v 1001 n (n_ x3)) = x2 → z_if (z_in x3 10) (((¬ (gI v 1002 n (n_ x3)) = x1 → z_Wp (z_C d) 1 k_X9_addLine Q 38 [some (vR 9 n), some (vI x1), some (vI x2), some (vI (x3 + 1))] [] v) ∧ ((gI v 1002 n (n_ x3)) = x1 → Q v (some (vI (-1)))))))))) ∧ ((gI v 1001 n (n_ x3)) = x1 → z_if (z_in x3 10) ((((gI v 1002 n (n_ x3)) = x2 → Q v (some (vI (-1)))) ∧ (¬ (gI v 1002 n (n_ x3)) = x2 → z_if (z_in x3 10) (((¬ (gI v 1001 n (n_ x3)) = x2 → z_Wp (z_C d) 1 k_X9_addLine Q 38 [some (vR 9 n), some (vI x1), some (vI x2), some (vI (x3 + 1))] [] v) ∧ ((gI v 1001 n (n_ x3)) = x2 → z_if (z_in x3 10) (((¬ (gI v 1002 n (n_ x3)) = x1 → z_Wp (z_C d) 1 k_X9_addLine Q 38 [some (vR 9 n), some (vI x1), some (vI x2), some (vI (x3 + 1))] [] v) ∧ ((gI v 1002 n (n_ x3)) = x1 → Q v (some (vI (-1)))))))))))))))))) :
    z_Wp (z_C d) 1 k_X9_addLine Q 38 [some (vR 9 n), some (vI x1), some (vI x2), some (vI x3)] [] v := z_run [38] 400 h
set_option maxRecDepth 100000 in
set_option maxHeartbeats 2000000 in
theorem B_X9_keepStep_0 {d : Nat} {Q : z_RT} {v : z_V} {n : Nat}
    (h : (((gI v 9 n 12) < 30 → z_if (z_in (i_rem ((gI v 9 n 13) + (gI v 9 n 12)) 30) 30) (z_C d m_X4_become [vR 4 (31 * n + 1 + n_ (i_rem ((gI v 9 n 13) + (gI v 9 n 12)) 30)), vR 4 (31 * n)] v (fun w1 o2 => o2 = none ∧ Q (pI w1 9 n 12 ((gI w1 9 n 12) + 1)) none))) ∧ (¬ (gI v 9 n 12) < 30 → z_if (z_in (i_rem ((gI (pI v 9 n 13 (i_rem ((gI v 9 n 13) + 1) 30)) 9 n 13) + (gI (pI (pI v 9 n 13 (i_rem ((gI v 9 n 13) + 1) 30)) 9 n 12 29) 9 n 12)) 30) 30) (z_C d m_X4_become [vR 4 (31 * n + 1 + n_ (i_rem ((gI (pI v 9 n 13 (i_rem ((gI v 9 n 13) + 1) 30)) 9 n 13) + (gI (pI (pI v 9 n 13 (i_rem ((gI v 9 n 13) + 1) 30)) 9 n 12 29) 9 n 12)) 30)), vR 4 (31 * n)] (pI (pI v 9 n 13 (i_rem ((gI v 9 n 13) + 1) 30)) 9 n 12 29) (fun w3 o4 => o4 = none ∧ Q (pI w3 9 n 12 ((gI w3 9 n 12) + 1)) none))))) :
    z_Wp (z_C d) 0 k_X9_keepStep Q 0 [some (vR 9 n)] [] v := z_run [] 400 h
set_option maxRecDepth 100000 in
set_option maxHeartbeats 2000000 in
theorem B_X9_takeBack_0 {d : Nat} {Q : z_RT} {v : z_V} {n : Nat}
    (h : ((0 < (gI v 9 n 12) → z_if (z_in (i_rem ((gI v 9 n 13) + (gI (pI v 9 n 12 ((gI v 9 n 12) - 1)) 9 n 12)) 30) 30) (z_C d m_X4_become [vR 4 (31 * n), vR 4 (31 * n + 1 + n_ (i_rem ((gI v 9 n 13) + (gI (pI v 9 n 12 ((gI v 9 n 12) - 1)) 9 n 12)) 30))] (pI v 9 n 12 ((gI v 9 n 12) - 1)) (fun w1 o2 => o2 = none ∧ Q w1 (some (vI (gI w1 9 n 12)))))) ∧ (¬ 0 < (gI v 9 n 12) → Q v (some (vI (-1)))))) :
    z_Wp (z_C d) 1 k_X9_takeBack Q 0 [some (vR 9 n)] [] v := z_run [] 400 h
set_option maxRecDepth 100000 in
set_option maxHeartbeats 2000000 in
theorem B_X9_putPlate_0 {d : Nat} {Q : z_RT} {v : z_V} {n : Nat} {a1 : Int32} {a2 : Int32} {a3 : Int32}
    (h : ((a1 < 0 → Q v (some (vI (-1)))) ∧ (¬ a1 < 0 → ((7 ≤ a1 → Q v (some (vI (-1)))) ∧ (¬ 7 ≤ a1 → ((a2 < 0 → Q v (some (vI (-1)))) ∧ (¬ a2 < 0 → ((99 < a2 → Q v (some (vI (-1)))) ∧ (¬ 99 < a2 → z_if (z_in a1 7) (((¬ (gI v 500 (31 * n) (n_ a1)) = a2 → z_C d m_X9_theText [vR 9 n] v (fun w1 o2 => ∃ p3 : Option (Nat × Nat), o2 = some (vQ p3) ∧ z_C d m_X5_tell [vR 5 n, vR 9 n, vQ p3, vI 1, vI a1, vI a2] w1 (fun w4 o5 => ∃ i6 : Int32, o5 = some (vI i6) ∧ ((i6 ≤ (gI w4 4 (31 * n) 4) → ((a3 = 0 → z_if (z_in a1 7) (z_C d m_X4_write [vR 4 (31 * n), vI 0, vI a1, vI a2] (pI (pI w4 4 (31 * n) 4 ((gI w4 4 (31 * n) 4) - i6)) 500 (31 * n) (n_ a1) a2) (fun w7 o8 => o8 = none ∧ Q w7 (some (vI i6))))) ∧ (¬ a3 = 0 → z_C d m_X9_keepStep [vR 9 n] w4 (fun w9 o10 => o10 = none ∧ z_if (z_in a1 7) (z_C d m_X4_write [vR 4 (31 * n), vI 0, vI a1, vI a2] (pI (pI w9 4 (31 * n) 4 ((gI w9 4 (31 * n) 4) - i6)) 500 (31 * n) (n_ a1) a2) (fun w11 o12 => o12 = none ∧ Q w11 (some (vI i6)))))))) ∧ (¬ i6 ≤ (gI w4 4 (31 * n) 4) → Q w4 (some (vI (-1)))))))) ∧ ((gI v 500 (31 * n) (n_ a1)) = a2 → Q v (some (vI (-1))))))))))))))) :
    z_Wp (z_C d) 1 k_X9_putPlate Q 0 [some (vR 9 n), some (vI a1), some (vI a2), some (vI a3), none] [] v := z_run [] 400 h
set_option maxRecDepth 100000 in
set_option maxHeartbeats 2000000 in
theorem B_X9_turnLine_0 {d : Nat} {Q : z_RT} {v : z_V} {n : Nat} {a1 : Int32} {a2 : Int32}
    (h : z_C d m_X9_hasLine [vR 9 n, vI a1] v (fun w1 o2 => ∃ i3 : Int32, o2 = some (vI i3) ∧ ((¬ i3 = 0 → ((a2 = 0 → z_C d m_X9_openBits [vR 9 n] (pI w1 4 (31 * n) 3 ((gI w1 4 (31 * n) 3) ^^^ (i_shl 1 a1))) (fun w4 o5 => ∃ i6 : Int32, o5 = some (vI i6) ∧ z_C d m_X4_write [vR 4 (31 * n), vI 1, vI a1, vI ((i_shr i6 a1) &&& 1)] w4 (fun w7 o8 => o8 = none ∧ Q w7 (some (vI 1))))) ∧ (¬ a2 = 0 → z_C d m_X9_keepStep [vR 9 n] w1 (fun w9 o10 => o10 = none ∧ z_C d m_X9_openBits [vR 9 n] (pI w9 4 (31 * n) 3 ((gI w9 4 (31 * n) 3) ^^^ (i_shl 1 a1))) (fun w11 o12 => ∃ i13 : Int32, o12 = some (vI i13) ∧ z_C d m_X4_write [vR 4 (31 * n), vI 1, vI a1, vI ((i_shr i13 a1) &&& 1)] w11 (fun w14 o15 => o15 = none ∧ Q w14 (some (vI 1)))))))) ∧ (i3 = 0 → Q w1 (some (vI 0)))))) :
    z_Wp (z_C d) 4 k_X9_turnLine Q 0 [some (vR 9 n), some (vI a1), some (vI a2)] [] v := z_run [] 400 h
set_option maxRecDepth 100000 in
set_option maxHeartbeats 2000000 in
theorem B_X9_giveGrant_0 {d : Nat} {Q : z_RT} {v : z_V} {n : Nat} {a1 : Int32} {a2 : Int32}
    (h : ((a1 < 1 → Q v (some (vI 0))) ∧ (¬ a1 < 1 → ((99 < a1 → Q v (some (vI 0))) ∧ (¬ 99 < a1 → ((((gI v 4 (31 * n) 4) + a1) ≤ 99999 → ((a2 = 0 → Q (pI v 4 (31 * n) 4 ((gI v 4 (31 * n) 4) + a1)) (some (vI 1))) ∧ (¬ a2 = 0 → z_C d m_X9_keepStep [vR 9 n] v (fun w1 o2 => o2 = none ∧ Q (pI w1 4 (31 * n) 4 ((gI w1 4 (31 * n) 4) + a1)) (some (vI 1)))))) ∧ (¬ ((gI v 4 (31 * n) 4) + a1) ≤ 99999 → Q v (some (vI 0))))))))) :
    z_Wp (z_C d) 4 k_X9_giveGrant Q 0 [some (vR 9 n), some (vI a1), some (vI a2)] [] v := z_run [] 400 h
set_option maxRecDepth 100000 in
set_option maxHeartbeats 2000000 in
theorem B_X9_passDay_0 {d : Nat} {Q : z_RT} {v : z_V} {n : Nat} {a1 : Int32}
    (h : ((a1 = 0 → z_C d m_X9_theText [vR 9 n] v (fun w1 o2 => ∃ p3 : Option (Nat × Nat), o2 = some (vQ p3) ∧ z_Wp (z_C d) 1 k_X9_passDay Q 18 [some (vR 9 n), some (vI a1), some (vQ p3), some (vI 0), some (vI 0), none, none] [] w1)) ∧ (¬ a1 = 0 → z_C d m_X9_keepStep [vR 9 n] v (fun w4 o5 => o5 = none ∧ z_C d m_X9_theText [vR 9 n] w4 (fun w6 o7 => ∃ p8 : Option (Nat × Nat), o7 = some (vQ p8) ∧ z_Wp (z_C d) 1 k_X9_passDay Q 18 [some (vR 9 n), some (vI a1), some (vQ p8), some (vI 0), some (vI 0), none, none] [] w6))))) :
    z_Wp (z_C d) 1 k_X9_passDay Q 0 [some (vR 9 n), some (vI a1), none, none, none, none, none] [] v := z_run [18, 47] 400 h
set_option maxRecDepth 100000 in
set_option maxHeartbeats 2000000 in
theorem B_X9_passDay_18 {d : Nat} {Q : z_RT} {v : z_V} {n : Nat} {u1 : Option z_AV} {q2 : Option (Nat × Nat)} {x3 : Int32} {x4 : Int32} {u5 : Option z_AV} {u6 : Option z_AV}
    (h : (((gI v 9 n 8) ≤ x4 → Q (pI v 4 (31 * n) 5 ((gI v 4 (31 * n) 5) + 1)) (some (vI x3))) ∧ (¬ (gI v 9 n 8) ≤ x4 → ((¬ ((i_shr (gI v 4 (31 * n) 3) x4) &&& 1) = 0 → z_Wp (z_C d) 1 k_X9_passDay Q 47 [some (vR 9 n), none, some (vQ q2), some (vI x3), some (vI x4), none, none] [vI 0] v) ∧ (((i_shr (gI v 4 (31 * n) 3) x4) &&& 1) = 0 → z_Wp (z_C d) 1 k_X9_passDay Q 47 [some (vR 9 n), none, some (vQ q2), some (vI x3), some (vI x4), none, none] [vI 1] v))))) :
    z_Wp (z_C d) 1 k_X9_passDay Q 18 [some (vR 9 n), u1, some (vQ q2), some (vI x3), some (vI x4), u5, u6] [] v := z_run [18, 47] 400 h
set_option maxRecDepth 100000 in
set_option maxHeartbeats 2000000 in
theorem B_X9_passDay_47 {d : Nat} {Q : z_RT} {v : z_V} {n : Nat} {u1 : Option z_AV} {q2 : Option (Nat × Nat)} {x3 : Int32} {x4 : Int32} {u5 : Option z_AV} {u6 : Option z_AV} {s0 : Int32}
    (h : ((s0 = 0 → z_Wp (z_C d) 1 k_X9_passDay Q 18 [some (vR 9 n), none, some (vQ q2), some (vI x3), some (vI (x4 + 1)), some (vI s0), none] [] v) ∧ (¬ s0 = 0 → z_C d m_X4_draw [vR 4 (31 * n)] v (fun w1 o2 => ∃ i3 : Int32, o2 = some (vI i3) ∧ z_C d m_X5_tell [vR 5 n, vR 9 n, vQ q2, vI 0, vI x4, vI 0] w1 (fun w4 o5 => ∃ i6 : Int32, o5 = some (vI i6) ∧ ((i6 ≤ (i_rem i3 10) → z_Wp (z_C d) 1 k_X9_passDay Q 18 [some (vR 9 n), none, some (vQ q2), some (vI x3), some (vI (x4 + 1)), some (vI s0), none] [] w4) ∧ (¬ i6 ≤ (i_rem i3 10) → z_C d m_X9_fareOf [vR 9 n, vI x4] w4 (fun w7 o8 => ∃ i9 : Int32, o8 = some (vI i9) ∧ z_C d m_X4_write [vR 4 (31 * n), vI 2, vI x4, vI i9] (pI w7 4 (31 * n) 4 (i_min 99999 ((gI w7 4 (31 * n) 4) + i9))) (fun w10 o11 => o11 = none ∧ z_Wp (z_C d) 1 k_X9_passDay Q 18 [some (vR 9 n), none, some (vQ q2), some (vI (x3 + i9)), some (vI (x4 + 1)), some (vI s0), some (vI i9)] [] w10))))))))) :
    z_Wp (z_C d) 1 k_X9_passDay Q 47 [some (vR 9 n), u1, some (vQ q2), some (vI x3), some (vI x4), u5, u6] [vI s0] v := z_run [18, 47] 400 h
set_option maxRecDepth 100000 in
set_option maxHeartbeats 2000000 in
theorem B_X9_drawOnce_0 {d : Nat} {Q : z_RT} {v : z_V} {n : Nat} {a1 : Int32}
    (h : (((i_rem a1 6) = 0 → z_C d m_X9_putPlate [vR 9 n, vI (i_rem (a1 / 6) 7), vI (i_rem a1 20), vI 0] v (fun w1 o2 => ∃ i3 : Int32, o2 = some (vI i3) ∧ Q w1 none)) ∧ (¬ (i_rem a1 6) = 0 → (((i_rem a1 6) = 1 → ((¬ (i_rem a1 4) = 3 → Q v none) ∧ ((i_rem a1 4) = 3 → z_C d m_X9_turnLine [vR 9 n, vI (i_rem (a1 / 6) 10), vI 0] v (fun w4 o5 => ∃ i6 : Int32, o5 = some (vI i6) ∧ Q w4 none)))) ∧ (¬ (i_rem a1 6) = 1 → (((i_rem a1 6) = 2 → z_C d m_X9_giveGrant [vR 9 n, vI (1 + (i_rem (a1 / 6) 9)), vI 0] v (fun w7 o8 => ∃ i9 : Int32, o8 = some (vI i9) ∧ Q w7 none)) ∧ (¬ (i_rem a1 6) = 2 → ((9999 ≤ (gI v 4 (31 * n) 5) → Q v none) ∧ (¬ 9999 ≤ (gI v 4 (31 * n) 5) → z_C d m_X9_passDay [vR 9 n, vI 0] v (fun w10 o11 => ∃ i12 : Int32, o11 = some (vI i12) ∧ Q w10 none)))))))))) :
    z_Wp (z_C d) 0 k_X9_drawOnce Q 0 [some (vR 9 n), some (vI a1), none] [] v := z_run [] 400 h
set_option maxRecDepth 100000 in
set_option maxHeartbeats 2000000 in
theorem B_X9_perform_0 {d : Nat} {Q : z_RT} {v : z_V} {n : Nat} {a1 : Int32} {a2 : Int32} {a3 : Int32}
    (h : ((a1 = 2 → z_C d m_X9_addLine [vR 9 n, vI a2, vI a3] v (fun w1 o2 => ∃ i3 : Int32, o2 = some (vI i3) ∧ ((i3 = (-1) → Q w1 (some (vI 0))) ∧ (¬ i3 = (-1) → Q w1 (some (vI 1)))))) ∧ (¬ a1 = 2 → ((a1 = 3 → Q v (some (vI 1))) ∧ (¬ a1 = 3 → ((a1 = 4 → z_C d m_X9_putPlate [vR 9 n, vI a3, vI a2, vI 1] v (fun w4 o5 => ∃ i6 : Int32, o5 = some (vI i6) ∧ ((i6 = (-1) → Q w4 (some (vI 0))) ∧ (¬ i6 = (-1) → Q w4 (some (vI 1)))))) ∧ (¬ a1 = 4 → ((a1 = 5 → Q v (some (vI 1))) ∧ (¬ a1 = 5 → ((a1 = 6 → z_C d m_X9_turnLine [vR 9 n, vI a2, vI 1] v (fun w7 o8 => ∃ i9 : Int32, o8 = some (vI i9) ∧ z_if (z_01 i9) (Q w7 (some (vI i9))))) ∧ (¬ a1 = 6 → ((a1 = 7 → z_C d m_X9_giveGrant [vR 9 n, vI a2, vI 1] v (fun w10 o11 => ∃ i12 : Int32, o11 = some (vI i12) ∧ z_if (z_01 i12) (Q w10 (some (vI i12))))) ∧ (¬ a1 = 7 → ((a1 = 8 → z_Wp (z_C d) 4 k_X9_perform Q 111 [some (vR 9 n), some (vI a1), some (vI a2), some (vI a3), some (vI (i_min a2 (9999 - (gI v 4 (31 * n) 5)))), some (vI 0)] [] v) ∧ (¬ a1 = 8 → Q v (some (vI 1))))))))))))))))) :
    z_Wp (z_C d) 4 k_X9_perform Q 0 [some (vR 9 n), some (vI a1), some (vI a2), some (vI a3), none, none] [] v := z_run [111] 400 h
set_option maxRecDepth 100000 in
set_option maxHeartbeats 2000000 in
theorem B_X9_perform_111 {d : Nat} {Q : z_RT} {v : z_V} {n : Nat} {u1 : Option z_AV} {x2 : Int32} {u3 : Option z_AV} {x4 : Int32} {x5 : Int32}
    (h : ((x4 ≤ x5 → ((¬ x4 = x2 → Q v (some (vI 0))) ∧ (x4 = x2 → Q v (some (vI 1))))) ∧ (¬ x4 ≤ x5 → z_C d m_X9_passDay [vR 9 n, vI 1] v (fun w1 o2 => ∃ i3 : Int32, o2 = some (vI i3) ∧ z_Wp (z_C d) 4 k_X9_perform Q 111 [some (vR 9 n), none, some (vI x2), none, some (vI x4), some (vI (x5 + 1))] [] w1)))) :
    z_Wp (z_C d) 4 k_X9_perform Q 111 [some (vR 9 n), u1, some (vI x2), u3, some (vI x4), some (vI x5)] [] v := z_run [111] 400 h
