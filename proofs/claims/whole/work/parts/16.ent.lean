set_option maxRecDepth 100000 in
theorem E_X0_look {d : Nat} {Q : z_RT} {v : z_V} {n1 : Nat} (h : z_Wp (z_C d) 0 k_X0_look Q 0 [some (vR 0 0), some (vR 9 n1), none] [] v) : z_C (d + 1) m_X0_look [vR 0 0, vR 9 n1] v Q := h
set_option maxRecDepth 100000 in
theorem E_X0_isOpen {d : Nat} {Q : z_RT} {v : z_V} {a1 : Int32} (h : z_Wp (z_C d) 4 k_X0_isOpen Q 0 [some (vR 0 0), some (vI a1)] [] v) : z_C (d + 1) m_X0_isOpen [vR 0 0, vI a1] v Q := h
set_option maxRecDepth 100000 in
theorem E_X0_isBeside {d : Nat} {Q : z_RT} {v : z_V} {a1 : Int32} (h : z_Wp (z_C d) 4 k_X0_isBeside Q 0 [some (vR 0 0), some (vI a1)] [] v) : z_C (d + 1) m_X0_isBeside [vR 0 0, vI a1] v Q := h
set_option maxRecDepth 100000 in
theorem E_X0_ofSearch_a {d : Nat} {Q : z_RT} {v : z_V} {a2 : Int32} (h : z_Wp (z_C d) 1 k_X0_ofSearch Q 0 [some (vR 0 0), some (vR 200 0), some (vI a2)] [] v) : z_C (d + 1) m_X0_ofSearch [vR 0 0, vR 200 0, vI a2] v Q := h
set_option maxRecDepth 100000 in
theorem E_X0_ofSearch_b {d : Nat} {Q : z_RT} {v : z_V} {n1 : Nat} {a2 : Int32} (h : z_Wp (z_C d) 1 k_X0_ofSearch Q 0 [some (vR 0 0), some (vR 300 n1), some (vI a2)] [] v) : z_C (d + 1) m_X0_ofSearch [vR 0 0, vR 300 n1, vI a2] v Q := h
set_option maxRecDepth 100000 in
theorem E_X0_reached {d : Nat} {Q : z_RT} {v : z_V} {a1 : Int32} {a2 : Int32} (h : z_Wp (z_C d) 1 k_X0_reached Q 0 [some (vR 0 0), some (vI a1), some (vI a2), none, none, none] [] v) : z_C (d + 1) m_X0_reached [vR 0 0, vI a1, vI a2] v Q := h
set_option maxRecDepth 100000 in
theorem E_X0_countParts {d : Nat} {Q : z_RT} {v : z_V} (h : z_Wp (z_C d) 1 k_X0_countParts Q 0 [some (vR 0 0), none, none, none] [] v) : z_C (d + 1) m_X0_countParts [vR 0 0] v Q := h
set_option maxRecDepth 100000 in
theorem E_X0_cutBits {d : Nat} {Q : z_RT} {v : z_V} (h : z_Wp (z_C d) 1 k_X0_cutBits Q 0 [some (vR 0 0), none, none] [] v) : z_C (d + 1) m_X0_cutBits [vR 0 0] v Q := h
set_option maxRecDepth 100000 in
theorem E_X1_solve {d : Nat} {Q : z_RT} {v : z_V} (h : z_Wp (z_C d) 0 k_X1_solve Q 0 [some (vR 1 0), some (vR 0 0), none] [] v) : z_C (d + 1) m_X1_solve [vR 1 0, vR 0 0] v Q := h
set_option maxRecDepth 100000 in
theorem E_X1_wholeWays {d : Nat} {Q : z_RT} {v : z_V} (h : z_Wp (z_C d) 2 k_X1_wholeWays Q 0 [some (vR 1 0), some (vR 0 0)] [] v) : z_C (d + 1) m_X1_wholeWays [vR 1 0, vR 0 0] v Q := h
set_option maxRecDepth 100000 in
theorem E_X1_mending {d : Nat} {Q : z_RT} {v : z_V} {n2 : Nat} (h : z_Wp (z_C d) 1 k_X1_mending Q 0 [some (vR 1 0), some (vR 0 0), some (vR 500 n2), none, none, none] [] v) : z_C (d + 1) m_X1_mending [vR 1 0, vR 0 0, vR 500 n2] v Q := h
set_option maxRecDepth 100000 in
theorem E_X1_mends {d : Nat} {Q : z_RT} {v : z_V} {n2 : Nat} {a3 : Int32} (h : z_Wp (z_C d) 4 k_X1_mends Q 0 [some (vR 1 0), some (vR 0 0), some (vR 500 n2), some (vI a3), none] [] v) : z_C (d + 1) m_X1_mends [vR 1 0, vR 0 0, vR 500 n2, vI a3] v Q := h
set_option maxRecDepth 100000 in
theorem E_X1_begin {d : Nat} {Q : z_RT} {v : z_V} {a1 : Int32} {a2 : Int32} {a3 : Int32} (h : z_Wp (z_C d) 0 k_X1_begin Q 0 [some (vR 1 0), some (vI a1), some (vI a2), some (vI a3)] [] v) : z_C (d + 1) m_X1_begin [vR 1 0, vI a1, vI a2, vI a3] v Q := h
set_option maxRecDepth 100000 in
theorem E_X1_clear {d : Nat} {Q : z_RT} {v : z_V} (h : z_Wp (z_C d) 0 k_X1_clear Q 0 [some (vR 1 0)] [] v) : z_C (d + 1) m_X1_clear [vR 1 0] v Q := h
set_option maxRecDepth 100000 in
theorem E_X1_goOn {d : Nat} {Q : z_RT} {v : z_V} {a2 : Int32} {a3 : Int32} (h : z_Wp (z_C d) 4 k_X1_goOn Q 0 [some (vR 1 0), some (vR 0 0), some (vI a2), some (vI a3), none, none, none, none, none, none] [] v) : z_C (d + 1) m_X1_goOn [vR 1 0, vR 0 0, vI a2, vI a3] v Q := h
set_option maxRecDepth 100000 in
theorem E_X1_goOnWith {d : Nat} {Q : z_RT} {v : z_V} {a2 : Int32} {a3 : Int32} {a4 : Int32} {a5 : Int32} (h : z_Wp (z_C d) 4 k_X1_goOnWith Q 0 [some (vR 1 0), some (vR 0 0), some (vI a2), some (vI a3), some (vI a4), some (vI a5), none, none, none, none, none, none, none] [] v) : z_C (d + 1) m_X1_goOnWith [vR 1 0, vR 0 0, vI a2, vI a3, vI a4, vI a5] v Q := h
set_option maxRecDepth 100000 in
theorem E_X1_nextOf {d : Nat} {Q : z_RT} {v : z_V} {a2 : Int32} {a3 : Int32} (h : z_Wp (z_C d) 1 k_X1_nextOf Q 0 [some (vR 1 0), some (vR 0 0), some (vI a2), some (vI a3), none, none, none, none, none] [] v) : z_C (d + 1) m_X1_nextOf [vR 1 0, vR 0 0, vI a2, vI a3] v Q := h
set_option maxRecDepth 100000 in
theorem E_X1_fitting {d : Nat} {Q : z_RT} {v : z_V} {a2 : Int32} {a3 : Int32} (h : z_Wp (z_C d) 2 k_X1_fitting Q 0 [some (vR 1 0), some (vR 0 0), some (vI a2), some (vI a3), none, none, none, none, none] [] v) : z_C (d + 1) m_X1_fitting [vR 1 0, vR 0 0, vI a2, vI a3] v Q := h
set_option maxRecDepth 100000 in
theorem E_X1_spoilt {d : Nat} {Q : z_RT} {v : z_V} {a1 : Int32} (h : z_Wp (z_C d) 2 k_X1_spoilt Q 0 [some (vR 1 0), some (vI a1)] [] v) : z_C (d + 1) m_X1_spoilt [vR 1 0, vI a1] v Q := h
set_option maxRecDepth 100000 in
theorem E_X1_halfWay {d : Nat} {Q : z_RT} {v : z_V} {a0 : Int32} {a1 : Int32} (h : z_Wp (z_C d) 2 k_X1_halfWay Q 0 [some (vI a0), some (vI a1), none] [] v) : z_C (d + 1) m_X1_halfWay [vI a0, vI a1] v Q := h
set_option maxRecDepth 100000 in
theorem E_X1_note {d : Nat} {Q : z_RT} {v : z_V} {a1 : Int32} (h : z_Wp (z_C d) 4 k_X1_note Q 0 [some (vR 1 0), some (vI a1), none, none, none] [] v) : z_C (d + 1) m_X1_note [vR 1 0, vI a1] v Q := h
set_option maxRecDepth 100000 in
theorem E_X2_space {d : Nat} {Q : z_RT} {v : z_V} {n : Nat} {a2 : Int32} {a3 : Int32} (h : z_Wp (z_C d) 0 k_X2_space Q 0 [some (vR 2 n), some (vR 0 0), some (vI a2), some (vI a3), none, none, none, none] [] v) : z_C (d + 1) m_X2_space [vR 2 n, vR 0 0, vI a2, vI a3] v Q := h
set_option maxRecDepth 100000 in
theorem E_X2_overTwo {d : Nat} {Q : z_RT} {v : z_V} {a1 : Int32} (h : z_Wp (z_C d) 1 k_X2_overTwo Q 0 [some (vR 0 0), some (vI a1), none, none] [] v) : z_C (d + 1) m_X2_overTwo [vR 0 0, vI a1] v Q := h
set_option maxRecDepth 100000 in
theorem E_X2_sums {d : Nat} {Q : z_RT} {v : z_V} {a0 : Int32} {a1 : Int32} (h : z_Wp (z_C d) 2 k_X2_sums Q 0 [some (vI a0), some (vI a1), none, none, none, none, none] [] v) : z_C (d + 1) m_X2_sums [vI a0, vI a1] v Q := h
set_option maxRecDepth 100000 in
theorem E_X2_bind {d : Nat} {Q : z_RT} {v : z_V} {n : Nat} (h : z_Wp (z_C d) 0 k_X2_bind Q 0 [some (vR 2 n), some (vR 0 0), none, none, none] [] v) : z_C (d + 1) m_X2_bind [vR 2 n, vR 0 0] v Q := h
set_option maxRecDepth 100000 in
theorem E_X2_goOn {d : Nat} {Q : z_RT} {v : z_V} {n : Nat} {a1 : Int32} {a2 : Int32} (h : z_Wp (z_C d) 4 k_X2_goOn Q 0 [some (vR 2 n), some (vI a1), some (vI a2), none, none, none, none] [] v) : z_C (d + 1) m_X2_goOn [vR 2 n, vI a1, vI a2] v Q := h
set_option maxRecDepth 100000 in
theorem E_X2_goOnWith {d : Nat} {Q : z_RT} {v : z_V} {n : Nat} {a1 : Int32} {a2 : Int32} {a3 : Int32} {a4 : Int32} (h : z_Wp (z_C d) 4 k_X2_goOnWith Q 0 [some (vR 2 n), some (vI a1), some (vI a2), some (vI a3), some (vI a4)] [] v) : z_C (d + 1) m_X2_goOnWith [vR 2 n, vI a1, vI a2, vI a3, vI a4] v Q := h
set_option maxRecDepth 100000 in
theorem E_X2_fitting {d : Nat} {Q : z_RT} {v : z_V} {n : Nat} {a1 : Int32} {a2 : Int32} (h : z_Wp (z_C d) 2 k_X2_fitting Q 0 [some (vR 2 n), some (vI a1), some (vI a2), none, none, none] [] v) : z_C (d + 1) m_X2_fitting [vR 2 n, vI a1, vI a2] v Q := h
set_option maxRecDepth 100000 in
theorem E_X2_around {d : Nat} {Q : z_RT} {v : z_V} {a0 : Int32} {a1 : Int32} (h : z_Wp (z_C d) 2 k_X2_around Q 0 [some (vI a0), some (vI a1), none, none] [] v) : z_C (d + 1) m_X2_around [vI a0, vI a1] v Q := h
set_option maxRecDepth 100000 in
theorem E_X3_take {d : Nat} {Q : z_RT} {v : z_V} {a1 : Int32} (h : z_Wp (z_C d) 0 k_X3_take Q 0 [some (vR 3 0), some (vI a1), none] [] v) : z_C (d + 1) m_X3_take [vR 3 0, vI a1] v Q := h
set_option maxRecDepth 100000 in
theorem E_X3_read {d : Nat} {Q : z_RT} {v : z_V} {n1 : Nat} (h : z_Wp (z_C d) 4 k_X3_read Q 0 [some (vR 3 0), some (vR 6 n1), none, none] [] v) : z_C (d + 1) m_X3_read [vR 3 0, vR 6 n1] v Q := h
set_option maxRecDepth 100000 in
theorem E_X3_wrong {d : Nat} {Q : z_RT} {v : z_V} {a1 : Int32} (h : z_Wp (z_C d) 4 k_X3_wrong Q 0 [some (vR 3 0), some (vI a1)] [] v) : z_C (d + 1) m_X3_wrong [vR 3 0, vI a1] v Q := h
set_option maxRecDepth 100000 in
theorem E_X3_expect {d : Nat} {Q : z_RT} {v : z_V} {a1 : Int32} (h : z_Wp (z_C d) 4 k_X3_expect Q 0 [some (vR 3 0), some (vI a1)] [] v) : z_C (d + 1) m_X3_expect [vR 3 0, vI a1] v Q := h
set_option maxRecDepth 100000 in
theorem E_X3_clause {d : Nat} {Q : z_RT} {v : z_V} (h : z_Wp (z_C d) 4 k_X3_clause Q 0 [some (vR 3 0), none, none, none] [] v) : z_C (d + 1) m_X3_clause [vR 3 0] v Q := h
set_option maxRecDepth 100000 in
theorem E_X3_startsClause {d : Nat} {Q : z_RT} {v : z_V} {a0 : Int32} (h : z_Wp (z_C d) 4 k_X3_startsClause Q 0 [some (vI a0)] [] v) : z_C (d + 1) m_X3_startsClause [vI a0] v Q := h
set_option maxRecDepth 100000 in
theorem E_X3_doClause {d : Nat} {Q : z_RT} {v : z_V} {a1 : Int32} (h : z_Wp (z_C d) 4 k_X3_doClause Q 0 [some (vR 3 0), some (vI a1), none, none] [] v) : z_C (d + 1) m_X3_doClause [vR 3 0, vI a1] v Q := h
set_option maxRecDepth 100000 in
theorem E_X3_number {d : Nat} {Q : z_RT} {v : z_V} {a1 : Int32} (h : z_Wp (z_C d) 4 k_X3_number Q 0 [some (vR 3 0), some (vI a1), none] [] v) : z_C (d + 1) m_X3_number [vR 3 0, vI a1] v Q := h
set_option maxRecDepth 100000 in
theorem E_X3_mostOf {d : Nat} {Q : z_RT} {v : z_V} {a0 : Int32} (h : z_Wp (z_C d) 1 k_X3_mostOf Q 0 [some (vI a0)] [] v) : z_C (d + 1) m_X3_mostOf [vI a0] v Q := h
set_option maxRecDepth 100000 in
theorem E_X3_sum {d : Nat} {Q : z_RT} {v : z_V} {a1 : Int32} (h : z_Wp (z_C d) 4 k_X3_sum Q 0 [some (vR 3 0), some (vI a1), none, none] [] v) : z_C (d + 1) m_X3_sum [vR 3 0, vI a1] v Q := h
set_option maxRecDepth 100000 in
theorem E_X3_product {d : Nat} {Q : z_RT} {v : z_V} {a1 : Int32} (h : z_Wp (z_C d) 4 k_X3_product Q 0 [some (vR 3 0), some (vI a1), none, none] [] v) : z_C (d + 1) m_X3_product [vR 3 0, vI a1] v Q := h
set_option maxRecDepth 100000 in
theorem E_X3_one {d : Nat} {Q : z_RT} {v : z_V} {a1 : Int32} (h : z_Wp (z_C d) 4 k_X3_one Q 0 [some (vR 3 0), some (vI a1), none] [] v) : z_C (d + 1) m_X3_one [vR 3 0, vI a1] v Q := h
set_option maxRecDepth 100000 in
theorem E_X3_isOfLaw {d : Nat} {Q : z_RT} {v : z_V} {a1 : Int32} (h : z_Wp (z_C d) 4 k_X3_isOfLaw Q 0 [some (vR 3 0), some (vI a1)] [] v) : z_C (d + 1) m_X3_isOfLaw [vR 3 0, vI a1] v Q := h
set_option maxRecDepth 100000 in
theorem E_X3_nested {d : Nat} {Q : z_RT} {v : z_V} {a1 : Int32} {a2 : Int32} (h : z_Wp (z_C d) 4 k_X3_nested Q 0 [some (vR 3 0), some (vI a1), some (vI a2)] [] v) : z_C (d + 1) m_X3_nested [vR 3 0, vI a1, vI a2] v Q := h
set_option maxRecDepth 100000 in
theorem E_X3_choice {d : Nat} {Q : z_RT} {v : z_V} {a1 : Int32} (h : z_Wp (z_C d) 4 k_X3_choice Q 0 [some (vR 3 0), some (vI a1), none, none] [] v) : z_C (d + 1) m_X3_choice [vR 3 0, vI a1] v Q := h
set_option maxRecDepth 100000 in
theorem E_X3_either {d : Nat} {Q : z_RT} {v : z_V} {a1 : Int32} (h : z_Wp (z_C d) 4 k_X3_either Q 0 [some (vR 3 0), some (vI a1), none] [] v) : z_C (d + 1) m_X3_either [vR 3 0, vI a1] v Q := h
set_option maxRecDepth 100000 in
theorem E_X3_both {d : Nat} {Q : z_RT} {v : z_V} {a1 : Int32} (h : z_Wp (z_C d) 4 k_X3_both Q 0 [some (vR 3 0), some (vI a1), none] [] v) : z_C (d + 1) m_X3_both [vR 3 0, vI a1] v Q := h
set_option maxRecDepth 100000 in
theorem E_X3_ask {d : Nat} {Q : z_RT} {v : z_V} {a1 : Int32} (h : z_Wp (z_C d) 4 k_X3_ask Q 0 [some (vR 3 0), some (vI a1), none] [] v) : z_C (d + 1) m_X3_ask [vR 3 0, vI a1] v Q := h
set_option maxRecDepth 100000 in
theorem E_X3_denied {d : Nat} {Q : z_RT} {v : z_V} {a1 : Int32} (h : z_Wp (z_C d) 4 k_X3_denied Q 0 [some (vR 3 0), some (vI a1)] [] v) : z_C (d + 1) m_X3_denied [vR 3 0, vI a1] v Q := h
set_option maxRecDepth 100000 in
theorem E_X3_advance {d : Nat} {Q : z_RT} {v : z_V} (h : z_Wp (z_C d) 0 k_X3_advance Q 0 [some (vR 3 0), none] [] v) : z_C (d + 1) m_X3_advance [vR 3 0] v Q := h
set_option maxRecDepth 100000 in
theorem E_X3_isLetter {d : Nat} {Q : z_RT} {v : z_V} {a0 : Int32} (h : z_Wp (z_C d) 4 k_X3_isLetter Q 0 [some (vI a0)] [] v) : z_C (d + 1) m_X3_isLetter [vI a0] v Q := h
set_option maxRecDepth 100000 in
theorem E_X3_isDigit {d : Nat} {Q : z_RT} {v : z_V} {a0 : Int32} (h : z_Wp (z_C d) 4 k_X3_isDigit Q 0 [some (vI a0)] [] v) : z_C (d + 1) m_X3_isDigit [vI a0] v Q := h
set_option maxRecDepth 100000 in
theorem E_X3_word {d : Nat} {Q : z_RT} {v : z_V} (h : z_Wp (z_C d) 1 k_X3_word Q 0 [some (vR 3 0), none, none, none, none, none] [] v) : z_C (d + 1) m_X3_word [vR 3 0] v Q := h
set_option maxRecDepth 100000 in
theorem E_X3_digits {d : Nat} {Q : z_RT} {v : z_V} (h : z_Wp (z_C d) 1 k_X3_digits Q 0 [some (vR 3 0), none, none] [] v) : z_C (d + 1) m_X3_digits [vR 3 0] v Q := h
set_option maxRecDepth 100000 in
theorem E_X3_signToken {d : Nat} {Q : z_RT} {v : z_V} {a1 : Int32} (h : z_Wp (z_C d) 1 k_X3_signToken Q 0 [some (vR 3 0), some (vI a1), none] [] v) : z_C (d + 1) m_X3_signToken [vR 3 0, vI a1] v Q := h
set_option maxRecDepth 100000 in
theorem E_X4_become {d : Nat} {Q : z_RT} {v : z_V} {n : Nat} {n1 : Nat} (h : z_Wp (z_C d) 0 k_X4_become Q 0 [some (vR 4 n), some (vR 4 n1)] [] v) : z_C (d + 1) m_X4_become [vR 4 n, vR 4 n1] v Q := h
set_option maxRecDepth 100000 in
theorem E_X4_draw {d : Nat} {Q : z_RT} {v : z_V} {n : Nat} (h : z_Wp (z_C d) 1 k_X4_draw Q 0 [some (vR 4 n), none] [] v) : z_C (d + 1) m_X4_draw [vR 4 n] v Q := h
set_option maxRecDepth 100000 in
theorem E_X4_write {d : Nat} {Q : z_RT} {v : z_V} {n : Nat} {a1 : Int32} {a2 : Int32} {a3 : Int32} (h : z_Wp (z_C d) 0 k_X4_write Q 0 [some (vR 4 n), some (vI a1), some (vI a2), some (vI a3)] [] v) : z_C (d + 1) m_X4_write [vR 4 n, vI a1, vI a2, vI a3] v Q := h
set_option maxRecDepth 100000 in
theorem E_X4_told {d : Nat} {Q : z_RT} {v : z_V} {n : Nat} {a1 : Int32} {a2 : Int32} (h : z_Wp (z_C d) 1 k_X4_told Q 0 [some (vR 4 n), some (vI a1), some (vI a2), none] [] v) : z_C (d + 1) m_X4_told [vR 4 n, vI a1, vI a2] v Q := h
set_option maxRecDepth 100000 in
theorem E_X5_tell_a {d : Nat} {Q : z_RT} {v : z_V} {n : Nat} {n1 : Nat} {n2 : Nat} {a3 : Int32} {a4 : Int32} {a5 : Int32} (h : z_Wp (z_C d) 1 k_X5_tell Q 0 [some (vR 5 n), some (vR 9 n1), some (vR 6 n2), some (vI a3), some (vI a4), some (vI a5), none, none, none, none, none, none] [] v) : z_C (d + 1) m_X5_tell [vR 5 n, vR 9 n1, vR 6 n2, vI a3, vI a4, vI a5] v Q := h
set_option maxRecDepth 100000 in
theorem E_X5_tell_b {d : Nat} {Q : z_RT} {v : z_V} {n : Nat} {n1 : Nat} {a3 : Int32} {a4 : Int32} {a5 : Int32} (h : z_Wp (z_C d) 1 k_X5_tell Q 0 [some (vR 5 n), some (vR 9 n1), some (vQ none), some (vI a3), some (vI a4), some (vI a5), none, none, none, none, none, none] [] v) : z_C (d + 1) m_X5_tell [vR 5 n, vR 9 n1, vQ none, vI a3, vI a4, vI a5] v Q := h
set_option maxRecDepth 100000 in
theorem E_X5_push {d : Nat} {Q : z_RT} {v : z_V} {n : Nat} {a1 : Int32} (h : z_Wp (z_C d) 0 k_X5_push Q 0 [some (vR 5 n), some (vI a1)] [] v) : z_C (d + 1) m_X5_push [vR 5 n, vI a1] v Q := h
set_option maxRecDepth 100000 in
theorem E_X5_pop {d : Nat} {Q : z_RT} {v : z_V} {n : Nat} (h : z_Wp (z_C d) 1 k_X5_pop Q 0 [some (vR 5 n)] [] v) : z_C (d + 1) m_X5_pop [vR 5 n] v Q := h
set_option maxRecDepth 100000 in
theorem E_X5_valueOf {d : Nat} {Q : z_RT} {v : z_V} {n : Nat} {n1 : Nat} {a2 : Int32} {a3 : Int32} (h : z_Wp (z_C d) 1 k_X5_valueOf Q 0 [some (vR 5 n), some (vR 9 n1), some (vI a2), some (vI a3), none] [] v) : z_C (d + 1) m_X5_valueOf [vR 5 n, vR 9 n1, vI a2, vI a3] v Q := h
set_option maxRecDepth 100000 in
theorem E_X5_nameOf {d : Nat} {Q : z_RT} {v : z_V} {n : Nat} {n1 : Nat} {a2 : Int32} (h : z_Wp (z_C d) 1 k_X5_nameOf Q 0 [some (vR 5 n), some (vR 9 n1), some (vI a2)] [] v) : z_C (d + 1) m_X5_nameOf [vR 5 n, vR 9 n1, vI a2] v Q := h
set_option maxRecDepth 100000 in
theorem E_X5_signOf {d : Nat} {Q : z_RT} {v : z_V} {n0 : Nat} {a1 : Int32} (h : z_Wp (z_C d) 1 k_X5_signOf Q 0 [some (vR 9 n0), some (vI a1)] [] v) : z_C (d + 1) m_X5_signOf [vR 9 n0, vI a1] v Q := h
set_option maxRecDepth 100000 in
theorem E_X5_endSign_a {d : Nat} {Q : z_RT} {v : z_V} {n : Nat} {n1 : Nat} (h : z_Wp (z_C d) 1 k_X5_endSign Q 0 [some (vR 5 n), some (vR 9 n1), some (vR 1001 n1)] [] v) : z_C (d + 1) m_X5_endSign [vR 5 n, vR 9 n1, vR 1001 n1] v Q := h
set_option maxRecDepth 100000 in
theorem E_X5_endSign_b {d : Nat} {Q : z_RT} {v : z_V} {n : Nat} {n1 : Nat} (h : z_Wp (z_C d) 1 k_X5_endSign Q 0 [some (vR 5 n), some (vR 9 n1), some (vR 1002 n1)] [] v) : z_C (d + 1) m_X5_endSign [vR 5 n, vR 9 n1, vR 1002 n1] v Q := h
set_option maxRecDepth 100000 in
theorem E_X5_joined {d : Nat} {Q : z_RT} {v : z_V} {a0 : Int32} {a1 : Int32} {a2 : Int32} (h : z_Wp (z_C d) 1 k_X5_joined Q 0 [some (vI a0), some (vI a1), some (vI a2)] [] v) : z_C (d + 1) m_X5_joined [vI a0, vI a1, vI a2] v Q := h
set_option maxRecDepth 100000 in
theorem E_X5_product {d : Nat} {Q : z_RT} {v : z_V} {a0 : Int64} {a1 : Int64} (h : z_Wp (z_C d) 1 k_X5_product Q 0 [some (vL a0), none, some (vL a1), none] [] v) : z_C (d + 1) m_X5_product [vL a0, vL a1] v Q := h
set_option maxRecDepth 100000 in
theorem E_X5_holds {d : Nat} {Q : z_RT} {v : z_V} {a0 : Int32} {a1 : Int32} {a2 : Int32} (h : z_Wp (z_C d) 4 k_X5_holds Q 0 [some (vI a0), some (vI a1), some (vI a2)] [] v) : z_C (d + 1) m_X5_holds [vI a0, vI a1, vI a2] v Q := h
set_option maxRecDepth 100000 in
theorem E_X6_clear {d : Nat} {Q : z_RT} {v : z_V} {n : Nat} (h : z_Wp (z_C d) 0 k_X6_clear Q 0 [some (vR 6 n)] [] v) : z_C (d + 1) m_X6_clear [vR 6 n] v Q := h
set_option maxRecDepth 100000 in
theorem E_X6_become {d : Nat} {Q : z_RT} {v : z_V} {n : Nat} {n1 : Nat} (h : z_Wp (z_C d) 0 k_X6_become Q 0 [some (vR 6 n), some (vR 6 n1)] [] v) : z_C (d + 1) m_X6_become [vR 6 n, vR 6 n1] v Q := h
set_option maxRecDepth 100000 in
theorem E_X6_has {d : Nat} {Q : z_RT} {v : z_V} {n : Nat} {a1 : Int32} (h : z_Wp (z_C d) 4 k_X6_has Q 0 [some (vR 6 n), some (vI a1)] [] v) : z_C (d + 1) m_X6_has [vR 6 n, vI a1] v Q := h
set_option maxRecDepth 100000 in
theorem E_X6_emit {d : Nat} {Q : z_RT} {v : z_V} {n : Nat} {a1 : Int32} {a2 : Int32} (h : z_Wp (z_C d) 1 k_X6_emit Q 0 [some (vR 6 n), some (vI a1), some (vI a2)] [] v) : z_C (d + 1) m_X6_emit [vR 6 n, vI a1, vI a2] v Q := h
set_option maxRecDepth 100000 in
theorem E_X6_land {d : Nat} {Q : z_RT} {v : z_V} {n : Nat} {a1 : Int32} (h : z_Wp (z_C d) 0 k_X6_land Q 0 [some (vR 6 n), some (vI a1)] [] v) : z_C (d + 1) m_X6_land [vR 6 n, vI a1] v Q := h
set_option maxRecDepth 100000 in
theorem E_X6_addLaw {d : Nat} {Q : z_RT} {v : z_V} {n : Nat} {a1 : Int32} {a2 : Int32} (h : z_Wp (z_C d) 0 k_X6_addLaw Q 0 [some (vR 6 n), some (vI a1), some (vI a2)] [] v) : z_C (d + 1) m_X6_addLaw [vR 6 n, vI a1, vI a2] v Q := h
set_option maxRecDepth 100000 in
theorem E_X6_add {d : Nat} {Q : z_RT} {v : z_V} {n : Nat} {a1 : Int32} {a2 : Int32} {a3 : Int32} (h : z_Wp (z_C d) 0 k_X6_add Q 0 [some (vR 6 n), some (vI a1), some (vI a2), some (vI a3)] [] v) : z_C (d + 1) m_X6_add [vR 6 n, vI a1, vI a2, vI a3] v Q := h
set_option maxRecDepth 100000 in
theorem E_X7_leastFares {d : Nat} {Q : z_RT} {v : z_V} (h : z_Wp (z_C d) 1 k_X7_leastFares Q 0 [some (vR 7 0), some (vR 0 0), none, none, none, none] [] v) : z_C (d + 1) m_X7_leastFares [vR 7 0, vR 0 0] v Q := h
set_option maxRecDepth 100000 in
theorem E_X7_swaps {d : Nat} {Q : z_RT} {v : z_V} (h : z_Wp (z_C d) 1 k_X7_swaps Q 0 [some (vR 7 0), some (vR 0 0), none, none] [] v) : z_C (d + 1) m_X7_swaps [vR 7 0, vR 0 0] v Q := h
set_option maxRecDepth 100000 in
theorem E_X7_swapsFrom {d : Nat} {Q : z_RT} {v : z_V} {a2 : Int32} {a3 : Int32} (h : z_Wp (z_C d) 1 k_X7_swapsFrom Q 0 [some (vR 7 0), some (vR 0 0), some (vI a2), some (vI a3), none, none, none] [] v) : z_C (d + 1) m_X7_swapsFrom [vR 7 0, vR 0 0, vI a2, vI a3] v Q := h
set_option maxRecDepth 100000 in
theorem E_X7_swapsWith {d : Nat} {Q : z_RT} {v : z_V} {a2 : Int32} {a3 : Int32} {a4 : Int32} (h : z_Wp (z_C d) 1 k_X7_swapsWith Q 0 [some (vR 7 0), some (vR 0 0), some (vI a2), some (vI a3), some (vI a4)] [] v) : z_C (d + 1) m_X7_swapsWith [vR 7 0, vR 0 0, vI a2, vI a3, vI a4] v Q := h
set_option maxRecDepth 100000 in
theorem E_X7_keepsBeside {d : Nat} {Q : z_RT} {v : z_V} {a2 : Int32} {a3 : Int32} (h : z_Wp (z_C d) 4 k_X7_keepsBeside Q 0 [some (vR 7 0), some (vR 0 0), some (vI a2), some (vI a3), none, none] [] v) : z_C (d + 1) m_X7_keepsBeside [vR 7 0, vR 0 0, vI a2, vI a3] v Q := h
set_option maxRecDepth 100000 in
theorem E_X7_winner {d : Nat} {Q : z_RT} {v : z_V} {a2 : Int32} (h : z_Wp (z_C d) 1 k_X7_winner Q 0 [some (vR 7 0), some (vR 0 0), some (vI a2), none, none, none] [] v) : z_C (d + 1) m_X7_winner [vR 7 0, vR 0 0, vI a2] v Q := h
set_option maxRecDepth 100000 in
theorem E_X7_rideFares {d : Nat} {Q : z_RT} {v : z_V} {n2 : Nat} {a3 : Int32} {a4 : Int32} (h : z_Wp (z_C d) 1 k_X7_rideFares Q 0 [some (vR 7 0), some (vR 0 0), some (vR 500 n2), some (vI a3), some (vI a4)] [] v) : z_C (d + 1) m_X7_rideFares [vR 7 0, vR 0 0, vR 500 n2, vI a3, vI a4] v Q := h
set_option maxRecDepth 100000 in
theorem E_X7_rideHalt {d : Nat} {Q : z_RT} {v : z_V} {n2 : Nat} {a3 : Int32} {a4 : Int32} {a5 : Int32} (h : z_Wp (z_C d) 1 k_X7_rideHalt Q 0 [some (vR 7 0), some (vR 0 0), some (vR 500 n2), some (vI a3), some (vI a4), some (vI a5), none, none] [] v) : z_C (d + 1) m_X7_rideHalt [vR 7 0, vR 0 0, vR 500 n2, vI a3, vI a4, vI a5] v Q := h
set_option maxRecDepth 100000 in
theorem E_X7_reckon {d : Nat} {Q : z_RT} {v : z_V} {n2 : Nat} {a3 : Int32} (h : z_Wp (z_C d) 0 k_X7_reckon Q 0 [some (vR 7 0), some (vR 0 0), some (vR 500 n2), some (vI a3), none, none, none, none, none] [] v) : z_C (d + 1) m_X7_reckon [vR 7 0, vR 0 0, vR 500 n2, vI a3] v Q := h
set_option maxRecDepth 100000 in
theorem E_X7_stepWorth {d : Nat} {Q : z_RT} {v : z_V} {n0 : Nat} {a1 : Int32} {a2 : Int32} (h : z_Wp (z_C d) 1 k_X7_stepWorth Q 0 [some (vR 500 n0), some (vI a1), some (vI a2)] [] v) : z_C (d + 1) m_X7_stepWorth [vR 500 n0, vI a1, vI a2] v Q := h
set_option maxRecDepth 100000 in
theorem E_X7_nextHalt {d : Nat} {Q : z_RT} {v : z_V} {n2 : Nat} {a3 : Int32} (h : z_Wp (z_C d) 1 k_X7_nextHalt Q 0 [some (vR 7 0), some (vR 0 0), some (vR 500 n2), some (vI a3), none, none] [] v) : z_C (d + 1) m_X7_nextHalt [vR 7 0, vR 0 0, vR 500 n2, vI a3] v Q := h
set_option maxRecDepth 100000 in
theorem E_X8_solveAlike {d : Nat} {Q : z_RT} {v : z_V} (h : z_Wp (z_C d) 0 k_X8_solveAlike Q 0 [some (vR 8 0), some (vR 0 0), none] [] v) : z_C (d + 1) m_X8_solveAlike [vR 8 0, vR 0 0] v Q := h
set_option maxRecDepth 100000 in
theorem E_X8_begin {d : Nat} {Q : z_RT} {v : z_V} {a2 : Int32} (h : z_Wp (z_C d) 0 k_X8_begin Q 0 [some (vR 8 0), some (vR 0 0), some (vI a2), none] [] v) : z_C (d + 1) m_X8_begin [vR 8 0, vR 0 0, vI a2] v Q := h
set_option maxRecDepth 100000 in
theorem E_X8_goAlike {d : Nat} {Q : z_RT} {v : z_V} {a2 : Int32} (h : z_Wp (z_C d) 0 k_X8_goAlike Q 0 [some (vR 8 0), some (vR 0 0), some (vI a2), none, none, none, none, none, none] [] v) : z_C (d + 1) m_X8_goAlike [vR 8 0, vR 0 0, vI a2] v Q := h
set_option maxRecDepth 100000 in
theorem E_X8_goAlikeWith {d : Nat} {Q : z_RT} {v : z_V} {a2 : Int32} {a3 : Int32} {a4 : Int32} (h : z_Wp (z_C d) 0 k_X8_goAlikeWith Q 0 [some (vR 8 0), some (vR 0 0), some (vI a2), some (vI a3), some (vI a4), none, none] [] v) : z_C (d + 1) m_X8_goAlikeWith [vR 8 0, vR 0 0, vI a2, vI a3, vI a4] v Q := h
set_option maxRecDepth 100000 in
theorem E_X8_put {d : Nat} {Q : z_RT} {v : z_V} {a1 : Int32} {a2 : Int32} {a3 : Int32} {a4 : Int32} {a5 : Int32} (h : z_Wp (z_C d) 0 k_X8_put Q 0 [some (vR 8 0), some (vI a1), some (vI a2), some (vI a3), some (vI a4), some (vI a5)] [] v) : z_C (d + 1) m_X8_put [vR 8 0, vI a1, vI a2, vI a3, vI a4, vI a5] v Q := h
set_option maxRecDepth 100000 in
theorem E_X8_takeOff {d : Nat} {Q : z_RT} {v : z_V} {a1 : Int32} {a2 : Int32} {a3 : Int32} {a4 : Int32} (h : z_Wp (z_C d) 0 k_X8_takeOff Q 0 [some (vR 8 0), some (vI a1), some (vI a2), some (vI a3), some (vI a4)] [] v) : z_C (d + 1) m_X8_takeOff [vR 8 0, vI a1, vI a2, vI a3, vI a4] v Q := h
set_option maxRecDepth 100000 in
theorem E_X8_canBe {d : Nat} {Q : z_RT} {v : z_V} {a2 : Int32} (h : z_Wp (z_C d) 4 k_X8_canBe Q 0 [some (vR 8 0), some (vR 0 0), some (vI a2), none, none] [] v) : z_C (d + 1) m_X8_canBe [vR 8 0, vR 0 0, vI a2] v Q := h
set_option maxRecDepth 100000 in
theorem E_X8_tightest {d : Nat} {Q : z_RT} {v : z_V} {a2 : Int32} (h : z_Wp (z_C d) 1 k_X8_tightest Q 0 [some (vR 8 0), some (vR 0 0), some (vI a2), none, none, none, none] [] v) : z_C (d + 1) m_X8_tightest [vR 8 0, vR 0 0, vI a2] v Q := h
set_option maxRecDepth 100000 in
theorem E_X8_keepLowest {d : Nat} {Q : z_RT} {v : z_V} (h : z_Wp (z_C d) 0 k_X8_keepLowest Q 0 [some (vR 8 0), some (vR 0 0)] [] v) : z_C (d + 1) m_X8_keepLowest [vR 8 0, vR 0 0] v Q := h
set_option maxRecDepth 100000 in
theorem E_X8_isLower {d : Nat} {Q : z_RT} {v : z_V} (h : z_Wp (z_C d) 4 k_X8_isLower Q 0 [some (vR 8 0), some (vR 0 0), none] [] v) : z_C (d + 1) m_X8_isLower [vR 8 0, vR 0 0] v Q := h
set_option maxRecDepth 100000 in
theorem E_X8_solveUnlike {d : Nat} {Q : z_RT} {v : z_V} (h : z_Wp (z_C d) 0 k_X8_solveUnlike Q 0 [some (vR 8 0), some (vR 0 0)] [] v) : z_C (d + 1) m_X8_solveUnlike [vR 8 0, vR 0 0] v Q := h
set_option maxRecDepth 100000 in
theorem E_X8_hasLone {d : Nat} {Q : z_RT} {v : z_V} (h : z_Wp (z_C d) 4 k_X8_hasLone Q 0 [some (vR 8 0), some (vR 0 0), none] [] v) : z_C (d + 1) m_X8_hasLone [vR 8 0, vR 0 0] v Q := h
set_option maxRecDepth 100000 in
theorem E_X8_goUnlike {d : Nat} {Q : z_RT} {v : z_V} {a2 : Int32} (h : z_Wp (z_C d) 4 k_X8_goUnlike Q 0 [some (vR 8 0), some (vR 0 0), some (vI a2), none, none] [] v) : z_C (d + 1) m_X8_goUnlike [vR 8 0, vR 0 0, vI a2] v Q := h
set_option maxRecDepth 100000 in
theorem E_X8_goUnlikeWith {d : Nat} {Q : z_RT} {v : z_V} {a2 : Int32} {a3 : Int32} (h : z_Wp (z_C d) 4 k_X8_goUnlikeWith Q 0 [some (vR 8 0), some (vR 0 0), some (vI a2), some (vI a3), none, none] [] v) : z_C (d + 1) m_X8_goUnlikeWith [vR 8 0, vR 0 0, vI a2, vI a3] v Q := h
set_option maxRecDepth 100000 in
theorem E_X8_isMet {d : Nat} {Q : z_RT} {v : z_V} {a2 : Int32} (h : z_Wp (z_C d) 4 k_X8_isMet Q 0 [some (vR 8 0), some (vR 0 0), some (vI a2), none, none] [] v) : z_C (d + 1) m_X8_isMet [vR 8 0, vR 0 0, vI a2] v Q := h
set_option maxRecDepth 100000 in
theorem E_X9_become {d : Nat} {Q : z_RT} {v : z_V} {n : Nat} {n1 : Nat} (h : z_Wp (z_C d) 0 k_X9_become Q 0 [some (vR 9 n), some (vR 9 n1), none] [] v) : z_C (d + 1) m_X9_become [vR 9 n, vR 9 n1] v Q := h
set_option maxRecDepth 100000 in
theorem E_X9_hasLine {d : Nat} {Q : z_RT} {v : z_V} {n : Nat} {a1 : Int32} (h : z_Wp (z_C d) 4 k_X9_hasLine Q 0 [some (vR 9 n), some (vI a1)] [] v) : z_C (d + 1) m_X9_hasLine [vR 9 n, vI a1] v Q := h
set_option maxRecDepth 100000 in
theorem E_X9_hasText {d : Nat} {Q : z_RT} {v : z_V} {n : Nat} {a1 : Int32} (h : z_Wp (z_C d) 4 k_X9_hasText Q 0 [some (vR 9 n), some (vI a1)] [] v) : z_C (d + 1) m_X9_hasText [vR 9 n, vI a1] v Q := h
set_option maxRecDepth 100000 in
theorem E_X9_openBits {d : Nat} {Q : z_RT} {v : z_V} {n : Nat} (h : z_Wp (z_C d) 1 k_X9_openBits Q 0 [some (vR 9 n)] [] v) : z_C (d + 1) m_X9_openBits [vR 9 n] v Q := h
set_option maxRecDepth 100000 in
theorem E_X9_fareOf {d : Nat} {Q : z_RT} {v : z_V} {n : Nat} {a1 : Int32} (h : z_Wp (z_C d) 1 k_X9_fareOf Q 0 [some (vR 9 n), some (vI a1)] [] v) : z_C (d + 1) m_X9_fareOf [vR 9 n, vI a1] v Q := h
set_option maxRecDepth 100000 in
theorem E_X9_besideBits {d : Nat} {Q : z_RT} {v : z_V} {n : Nat} {a1 : Int32} (h : z_Wp (z_C d) 1 k_X9_besideBits Q 0 [some (vR 9 n), some (vI a1), none, none] [] v) : z_C (d + 1) m_X9_besideBits [vR 9 n, vI a1] v Q := h
set_option maxRecDepth 100000 in
theorem E_X9_theText {d : Nat} {Q : z_RT} {v : z_V} {n : Nat} (h : z_Wp (z_C d) 3 k_X9_theText Q 0 [some (vR 9 n)] [] v) : z_C (d + 1) m_X9_theText [vR 9 n] v Q := h
set_option maxRecDepth 100000 in
theorem E_X9_lawSays {d : Nat} {Q : z_RT} {v : z_V} {n : Nat} {a1 : Int32} {a2 : Int32} {a3 : Int32} (h : z_Wp (z_C d) 1 k_X9_lawSays Q 0 [some (vR 9 n), some (vI a1), some (vI a2), some (vI a3)] [] v) : z_C (d + 1) m_X9_lawSays [vR 9 n, vI a1, vI a2, vI a3] v Q := h
set_option maxRecDepth 100000 in
theorem E_X9_saysAll {d : Nat} {Q : z_RT} {v : z_V} {n : Nat} {n1 : Nat} (h : z_Wp (z_C d) 4 k_X9_saysAll Q 0 [some (vR 9 n), some (vR 6 n1), none] [] v) : z_C (d + 1) m_X9_saysAll [vR 9 n, vR 6 n1] v Q := h
set_option maxRecDepth 100000 in
theorem E_X9_addLine {d : Nat} {Q : z_RT} {v : z_V} {n : Nat} {a1 : Int32} {a2 : Int32} (h : z_Wp (z_C d) 1 k_X9_addLine Q 0 [some (vR 9 n), some (vI a1), some (vI a2), none] [] v) : z_C (d + 1) m_X9_addLine [vR 9 n, vI a1, vI a2] v Q := h
set_option maxRecDepth 100000 in
theorem E_X9_keepStep {d : Nat} {Q : z_RT} {v : z_V} {n : Nat} (h : z_Wp (z_C d) 0 k_X9_keepStep Q 0 [some (vR 9 n)] [] v) : z_C (d + 1) m_X9_keepStep [vR 9 n] v Q := h
set_option maxRecDepth 100000 in
theorem E_X9_takeBack {d : Nat} {Q : z_RT} {v : z_V} {n : Nat} (h : z_Wp (z_C d) 1 k_X9_takeBack Q 0 [some (vR 9 n)] [] v) : z_C (d + 1) m_X9_takeBack [vR 9 n] v Q := h
set_option maxRecDepth 100000 in
theorem E_X9_putPlate {d : Nat} {Q : z_RT} {v : z_V} {n : Nat} {a1 : Int32} {a2 : Int32} {a3 : Int32} (h : z_Wp (z_C d) 1 k_X9_putPlate Q 0 [some (vR 9 n), some (vI a1), some (vI a2), some (vI a3), none] [] v) : z_C (d + 1) m_X9_putPlate [vR 9 n, vI a1, vI a2, vI a3] v Q := h
set_option maxRecDepth 100000 in
theorem E_X9_turnLine {d : Nat} {Q : z_RT} {v : z_V} {n : Nat} {a1 : Int32} {a2 : Int32} (h : z_Wp (z_C d) 4 k_X9_turnLine Q 0 [some (vR 9 n), some (vI a1), some (vI a2)] [] v) : z_C (d + 1) m_X9_turnLine [vR 9 n, vI a1, vI a2] v Q := h
set_option maxRecDepth 100000 in
theorem E_X9_giveGrant {d : Nat} {Q : z_RT} {v : z_V} {n : Nat} {a1 : Int32} {a2 : Int32} (h : z_Wp (z_C d) 4 k_X9_giveGrant Q 0 [some (vR 9 n), some (vI a1), some (vI a2)] [] v) : z_C (d + 1) m_X9_giveGrant [vR 9 n, vI a1, vI a2] v Q := h
set_option maxRecDepth 100000 in
theorem E_X9_passDay {d : Nat} {Q : z_RT} {v : z_V} {n : Nat} {a1 : Int32} (h : z_Wp (z_C d) 1 k_X9_passDay Q 0 [some (vR 9 n), some (vI a1), none, none, none, none, none] [] v) : z_C (d + 1) m_X9_passDay [vR 9 n, vI a1] v Q := h
set_option maxRecDepth 100000 in
theorem E_X9_drawOnce {d : Nat} {Q : z_RT} {v : z_V} {n : Nat} {a1 : Int32} (h : z_Wp (z_C d) 0 k_X9_drawOnce Q 0 [some (vR 9 n), some (vI a1), none] [] v) : z_C (d + 1) m_X9_drawOnce [vR 9 n, vI a1] v Q := h
set_option maxRecDepth 100000 in
theorem E_X9_perform {d : Nat} {Q : z_RT} {v : z_V} {n : Nat} {a1 : Int32} {a2 : Int32} {a3 : Int32} (h : z_Wp (z_C d) 4 k_X9_perform Q 0 [some (vR 9 n), some (vI a1), some (vI a2), some (vI a3), none, none] [] v) : z_C (d + 1) m_X9_perform [vR 9 n, vI a1, vI a2, vI a3] v Q := h
set_option maxRecDepth 100000 in
theorem E_X10_lay {d : Nat} {Q : z_RT} {v : z_V} {a1 : Int32} {a2 : Int32} (h : z_Wp (z_C d) 1 k_X10_lay Q 0 [some (vR 10 0), some (vI a1), some (vI a2)] [] v) : z_C (d + 1) m_X10_lay [vR 10 0, vI a1, vI a2] v Q := h
set_option maxRecDepth 100000 in
theorem E_X10_feed {d : Nat} {Q : z_RT} {v : z_V} {a1 : Int32} {a2 : Int32} {a3 : Int32} {a4 : Int32} {a5 : Int32} (h : z_Wp (z_C d) 1 k_X10_feed Q 0 [some (vR 10 0), some (vI a1), some (vI a2), some (vI a3), some (vI a4), some (vI a5)] [] v) : z_C (d + 1) m_X10_feed [vR 10 0, vI a1, vI a2, vI a3, vI a4, vI a5] v Q := h
set_option maxRecDepth 100000 in
theorem E_X10_end {d : Nat} {Q : z_RT} {v : z_V} {a1 : Int32} (h : z_Wp (z_C d) 1 k_X10_end Q 0 [some (vR 10 0), some (vI a1)] [] v) : z_C (d + 1) m_X10_end [vR 10 0, vI a1] v Q := h
set_option maxRecDepth 100000 in
theorem E_X10_text {d : Nat} {Q : z_RT} {v : z_V} (h : z_Wp (z_C d) 1 k_X10_text Q 0 [some (vR 10 0)] [] v) : z_C (d + 1) m_X10_text [vR 10 0] v Q := h
set_option maxRecDepth 100000 in
theorem E_X10_fault {d : Nat} {Q : z_RT} {v : z_V} {a1 : Int32} (h : z_Wp (z_C d) 1 k_X10_fault Q 0 [some (vR 10 0), some (vI a1)] [] v) : z_C (d + 1) m_X10_fault [vR 10 0, vI a1] v Q := h
set_option maxRecDepth 100000 in
theorem E_X10_by {d : Nat} {Q : z_RT} {v : z_V} {a1 : Int32} (h : z_Wp (z_C d) 4 k_X10_by Q 0 [some (vR 10 0), some (vI a1)] [] v) : z_C (d + 1) m_X10_by [vR 10 0, vI a1] v Q := h
set_option maxRecDepth 100000 in
theorem E_X10_plate {d : Nat} {Q : z_RT} {v : z_V} {a1 : Int32} {a2 : Int32} (h : z_Wp (z_C d) 1 k_X10_plate Q 0 [some (vR 10 0), some (vI a1), some (vI a2)] [] v) : z_C (d + 1) m_X10_plate [vR 10 0, vI a1, vI a2] v Q := h
set_option maxRecDepth 100000 in
theorem E_X10_turn {d : Nat} {Q : z_RT} {v : z_V} {a1 : Int32} (h : z_Wp (z_C d) 4 k_X10_turn Q 0 [some (vR 10 0), some (vI a1)] [] v) : z_C (d + 1) m_X10_turn [vR 10 0, vI a1] v Q := h
set_option maxRecDepth 100000 in
theorem E_X10_grant {d : Nat} {Q : z_RT} {v : z_V} {a1 : Int32} (h : z_Wp (z_C d) 4 k_X10_grant Q 0 [some (vR 10 0), some (vI a1)] [] v) : z_C (d + 1) m_X10_grant [vR 10 0, vI a1] v Q := h
set_option maxRecDepth 100000 in
theorem E_X10_day {d : Nat} {Q : z_RT} {v : z_V} {a1 : Int32} (h : z_Wp (z_C d) 1 k_X10_day Q 0 [some (vR 10 0), some (vI a1), none, none] [] v) : z_C (d + 1) m_X10_day [vR 10 0, vI a1] v Q := h
set_option maxRecDepth 100000 in
theorem E_X10_played {d : Nat} {Q : z_RT} {v : z_V} {a1 : Int32} (h : z_Wp (z_C d) 1 k_X10_played Q 0 [some (vR 10 0), some (vI a1), none, none] [] v) : z_C (d + 1) m_X10_played [vR 10 0, vI a1] v Q := h
set_option maxRecDepth 100000 in
theorem E_X10_years {d : Nat} {Q : z_RT} {v : z_V} {a1 : Int32} {a2 : Int32} (h : z_Wp (z_C d) 1 k_X10_years Q 0 [some (vR 10 0), some (vI a1), some (vI a2), none] [] v) : z_C (d + 1) m_X10_years [vR 10 0, vI a1, vI a2] v Q := h
set_option maxRecDepth 100000 in
theorem E_X10_undo {d : Nat} {Q : z_RT} {v : z_V} (h : z_Wp (z_C d) 1 k_X10_undo Q 0 [some (vR 10 0)] [] v) : z_C (d + 1) m_X10_undo [vR 10 0] v Q := h
set_option maxRecDepth 100000 in
theorem E_X10_of {d : Nat} {Q : z_RT} {v : z_V} {a1 : Int32} {a2 : Int32} (h : z_Wp (z_C d) 1 k_X10_of Q 0 [some (vR 10 0), some (vI a1), some (vI a2)] [] v) : z_C (d + 1) m_X10_of [vR 10 0, vI a1, vI a2] v Q := h
set_option maxRecDepth 100000 in
theorem E_X10_ofHalt {d : Nat} {Q : z_RT} {v : z_V} {a1 : Int32} {a2 : Int32} (h : z_Wp (z_C d) 1 k_X10_ofHalt Q 0 [some (vR 10 0), some (vI a1), some (vI a2)] [] v) : z_C (d + 1) m_X10_ofHalt [vR 10 0, vI a1, vI a2] v Q := h
set_option maxRecDepth 100000 in
theorem E_X10_costs {d : Nat} {Q : z_RT} {v : z_V} {a1 : Int32} {a2 : Int32} (h : z_Wp (z_C d) 1 k_X10_costs Q 0 [some (vR 10 0), some (vI a1), some (vI a2)] [] v) : z_C (d + 1) m_X10_costs [vR 10 0, vI a1, vI a2] v Q := h
set_option maxRecDepth 100000 in
theorem E_X10_is {d : Nat} {Q : z_RT} {v : z_V} {a1 : Int32} (h : z_Wp (z_C d) 1 k_X10_is Q 0 [some (vR 10 0), some (vI a1)] [] v) : z_C (d + 1) m_X10_is [vR 10 0, vI a1] v Q := h
set_option maxRecDepth 100000 in
theorem E_X10_openFares {d : Nat} {Q : z_RT} {v : z_V} (h : z_Wp (z_C d) 1 k_X10_openFares Q 0 [some (vR 10 0), none, none, none] [] v) : z_C (d + 1) m_X10_openFares [vR 10 0] v Q := h
set_option maxRecDepth 100000 in
theorem E_X10_book {d : Nat} {Q : z_RT} {v : z_V} {a1 : Int32} {a2 : Int32} (h : z_Wp (z_C d) 1 k_X10_book Q 0 [some (vR 10 0), some (vI a1), some (vI a2)] [] v) : z_C (d + 1) m_X10_book [vR 10 0, vI a1, vI a2] v Q := h
set_option maxRecDepth 100000 in
theorem E_X10_foretold {d : Nat} {Q : z_RT} {v : z_V} {a1 : Int32} (h : z_Wp (z_C d) 1 k_X10_foretold Q 0 [some (vR 10 0), some (vI a1), none] [] v) : z_C (d + 1) m_X10_foretold [vR 10 0, vI a1] v Q := h
set_option maxRecDepth 100000 in
theorem E_X10_fair {d : Nat} {Q : z_RT} {v : z_V} (h : z_Wp (z_C d) 4 k_X10_fair Q 0 [some (vR 10 0), none, none] [] v) : z_C (d + 1) m_X10_fair [vR 10 0] v Q := h
set_option maxRecDepth 100000 in
theorem E_X10_likeAbove {d : Nat} {Q : z_RT} {v : z_V} {a1 : Int32} {a2 : Int32} (h : z_Wp (z_C d) 1 k_X10_likeAbove Q 0 [some (vR 10 0), some (vI a1), some (vI a2), none, none] [] v) : z_C (d + 1) m_X10_likeAbove [vR 10 0, vI a1, vI a2] v Q := h
set_option maxRecDepth 100000 in
theorem E_X10_left {d : Nat} {Q : z_RT} {v : z_V} (h : z_Wp (z_C d) 1 k_X10_left Q 0 [some (vR 10 0), none, none, none, none, none] [] v) : z_C (d + 1) m_X10_left [vR 10 0] v Q := h
set_option maxRecDepth 100000 in
theorem E_X10_twin {d : Nat} {Q : z_RT} {v : z_V} {a1 : Int32} (h : z_Wp (z_C d) 1 k_X10_twin Q 0 [some (vR 10 0), some (vI a1), none, none, none] [] v) : z_C (d + 1) m_X10_twin [vR 10 0, vI a1] v Q := h
set_option maxRecDepth 100000 in
theorem E_X10_whole {d : Nat} {Q : z_RT} {v : z_V} {a1 : Int32} (h : z_Wp (z_C d) 1 k_X10_whole Q 0 [some (vR 10 0), some (vI a1)] [] v) : z_C (d + 1) m_X10_whole [vR 10 0, vI a1] v Q := h
set_option maxRecDepth 100000 in
theorem E_X10_wholes {d : Nat} {Q : z_RT} {v : z_V} (h : z_Wp (z_C d) 2 k_X10_wholes Q 0 [some (vR 10 0)] [] v) : z_C (d + 1) m_X10_wholes [vR 10 0] v Q := h
set_option maxRecDepth 100000 in
theorem E_X10_span {d : Nat} {Q : z_RT} {v : z_V} {a1 : Int32} (h : z_Wp (z_C d) 1 k_X10_span Q 0 [some (vR 10 0), some (vI a1)] [] v) : z_C (d + 1) m_X10_span [vR 10 0, vI a1] v Q := h
set_option maxRecDepth 100000 in
theorem E_X10_apart {d : Nat} {Q : z_RT} {v : z_V} {a1 : Int32} {a2 : Int32} {a3 : Int32} (h : z_Wp (z_C d) 1 k_X10_apart Q 0 [some (vR 10 0), some (vI a1), some (vI a2), some (vI a3)] [] v) : z_C (d + 1) m_X10_apart [vR 10 0, vI a1, vI a2, vI a3] v Q := h
set_option maxRecDepth 100000 in
theorem E_X10_alike {d : Nat} {Q : z_RT} {v : z_V} {a1 : Int32} (h : z_Wp (z_C d) 1 k_X10_alike Q 0 [some (vR 10 0), some (vI a1)] [] v) : z_C (d + 1) m_X10_alike [vR 10 0, vI a1] v Q := h
set_option maxRecDepth 100000 in
theorem E_X10_alikes {d : Nat} {Q : z_RT} {v : z_V} (h : z_Wp (z_C d) 2 k_X10_alikes Q 0 [some (vR 10 0)] [] v) : z_C (d + 1) m_X10_alikes [vR 10 0] v Q := h
set_option maxRecDepth 100000 in
theorem E_X10_unlike {d : Nat} {Q : z_RT} {v : z_V} {a1 : Int32} (h : z_Wp (z_C d) 1 k_X10_unlike Q 0 [some (vR 10 0), some (vI a1)] [] v) : z_C (d + 1) m_X10_unlike [vR 10 0, vI a1] v Q := h
set_option maxRecDepth 100000 in
theorem E_X10_band {d : Nat} {Q : z_RT} {v : z_V} {a1 : Int32} (h : z_Wp (z_C d) 1 k_X10_band Q 0 [some (vR 10 0), some (vI a1)] [] v) : z_C (d + 1) m_X10_band [vR 10 0, vI a1] v Q := h
set_option maxRecDepth 100000 in
theorem E_X10_total {d : Nat} {Q : z_RT} {v : z_V} (h : z_Wp (z_C d) 1 k_X10_total Q 0 [some (vR 10 0)] [] v) : z_C (d + 1) m_X10_total [vR 10 0] v Q := h
set_option maxRecDepth 100000 in
theorem E_X10_mend {d : Nat} {Q : z_RT} {v : z_V} (h : z_Wp (z_C d) 1 k_X10_mend Q 0 [some (vR 10 0)] [] v) : z_C (d + 1) m_X10_mend [vR 10 0] v Q := h
set_option maxRecDepth 100000 in
theorem E_X10_names {d : Nat} {Q : z_RT} {v : z_V} (h : z_Wp (z_C d) 1 k_X10_names Q 0 [some (vR 10 0)] [] v) : z_C (d + 1) m_X10_names [vR 10 0] v Q := h
set_option maxRecDepth 100000 in
theorem E_X10_parts {d : Nat} {Q : z_RT} {v : z_V} (h : z_Wp (z_C d) 1 k_X10_parts Q 0 [some (vR 10 0)] [] v) : z_C (d + 1) m_X10_parts [vR 10 0] v Q := h
set_option maxRecDepth 100000 in
theorem E_X10_cuts {d : Nat} {Q : z_RT} {v : z_V} (h : z_Wp (z_C d) 1 k_X10_cuts Q 0 [some (vR 10 0)] [] v) : z_C (d + 1) m_X10_cuts [vR 10 0] v Q := h
set_option maxRecDepth 100000 in
theorem E_X10_game {d : Nat} {Q : z_RT} {v : z_V} {a1 : Int32} (h : z_Wp (z_C d) 1 k_X10_game Q 0 [some (vR 10 0), some (vI a1)] [] v) : z_C (d + 1) m_X10_game [vR 10 0, vI a1] v Q := h
set_option maxRecDepth 100000 in
theorem E_X10_mark {d : Nat} {Q : z_RT} {v : z_V} {a1 : Int32} (h : z_Wp (z_C d) 1 k_X10_mark Q 0 [some (vR 10 0), some (vI a1)] [] v) : z_C (d + 1) m_X10_mark [vR 10 0, vI a1] v Q := h
set_option maxRecDepth 100000 in
theorem E_X10_ride {d : Nat} {Q : z_RT} {v : z_V} {a1 : Int32} {a2 : Int32} (h : z_Wp (z_C d) 1 k_X10_ride Q 0 [some (vR 10 0), some (vI a1), some (vI a2)] [] v) : z_C (d + 1) m_X10_ride [vR 10 0, vI a1, vI a2] v Q := h
set_option maxRecDepth 100000 in
theorem E_X10_change {d : Nat} {Q : z_RT} {v : z_V} {a1 : Int32} {a2 : Int32} {a3 : Int32} (h : z_Wp (z_C d) 1 k_X10_change Q 0 [some (vR 10 0), some (vI a1), some (vI a2), some (vI a3)] [] v) : z_C (d + 1) m_X10_change [vR 10 0, vI a1, vI a2, vI a3] v Q := h
set_option maxRecDepth 100000 in
theorem E_X10_said {d : Nat} {Q : z_RT} {v : z_V} {a1 : Int32} {a2 : Int32} (h : z_Wp (z_C d) 1 k_X10_said Q 0 [some (vR 10 0), some (vI a1), some (vI a2)] [] v) : z_C (d + 1) m_X10_said [vR 10 0, vI a1, vI a2] v Q := h
set_option maxRecDepth 100000 in
theorem E_X10_whose {d : Nat} {Q : z_RT} {v : z_V} (h : z_Wp (z_C d) 1 k_X10_whose Q 0 [some (vR 10 0), none, none] [] v) : z_C (d + 1) m_X10_whose [vR 10 0] v Q := h
set_option maxRecDepth 100000 in
theorem E_X10_dearest {d : Nat} {Q : z_RT} {v : z_V} (h : z_Wp (z_C d) 1 k_X10_dearest Q 0 [some (vR 10 0), none, none, none] [] v) : z_C (d + 1) m_X10_dearest [vR 10 0] v Q := h
set_option maxRecDepth 100000 in
theorem E_X10_highest {d : Nat} {Q : z_RT} {v : z_V} (h : z_Wp (z_C d) 1 k_X10_highest Q 0 [some (vR 10 0), none, none] [] v) : z_C (d + 1) m_X10_highest [vR 10 0] v Q := h
set_option maxRecDepth 100000 in
theorem E_X10_ledger {d : Nat} {Q : z_RT} {v : z_V} {a1 : Int32} (h : z_Wp (z_C d) 1 k_X10_ledger Q 0 [some (vR 10 0), some (vI a1), none, none] [] v) : z_C (d + 1) m_X10_ledger [vR 10 0, vI a1] v Q := h
set_option maxRecDepth 100000 in
theorem E_X10_image {d : Nat} {Q : z_RT} {v : z_V} (h : z_Wp (z_C d) 1 k_X10_image Q 0 [some (vR 10 0)] [] v) : z_C (d + 1) m_X10_image [vR 10 0] v Q := h
set_option maxRecDepth 100000 in
theorem E_X10_back {d : Nat} {Q : z_RT} {v : z_V} (h : z_Wp (z_C d) 1 k_X10_back Q 0 [some (vR 10 0)] [] v) : z_C (d + 1) m_X10_back [vR 10 0] v Q := h
set_option maxRecDepth 100000 in
theorem E_X10_about {d : Nat} {Q : z_RT} {v : z_V} {a1 : Int32} (h : z_Wp (z_C d) 1 k_X10_about Q 0 [some (vR 10 0), some (vI a1)] [] v) : z_C (d + 1) m_X10_about [vR 10 0, vI a1] v Q := h
set_option maxRecDepth 100000 in
theorem E_X11_copy_a {d : Nat} {Q : z_RT} {v : z_V} (h : z_Wp (z_C d) 0 k_X11_copy Q 0 [some (vR 1200 0), some (vR 1201 0), none] [] v) : z_C (d + 1) m_X11_copy [vR 1200 0, vR 1201 0] v Q := h
set_option maxRecDepth 100000 in
theorem E_X11_copy_b {d : Nat} {Q : z_RT} {v : z_V} (h : z_Wp (z_C d) 0 k_X11_copy Q 0 [some (vR 1201 0), some (vR 1200 0), none] [] v) : z_C (d + 1) m_X11_copy [vR 1201 0, vR 1200 0] v Q := h
set_option maxRecDepth 100000 in
theorem E_X11_isIn {d : Nat} {Q : z_RT} {v : z_V} {a0 : Int32} {a1 : Int32} {a2 : Int32} (h : z_Wp (z_C d) 4 k_X11_isIn Q 0 [some (vI a0), some (vI a1), some (vI a2)] [] v) : z_C (d + 1) m_X11_isIn [vI a0, vI a1, vI a2] v Q := h
set_option maxRecDepth 100000 in
theorem E_X11_held {d : Nat} {Q : z_RT} {v : z_V} {a0 : Int64} {a1 : Int32} {a2 : Int32} (h : z_Wp (z_C d) 1 k_X11_held Q 0 [some (vL a0), none, some (vI a1), some (vI a2)] [] v) : z_C (d + 1) m_X11_held [vL a0, vI a1, vI a2] v Q := h
set_option maxRecDepth 100000 in
theorem E_X11_has {d : Nat} {Q : z_RT} {v : z_V} {a0 : Int32} {a1 : Int32} (h : z_Wp (z_C d) 4 k_X11_has Q 0 [some (vI a0), some (vI a1)] [] v) : z_C (d + 1) m_X11_has [vI a0, vI a1] v Q := h
set_option maxRecDepth 100000 in
theorem E_X11_bits {d : Nat} {Q : z_RT} {v : z_V} {a0 : Int32} (h : z_Wp (z_C d) 1 k_X11_bits Q 0 [some (vI a0), none, none] [] v) : z_C (d + 1) m_X11_bits [vI a0] v Q := h
set_option maxRecDepth 100000 in
theorem E_X11_apartBy {d : Nat} {Q : z_RT} {v : z_V} {a0 : Int32} {a1 : Int32} (h : z_Wp (z_C d) 1 k_X11_apartBy Q 0 [some (vI a0), some (vI a1)] [] v) : z_C (d + 1) m_X11_apartBy [vI a0, vI a1] v Q := h
set_option maxRecDepth 100000 in
theorem E_X11_isLine {d : Nat} {Q : z_RT} {v : z_V} {a1 : Int32} (h : z_Wp (z_C d) 4 k_X11_isLine Q 0 [some (vR 11 0), some (vI a1)] [] v) : z_C (d + 1) m_X11_isLine [vR 11 0, vI a1] v Q := h
set_option maxRecDepth 100000 in
theorem E_X11_isHalt {d : Nat} {Q : z_RT} {v : z_V} {a0 : Int32} (h : z_Wp (z_C d) 4 k_X11_isHalt Q 0 [some (vI a0)] [] v) : z_C (d + 1) m_X11_isHalt [vI a0] v Q := h
set_option maxRecDepth 100000 in
theorem E_X11_isOpen {d : Nat} {Q : z_RT} {v : z_V} {a1 : Int32} (h : z_Wp (z_C d) 4 k_X11_isOpen Q 0 [some (vR 11 0), some (vI a1)] [] v) : z_C (d + 1) m_X11_isOpen [vR 11 0, vI a1] v Q := h
set_option maxRecDepth 100000 in
theorem E_X11_one {d : Nat} {Q : z_RT} {v : z_V} {a1 : Int32} (h : z_Wp (z_C d) 1 k_X11_one Q 0 [some (vR 11 0), some (vI a1)] [] v) : z_C (d + 1) m_X11_one [vR 11 0, vI a1] v Q := h
set_option maxRecDepth 100000 in
theorem E_X11_other {d : Nat} {Q : z_RT} {v : z_V} {a1 : Int32} (h : z_Wp (z_C d) 1 k_X11_other Q 0 [some (vR 11 0), some (vI a1)] [] v) : z_C (d + 1) m_X11_other [vR 11 0, vI a1] v Q := h
set_option maxRecDepth 100000 in
theorem E_X11_isOn {d : Nat} {Q : z_RT} {v : z_V} {a1 : Int32} {a2 : Int32} (h : z_Wp (z_C d) 4 k_X11_isOn Q 0 [some (vR 11 0), some (vI a1), some (vI a2)] [] v) : z_C (d + 1) m_X11_isOn [vR 11 0, vI a1, vI a2] v Q := h
set_option maxRecDepth 100000 in
theorem E_X11_fareOf {d : Nat} {Q : z_RT} {v : z_V} {a1 : Int32} (h : z_Wp (z_C d) 1 k_X11_fareOf Q 0 [some (vR 11 0), some (vI a1)] [] v) : z_C (d + 1) m_X11_fareOf [vR 11 0, vI a1] v Q := h
set_option maxRecDepth 100000 in
theorem E_X11_openMany {d : Nat} {Q : z_RT} {v : z_V} (h : z_Wp (z_C d) 1 k_X11_openMany Q 0 [some (vR 11 0)] [] v) : z_C (d + 1) m_X11_openMany [vR 11 0] v Q := h
set_option maxRecDepth 100000 in
theorem E_X11_besideOf {d : Nat} {Q : z_RT} {v : z_V} {a1 : Int32} (h : z_Wp (z_C d) 1 k_X11_besideOf Q 0 [some (vR 11 0), some (vI a1), none, none] [] v) : z_C (d + 1) m_X11_besideOf [vR 11 0, vI a1] v Q := h
set_option maxRecDepth 100000 in
theorem E_X11_areBeside {d : Nat} {Q : z_RT} {v : z_V} {a1 : Int32} {a2 : Int32} (h : z_Wp (z_C d) 4 k_X11_areBeside Q 0 [some (vR 11 0), some (vI a1), some (vI a2)] [] v) : z_C (d + 1) m_X11_areBeside [vR 11 0, vI a1, vI a2] v Q := h
set_option maxRecDepth 100000 in
theorem E_X11_lay {d : Nat} {Q : z_RT} {v : z_V} {a1 : Int32} {a2 : Int32} (h : z_Wp (z_C d) 1 k_X11_lay Q 0 [some (vR 11 0), some (vI a1), some (vI a2), none] [] v) : z_C (d + 1) m_X11_lay [vR 11 0, vI a1, vI a2] v Q := h
set_option maxRecDepth 100000 in
theorem E_X11_four {d : Nat} {Q : z_RT} {v : z_V} {a1 : Int32} (h : z_Wp (z_C d) 0 k_X11_four Q 0 [some (vR 11 0), some (vI a1), none] [] v) : z_C (d + 1) m_X11_four [vR 11 0, vI a1] v Q := h
set_option maxRecDepth 100000 in
theorem E_X11_feed {d : Nat} {Q : z_RT} {v : z_V} {a1 : Int32} {a2 : Int32} {a3 : Int32} {a4 : Int32} {a5 : Int32} (h : z_Wp (z_C d) 1 k_X11_feed Q 0 [some (vR 11 0), some (vI a1), some (vI a2), some (vI a3), some (vI a4), some (vI a5)] [] v) : z_C (d + 1) m_X11_feed [vR 11 0, vI a1, vI a2, vI a3, vI a4, vI a5] v Q := h
set_option maxRecDepth 100000 in
theorem E_X11_end {d : Nat} {Q : z_RT} {v : z_V} {a1 : Int32} (h : z_Wp (z_C d) 1 k_X11_end Q 0 [some (vR 11 0), some (vI a1)] [] v) : z_C (d + 1) m_X11_end [vR 11 0, vI a1] v Q := h
set_option maxRecDepth 100000 in
theorem E_X11_byteAt {d : Nat} {Q : z_RT} {v : z_V} {a1 : Int32} (h : z_Wp (z_C d) 1 k_X11_byteAt Q 0 [some (vR 11 0), some (vI a1)] [] v) : z_C (d + 1) m_X11_byteAt [vR 11 0, vI a1] v Q := h
set_option maxRecDepth 100000 in
theorem E_X11_isLetterByte {d : Nat} {Q : z_RT} {v : z_V} {a0 : Int32} (h : z_Wp (z_C d) 4 k_X11_isLetterByte Q 0 [some (vI a0)] [] v) : z_C (d + 1) m_X11_isLetterByte [vI a0] v Q := h
set_option maxRecDepth 100000 in
theorem E_X11_isFigure {d : Nat} {Q : z_RT} {v : z_V} {a0 : Int32} (h : z_Wp (z_C d) 4 k_X11_isFigure Q 0 [some (vI a0)] [] v) : z_C (d + 1) m_X11_isFigure [vI a0] v Q := h
set_option maxRecDepth 100000 in
theorem E_X11_isSign {d : Nat} {Q : z_RT} {v : z_V} {a0 : Int32} (h : z_Wp (z_C d) 4 k_X11_isSign Q 0 [some (vI a0)] [] v) : z_C (d + 1) m_X11_isSign [vI a0] v Q := h
set_option maxRecDepth 100000 in
theorem E_X11_nextToken {d : Nat} {Q : z_RT} {v : z_V} (h : z_Wp (z_C d) 0 k_X11_nextToken Q 0 [some (vR 11 0), none] [] v) : z_C (d + 1) m_X11_nextToken [vR 11 0] v Q := h
set_option maxRecDepth 100000 in
theorem E_X11_w2 {d : Nat} {Q : z_RT} {v : z_V} {a0 : Int32} {a1 : Int32} (h : z_Wp (z_C d) 2 k_X11_w2 Q 0 [some (vI a0), some (vI a1)] [] v) : z_C (d + 1) m_X11_w2 [vI a0, vI a1] v Q := h
set_option maxRecDepth 100000 in
theorem E_X11_w3 {d : Nat} {Q : z_RT} {v : z_V} {a0 : Int32} {a1 : Int32} {a2 : Int32} (h : z_Wp (z_C d) 2 k_X11_w3 Q 0 [some (vI a0), some (vI a1), some (vI a2)] [] v) : z_C (d + 1) m_X11_w3 [vI a0, vI a1, vI a2] v Q := h
set_option maxRecDepth 100000 in
theorem E_X11_w4 {d : Nat} {Q : z_RT} {v : z_V} {a0 : Int32} {a1 : Int32} {a2 : Int32} {a3 : Int32} (h : z_Wp (z_C d) 2 k_X11_w4 Q 0 [some (vI a0), some (vI a1), some (vI a2), some (vI a3)] [] v) : z_C (d + 1) m_X11_w4 [vI a0, vI a1, vI a2, vI a3] v Q := h
set_option maxRecDepth 100000 in
theorem E_X11_w5 {d : Nat} {Q : z_RT} {v : z_V} {a0 : Int32} {a1 : Int32} {a2 : Int32} {a3 : Int32} {a4 : Int32} (h : z_Wp (z_C d) 2 k_X11_w5 Q 0 [some (vI a0), some (vI a1), some (vI a2), some (vI a3), some (vI a4)] [] v) : z_C (d + 1) m_X11_w5 [vI a0, vI a1, vI a2, vI a3, vI a4] v Q := h
set_option maxRecDepth 100000 in
theorem E_X11_w6 {d : Nat} {Q : z_RT} {v : z_V} {a0 : Int32} {a1 : Int32} {a2 : Int32} {a3 : Int32} {a4 : Int32} {a5 : Int32} (h : z_Wp (z_C d) 2 k_X11_w6 Q 0 [some (vI a0), some (vI a1), some (vI a2), some (vI a3), some (vI a4), some (vI a5)] [] v) : z_C (d + 1) m_X11_w6 [vI a0, vI a1, vI a2, vI a3, vI a4, vI a5] v Q := h
set_option maxRecDepth 100000 in
theorem E_X11_isWord {d : Nat} {Q : z_RT} {v : z_V} {a1 : Int64} (h : z_Wp (z_C d) 4 k_X11_isWord Q 0 [some (vR 11 0), some (vL a1), none] [] v) : z_C (d + 1) m_X11_isWord [vR 11 0, vL a1] v Q := h
set_option maxRecDepth 100000 in
theorem E_X11_emit {d : Nat} {Q : z_RT} {v : z_V} {a1 : Int32} {a2 : Int32} (h : z_Wp (z_C d) 0 k_X11_emit Q 0 [some (vR 11 0), some (vI a1), some (vI a2)] [] v) : z_C (d + 1) m_X11_emit [vR 11 0, vI a1, vI a2] v Q := h
set_option maxRecDepth 100000 in
theorem E_X11_nameOf {d : Nat} {Q : z_RT} {v : z_V} (h : z_Wp (z_C d) 1 k_X11_nameOf Q 0 [some (vR 11 0)] [] v) : z_C (d + 1) m_X11_nameOf [vR 11 0] v Q := h
set_option maxRecDepth 100000 in
theorem E_X11_isOf {d : Nat} {Q : z_RT} {v : z_V} {a1 : Int32} (h : z_Wp (z_C d) 4 k_X11_isOf Q 0 [some (vR 11 0), some (vI a1)] [] v) : z_C (d + 1) m_X11_isOf [vR 11 0, vI a1] v Q := h
set_option maxRecDepth 100000 in
theorem E_X11_rank {d : Nat} {Q : z_RT} {v : z_V} {a0 : Int32} (h : z_Wp (z_C d) 1 k_X11_rank Q 0 [some (vI a0)] [] v) : z_C (d + 1) m_X11_rank [vI a0] v Q := h
set_option maxRecDepth 100000 in
theorem E_X11_settle {d : Nat} {Q : z_RT} {v : z_V} {a1 : Int32} (h : z_Wp (z_C d) 0 k_X11_settle Q 0 [some (vR 11 0), some (vI a1)] [] v) : z_C (d + 1) m_X11_settle [vR 11 0, vI a1] v Q := h
set_option maxRecDepth 100000 in
theorem E_X11_openAt {d : Nat} {Q : z_RT} {v : z_V} (h : z_Wp (z_C d) 1 k_X11_openAt Q 0 [some (vR 11 0), none] [] v) : z_C (d + 1) m_X11_openAt [vR 11 0] v Q := h
set_option maxRecDepth 100000 in
theorem E_X11_openNow {d : Nat} {Q : z_RT} {v : z_V} (h : z_Wp (z_C d) 1 k_X11_openNow Q 0 [some (vR 11 0)] [] v) : z_C (d + 1) m_X11_openNow [vR 11 0] v Q := h
set_option maxRecDepth 100000 in
theorem E_X11_isCompared {d : Nat} {Q : z_RT} {v : z_V} (h : z_Wp (z_C d) 4 k_X11_isCompared Q 0 [some (vR 11 0), none] [] v) : z_C (d + 1) m_X11_isCompared [vR 11 0] v Q := h
set_option maxRecDepth 100000 in
theorem E_X11_isAskAhead {d : Nat} {Q : z_RT} {v : z_V} (h : z_Wp (z_C d) 4 k_X11_isAskAhead Q 0 [some (vR 11 0)] [] v) : z_C (d + 1) m_X11_isAskAhead [vR 11 0] v Q := h
set_option maxRecDepth 100000 in
theorem E_X11_opened {d : Nat} {Q : z_RT} {v : z_V} {a1 : Int32} (h : z_Wp (z_C d) 1 k_X11_opened Q 0 [some (vR 11 0), some (vI a1)] [] v) : z_C (d + 1) m_X11_opened [vR 11 0, vI a1] v Q := h
set_option maxRecDepth 100000 in
theorem E_X11_beginOne {d : Nat} {Q : z_RT} {v : z_V} (h : z_Wp (z_C d) 1 k_X11_beginOne Q 0 [some (vR 11 0), none] [] v) : z_C (d + 1) m_X11_beginOne [vR 11 0] v Q := h
set_option maxRecDepth 100000 in
theorem E_X11_compareOf {d : Nat} {Q : z_RT} {v : z_V} (h : z_Wp (z_C d) 1 k_X11_compareOf Q 0 [some (vR 11 0)] [] v) : z_C (d + 1) m_X11_compareOf [vR 11 0] v Q := h
set_option maxRecDepth 100000 in
theorem E_X11_betweenOf {d : Nat} {Q : z_RT} {v : z_V} (h : z_Wp (z_C d) 1 k_X11_betweenOf Q 0 [some (vR 11 0)] [] v) : z_C (d + 1) m_X11_betweenOf [vR 11 0] v Q := h
set_option maxRecDepth 100000 in
theorem E_X11_partOf {d : Nat} {Q : z_RT} {v : z_V} {a1 : Int32} (h : z_Wp (z_C d) 1 k_X11_partOf Q 0 [some (vR 11 0), some (vI a1)] [] v) : z_C (d + 1) m_X11_partOf [vR 11 0, vI a1] v Q := h
set_option maxRecDepth 100000 in
theorem E_X11_behindOne {d : Nat} {Q : z_RT} {v : z_V} (h : z_Wp (z_C d) 4 k_X11_behindOne Q 0 [some (vR 11 0), none, none, none] [] v) : z_C (d + 1) m_X11_behindOne [vR 11 0] v Q := h
set_option maxRecDepth 100000 in
theorem E_X11_summed {d : Nat} {Q : z_RT} {v : z_V} (h : z_Wp (z_C d) 1 k_X11_summed Q 0 [some (vR 11 0), none] [] v) : z_C (d + 1) m_X11_summed [vR 11 0] v Q := h
set_option maxRecDepth 100000 in
theorem E_X11_figure {d : Nat} {Q : z_RT} {v : z_V} {a1 : Int32} {a2 : Int32} {a3 : Int32} (h : z_Wp (z_C d) 1 k_X11_figure Q 0 [some (vR 11 0), some (vI a1), some (vI a2), some (vI a3)] [] v) : z_C (d + 1) m_X11_figure [vR 11 0, vI a1, vI a2, vI a3] v Q := h
set_option maxRecDepth 100000 in
theorem E_X11_lawClause {d : Nat} {Q : z_RT} {v : z_V} {a1 : Int32} (h : z_Wp (z_C d) 1 k_X11_lawClause Q 0 [some (vR 11 0), some (vI a1), none] [] v) : z_C (d + 1) m_X11_lawClause [vR 11 0, vI a1] v Q := h
set_option maxRecDepth 100000 in
theorem E_X11_pair {d : Nat} {Q : z_RT} {v : z_V} {a1 : Int32} {a2 : Int32} {a3 : Int64} (h : z_Wp (z_C d) 1 k_X11_pair Q 0 [some (vR 11 0), some (vI a1), some (vI a2), some (vL a3), none, none] [] v) : z_C (d + 1) m_X11_pair [vR 11 0, vI a1, vI a2, vL a3] v Q := h
set_option maxRecDepth 100000 in
theorem E_X11_body {d : Nat} {Q : z_RT} {v : z_V} {a1 : Int32} {a2 : Int32} (h : z_Wp (z_C d) 1 k_X11_body Q 0 [some (vR 11 0), some (vI a1), some (vI a2)] [] v) : z_C (d + 1) m_X11_body [vR 11 0, vI a1, vI a2] v Q := h
set_option maxRecDepth 100000 in
theorem E_X11_sortOf {d : Nat} {Q : z_RT} {v : z_V} (h : z_Wp (z_C d) 1 k_X11_sortOf Q 0 [some (vR 11 0)] [] v) : z_C (d + 1) m_X11_sortOf [vR 11 0] v Q := h
set_option maxRecDepth 100000 in
theorem E_X11_clause {d : Nat} {Q : z_RT} {v : z_V} (h : z_Wp (z_C d) 1 k_X11_clause Q 0 [some (vR 11 0), none, none, none, none] [] v) : z_C (d + 1) m_X11_clause [vR 11 0] v Q := h
set_option maxRecDepth 100000 in
theorem E_X11_readText {d : Nat} {Q : z_RT} {v : z_V} (h : z_Wp (z_C d) 1 k_X11_readText Q 0 [some (vR 11 0), none] [] v) : z_C (d + 1) m_X11_readText [vR 11 0] v Q := h
set_option maxRecDepth 100000 in
theorem E_X11_text {d : Nat} {Q : z_RT} {v : z_V} (h : z_Wp (z_C d) 1 k_X11_text Q 0 [some (vR 11 0)] [] v) : z_C (d + 1) m_X11_text [vR 11 0] v Q := h
set_option maxRecDepth 100000 in
theorem E_X11_fault {d : Nat} {Q : z_RT} {v : z_V} {a1 : Int32} (h : z_Wp (z_C d) 1 k_X11_fault Q 0 [some (vR 11 0), some (vI a1)] [] v) : z_C (d + 1) m_X11_fault [vR 11 0, vI a1] v Q := h
set_option maxRecDepth 100000 in
theorem E_X11_by {d : Nat} {Q : z_RT} {v : z_V} {a1 : Int32} (h : z_Wp (z_C d) 4 k_X11_by Q 0 [some (vR 11 0), some (vI a1)] [] v) : z_C (d + 1) m_X11_by [vR 11 0, vI a1] v Q := h
set_option maxRecDepth 100000 in
theorem E_X11_clip {d : Nat} {Q : z_RT} {v : z_V} {a0 : Int64} (h : z_Wp (z_C d) 2 k_X11_clip Q 0 [some (vL a0), none] [] v) : z_C (d + 1) m_X11_clip [vL a0] v Q := h
set_option maxRecDepth 100000 in
theorem E_X11_two {d : Nat} {Q : z_RT} {v : z_V} {a0 : Int32} {a1 : Int64} {a2 : Int64} (h : z_Wp (z_C d) 2 k_X11_two Q 0 [some (vI a0), some (vL a1), none, some (vL a2), none] [] v) : z_C (d + 1) m_X11_two [vI a0, vL a1, vL a2] v Q := h
set_option maxRecDepth 100000 in
theorem E_X11_isAsked {d : Nat} {Q : z_RT} {v : z_V} {a0 : Int32} {a1 : Int64} {a2 : Int64} (h : z_Wp (z_C d) 4 k_X11_isAsked Q 0 [some (vI a0), some (vL a1), none, some (vL a2), none] [] v) : z_C (d + 1) m_X11_isAsked [vI a0, vL a1, vL a2] v Q := h
set_option maxRecDepth 100000 in
theorem E_X11_ofOne {d : Nat} {Q : z_RT} {v : z_V} {a1 : Int32} {a2 : Int64} (h : z_Wp (z_C d) 2 k_X11_ofOne Q 0 [some (vR 11 0), some (vI a1), some (vL a2), none] [] v) : z_C (d + 1) m_X11_ofOne [vR 11 0, vI a1, vL a2] v Q := h
set_option maxRecDepth 100000 in
theorem E_X11_joined {d : Nat} {Q : z_RT} {v : z_V} {a0 : Int32} {a1 : Int32} {a2 : Int32} (h : z_Wp (z_C d) 4 k_X11_joined Q 0 [some (vI a0), some (vI a1), some (vI a2)] [] v) : z_C (d + 1) m_X11_joined [vI a0, vI a1, vI a2] v Q := h
set_option maxRecDepth 100000 in
theorem E_X11_summedUp {d : Nat} {Q : z_RT} {v : z_V} {a1 : Int32} {a2 : Int32} (h : z_Wp (z_C d) 2 k_X11_summedUp Q 0 [some (vR 11 0), some (vI a1), some (vI a2), none, none, none, none, none, none, none] [] v) : z_C (d + 1) m_X11_summedUp [vR 11 0, vI a1, vI a2] v Q := h
set_option maxRecDepth 100000 in
theorem E_X11_says {d : Nat} {Q : z_RT} {v : z_V} {a1 : Int32} {a2 : Int32} {a3 : Int32} {a4 : Int32} (h : z_Wp (z_C d) 1 k_X11_says Q 0 [some (vR 11 0), some (vI a1), some (vI a2), some (vI a3), some (vI a4), none] [] v) : z_C (d + 1) m_X11_says [vR 11 0, vI a1, vI a2, vI a3, vI a4] v Q := h
set_option maxRecDepth 100000 in
theorem E_X11_name {d : Nat} {Q : z_RT} {v : z_V} {a1 : Int32} (h : z_Wp (z_C d) 0 k_X11_name Q 0 [some (vR 11 0), some (vI a1)] [] v) : z_C (d + 1) m_X11_name [vR 11 0, vI a1] v Q := h
set_option maxRecDepth 100000 in
theorem E_X11_ridesOf {d : Nat} {Q : z_RT} {v : z_V} {a1 : Int32} {a2 : Int32} (h : z_Wp (z_C d) 1 k_X11_ridesOf Q 0 [some (vR 11 0), some (vI a1), some (vI a2), none, none] [] v) : z_C (d + 1) m_X11_ridesOf [vR 11 0, vI a1, vI a2] v Q := h
set_option maxRecDepth 100000 in
theorem E_X11_costsOf {d : Nat} {Q : z_RT} {v : z_V} {a1 : Int32} {a2 : Int32} (h : z_Wp (z_C d) 1 k_X11_costsOf Q 0 [some (vR 11 0), some (vI a1), some (vI a2)] [] v) : z_C (d + 1) m_X11_costsOf [vR 11 0, vI a1, vI a2] v Q := h
set_option maxRecDepth 100000 in
theorem E_X11_write {d : Nat} {Q : z_RT} {v : z_V} {a1 : Int32} {a2 : Int32} {a3 : Int32} (h : z_Wp (z_C d) 0 k_X11_write Q 0 [some (vR 11 0), some (vI a1), some (vI a2), some (vI a3), none] [] v) : z_C (d + 1) m_X11_write [vR 11 0, vI a1, vI a2, vI a3] v Q := h
set_option maxRecDepth 100000 in
theorem E_X11_drawnBy {d : Nat} {Q : z_RT} {v : z_V} {a1 : Int32} (h : z_Wp (z_C d) 1 k_X11_drawnBy Q 0 [some (vR 11 0), some (vI a1), none] [] v) : z_C (d + 1) m_X11_drawnBy [vR 11 0, vI a1] v Q := h
set_option maxRecDepth 100000 in
theorem E_X11_anew {d : Nat} {Q : z_RT} {v : z_V} (h : z_Wp (z_C d) 0 k_X11_anew Q 0 [some (vR 11 0)] [] v) : z_C (d + 1) m_X11_anew [vR 11 0] v Q := h
set_option maxRecDepth 100000 in
theorem E_X11_canPlate {d : Nat} {Q : z_RT} {v : z_V} {a1 : Int32} {a2 : Int32} (h : z_Wp (z_C d) 4 k_X11_canPlate Q 0 [some (vR 11 0), some (vI a1), some (vI a2)] [] v) : z_C (d + 1) m_X11_canPlate [vR 11 0, vI a1, vI a2] v Q := h
set_option maxRecDepth 100000 in
theorem E_X11_plateNow {d : Nat} {Q : z_RT} {v : z_V} {a1 : Int32} {a2 : Int32} (h : z_Wp (z_C d) 1 k_X11_plateNow Q 0 [some (vR 11 0), some (vI a1), some (vI a2), none] [] v) : z_C (d + 1) m_X11_plateNow [vR 11 0, vI a1, vI a2] v Q := h
set_option maxRecDepth 100000 in
theorem E_X11_turnNow {d : Nat} {Q : z_RT} {v : z_V} {a1 : Int32} (h : z_Wp (z_C d) 0 k_X11_turnNow Q 0 [some (vR 11 0), some (vI a1)] [] v) : z_C (d + 1) m_X11_turnNow [vR 11 0, vI a1] v Q := h
set_option maxRecDepth 100000 in
theorem E_X11_canGrant {d : Nat} {Q : z_RT} {v : z_V} {a1 : Int32} (h : z_Wp (z_C d) 4 k_X11_canGrant Q 0 [some (vR 11 0), some (vI a1)] [] v) : z_C (d + 1) m_X11_canGrant [vR 11 0, vI a1] v Q := h
set_option maxRecDepth 100000 in
theorem E_X11_pass {d : Nat} {Q : z_RT} {v : z_V} (h : z_Wp (z_C d) 0 k_X11_pass Q 0 [some (vR 11 0), none] [] v) : z_C (d + 1) m_X11_pass [vR 11 0] v Q := h
set_option maxRecDepth 100000 in
theorem E_X11_keep {d : Nat} {Q : z_RT} {v : z_V} (h : z_Wp (z_C d) 0 k_X11_keep Q 0 [some (vR 11 0), none, none] [] v) : z_C (d + 1) m_X11_keep [vR 11 0] v Q := h
set_option maxRecDepth 100000 in
theorem E_X11_undo {d : Nat} {Q : z_RT} {v : z_V} (h : z_Wp (z_C d) 1 k_X11_undo Q 0 [some (vR 11 0), none, none] [] v) : z_C (d + 1) m_X11_undo [vR 11 0] v Q := h
set_option maxRecDepth 100000 in
theorem E_X11_plate {d : Nat} {Q : z_RT} {v : z_V} {a1 : Int32} {a2 : Int32} (h : z_Wp (z_C d) 1 k_X11_plate Q 0 [some (vR 11 0), some (vI a1), some (vI a2)] [] v) : z_C (d + 1) m_X11_plate [vR 11 0, vI a1, vI a2] v Q := h
set_option maxRecDepth 100000 in
theorem E_X11_turn {d : Nat} {Q : z_RT} {v : z_V} {a1 : Int32} (h : z_Wp (z_C d) 4 k_X11_turn Q 0 [some (vR 11 0), some (vI a1)] [] v) : z_C (d + 1) m_X11_turn [vR 11 0, vI a1] v Q := h
set_option maxRecDepth 100000 in
theorem E_X11_grant {d : Nat} {Q : z_RT} {v : z_V} {a1 : Int32} (h : z_Wp (z_C d) 4 k_X11_grant Q 0 [some (vR 11 0), some (vI a1)] [] v) : z_C (d + 1) m_X11_grant [vR 11 0, vI a1] v Q := h
set_option maxRecDepth 100000 in
theorem E_X11_arePassed {d : Nat} {Q : z_RT} {v : z_V} {a1 : Int32} (h : z_Wp (z_C d) 4 k_X11_arePassed Q 0 [some (vR 11 0), some (vI a1), none] [] v) : z_C (d + 1) m_X11_arePassed [vR 11 0, vI a1] v Q := h
set_option maxRecDepth 100000 in
theorem E_X11_day {d : Nat} {Q : z_RT} {v : z_V} {a1 : Int32} (h : z_Wp (z_C d) 1 k_X11_day Q 0 [some (vR 11 0), some (vI a1)] [] v) : z_C (d + 1) m_X11_day [vR 11 0, vI a1] v Q := h
set_option maxRecDepth 100000 in
theorem E_X11_isPlayed {d : Nat} {Q : z_RT} {v : z_V} {a1 : Int32} (h : z_Wp (z_C d) 4 k_X11_isPlayed Q 0 [some (vR 11 0), some (vI a1), none, none] [] v) : z_C (d + 1) m_X11_isPlayed [vR 11 0, vI a1] v Q := h
set_option maxRecDepth 100000 in
theorem E_X11_played {d : Nat} {Q : z_RT} {v : z_V} {a1 : Int32} (h : z_Wp (z_C d) 1 k_X11_played Q 0 [some (vR 11 0), some (vI a1), none] [] v) : z_C (d + 1) m_X11_played [vR 11 0, vI a1] v Q := h
set_option maxRecDepth 100000 in
theorem E_X11_happens {d : Nat} {Q : z_RT} {v : z_V} {a1 : Int32} (h : z_Wp (z_C d) 0 k_X11_happens Q 0 [some (vR 11 0), some (vI a1), none, none, none] [] v) : z_C (d + 1) m_X11_happens [vR 11 0, vI a1] v Q := h
set_option maxRecDepth 100000 in
theorem E_X11_years {d : Nat} {Q : z_RT} {v : z_V} {a1 : Int32} {a2 : Int32} (h : z_Wp (z_C d) 1 k_X11_years Q 0 [some (vR 11 0), some (vI a1), some (vI a2), none, none] [] v) : z_C (d + 1) m_X11_years [vR 11 0, vI a1, vI a2] v Q := h
set_option maxRecDepth 100000 in
theorem E_X11_of {d : Nat} {Q : z_RT} {v : z_V} {a1 : Int32} {a2 : Int32} (h : z_Wp (z_C d) 1 k_X11_of Q 0 [some (vR 11 0), some (vI a1), some (vI a2)] [] v) : z_C (d + 1) m_X11_of [vR 11 0, vI a1, vI a2] v Q := h
set_option maxRecDepth 100000 in
theorem E_X11_ofHalt {d : Nat} {Q : z_RT} {v : z_V} {a1 : Int32} {a2 : Int32} (h : z_Wp (z_C d) 1 k_X11_ofHalt Q 0 [some (vR 11 0), some (vI a1), some (vI a2)] [] v) : z_C (d + 1) m_X11_ofHalt [vR 11 0, vI a1, vI a2] v Q := h
set_option maxRecDepth 100000 in
theorem E_X11_costs {d : Nat} {Q : z_RT} {v : z_V} {a1 : Int32} {a2 : Int32} (h : z_Wp (z_C d) 1 k_X11_costs Q 0 [some (vR 11 0), some (vI a1), some (vI a2)] [] v) : z_C (d + 1) m_X11_costs [vR 11 0, vI a1, vI a2] v Q := h
set_option maxRecDepth 100000 in
theorem E_X11_is {d : Nat} {Q : z_RT} {v : z_V} {a1 : Int32} (h : z_Wp (z_C d) 1 k_X11_is Q 0 [some (vR 11 0), some (vI a1), none, none] [] v) : z_C (d + 1) m_X11_is [vR 11 0, vI a1] v Q := h
set_option maxRecDepth 100000 in
theorem E_X11_lineOf {d : Nat} {Q : z_RT} {v : z_V} {a1 : Int32} {a2 : Int32} (h : z_Wp (z_C d) 1 k_X11_lineOf Q 0 [some (vR 11 0), some (vI a1), some (vI a2), none] [] v) : z_C (d + 1) m_X11_lineOf [vR 11 0, vI a1, vI a2] v Q := h
set_option maxRecDepth 100000 in
theorem E_X11_book {d : Nat} {Q : z_RT} {v : z_V} {a1 : Int32} {a2 : Int32} (h : z_Wp (z_C d) 1 k_X11_book Q 0 [some (vR 11 0), some (vI a1), some (vI a2)] [] v) : z_C (d + 1) m_X11_book [vR 11 0, vI a1, vI a2] v Q := h
set_option maxRecDepth 100000 in
theorem E_X11_ledger {d : Nat} {Q : z_RT} {v : z_V} {a1 : Int32} (h : z_Wp (z_C d) 1 k_X11_ledger Q 0 [some (vR 11 0), some (vI a1), none, none] [] v) : z_C (d + 1) m_X11_ledger [vR 11 0, vI a1] v Q := h
set_option maxRecDepth 100000 in
theorem E_X11_dearest {d : Nat} {Q : z_RT} {v : z_V} (h : z_Wp (z_C d) 1 k_X11_dearest Q 0 [some (vR 11 0), none, none] [] v) : z_C (d + 1) m_X11_dearest [vR 11 0] v Q := h
set_option maxRecDepth 100000 in
theorem E_X11_highest {d : Nat} {Q : z_RT} {v : z_V} (h : z_Wp (z_C d) 1 k_X11_highest Q 0 [some (vR 11 0), none, none] [] v) : z_C (d + 1) m_X11_highest [vR 11 0] v Q := h
set_option maxRecDepth 100000 in
theorem E_X11_foretold {d : Nat} {Q : z_RT} {v : z_V} {a1 : Int32} (h : z_Wp (z_C d) 1 k_X11_foretold Q 0 [some (vR 11 0), some (vI a1), none, none] [] v) : z_C (d + 1) m_X11_foretold [vR 11 0, vI a1] v Q := h
set_option maxRecDepth 100000 in
theorem E_X11_twins {d : Nat} {Q : z_RT} {v : z_V} (h : z_Wp (z_C d) 1 k_X11_twins Q 0 [some (vR 11 0), none, none] [] v) : z_C (d + 1) m_X11_twins [vR 11 0] v Q := h
set_option maxRecDepth 100000 in
theorem E_X11_isFair {d : Nat} {Q : z_RT} {v : z_V} (h : z_Wp (z_C d) 4 k_X11_isFair Q 0 [some (vR 11 0), none] [] v) : z_C (d + 1) m_X11_isFair [vR 11 0] v Q := h
set_option maxRecDepth 100000 in
theorem E_X11_fair {d : Nat} {Q : z_RT} {v : z_V} (h : z_Wp (z_C d) 4 k_X11_fair Q 0 [some (vR 11 0)] [] v) : z_C (d + 1) m_X11_fair [vR 11 0] v Q := h
set_option maxRecDepth 100000 in
theorem E_X11_left {d : Nat} {Q : z_RT} {v : z_V} (h : z_Wp (z_C d) 1 k_X11_left Q 0 [some (vR 11 0), none, none] [] v) : z_C (d + 1) m_X11_left [vR 11 0] v Q := h
set_option maxRecDepth 100000 in
theorem E_X11_twin {d : Nat} {Q : z_RT} {v : z_V} {a1 : Int32} (h : z_Wp (z_C d) 1 k_X11_twin Q 0 [some (vR 11 0), some (vI a1), none] [] v) : z_C (d + 1) m_X11_twin [vR 11 0, vI a1] v Q := h
set_option maxRecDepth 100000 in
theorem E_X11_layWho {d : Nat} {Q : z_RT} {v : z_V} (h : z_Wp (z_C d) 0 k_X11_layWho Q 0 [some (vR 11 0), none] [] v) : z_C (d + 1) m_X11_layWho [vR 11 0] v Q := h
set_option maxRecDepth 100000 in
theorem E_X11_areUnlike {d : Nat} {Q : z_RT} {v : z_V} {a1 : Int32} (h : z_Wp (z_C d) 4 k_X11_areUnlike Q 0 [some (vR 11 0), some (vI a1), none, none, none] [] v) : z_C (d + 1) m_X11_areUnlike [vR 11 0, vI a1] v Q := h
set_option maxRecDepth 100000 in
theorem E_X11_isLaid {d : Nat} {Q : z_RT} {v : z_V} {a1 : Int32} {a2 : Int32} (h : z_Wp (z_C d) 4 k_X11_isLaid Q 0 [some (vR 11 0), some (vI a1), some (vI a2), none] [] v) : z_C (d + 1) m_X11_isLaid [vR 11 0, vI a1, vI a2] v Q := h
set_option maxRecDepth 100000 in
theorem E_X11_areOverTwo {d : Nat} {Q : z_RT} {v : z_V} {a1 : Int32} {a2 : Int32} (h : z_Wp (z_C d) 4 k_X11_areOverTwo Q 0 [some (vR 11 0), some (vI a1), some (vI a2)] [] v) : z_C (d + 1) m_X11_areOverTwo [vR 11 0, vI a1, vI a2] v Q := h
set_option maxRecDepth 100000 in
theorem E_X11_doFit {d : Nat} {Q : z_RT} {v : z_V} {a1 : Int32} {a2 : Int32} {a3 : Int32} (h : z_Wp (z_C d) 4 k_X11_doFit Q 0 [some (vR 11 0), some (vI a1), some (vI a2), some (vI a3), none] [] v) : z_C (d + 1) m_X11_doFit [vR 11 0, vI a1, vI a2, vI a3] v Q := h
set_option maxRecDepth 100000 in
theorem E_X11_canLabel {d : Nat} {Q : z_RT} {v : z_V} {a1 : Int32} {a2 : Int32} (h : z_Wp (z_C d) 4 k_X11_canLabel Q 0 [some (vR 11 0), some (vI a1), some (vI a2), none] [] v) : z_C (d + 1) m_X11_canLabel [vR 11 0, vI a1, vI a2] v Q := h
set_option maxRecDepth 100000 in
theorem E_X11_labelled {d : Nat} {Q : z_RT} {v : z_V} {a1 : Int32} {a2 : Int32} {a3 : Int32} (h : z_Wp (z_C d) 2 k_X11_labelled Q 0 [some (vR 11 0), some (vI a1), some (vI a2), some (vI a3), none, none, none] [] v) : z_C (d + 1) m_X11_labelled [vR 11 0, vI a1, vI a2, vI a3] v Q := h
set_option maxRecDepth 100000 in
theorem E_X11_whole {d : Nat} {Q : z_RT} {v : z_V} {a1 : Int32} (h : z_Wp (z_C d) 1 k_X11_whole Q 0 [some (vR 11 0), some (vI a1)] [] v) : z_C (d + 1) m_X11_whole [vR 11 0, vI a1] v Q := h
set_option maxRecDepth 100000 in
theorem E_X11_wholes {d : Nat} {Q : z_RT} {v : z_V} (h : z_Wp (z_C d) 2 k_X11_wholes Q 0 [some (vR 11 0)] [] v) : z_C (d + 1) m_X11_wholes [vR 11 0] v Q := h
set_option maxRecDepth 100000 in
theorem E_X11_span {d : Nat} {Q : z_RT} {v : z_V} {a1 : Int32} (h : z_Wp (z_C d) 1 k_X11_span Q 0 [some (vR 11 0), some (vI a1), none] [] v) : z_C (d + 1) m_X11_span [vR 11 0, vI a1] v Q := h
set_option maxRecDepth 100000 in
theorem E_X11_apart {d : Nat} {Q : z_RT} {v : z_V} {a1 : Int32} {a2 : Int32} {a3 : Int32} (h : z_Wp (z_C d) 1 k_X11_apart Q 0 [some (vR 11 0), some (vI a1), some (vI a2), some (vI a3), none] [] v) : z_C (d + 1) m_X11_apart [vR 11 0, vI a1, vI a2, vI a3] v Q := h
set_option maxRecDepth 100000 in
theorem E_X11_band {d : Nat} {Q : z_RT} {v : z_V} {a1 : Int32} (h : z_Wp (z_C d) 1 k_X11_band Q 0 [some (vR 11 0), some (vI a1), none] [] v) : z_C (d + 1) m_X11_band [vR 11 0, vI a1] v Q := h
set_option maxRecDepth 100000 in
theorem E_X11_labelSum {d : Nat} {Q : z_RT} {v : z_V} (h : z_Wp (z_C d) 1 k_X11_labelSum Q 0 [some (vR 11 0), none, none] [] v) : z_C (d + 1) m_X11_labelSum [vR 11 0] v Q := h
set_option maxRecDepth 100000 in
theorem E_X11_isUsed {d : Nat} {Q : z_RT} {v : z_V} {a1 : Int32} {a2 : Int32} (h : z_Wp (z_C d) 4 k_X11_isUsed Q 0 [some (vR 11 0), some (vI a1), some (vI a2), none] [] v) : z_C (d + 1) m_X11_isUsed [vR 11 0, vI a1, vI a2] v Q := h
set_option maxRecDepth 100000 in
theorem E_X11_total {d : Nat} {Q : z_RT} {v : z_V} (h : z_Wp (z_C d) 1 k_X11_total Q 0 [some (vR 11 0), none, none, none] [] v) : z_C (d + 1) m_X11_total [vR 11 0] v Q := h
set_option maxRecDepth 100000 in
theorem E_X11_layOpened {d : Nat} {Q : z_RT} {v : z_V} (h : z_Wp (z_C d) 0 k_X11_layOpened Q 0 [some (vR 11 0), none] [] v) : z_C (d + 1) m_X11_layOpened [vR 11 0] v Q := h
set_option maxRecDepth 100000 in
theorem E_X11_weightAt {d : Nat} {Q : z_RT} {v : z_V} {a1 : Int32} (h : z_Wp (z_C d) 1 k_X11_weightAt Q 0 [some (vR 11 0), some (vI a1), none, none] [] v) : z_C (d + 1) m_X11_weightAt [vR 11 0, vI a1] v Q := h
set_option maxRecDepth 100000 in
theorem E_X11_isDone {d : Nat} {Q : z_RT} {v : z_V} {a1 : Int32} {a2 : Int32} (h : z_Wp (z_C d) 4 k_X11_isDone Q 0 [some (vR 11 0), some (vI a1), some (vI a2), none] [] v) : z_C (d + 1) m_X11_isDone [vR 11 0, vI a1, vI a2] v Q := h
set_option maxRecDepth 100000 in
theorem E_X11_isWeighed {d : Nat} {Q : z_RT} {v : z_V} {a1 : Int32} (h : z_Wp (z_C d) 4 k_X11_isWeighed Q 0 [some (vR 11 0), some (vI a1), none] [] v) : z_C (d + 1) m_X11_isWeighed [vR 11 0, vI a1] v Q := h
set_option maxRecDepth 100000 in
theorem E_X11_areSums {d : Nat} {Q : z_RT} {v : z_V} {a1 : Int32} {a2 : Int32} (h : z_Wp (z_C d) 4 k_X11_areSums Q 0 [some (vR 11 0), some (vI a1), some (vI a2), none, none] [] v) : z_C (d + 1) m_X11_areSums [vR 11 0, vI a1, vI a2] v Q := h
set_option maxRecDepth 100000 in
theorem E_X11_weighed {d : Nat} {Q : z_RT} {v : z_V} {a1 : Int32} {a2 : Int32} (h : z_Wp (z_C d) 2 k_X11_weighed Q 0 [some (vR 11 0), some (vI a1), some (vI a2), none, none, none, none, none] [] v) : z_C (d + 1) m_X11_weighed [vR 11 0, vI a1, vI a2] v Q := h
set_option maxRecDepth 100000 in
theorem E_X11_alike {d : Nat} {Q : z_RT} {v : z_V} {a1 : Int32} (h : z_Wp (z_C d) 1 k_X11_alike Q 0 [some (vR 11 0), some (vI a1)] [] v) : z_C (d + 1) m_X11_alike [vR 11 0, vI a1] v Q := h
set_option maxRecDepth 100000 in
theorem E_X11_alikes {d : Nat} {Q : z_RT} {v : z_V} (h : z_Wp (z_C d) 2 k_X11_alikes Q 0 [some (vR 11 0)] [] v) : z_C (d + 1) m_X11_alikes [vR 11 0] v Q := h
set_option maxRecDepth 100000 in
theorem E_X11_unlike {d : Nat} {Q : z_RT} {v : z_V} {a1 : Int32} (h : z_Wp (z_C d) 1 k_X11_unlike Q 0 [some (vR 11 0), some (vI a1)] [] v) : z_C (d + 1) m_X11_unlike [vR 11 0, vI a1] v Q := h
set_option maxRecDepth 100000 in
theorem E_X11_isFareLaid {d : Nat} {Q : z_RT} {v : z_V} {a1 : Int32} {a2 : Int32} {a3 : Int32} (h : z_Wp (z_C d) 4 k_X11_isFareLaid Q 0 [some (vR 11 0), some (vI a1), some (vI a2), some (vI a3)] [] v) : z_C (d + 1) m_X11_isFareLaid [vR 11 0, vI a1, vI a2, vI a3] v Q := h
set_option maxRecDepth 100000 in
theorem E_X11_isFairSoFar {d : Nat} {Q : z_RT} {v : z_V} {a1 : Int32} {a2 : Int32} (h : z_Wp (z_C d) 4 k_X11_isFairSoFar Q 0 [some (vR 11 0), some (vI a1), some (vI a2), none, none, none] [] v) : z_C (d + 1) m_X11_isFairSoFar [vR 11 0, vI a1, vI a2] v Q := h
set_option maxRecDepth 100000 in
theorem E_X11_isMended {d : Nat} {Q : z_RT} {v : z_V} {a1 : Int32} (h : z_Wp (z_C d) 4 k_X11_isMended Q 0 [some (vR 11 0), some (vI a1), none, none] [] v) : z_C (d + 1) m_X11_isMended [vR 11 0, vI a1] v Q := h
set_option maxRecDepth 100000 in
theorem E_X11_mend {d : Nat} {Q : z_RT} {v : z_V} (h : z_Wp (z_C d) 1 k_X11_mend Q 0 [some (vR 11 0), none, none] [] v) : z_C (d + 1) m_X11_mend [vR 11 0] v Q := h
set_option maxRecDepth 100000 in
theorem E_X11_names {d : Nat} {Q : z_RT} {v : z_V} (h : z_Wp (z_C d) 1 k_X11_names Q 0 [some (vR 11 0), none, none] [] v) : z_C (d + 1) m_X11_names [vR 11 0] v Q := h
set_option maxRecDepth 100000 in
theorem E_X11_isNamed {d : Nat} {Q : z_RT} {v : z_V} {a1 : Int32} (h : z_Wp (z_C d) 4 k_X11_isNamed Q 0 [some (vR 11 0), some (vI a1), none] [] v) : z_C (d + 1) m_X11_isNamed [vR 11 0, vI a1] v Q := h
set_option maxRecDepth 100000 in
theorem E_X11_comeBy {d : Nat} {Q : z_RT} {v : z_V} {a1 : Int32} {a2 : Int32} (h : z_Wp (z_C d) 1 k_X11_comeBy Q 0 [some (vR 11 0), some (vI a1), some (vI a2), none, none, none] [] v) : z_C (d + 1) m_X11_comeBy [vR 11 0, vI a1, vI a2] v Q := h
set_option maxRecDepth 100000 in
theorem E_X11_partsBy {d : Nat} {Q : z_RT} {v : z_V} {a1 : Int32} (h : z_Wp (z_C d) 1 k_X11_partsBy Q 0 [some (vR 11 0), some (vI a1), none, none, none] [] v) : z_C (d + 1) m_X11_partsBy [vR 11 0, vI a1] v Q := h
set_option maxRecDepth 100000 in
theorem E_X11_parts {d : Nat} {Q : z_RT} {v : z_V} (h : z_Wp (z_C d) 1 k_X11_parts Q 0 [some (vR 11 0)] [] v) : z_C (d + 1) m_X11_parts [vR 11 0] v Q := h
set_option maxRecDepth 100000 in
theorem E_X11_cuts {d : Nat} {Q : z_RT} {v : z_V} (h : z_Wp (z_C d) 1 k_X11_cuts Q 0 [some (vR 11 0), none, none] [] v) : z_C (d + 1) m_X11_cuts [vR 11 0] v Q := h
set_option maxRecDepth 100000 in
theorem E_X11_markOf {d : Nat} {Q : z_RT} {v : z_V} {a1 : Int32} (h : z_Wp (z_C d) 1 k_X11_markOf Q 0 [some (vR 11 0), some (vI a1), none] [] v) : z_C (d + 1) m_X11_markOf [vR 11 0, vI a1] v Q := h
set_option maxRecDepth 100000 in
theorem E_X11_areHalts {d : Nat} {Q : z_RT} {v : z_V} {a0 : Int32} (h : z_Wp (z_C d) 4 k_X11_areHalts Q 0 [some (vI a0)] [] v) : z_C (d + 1) m_X11_areHalts [vI a0] v Q := h
set_option maxRecDepth 100000 in
theorem E_X11_markFirst {d : Nat} {Q : z_RT} {v : z_V} {a1 : Int32} (h : z_Wp (z_C d) 1 k_X11_markFirst Q 0 [some (vR 11 0), some (vI a1), none] [] v) : z_C (d + 1) m_X11_markFirst [vR 11 0, vI a1] v Q := h
set_option maxRecDepth 100000 in
theorem E_X11_game {d : Nat} {Q : z_RT} {v : z_V} {a1 : Int32} (h : z_Wp (z_C d) 1 k_X11_game Q 0 [some (vR 11 0), some (vI a1)] [] v) : z_C (d + 1) m_X11_game [vR 11 0, vI a1] v Q := h
set_option maxRecDepth 100000 in
theorem E_X11_mark {d : Nat} {Q : z_RT} {v : z_V} {a1 : Int32} (h : z_Wp (z_C d) 1 k_X11_mark Q 0 [some (vR 11 0), some (vI a1)] [] v) : z_C (d + 1) m_X11_mark [vR 11 0, vI a1] v Q := h
set_option maxRecDepth 100000 in
theorem E_X11_layRides {d : Nat} {Q : z_RT} {v : z_V} {a1 : Int32} (h : z_Wp (z_C d) 0 k_X11_layRides Q 0 [some (vR 11 0), some (vI a1), none, none, none] [] v) : z_C (d + 1) m_X11_layRides [vR 11 0, vI a1] v Q := h
set_option maxRecDepth 100000 in
theorem E_X11_ride {d : Nat} {Q : z_RT} {v : z_V} {a1 : Int32} {a2 : Int32} (h : z_Wp (z_C d) 1 k_X11_ride Q 0 [some (vR 11 0), some (vI a1), some (vI a2)] [] v) : z_C (d + 1) m_X11_ride [vR 11 0, vI a1, vI a2] v Q := h
set_option maxRecDepth 100000 in
theorem E_X11_isNext {d : Nat} {Q : z_RT} {v : z_V} {a1 : Int32} {a2 : Int32} (h : z_Wp (z_C d) 4 k_X11_isNext Q 0 [some (vR 11 0), some (vI a1), some (vI a2), none] [] v) : z_C (d + 1) m_X11_isNext [vR 11 0, vI a1, vI a2] v Q := h
set_option maxRecDepth 100000 in
theorem E_X11_change {d : Nat} {Q : z_RT} {v : z_V} {a1 : Int32} {a2 : Int32} {a3 : Int32} (h : z_Wp (z_C d) 1 k_X11_change Q 0 [some (vR 11 0), some (vI a1), some (vI a2), some (vI a3), none, none, none] [] v) : z_C (d + 1) m_X11_change [vR 11 0, vI a1, vI a2, vI a3] v Q := h
set_option maxRecDepth 100000 in
theorem E_X11_said {d : Nat} {Q : z_RT} {v : z_V} {a1 : Int32} {a2 : Int32} (h : z_Wp (z_C d) 1 k_X11_said Q 0 [some (vR 11 0), some (vI a1), some (vI a2)] [] v) : z_C (d + 1) m_X11_said [vR 11 0, vI a1, vI a2] v Q := h
set_option maxRecDepth 100000 in
theorem E_X11_whose {d : Nat} {Q : z_RT} {v : z_V} (h : z_Wp (z_C d) 1 k_X11_whose Q 0 [some (vR 11 0), none, none, none, none] [] v) : z_C (d + 1) m_X11_whose [vR 11 0] v Q := h
set_option maxRecDepth 100000 in
theorem E_X11_image {d : Nat} {Q : z_RT} {v : z_V} (h : z_Wp (z_C d) 1 k_X11_image Q 0 [some (vR 11 0)] [] v) : z_C (d + 1) m_X11_image [vR 11 0] v Q := h
set_option maxRecDepth 100000 in
theorem E_X11_back {d : Nat} {Q : z_RT} {v : z_V} (h : z_Wp (z_C d) 1 k_X11_back Q 0 [some (vR 11 0)] [] v) : z_C (d + 1) m_X11_back [vR 11 0] v Q := h
set_option maxRecDepth 100000 in
theorem E_X11_about {d : Nat} {Q : z_RT} {v : z_V} {a1 : Int32} (h : z_Wp (z_C d) 1 k_X11_about Q 0 [some (vR 11 0), some (vI a1)] [] v) : z_C (d + 1) m_X11_about [vR 11 0, vI a1] v Q := h
set_option maxRecDepth 100000 in
theorem E_J6_bitCount_0f7a4 {d : Nat} {Q : z_RT} {v : z_V} {a0 : Int32} (h : z_Wp (z_C d) 1 k_J6_bitCount_0f7a4 Q 0 [some (vI a0)] [] v) : z_C (d + 1) m_J6_bitCount_0f7a4 [vI a0] v Q := h
set_option maxRecDepth 100000 in
theorem E_J13_bitCount_95d88 {d : Nat} {Q : z_RT} {v : z_V} {a0 : Int64} (h : z_Wp (z_C d) 1 k_J13_bitCount_95d88 Q 0 [some (vL a0), none] [] v) : z_C (d + 1) m_J13_bitCount_95d88 [vL a0] v Q := h
