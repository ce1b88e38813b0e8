/-! tokens by the class -/
def sb (b : Nat) : Int32 := (nI b).toInt8.toInt32
theorem sb_lo : ∀ b, b < 128 → sb b = nI b := by decide +kernel
theorem sb_hi : ∀ b, b < 256 → 128 ≤ b → sb b < 0 := by decide +kernel
theorem sb_eq {b : Nat} (hb : b < 256) (c : Nat) (hc : c < 128) : sb b = nI c ↔ b = c := by
  rcases Nat.lt_or_ge b 128 with z | z
  · rw [sb_lo b z, nI_eq (by omega) (by omega)]
  · have h := sb_hi b hb z
    constructor
    · intro e
      rw [e] at h
      exact absurd h (nI_pos (by omega))
    · intro e
      omega
theorem sb_lt {b : Nat} (hb : b < 256) (c : Nat) (hc : c < 128) : sb b < nI c ↔ (b < c ∨ 128 ≤ b) := by
  rcases Nat.lt_or_ge b 128 with z | z
  · rw [sb_lo b z, nI_ltI (by omega) (by omega)]
    constructor
    · exact fun h => Or.inl h
    · intro h
      omega
  · have h := sb_hi b hb z
    constructor
    · exact fun _ => Or.inr z
    · intro _
      have := nI_toInt (n := c) (by omega)
      rw [Int32.lt_iff_toInt_lt, Int32.toInt_zero] at h
      rw [Int32.lt_iff_toInt_lt, this]
      omega
theorem sb_le {b : Nat} (hb : b < 256) (c : Nat) (hc : c < 128) : sb b ≤ nI c ↔ (b ≤ c ∨ 128 ≤ b) := by
  rcases Nat.lt_or_ge b 128 with z | z
  · rw [sb_lo b z, nI_leI (by omega) (by omega)]
    constructor
    · exact fun h => Or.inl h
    · intro h
      omega
  · have h := sb_hi b hb z
    constructor
    · exact fun _ => Or.inr z
    · intro _
      have := nI_toInt (n := c) (by omega)
      rw [Int32.lt_iff_toInt_lt, Int32.toInt_zero] at h
      rw [Int32.le_iff_toInt_le, this]
      omega
theorem lt_sb {b : Nat} (hb : b < 256) (c : Nat) (hc : c < 128) : nI c < sb b ↔ ¬ (b ≤ c ∨ 128 ≤ b) := by
  rw [← sb_le hb c hc, Int32.not_le]
def TPc (v : z_V) (B : Nat → Nat) (n : Nat) : Prop := gI v 3 0 1 = nI n ∧ n ≤ 300 ∧ ∀ i, i < n → gI v 400 0 i = sb (B i) ∧ B i < 256
def fTk : Nat → Nat → Prop := fun t k => t = 3 ∧ (k = 7 ∨ k = 8 ∨ k = 9 ∨ k = 10)
theorem TPc.fr {v u : z_V} {B : Nat → Nat} {n : Nat} {S : Nat → Nat → Prop} (h : TPc v B n) (f : Fr S v u) (h1 : ¬ S 3 1) (h4 : ∀ k, ¬ S 400 k) : TPc u B n := ⟨(f.i h1).trans h.1, h.2.1, fun i hi => ⟨(f.i (h4 i)).trans (h.2.2 i hi).1, (h.2.2 i hi).2⟩⟩
theorem pDg_f {B : Nat → Nat} {n i : Nat} (h : pDg B n i = false) (hi : i < n) : isD (B i) = false := by
  unfold pDg at h
  rw [decide_eq_true hi, Bool.true_and] at h
  exact h
theorem pLt_f {B : Nat → Nat} {n i : Nat} (h : pLt B n i = false) (hi : i < n) : isL (B i) = false := by
  unfold pLt at h
  rw [decide_eq_true hi, Bool.true_and] at h
  exact h
theorem pBk_f {B : Nat → Nat} {n i : Nat} (h : pBk B n i = false) (hi : i < n) : B i ≠ 32 ∧ B i ≠ 10 := by
  unfold pBk at h
  rw [decide_eq_true hi, Bool.true_and, Bool.or_eq_false_iff, decide_eq_false_iff_not, decide_eq_false_iff_not] at h
  exact h
theorem pDg_t {B : Nat → Nat} {n i : Nat} (h : pDg B n i = true) : i < n ∧ isD (B i) = true := by
  unfold pDg at h
  rw [Bool.and_eq_true, decide_eq_true_eq] at h
  exact h
theorem pLt_t {B : Nat → Nat} {n i : Nat} (h : pLt B n i = true) : i < n ∧ isL (B i) = true := by
  unfold pLt at h
  rw [Bool.and_eq_true, decide_eq_true_eq] at h
  exact h
theorem pBk_t {B : Nat → Nat} {n i : Nat} (h : pBk B n i = true) : i < n ∧ (B i = 32 ∨ B i = 10) := by
  unfold pBk at h
  rw [Bool.and_eq_true, decide_eq_true_eq, Bool.or_eq_true, decide_eq_true_eq, decide_eq_true_eq] at h
  exact h
section TK1
variable {d : Nat} {v : z_V} {B : Nat → Nat} {n : Nat}
theorem TPc.tp {u : z_V} (h : TPc v B n) (f : Fr fTk v u) : TPc u B n := h.fr f (by unfold fTk; omega) (fun k => by unfold fTk; omega)
theorem s_isLetter {b : Nat} (hb : b < 256) : ZP (d + 1) m_X3_isLetter [vI (sb b)] v (bI (isL b)) := fun Q k => E_X3_isLetter (B_X3_isLetter_0 (by
  have t : isL b = true → Q v (some (vI 1)) := fun e => by rw [e] at k; exact k
  have f : isL b = false → Q v (some (vI 0)) := fun e => by rw [e] at k; exact k
  unfold isL at t f
  refine pick (sb_lt hb 97 (by decide)) (fun h1 => pick (sb_lt hb 65 (by decide)) (fun h2 => f (decide_eq_false (by omega))) (fun h2 => pick (lt_sb hb 90 (by decide)) (fun h3 => f (decide_eq_false (by omega))) (fun h3 => t (decide_eq_true (by omega))))) (fun h1 => pick (sb_le hb 122 (by decide)) (fun h2 => t (decide_eq_true (by omega))) (fun h2 => pick (sb_lt hb 65 (by decide)) (fun h3 => f (decide_eq_false (by omega))) (fun h3 => pick (lt_sb hb 90 (by decide)) (fun h4 => f (decide_eq_false (by omega))) (fun h4 => t (decide_eq_true (by omega))))))))
theorem s_isDigit {b : Nat} (hb : b < 256) : ZP (d + 1) m_X3_isDigit [vI (sb b)] v (bI (isD b)) := fun Q k => E_X3_isDigit (B_X3_isDigit_0 (by
  have t : isD b = true → Q v (some (vI 1)) := fun e => by rw [e] at k; exact k
  have f : isD b = false → Q v (some (vI 0)) := fun e => by rw [e] at k; exact k
  unfold isD at t f
  exact pick (sb_lt hb 48 (by decide)) (fun h1 => f (decide_eq_false (by omega))) (fun h1 => pick (lt_sb hb 57 (by decide)) (fun h2 => f (decide_eq_false (by omega))) (fun h2 => t (decide_eq_true (by omega))))))
theorem s_sign81 {b : Nat} {Q : z_RT} (hb : b < 256) (k : Q v (some (vI (nI (sgC b))))) : ∀ u0 u2, z_Wp (z_C d) 1 k_X3_signToken Q 81 [u0, some (vI (sb b)), u2] [] v := fun u0 u2 => B_X3_signToken_81 (by
  have fin : ∀ {c}, b = c → Q v (some (vI (nI (sgC c)))) := fun e => by rw [← e]; exact k
  refine pick (sb_eq hb 35 (by decide)) (fun e => fin e) (fun n35 => pick (sb_eq hb 36 (by decide)) (fun e => fin e) (fun n36 => pick (sb_eq hb 37 (by decide)) (fun e => fin e) (fun n37 => pick (sb_eq hb 38 (by decide)) (fun e => fin e) (fun n38 => pick (sb_eq hb 39 (by decide)) (fun e => fin e) (fun n39 => pick (sb_eq hb 40 (by decide)) (fun e => fin e) (fun n40 => pick (sb_eq hb 41 (by decide)) (fun e => fin e) (fun n41 => pick (sb_eq hb 42 (by decide)) (fun e => fin e) (fun n42 => pick (sb_eq hb 43 (by decide)) (fun e => fin e) (fun n43 => pick (sb_eq hb 44 (by decide)) (fun e => fin e) (fun n44 => pick (sb_eq hb 45 (by decide)) (fun e => fin e) (fun n45 => pick (sb_eq hb 46 (by decide)) (fun e => fin e) (fun n46 => pick (sb_eq hb 47 (by decide)) (fun e => fin e) (fun n47 => pick (sb_eq hb 48 (by decide)) (fun e => fin e) (fun n48 => pick (sb_eq hb 49 (by decide)) (fun e => fin e) (fun n49 => pick (sb_eq hb 50 (by decide)) (fun e => fin e) (fun n50 => pick (sb_eq hb 51 (by decide)) (fun e => fin e) (fun n51 => pick (sb_eq hb 52 (by decide)) (fun e => fin e) (fun n52 => pick (sb_eq hb 53 (by decide)) (fun e => fin e) (fun n53 => pick (sb_eq hb 54 (by decide)) (fun e => fin e) (fun n54 => pick (sb_eq hb 55 (by decide)) (fun e => fin e) (fun n55 => pick (sb_eq hb 56 (by decide)) (fun e => fin e) (fun n56 => pick (sb_eq hb 57 (by decide)) (fun e => fin e) (fun n57 => pick (sb_eq hb 58 (by decide)) (fun e => fin e) (fun n58 => pick (sb_eq hb 59 (by decide)) (fun e => fin e) (fun n59 => pick (sb_eq hb 60 (by decide)) (fun e => fin e) (fun n60 => pick (sb_eq hb 61 (by decide)) (fun e => fin e) (fun n61 => pick (sb_eq hb 62 (by decide)) (fun e => fin e) (fun n62 => ?_))))))))))))))))))))))))))))
  have e : sgC b = 42 := by
    unfold sgC
    rw [if_neg n60, if_neg n62, if_neg n61, if_neg n35, if_neg n43, if_neg n45, if_neg n42, if_neg n47, if_neg n40, if_neg n41, if_neg n59]
  rw [e] at k
  exact k)
theorem s_signToken {q : Nat} (hT : TPc v B n) (hq : q < n) (h10 : gI v 3 0 10 = nI q) : ZI (d + 1) m_X3_signToken [vR 3 0, vI (sb (B q))] v (fun u r => r = nI (sgK B n q) ∧ gI u 3 0 10 = nI (sgN B n q) ∧ Fr (fun t k => t = 3 ∧ k = 10) v u) := fun Q k => E_X3_signToken (B_X3_signToken_0 (by
  obtain ⟨t1, t2, t3⟩ := hT
  have hb := (t3 q hq).2
  rw [h10, t1, nI_1]
  have f1 : Fr (fun t k => t = 3 ∧ k = 10) v (pI v 3 0 10 (nI (q + 1))) := Fr.rfl.pI ⟨rfl, rfl⟩
  have e10 : gI (pI v 3 0 10 (nI (q + 1))) 3 0 10 = nI (q + 1) := gI_pI_s
  have plain : sgK B n q = sgC (B q) → sgN B n q = q + 1 → ∀ u0 u2, z_Wp (z_C d) 1 k_X3_signToken Q 81 [u0, some (vI (sb (B q))), u2] [] (pI v 3 0 10 (nI (q + 1))) := fun e1 e2 => s_sign81 hb (k _ _ ⟨by rw [e1], by rw [e2]; exact e10, f1⟩)
  have no : eqT B n q = false → ∀ u2, z_Wp (z_C d) 1 k_X3_signToken Q 40 [some (vR 3 0), some (vI (sb (B q))), u2] [vI 0] (pI v 3 0 10 (nI (q + 1))) := fun e u2 => B_X3_signToken_40 (br_T rfl (plain (by unfold sgK; rw [e, Bool.false_and, Bool.false_and, if_neg (by decide), if_neg (by decide)]) (by unfold sgN; rw [e, Bool.false_and, if_neg (by decide)]) _ _))
  refine pk_le n (q + 1) (fun z => no (by unfold eqT; rw [decide_eq_false (by omega)]; rfl) _) (fun z => z_ii (q + 1) rfl (by omega) ?_)
  have hb1 := (t3 (q + 1) z)
  rw [n_nI (by omega), hb1.1]
  refine pickN (sb_eq hb1.2 61 (by decide)) (fun e => no (by unfold eqT; rw [decide_eq_false e, Bool.and_false]) _) (fun e => ?_)
  have eq : eqT B n q = true := by
    unfold eqT
    rw [decide_eq_true z, decide_eq_true e]
    rfl
  have two : ∀ x, sgK B n q = x → sgN B n q = q + 2 → Q (pI (pI v 3 0 10 (nI (q + 1))) 3 0 10 (gI (pI v 3 0 10 (nI (q + 1))) 3 0 10 + 1)) (some (vI (nI x))) := fun x e1 e2 => k _ _ ⟨by rw [e1], by rw [gI_pI_s, e10, nI_1, e2], f1.pI ⟨rfl, rfl⟩⟩
  refine B_X3_signToken_40 (br_F (by decide) (pick (sb_eq hb 60 (by decide)) (fun e60 => ?_) (fun n60 => ?_)))
  · have hx : sb (B q) = 60 := (sb_eq hb 60 (by decide)).mpr e60
    exact br_nF hx (two 29 (by unfold sgK; rw [eq, decide_eq_true e60]; rfl) (by unfold sgN; rw [eq, decide_eq_true e60]; rfl))
  · refine pickN (sb_eq hb 62 (by decide)) (fun n62 => plain (by unfold sgK; rw [decide_eq_false n60, decide_eq_false n62, Bool.and_false, if_neg (by decide), if_neg (by decide)]) (by unfold sgN; rw [decide_eq_false n60, decide_eq_false n62, Bool.or_false, Bool.and_false, if_neg (by decide)]) _ _) (fun e62 => ?_)
    have hx : ¬ sb (B q) = 60 := fun y => n60 ((sb_eq hb 60 (by decide)).mp y)
    exact br_nT hx (two 31 (by unfold sgK; rw [eq, decide_eq_false n60, decide_eq_true e62]; rfl) (by unfold sgN; rw [eq, decide_eq_true e62, Bool.or_true]; rfl))))
theorem vl_step {x b : Nat} (hx : x ≤ 10000) (hb : isD b = true) : i_min 10000 ((nI x * 10 + nI b) - 48) = nI (min 10000 (x * 10 + b - 48)) := by
  unfold isD at hb
  have hb := of_decide_eq_true hb
  rw [show (10 : Int32) = nI 10 from rfl, pk_mul, nI_add, show (48 : Int32) = nI 48 from rfl, pk_sub (by omega), show (10000 : Int32) = nI 10000 from rfl]
  unfold i_min
  by_cases z : x * 10 + b - 48 < 10000
  · rw [if_pos ((nI_ltI (by omega) (by omega)).mpr z), Nat.min_eq_right (by omega)]
  · rw [if_neg (fun y => z ((nI_ltI (by omega) (by omega)).mp y)), Nat.min_eq_left (by omega)]
theorem s_digits {q : Nat} (hT : TPc v B n) (hq : q ≤ n) (h10 : gI v 3 0 10 = nI q) : ZI (d + 2) m_X3_digits [vR 3 0] v (fun u r => r = nI (vlT B 0 q (runT (pDg B n) n q - q)) ∧ gI u 3 0 10 = nI (runT (pDg B n) n q) ∧ Fr (fun t k => t = 3 ∧ k = 10) v u) := fun Q k => E_X3_digits (B_X3_digits_0 (by
  have hle : runT (pDg B n) n q ≤ n := run_le dg_lt hq
  have hge : q ≤ runT (pDg B n) n q := run_ge
  have hend : pDg B n (runT (pDg B n) n q) = false := run_end dg_lt (by omega)
  have t2 := hT.2.1
  rw [h10]
  have key : ∀ i, i ≤ runT (pDg B n) n q → q ≤ i → ∀ (u : z_V) (x : Nat), Fr (fun t k => t = 3 ∧ k = 10) v u → gI u 3 0 10 = nI i → x ≤ 10000 → vlT B x i (runT (pDg B n) n q - i) = vlT B 0 q (runT (pDg B n) n q - q) → z_Wp (z_C (d + 1)) 1 k_X3_digits Q 7 [some (vR 3 0), some (vI (nI x)), some (vI (nI i))] [] u := by
    refine z_up _ (fun _ u x f g10 hx hv => ?_) (fun i hi ih hqi u x f g10 hx hv => ?_)
    · obtain ⟨u1, _, u3⟩ := hT.fr f (by omega) (fun k => by omega)
      have hr : x = vlT B 0 q (runT (pDg B n) n q - q) := by
        rw [← hv, Nat.sub_self]
        rfl
      have fin : Q u (some (vI (nI x))) := k _ _ ⟨by rw [hr], g10, f⟩
      refine B_X3_digits_7 (pk_le n (runT (pDg B n) n q) (fun _ => fin) (fun z => z_ii _ rfl (by omega) ?_) u1 rfl)
      have hb := u3 _ z
      rw [n_nI (by omega), hb.1]
      have hend := pDg_f hend z
      exact cP (s_isDigit (d := d) hb.2) (br_z (fun _ => fin) (fun e => by rw [hend] at e; cases e))
    · obtain ⟨u1, _, u3⟩ := hT.fr f (by omega) (fun k => by omega)
      have hp := pDg_t (run_P hqi hi)
      have hb := u3 i hp.1
      refine B_X3_digits_7 (pk_le n i (fun z => absurd z (by omega)) (fun _ => z_ii i rfl (by omega) ?_) u1 rfl)
      rw [n_nI (by omega), hb.1]
      refine cP (s_isDigit (d := d) hb.2) (br_z (fun e => by rw [hp.2] at e; cases e) (fun _ => z_ii i rfl (by omega) ?_))
      have hd := hp.2
      unfold isD at hd
      have hd := of_decide_eq_true hd
      rw [hb.1, sb_lo _ (by omega), vl_step hx hp.2, g10, nI_1]
      refine ih (by omega) _ _ (f.pI ⟨rfl, rfl⟩) gI_pI_s (by omega) ?_
      rw [← hv, show runT (pDg B n) n q - i = (runT (pDg B n) n q - (i + 1)) + 1 by omega]
      rfl
  exact key q hge (Nat.le_refl _) v 0 Fr.rfl h10 (by omega) rfl))
end TK1
