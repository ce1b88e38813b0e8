/-! tokens by the reference -/
def pkB (f : Nat → Nat) : Nat → Nat
  | 0 => 0
  | j + 1 => pkB f j * 256 + f j
theorem pkB_inj {f g : Nat → Nat} : ∀ {s t : Nat}, (∀ j, j < s → 1 ≤ f j ∧ f j < 256) → (∀ j, j < t → 1 ≤ g j ∧ g j < 256) → pkB f s = pkB g t → s = t ∧ ∀ j, j < s → f j = g j
  | 0, 0, _, _, _ => ⟨rfl, fun j hj => absurd hj (Nat.not_lt_zero _)⟩
  | 0, t + 1, _, hg, e => by
    have := hg t (by omega)
    simp only [pkB] at e
    omega
  | s + 1, 0, hf, _, e => by
    have := hf s (by omega)
    simp only [pkB] at e
    omega
  | s + 1, t + 1, hf, hg, e => by
    have a := hf s (by omega)
    have b := hg t (by omega)
    simp only [pkB] at e
    have e1 : f s = g t := by omega
    have e2 : pkB f s = pkB g t := by omega
    have ih := pkB_inj (fun j hj => hf j (by omega)) (fun j hj => hg j (by omega)) e2
    obtain ⟨rfl, h⟩ := ih
    refine ⟨rfl, fun j hj => ?_⟩
    rcases Nat.lt_succ_iff_lt_or_eq.mp hj with z | z
    · exact h j z
    · rw [z]
      exact e1
theorem pkB_lt {f : Nat → Nat} : ∀ {j : Nat}, (∀ i, i < j → f i < 256) → pkB f j < 256 ^ j
  | 0, _ => Nat.one_pos
  | j + 1, h => by
    have := pkB_lt (j := j) (fun i hi => h i (by omega))
    have := h j (by omega)
    simp only [pkB, Nat.pow_succ]
    omega
theorem pkB_ge {f : Nat → Nat} (h : 1 ≤ f 0) : ∀ {j : Nat}, 256 ^ j ≤ pkB f (j + 1)
  | 0 => by
    simp only [pkB]
    omega
  | j + 1 => by
    have ih := pkB_ge h (j := j)
    have e : pkB f (j + 1 + 1) = pkB f (j + 1) * 256 + f (j + 1) := rfl
    rw [e, Nat.pow_succ]
    omega
theorem lN_shl8 {a : Nat} : l_shl (lN a) 8 = lN (a * 256) := by
  unfold l_shl lN
  apply Int64.toBitVec_inj.mp
  rw [Int64.toBitVec_shiftLeft]
  show BitVec.ofNat 64 a <<< (((8 : Int32).toInt64 &&& 63).toBitVec.smod 64) = BitVec.ofNat 64 (a * 256)
  rw [show (((8 : Int32).toInt64 &&& 63).toBitVec.smod 64) = 8#64 from by decide +kernel]
  apply BitVec.eq_of_toNat_eq
  simp [BitVec.toNat_shiftLeft, Nat.shiftLeft_eq]
theorem or256 {a b : Nat} (hb : b < 256) : a * 256 ||| b = a * 256 + b := by
  have := Nat.two_pow_add_eq_or_of_lt (i := 8) (b := b) hb a
  rw [Nat.mul_comm a 256]
  exact this.symm
theorem w_step {a b : Nat} (hb : b < 256) : l_shl (lN a) 8 ||| (nI b).toInt64 = lN (a * 256 + b) := by
  rw [lN_shl8, nI_l (by omega), lN_or, or256 hb]
theorem w_step0 {a b : Nat} (ha : a < 256) (hb : b < 256) : l_shl (nI a).toInt64 8 ||| (nI b).toInt64 = lN (a * 256 + b) := by
  rw [nI_l (by omega), lN_shl8, nI_l (by omega), lN_or, or256 hb]
theorem lN_shr48 {w : Nat} (hw : w < 2 ^ 63) : l_shr (lN w) 48 = lN (w / 2 ^ 48) := by
  apply Int64.toBitVec_inj.1
  unfold l_shr
  rw [Int64.toBitVec_shiftRight, BitVec.sshiftRight', show (((48 : Int32).toInt64 &&& 63).toBitVec.smod 64).toNat = 48 from by decide +kernel, lN_tb, lN_tb]
  have hm : (BitVec.ofNat 64 w).msb = false := by
    rw [BitVec.msb_eq_decide]
    simp
    omega
  apply BitVec.eq_of_getLsbD_eq
  intro i hi
  rw [BitVec.getLsbD_sshiftRight, hm, BitVec.getLsbD_ofNat, BitVec.getLsbD_ofNat, Nat.testBit_div_two_pow]
  by_cases z : 48 + i < 64
  · simp [z, hi, show ¬ 64 ≤ i by omega, Nat.add_comm]
    omega
  · rw [if_neg z]
    have : w.testBit (i + 48) = false := Nat.testBit_lt_two_pow (Nat.lt_of_lt_of_le hw (Nat.pow_le_pow_right (by decide) (by omega)))
    simp [this]
def WQ (k : Nat) : Int64 := lN (pkB (fun j => (WL k).getD j 0) (WL k).length)
theorem wq_tab : ∀ k, k < 27 → (WL k).length ≤ 6 ∧ 1 ≤ (WL k).length ∧ pkB (fun j => (WL k).getD j 0) (WL k).length < 2 ^ 48 ∧ ∀ j, j < (WL k).length → 1 ≤ (WL k).getD j 0 ∧ (WL k).getD j 0 < 256 := by decide +kernel
theorem WQ_ne {i j : Nat} (hi : i < 27) (hj : j < 27) (h : WQ i = WQ j) : i = j := by
  have a := wq_tab i hi
  have b := wq_tab j hj
  have e := lN_inj (by omega) (by omega) h
  have := pkB_inj a.2.2.2 b.2.2.2 e
  by_cases z : i = j
  · exact z
  · refine absurd ?_ (WL_ne i hi j hj z)
    have l1 : lsT (fun k => (WL i).getD k 0) 0 (WL i).length = WL i := ls_iff.mpr ⟨rfl, fun k _ => by rw [Nat.zero_add]⟩
    have l2 : lsT (fun k => (WL i).getD k 0) 0 (WL i).length = WL j := ls_iff.mpr ⟨this.1.symm, fun k hk => by rw [Nat.zero_add]; exact this.2 k hk⟩
    exact l1.symm.trans l2
def sgR (c : Nat) : Nat := if c = 28 then 60 else if c = 29 then 4 else if c = 30 then 62 else if c = 31 then 5 else if c = 32 then 61 else if c = 33 then 35 else if c = 34 then 43 else if c = 35 then 45 else if c = 36 then 42 else if c = 37 then 47 else if c = 38 then 40 else if c = 39 then 41 else 59
def RTok (u : z_V) (c x : Nat) : Prop := (c = 41 → gI u 11 0 9 = nI 0) ∧ (c = 27 → gI u 11 0 9 = nI 1 ∧ ∃ y, y < 2 ^ 30 ∧ gI u 11 0 10 = nI y ∧ x = min 10000 y) ∧ (c < 27 → gI u 11 0 9 = nI 2 ∧ gL u 11 0 11 = WQ c) ∧ (c = 42 → (gI u 11 0 9 = nI 2 ∧ ∀ k, k < 27 → gL u 11 0 11 ≠ WQ k) ∨ gI u 11 0 9 = nI 3 ∨ gI u 11 0 9 = nI 58) ∧ (28 ≤ c → c ≤ 40 → gI u 11 0 9 = nI (sgR c))
def TPr (v : z_V) (B : Nat → Nat) (n : Nat) : Prop := gI v 11 0 4 = nI n ∧ n ≤ 300 ∧ ∀ i, i < n → gI v 1203 0 i = nI (B i) ∧ B i < 256
def TkR (u : z_V) (B : Nat → Nat) (n p : Nat) : Prop := RTok u (tkC B n p) (tkV B n p) ∧ gI u 11 0 8 = nI (frT B n p) ∧ gI u 11 0 7 = nI (nxT B n p)
def fTq : Nat → Nat → Prop := fun t k => t = 11 ∧ (k = 7 ∨ k = 8 ∨ k = 9 ∨ k = 10 ∨ k = 11)
theorem TPr.fr {v u : z_V} {B : Nat → Nat} {n : Nat} {S : Nat → Nat → Prop} (h : TPr v B n) (f : Fr S v u) (h1 : ¬ S 11 4) (h4 : ∀ k, ¬ S 1203 k) : TPr u B n := ⟨(f.i h1).trans h.1, h.2.1, fun i hi => ⟨(f.i (h4 i)).trans (h.2.2 i hi).1, (h.2.2 i hi).2⟩⟩
theorem TPr.tr {v u : z_V} {B : Nat → Nat} {n : Nat} (h : TPr v B n) (f : Fr fTq v u) : TPr u B n := h.fr f (by unfold fTq; omega) (fun k => by unfold fTq; omega)
theorem RTok.fr {v u : z_V} {c x : Nat} {S : Nat → Nat → Prop} (h : RTok v c x) (f : Fr S v u) (h9 : ¬ S 11 9) (h10 : ¬ S 11 10) (h11 : ¬ S 11 11) : RTok u c x := by
  unfold RTok at h ⊢
  rw [f.i h9, f.i h10, f.l h11]
  exact h
theorem TkR.fr {v u : z_V} {B : Nat → Nat} {n p : Nat} {S : Nat → Nat → Prop} (h : TkR v B n p) (f : Fr S v u) (h7 : ¬ S 11 7) (h8 : ¬ S 11 8) (h9 : ¬ S 11 9) (h10 : ¬ S 11 10) (h11 : ¬ S 11 11) : TkR u B n p := ⟨h.1.fr f h9 h10 h11, (f.i h8).trans h.2.1, (f.i h7).trans h.2.2⟩
def bqT (B : Nat → Nat) (n k : Nat) : Int32 := if k < n then nI (B k) else -1
section TK3
variable {d : Nat} {v : z_V} {B : Nat → Nat} {n : Nat}
theorem bqT_t {k : Nat} (h : k < n) : bqT B n k = nI (B k) := if_pos h
theorem bqT_f {k : Nat} (h : ¬ k < n) : bqT B n k = -1 := if_neg h
theorem s_byteAt {k : Nat} (hT : TPr v B n) (hk : k < 2 ^ 31) : ZP (d + 1) m_X11_byteAt [vR 11 0, vI (nI k)] v (bqT B n k) := fun Q q => E_X11_byteAt (B_X11_byteAt_0 (by
  have := hT.2.1
  refine pk_le n k (fun z => ?_) (fun z => z_ii k rfl (by omega) ?_) hT.1 rfl
  · rw [bqT_f (by omega)] at q
    exact q
  · rw [bqT_t z] at q
    rw [n_nI hk, (hT.2.2 k z).1]
    exact q))
theorem s_isLetterByte {k : Nat} (hb : ∀ i, i < n → B i < 256) : ZP (d + 1) m_X11_isLetterByte [vI (bqT B n k)] v (bI (pLt B n k)) := fun Q q => E_X11_isLetterByte (B_X11_isLetterByte_0 (by
  by_cases hk : k < n
  · have b := hb k hk
    have t : isL (B k) = true → Q v (some (vI 1)) := fun e => by
      unfold pLt at q
      rw [decide_eq_true hk, e] at q
      exact q
    have f : isL (B k) = false → Q v (some (vI 0)) := fun e => by
      unfold pLt at q
      rw [decide_eq_true hk, e] at q
      exact q
    rw [bqT_t hk]
    unfold isL at t f
    exact pk_lt (B k) 97 (fun h1 => pk_lt (B k) 65 (fun h2 => f (decide_eq_false (by omega))) (fun h2 => pk_lt 90 (B k) (fun h3 => f (decide_eq_false (by omega))) (fun h3 => t (decide_eq_true (by omega))))) (fun h1 => pk_le (B k) 122 (fun h2 => t (decide_eq_true (by omega))) (fun h2 => pk_lt (B k) 65 (fun h3 => f (decide_eq_false (by omega))) (fun h3 => pk_lt 90 (B k) (fun h4 => f (decide_eq_false (by omega))) (fun h4 => t (decide_eq_true (by omega))))))
  · rw [bqT_f hk]
    unfold pLt at q
    rw [decide_eq_false hk] at q
    exact br_T (by decide) (br_T (by decide) q)))
theorem s_isFigure {k : Nat} (hb : ∀ i, i < n → B i < 256) : ZP (d + 1) m_X11_isFigure [vI (bqT B n k)] v (bI (pDg B n k)) := fun Q q => E_X11_isFigure (B_X11_isFigure_0 (by
  by_cases hk : k < n
  · have b := hb k hk
    have t : isD (B k) = true → Q v (some (vI 1)) := fun e => by
      unfold pDg at q
      rw [decide_eq_true hk, e] at q
      exact q
    have f : isD (B k) = false → Q v (some (vI 0)) := fun e => by
      unfold pDg at q
      rw [decide_eq_true hk, e] at q
      exact q
    rw [bqT_t hk]
    unfold isD at t f
    exact pk_lt (B k) 48 (fun h1 => f (decide_eq_false (by omega))) (fun h1 => pk_lt 57 (B k) (fun h2 => f (decide_eq_false (by omega))) (fun h2 => t (decide_eq_true (by omega))))
  · rw [bqT_f hk]
    unfold pDg at q
    rw [decide_eq_false hk] at q
    exact br_T (by decide) q))
def isS (b : Nat) : Bool := b == 35 || (b == 40 || (b == 41 || (b == 42 || (b == 43 || (b == 45 || (b == 47 || (b == 58 || (b == 59 || (b == 60 || (b == 61 || b == 62))))))))))
theorem s_isSign {b : Nat} (hb : b < 256) : ZP (d + 1) m_X11_isSign [vI (nI b)] v (bI (isS b)) := fun Q q => E_X11_isSign (B_X11_isSign_0 (by
  have fin : ∀ x, isS b = x → Q v (some (vI (bI x))) := fun x e => by rw [← e]; exact q
  refine pk_eq b 35 (fun e => fin true (by rw [e]; rfl)) (fun n35 => pk_eq b 36 (fun e => fin false (by rw [e]; rfl)) (fun n36 => pk_eq b 37 (fun e => fin false (by rw [e]; rfl)) (fun n37 => pk_eq b 38 (fun e => fin false (by rw [e]; rfl)) (fun n38 => pk_eq b 39 (fun e => fin false (by rw [e]; rfl)) (fun n39 => pk_eq b 40 (fun e => fin true (by rw [e]; rfl)) (fun n40 => pk_eq b 41 (fun e => fin true (by rw [e]; rfl)) (fun n41 => pk_eq b 42 (fun e => fin true (by rw [e]; rfl)) (fun n42 => pk_eq b 43 (fun e => fin true (by rw [e]; rfl)) (fun n43 => pk_eq b 44 (fun e => fin false (by rw [e]; rfl)) (fun n44 => pk_eq b 45 (fun e => fin true (by rw [e]; rfl)) (fun n45 => pk_eq b 46 (fun e => fin false (by rw [e]; rfl)) (fun n46 => pk_eq b 47 (fun e => fin true (by rw [e]; rfl)) (fun n47 => pk_eq b 48 (fun e => fin false (by rw [e]; rfl)) (fun n48 => pk_eq b 49 (fun e => fin false (by rw [e]; rfl)) (fun n49 => pk_eq b 50 (fun e => fin false (by rw [e]; rfl)) (fun n50 => pk_eq b 51 (fun e => fin false (by rw [e]; rfl)) (fun n51 => pk_eq b 52 (fun e => fin false (by rw [e]; rfl)) (fun n52 => pk_eq b 53 (fun e => fin false (by rw [e]; rfl)) (fun n53 => pk_eq b 54 (fun e => fin false (by rw [e]; rfl)) (fun n54 => pk_eq b 55 (fun e => fin false (by rw [e]; rfl)) (fun n55 => pk_eq b 56 (fun e => fin false (by rw [e]; rfl)) (fun n56 => pk_eq b 57 (fun e => fin false (by rw [e]; rfl)) (fun n57 => pk_eq b 58 (fun e => fin true (by rw [e]; rfl)) (fun n58 => pk_eq b 59 (fun e => fin true (by rw [e]; rfl)) (fun n59 => pk_eq b 60 (fun e => fin true (by rw [e]; rfl)) (fun n60 => pk_eq b 61 (fun e => fin true (by rw [e]; rfl)) (fun n61 => pk_eq b 62 (fun e => fin true (by rw [e]; rfl)) (fun n62 => ?_))))))))))))))))))))))))))))
  refine fin false ?_
  unfold isS
  simp only [beq_eq_false_iff_ne, Bool.or_eq_false_iff]
  exact ⟨n35, n40, n41, n42, n43, n45, n47, n58, n59, n60, n61, n62⟩))
end TK3
