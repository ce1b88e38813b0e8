/-! a text read: what both sides hold then -/
def wTs (W : z_W) (k : Nat) : z_W := (W.1, (W.2.1, (W.2.2.1, (W.2.2.2.1, (W.2.2.2.2.1, (W.2.2.2.2.2.1, (W.2.2.2.2.2.2.1, (k, W.2.2.2.2.2.2.2.2))))))))
def qTx (q : z_Q) (R : z_Rf) : z_Q := match R with
  | .inl g => (qW q, (qI q, (qT q, (0, (qB q, (nI g.1, nI g.2))))))
  | .inr T => (wTs (qW q) (wT (qW q) + 1), (qI q, ((fun k => if k = wT (qW q) then T else qT q k), (0, (qB q, (0, -1))))))
def rTx (q : z_Q) (R : z_Rf) : Int32 := match R with
  | .inl _ => -1
  | .inr _ => nI (wT (qW q))
theorem okW_ts {W : z_W} (h : okW W) (hk : wT W < 4) : okW (wTs W (wT W + 1)) := by
  obtain ⟨a1, a2, a3, a4, a5, a6, a7, a8⟩ := h
  refine ⟨a1, a2, a3, a4, hk, ?_, a7, a8⟩
  rcases a6 with z | ⟨k, z1, z2⟩
  · exact Or.inl z
  · exact Or.inr ⟨k, Nat.lt_succ_of_lt z1, z2⟩
theorem okQ_tx {q : z_Q} {R : z_Rf} (h : okQ q) : okQ (qTx q R) := by
  cases R with
  | inl g => exact ⟨h.1, Nat.zero_le _, fun j hj => absurd hj (Nat.not_lt_zero _)⟩
  | inr T => exact ⟨Nat.le_succ_of_le h.1, Nat.zero_le _, fun j hj => absurd hj (Nat.not_lt_zero _)⟩
