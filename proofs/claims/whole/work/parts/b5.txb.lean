section TXB
variable {d : Nat} {v : z_V} {q : z_Q}
theorem Fj.fn {S : Nat → Nat → Nat → Prop} {S' : Nat → Nat → Prop} {v u : z_V} (h : Fj S v u) (hs : ∀ t m k, S t m k → S' t m) : Fn S' (pJ v (gJ u)) u := ⟨fun t m k z => h t m k (fun y => z (hs t m k y)), rfl⟩
theorem C_text {Rt : z_Rf} (h : InvC v q) (hk : wT (qW q) < 4) (hl : ∀ d v f i (Q : z_RT) u1, 74 ≤ d → TCc (qB q) (qL q) (wT (qW q)) v 0 T00 f → f ≤ 0 → i ≤ 0 → (∀ u x, CT (wT (qW q)) v Rt u x → Q u (some (vI x))) → z_Wp (z_C d) 4 k_X3_read Q 40 [some (vR 3 0), u1, some (vI 1), some (vI (nI i))] [] v) : ZI (d + 76) m_X10_text [vR 10 0] v (fun u x => x = rTx q Rt ∧ InvC u (qTx q Rt) ∧ FC (pJ v (gJ u)) u ∧ KC (pJ v (gJ u)) u) := fun Q k => E_X10_text (B_X10_text_0 (by
  obtain ⟨a0, a1, a2, a3, a4, a5, a6, a7⟩ := h
  have hT : TPc v (qB q) (qL q) := ⟨a5, a0.2.1, fun i hi => ⟨a6 i hi, a0.2.2 i hi⟩⟩
  have h9 : gI v 9 0 9 = nI (wT (qW q)) := a1.2.2.1
  have hI := a0.1
  rw [h9, n_nI (by omega), Nat.zero_add]
  refine pk_lt (wT (qW q)) 4 (fun _ => z_ii _ rfl hk (cI (s_readC (d := d) hl hT) (fun w x hx => ?_))) (fun z => absurd hk (by omega))
  obtain ⟨x0, x1, x2, x3⟩ := hx
  have F : Fn (fun t m => t = 3 ∨ ((t = 6 ∨ t = 700 ∨ t = 701 ∨ t = 702 ∨ t = 703) ∧ m = wT (qW q))) (pJ v (gJ w)) w := x3.fn (fun t m k z => z)
  have r0 : RC w 0 (qW q) := RC.fn (v := pJ v (gJ w)) a1 F (fun t m z => by unfold inW at z; omega)
  have r1 : RC w 1 (qI q) := RC.fn (v := pJ v (gJ w)) a2 F (fun t m z => by unfold inW at z; omega)
  have tx : ∀ m T, TC v m T → m ≠ wT (qW q) → TC w m T := fun m T t hm => TC.fn (v := pJ v (gJ w)) t F (by omega) (by omega) (by omega) (by omega) (by omega)
  cases Rt with
  | inl g =>
    obtain ⟨y0, y1, y2⟩ := x0
    refine b_0 y0 (k _ _ ⟨rfl, ⟨okQ_tx a0, r0, r1, fun i hi => tx _ _ (a3 i hi) (by have hi : i < wT (qW q) := hi; omega), fun i hi => tx _ _ (a4 i hi) (by omega), x1, fun i hi => absurd hi (Nat.not_lt_zero _), Or.inr ⟨x2, y1, y2⟩⟩, F.mono (fun t m z => by unfold tCl; omega), F.mono (fun t m z => by unfold tCa; omega)⟩)
  | inr T =>
    obtain ⟨y0, yT, y1, y2⟩ := x0
    have g9 : gI w 9 0 9 = nI (wT (qW q)) := r0.2.2.1
    rw [g9, nI_1, nI_s1]
    have f9 : Fn (fun t m => t = 9 ∧ m = 0) w (pI w 9 0 9 (nI (wT (qW q) + 1))) := Fn.rfl.pI ⟨rfl, rfl⟩
    have tx9 : ∀ m T, TC w m T → TC (pI w 9 0 9 (nI (wT (qW q) + 1))) m T := fun m T t => t.fn f9 (by omega) (by omega) (by omega) (by omega) (by omega)
    refine b_1 y0 (k _ _ ⟨rfl, ⟨okQ_tx a0, r0.ts hk, r1.fn f9 (fun t m z => by unfold inW at z; omega), fun i hi => ?_, fun i hi => ?_, (f9.i (by omega)).trans x1, fun i hi => absurd hi (Nat.not_lt_zero _), Or.inr ⟨(f9.i (by omega)).trans x2, (f9.i (by omega)).trans y1, (f9.i (by omega)).trans y2⟩⟩, (F.mono (fun t m z => by unfold tCl; omega)).trans (f9.mono (fun t m z => by unfold tCl; omega)), ?_⟩)
    · have hi : i < wT (qW q) + 1 := hi
      show TC _ (4 * 0 + i) (if i = wT (qW q) then T else qT q i)
      by_cases e : i = wT (qW q)
      · rw [if_pos e, e, Nat.mul_zero, Nat.zero_add]
        exact tx9 _ _ yT
      · rw [if_neg e]
        exact tx9 _ _ (tx _ _ (a3 i (by omega)) (by omega))
    · have hi : i < wT (qI q) := hi
      show TC _ (4 * 1 + i) (if i = wT (qW q) then T else qT q i)
      rw [if_neg (by omega)]
      exact tx9 _ _ (tx _ _ (a4 i hi) (by omega))
    · exact (F.mono (fun t m z => by unfold tCa; omega)).trans (f9.mono (fun t m z => by unfold tCa; omega))))
end TXB
