/-! every call is a contract: by the depth -/
theorem z_eck_at {own : String} {bytes : ByteArray} : ∀ {cd : List z_E} {ps : List Nat} {pc : Nat} {ins : Instr} {a b : Nat} {ks : List Nat} {ci : Int32} {cl : Int64}, z_eck own bytes cd ps = true → z_at cd pc = some (ins, a, b, ks, ci, cl) → ∃ pl, decode bytes pc = .ok (ins, z_il ins a) ∧ z_ick own pc ins a b ci cl pl = true
  | [], _, _, _, _, _, _, _, _, _, h => by cases h
  | (p0, i0, a0, b0, k0, c0, l0) :: r, [], pc, ins, a, b, ks, ci, cl, h1, h2 => by
    simp only [z_eck, Bool.and_eq_true, decide_eq_true_eq] at h1
    unfold z_at at h2
    split at h2
    · rename_i hp
      have hp := Nat.eq_of_beq_eq_true hp
      subst hp
      cases h2
      exact ⟨0, h1.1, h1.2.1⟩
    · exact z_eck_at h1.2.2 h2
  | (p0, i0, a0, b0, k0, c0, l0) :: r, p1 :: ps, pc, ins, a, b, ks, ci, cl, h1, h2 => by
    simp only [z_eck, Bool.and_eq_true, decide_eq_true_eq] at h1
    unfold z_at at h2
    split at h2
    · rename_i hp
      have hp := Nat.eq_of_beq_eq_true hp
      subst hp
      cases h2
      exact ⟨p1, h1.1, h1.2.1⟩
    · exact z_eck_at h1.2.2 h2
theorem z_ent_get {ad : Nat × Nat → Nat} : ∀ {As : List z_AV} {j i : Nat} {w : z_AV}, z_lget (z_ent As) i = some w → (j + i, z_cv ad w) ∈ lv_args j (As.map (z_cv ad))
  | [], _, _, _, h => by cases h
  | .inr (.inl x) :: r, j, 0, w, h => by
    cases h
    exact List.mem_cons_self
  | .inr (.inl x) :: r, j, 1, w, h => by cases h
  | .inr (.inl x) :: r, j, i + 2, w, h => by
    refine List.mem_cons_of_mem _ ?_
    have := z_ent_get (ad := ad) (As := r) (j := j + 2) (i := i) h
    rw [show j + (i + 2) = j + 2 + i by omega]
    exact this
  | .inl x :: r, j, 0, w, h => by
    cases h
    exact List.mem_cons_self
  | .inl x :: r, j, i + 1, w, h => by
    refine List.mem_cons_of_mem _ ?_
    have := z_ent_get (ad := ad) (As := r) (j := j + 1) (i := i) h
    rw [show j + (i + 1) = j + 1 + i by omega]
    exact this
  | .inr (.inr none) :: r, j, 0, w, h => by
    cases h
    exact List.mem_cons_self
  | .inr (.inr none) :: r, j, i + 1, w, h => by
    refine List.mem_cons_of_mem _ ?_
    have := z_ent_get (ad := ad) (As := r) (j := j + 1) (i := i) h
    rw [show j + (i + 1) = j + 1 + i by omega]
    exact this
  | .inr (.inr (some q)) :: r, j, 0, w, h => by
    cases h
    exact List.mem_cons_self
  | .inr (.inr (some q)) :: r, j, i + 1, w, h => by
    refine List.mem_cons_of_mem _ ?_
    have := z_ent_get (ad := ad) (As := r) (j := j + 1) (i := i) h
    rw [show j + (i + 1) = j + 1 + i by omega]
    exact this
theorem z_ent_ok : ∀ {As : List z_AV}, z_oks As → z_okl (z_ent As)
  | [], _ => fun i w h => by cases h
  | .inr (.inl x) :: r, h => fun i w hi => by
    match i, hi with
    | 0, hi => cases hi; exact trivial
    | 1, hi => cases hi
    | i + 2, hi => exact z_ent_ok (As := r) h.2 i w hi
  | .inl x :: r, h => fun i w hi => by
    match i, hi with
    | 0, hi => cases hi; exact trivial
    | i + 1, hi => exact z_ent_ok (As := r) h.2 i w hi
  | .inr (.inr none) :: r, h => fun i w hi => by
    match i, hi with
    | 0, hi => cases hi; exact trivial
    | i + 1, hi => exact z_ent_ok (As := r) h.2 i w hi
  | .inr (.inr (some q)) :: r, h => fun i w hi => by
    match i, hi with
    | 0, hi => cases hi; exact h.1
    | i + 1, hi => exact z_ent_ok (As := r) h.2 i w hi
theorem z_pad_get : ∀ {n : Nat} {l : List (Option z_AV)} {i : Nat} {w : z_AV}, z_lget (z_pad n l) i = some w → z_lget l i = some w
  | 0, _, _, _, h => h
  | n + 1, [], 0, w, h => by cases h
  | n + 1, [], i + 1, w, h => by
    have := z_pad_get (n := n) (l := []) (i := i) h
    cases this
  | n + 1, x :: r, 0, w, h => h
  | n + 1, x :: r, i + 1, w, h => z_pad_get (n := n) (l := r) (i := i) h
theorem z_pad_len : ∀ {n : Nat} {l : List (Option z_AV)}, l.length ≤ n → (z_pad n l).length = n
  | 0, l, h => by simpa [z_pad] using h
  | n + 1, [], _ => congrArg Nat.succ (z_pad_len (n := n) (l := []) (Nat.zero_le _))
  | n + 1, x :: r, h => congrArg Nat.succ (z_pad_len (n := n) (l := r) (Nat.le_of_succ_le_succ h))
theorem z_ent_len {ad : Nat × Nat → Nat} : ∀ {As : List z_AV}, (z_ent As).length = (lg_sl (As.map (z_cv ad))).length
  | [] => rfl
  | .inr (.inl x) :: r => by
    have := z_ent_len (ad := ad) (As := r)
    simp only [z_ent, List.length_cons, lg_sl, List.map_cons, List.flatMap_cons, List.length_append] at this ⊢
    rw [this]
    simp [z_cv, Value.category]
    omega
  | .inl x :: r => by
    have := z_ent_len (ad := ad) (As := r)
    simp only [z_ent, List.length_cons, lg_sl, List.map_cons, List.flatMap_cons, List.length_append] at this ⊢
    rw [this]
    simp [z_cv, Value.category]
    omega
  | .inr (.inr none) :: r => by
    have := z_ent_len (ad := ad) (As := r)
    simp only [z_ent, List.length_cons, lg_sl, List.map_cons, List.flatMap_cons, List.length_append] at this ⊢
    rw [this]
    simp [z_cv, Value.category]
    omega
  | .inr (.inr (some q)) :: r => by
    have := z_ent_len (ad := ad) (As := r)
    simp only [z_ent, List.length_cons, lg_sl, List.map_cons, List.flatMap_cons, List.length_append] at this ⊢
    rw [this]
    simp [z_cv, Value.category]
    omega
