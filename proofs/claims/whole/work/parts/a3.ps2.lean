/-! a law's sum: both sides read the same -/
section PS2
variable {B : Nat → Nat} {n : Nat} {r : Bool}
def M3 (B : Nat → Nat) (n : Nat) (r : Bool) (j kk d : Nat) : z_M := fun k dep p a R => PQ B n r k dep p a R ∧ Cs B n j r k dep p a R ∧ Rs B n kk r d k dep p a R
theorem M3_ok {j kk d : Nat} (hd : 8 ≤ d) : PC B n r (M3 B n r j kk d) := by
  have h1 : ∀ k dep p e R, M3 B n r j kk d k dep p e R → PQ B n r k dep p e R := fun _ _ _ _ _ h => h.1
  have h2 : ∀ k dep p e R, M3 B n r j kk d k dep p e R → PQ B n r k dep p e R ∧ Cs B n j r k dep p e R := fun _ _ _ _ _ h => ⟨h.1, h.2.1⟩
  have h3 : ∀ k dep p e R, M3 B n r j kk d k dep p e R → PQ B n r k dep p e R ∧ Rs B n kk r d k dep p e R := fun _ _ _ _ _ h => ⟨h.1, h.2.2⟩
  refine ⟨⟨fun dep p a h => ⟨pq_num h, cs_num h, rs_num hd h⟩, fun dep p a h g => ⟨pq_name h g, cs_name h g, rs_name hd h g⟩, fun dep p a h g => ⟨pq_c (by decide) (by decide) (fun hp => fr_le hp), cs_deep h g, rs_deep hd h g⟩, fun dep p a R R' x y z w => ⟨pq_par h1 x y z w, cs_par h2 x y z w, rs_par hd h3 x y z w⟩, fun dep p a R R' x y z w => ⟨pq_una h1 x y z w, cs_una h2 x y z w, rs_una hd h3 x y z w⟩, fun dep p a x y z => ⟨pq_c (by decide) (by decide) (fun hp => fr_le hp), cs_cant x y z, rs_cant hd x y z⟩⟩, ⟨fun dep p a R R' x y z w => ⟨pq_if h1 x y z w, cs_if h2 x y z w, rs_if hd h3 x y z w⟩, fun dep p a x y => ⟨pq_c (by decide) (by decide) (fun hp => fr_le hp), cs_notd x y, rs_notd hd x y⟩, fun dep p a R R' x y z w => ⟨pq_not h1 x y z w, cs_not h2 x y z w, rs_not hd h3 x y z w⟩, fun dep p a R R' x z w => ⟨pq_ask h1 z w, cs_ask h2 x z w, rs_ask hd h3 x z w⟩⟩, ?_, ?_, ?_, ?_⟩
  · exact ⟨fun dep p e R R' x y z => ⟨pq_4 h1 lk2 x y z, cs_4_2 h2 x y z, rs_42 hd h3 x y z⟩, fun dep p e x => ⟨pq_4e lk2 x, cs_4e_2 x, rs_4e (c1 := 36) (c2 := 37) rfl (by decide)⟩, fun dep p a R R' y z => ⟨pq_4h h1 lk2 y z, cs_4h_2 h2 y z, rs_4h2 h3 y z⟩⟩
  · exact ⟨fun dep p e R R' x y z => ⟨pq_4 h1 lk4 x y z, cs_4_4 h2 x y z, rs_44 hd h3 x y z⟩, fun dep p e x => ⟨pq_4e lk4 x, cs_4e_4 x, rs_4e (c1 := 34) (c2 := 35) rfl (by decide)⟩, fun dep p a R R' y z => ⟨pq_4h h1 lk4 y z, cs_4h_4 h2 y z, rs_4h4 h3 y z⟩⟩
  · exact ⟨fun dep p e R R' x y z => ⟨pq_4 h1 lk7 x y z, cs_4_7 h2 x y z, rs_47 hd h3 x y z⟩, fun dep p e x => ⟨pq_4e lk7 x, cs_4e_7 x, rs_4e (c1 := 25) (c2 := 25) rfl (by decide)⟩, fun dep p a R R' y z => ⟨pq_4h h1 lk7 y z, cs_4h_7 h2 y z, rs_4h7 h3 y z⟩⟩
  · exact ⟨fun dep p e R R' x y z => ⟨pq_4 h1 lk9 x y z, cs_4_9 h2 x y z, rs_49 hd h3 x y z⟩, fun dep p e x => ⟨pq_4e lk9 x, cs_4e_9 x, rs_4e (c1 := 24) (c2 := 24) rfl (by decide)⟩, fun dep p a R R' y z => ⟨pq_4h h1 lk9 y z, cs_4h_9 h2 y z, rs_4h9 h3 y z⟩⟩
theorem sumsB {p : Nat} (j kk d : Nat) (hd : 8 ≤ d) (hp : p ≤ n) : ∃ R, PQ B n r 3 0 p zZ R ∧ CsN B n j r 3 0 p zZ R ∧ RN B n kk r d 3 0 p R := by
  obtain ⟨R, h1, h2, h3⟩ := totP (M := M3 B n r j kk d) (fun k dep p e R h => h.1.1) (M3_ok hd) (n - p + 1) p (Nat.lt_succ_self _) hp 3 (by decide) 0 zZ
  exact ⟨R, h1, Cs.nn h2 rfl hp (by decide), h3.gn rfl (by decide) hp (by decide)⟩
end PS2
