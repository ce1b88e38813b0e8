/-! the constructor of two dimensions: its contract -/
def zL2 (n : Nat) : List (Nat × Nat) := [(2, n), (300, n), (302, n), (303, n)] ++ ((List.range 7).map (fun j => (352, 7 * n + j)) ++ (List.range 7).map (fun j => (353, 7 * n + j)))
def nPl (U : State) : Prop := (Cond.arrayOver (.array .int)).before #[] U = true
theorem n_X2 (l : Launch) (tc : Nat → ClassId) (D : va_G) (n : Nat) (hn : n < 2) (h0 sz : Nat) : Met l yX2_init (.code yX2_init cX2_init 1 none :: z_TB) { frames := 1, cells := 17, slots := 119, locals := 12 } (zn_Pc tc D 2 [.null, .int 0, .null, .null, .long 0, .int 0, .int 0, .long 0] nPl h0 sz) (zn_Qc tc D 2 [.null, .int 0, .null, .null, .long 0, .int 0, .int 0, .long 0] (zL2 n) (2, n) h0 sz) 17 119 (va_A [(h0, .inr (2, [.null, .int 0, .null, .null, .long 0, .int 0, .int 0, .long 0]))] sz) := by
  sorry
