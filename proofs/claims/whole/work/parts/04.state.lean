/-! the two states, of one picture -/
abbrev ws_X (A C E K : Nat → Nat) (bo : Nat → Int32) (n : Nat) : SX :=
  (nI (ws_sm A 8), nI n, nI (ws_sm E 24), nI (ws_it K), fun j => nI (A j), fun j => nI (C j), fun d => nI (ws_L C d), fun d => nI (E d), fun t => nI (ws_h E C t), fun t => nI (K t), bo)
abbrev ws_Y (A C E K : Nat → Nat) (bo : Nat → Int32) (n : Nat) : SY :=
  (nI n, fun j => nI (A j), fun j => nI (C j), fun d => nI (E d), fun t => nI (K t), bo)
def i_Rel (_ : Nat) (u : SX) (v : SY) : Prop := ∃ (A C E K : Nat → Nat) (bo : Nat → Int32) (n : Nat), u = ws_X A C E K bo n ∧ v = ws_Y A C E K bo n ∧ ws_ok A C E K n
