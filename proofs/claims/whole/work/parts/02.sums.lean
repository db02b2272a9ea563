/-! sums below n, one cell put, the counts that X keeps beside its tables -/
def ws_sm (f : Nat → Nat) : Nat → Nat
  | 0 => 0
  | n + 1 => ws_sm f n + f n
theorem ws_sm_s (f : Nat → Nat) (n : Nat) : ws_sm f (n + 1) = ws_sm f n + f n := rfl
theorem ws_sm_le {f : Nat → Nat} {b : Nat} (h : ∀ j, f j ≤ b) : ∀ n, ws_sm f n ≤ b * n := by
  intro n
  induction n with
  | zero => exact Nat.zero_le _
  | succ n ih =>
    rw [ws_sm_s, Nat.mul_succ]
    exact Nat.add_le_add ih (h n)
theorem ws_sm_c {f g : Nat → Nat} : ∀ n, (∀ j, j < n → f j = g j) → ws_sm f n = ws_sm g n := by
  intro n
  induction n with
  | zero => intro _; rfl
  | succ n ih =>
    intro h
    rw [ws_sm_s, ws_sm_s, ih (fun j hj => h j (by omega)), h n (by omega)]
theorem ws_sm_u {f g : Nat → Nat} {k : Nat} : ∀ n, k < n → (∀ j, j < n → j ≠ k → g j = f j) → ws_sm g n + f k = ws_sm f n + g k := by
  intro n
  induction n with
  | zero => intro h _; omega
  | succ n ih =>
    intro h e
    rw [ws_sm_s, ws_sm_s]
    by_cases z : k = n
    · subst z
      have h1 := ws_sm_c (f := g) (g := f) k (fun j hj => e j (by omega) (by omega))
      omega
    · have h1 := ih (by omega) (fun j hj hn => e j (by omega) hn)
      have h2 := e n (by omega) (by omega)
      omega
theorem ws_sm_x {f : Nat → Nat} {n : Nat} (h : ∀ j, n ≤ j → f j = 0) : ∀ m, n ≤ m → ws_sm f m = ws_sm f n := by
  intro m
  induction m with
  | zero =>
    intro e
    have z : n = 0 := by omega
    rw [z]
  | succ m ih =>
    intro e
    by_cases z : n = m + 1
    · rw [z]
    · rw [ws_sm_s, ih (by omega), h m (by omega), Nat.add_zero]
theorem ws_sm_0 {f : Nat → Nat} : ∀ n, (∀ j, j < n → f j = 0) → ws_sm f n = 0 := by
  intro n
  induction n with
  | zero => intro _; rfl
  | succ n ih =>
    intro h
    rw [ws_sm_s, ih (fun j hj => h j (by omega)), h n (by omega)]
theorem ws_sm_m {f : Nat → Nat} {i : Nat} : ∀ n, i ≤ n → ws_sm f i ≤ ws_sm f n := by
  intro n
  induction n with
  | zero =>
    intro e
    have z : i = 0 := by omega
    rw [z]
    exact Nat.le_refl _
  | succ n ih =>
    intro e
    by_cases z : i = n + 1
    · rw [z]; exact Nat.le_refl _
    · have h1 := ih (by omega)
      rw [ws_sm_s]
      omega
def ws_up (f : Nat → Nat) (k x : Nat) : Nat → Nat := fun j => if j = k then x else f j
theorem ws_us {f : Nat → Nat} {k x : Nat} : ws_up f k x k = x := if_pos rfl
theorem ws_un {f : Nat → Nat} {k x j : Nat} (h : j ≠ k) : ws_up f k x j = f j := if_neg h
theorem ws_u_le {f : Nat → Nat} {k x b : Nat} (hx : x ≤ b) (h : ∀ j, f j ≤ b) (j : Nat) : ws_up f k x j ≤ b := by
  by_cases z : j = k
  · rw [z, ws_us]; exact hx
  · rw [ws_un z]; exact h j
theorem ws_upI (f : Nat → Nat) (k x : Nat) : upd (fun j => nI (f j)) k (nI x) = fun j => nI (ws_up f k x j) := by
  funext j
  by_cases h : j = k
  · rw [h, pk_us, ws_us]
  · rw [pk_un h, ws_un h]
/-- the same, the index and the value given as equations -/
theorem ws_upE {f : Nat → Nat} {i : Int32} {y : Int32} (k x : Nat) (hk : k < 2 ^ 31) (hi : i = nI k) (hy : y = nI x) : upd (fun j => nI (f j)) i.toNatClampNeg y = fun j => nI (ws_up f k x j) := by
  subst hi hy
  rw [nI_clamp hk]
  exact ws_upI f k x
theorem ws_fun {f g : Nat → Nat} {k : Nat} {y : Int32} (hy : y = nI (g k)) (h : ∀ j, j ≠ k → g j = f j) : upd (fun j => nI (f j)) k y = fun j => nI (g j) := by
  funext j
  by_cases z : j = k
  · rw [z, pk_us, hy]
  · rw [pk_un z, h j z]
def ws_b (x : Nat) : Nat := if 0 < x then 1 else 0
theorem ws_b0 : ws_b 0 = 0 := rfl
theorem ws_bp {x : Nat} (h : 0 < x) : ws_b x = 1 := if_pos h
theorem ws_b1 (x : Nat) : ws_b x ≤ 1 := by
  by_cases h : 0 < x
  · rw [ws_bp h]; exact Nat.le_refl _
  · have z : x = 0 := by omega
    rw [z, ws_b0]
    exact Nat.zero_le _
/-- the length of document d -/
def ws_L (C : Nat → Nat) (d : Nat) : Nat := ws_sm (fun t => C (8 * d + t)) 8
/-- the live documents that hold the word t -/
def ws_h (E C : Nat → Nat) (t : Nat) : Nat := if t < 8 then ws_sm (fun d => E d * ws_b (C (8 * d + t))) 24 else 0
/-- the items of the query -/
def ws_it (K : Nat → Nat) : Nat := ws_sm (fun t => ws_b (K t)) 8
theorem ws_L_le {C : Nat → Nat} (h : ∀ j, C j ≤ 7) (d : Nat) : ws_L C d ≤ 56 :=
  ws_sm_le (f := fun t => C (8 * d + t)) (b := 7) (fun t => h (8 * d + t)) 8
theorem ws_A_le {A : Nat → Nat} (h : ∀ j, A j ≤ 7) : ws_sm A 8 ≤ 56 := ws_sm_le (f := A) (b := 7) h 8
theorem ws_E_le {E : Nat → Nat} (h : ∀ j, E j ≤ 1) : ws_sm E 24 ≤ 24 := ws_sm_le (f := E) (b := 1) h 24
theorem ws_h_le {E C : Nat → Nat} (h : ∀ j, E j ≤ 1) (t : Nat) : ws_h E C t ≤ 24 := by
  unfold ws_h
  by_cases ht : t < 8
  · rw [if_pos ht]
    exact ws_sm_le (b := 1) (fun d => Nat.mul_le_mul (h d) (ws_b1 _)) 24
  · rw [if_neg ht]
    exact Nat.zero_le _
theorem ws_it_le (K : Nat → Nat) : ws_it K ≤ 8 := ws_sm_le (f := fun t => ws_b (K t)) (b := 1) (fun t => ws_b1 (K t)) 8
/-! one cell put -/
theorem ws_L_e {C : Nat → Nat} {d w x : Nat} (hw : w < 8) (h0 : C (8 * d + w) = 0) : ws_L (ws_up C (8 * d + w) x) d = ws_L C d + x := by
  have h := ws_sm_u (f := fun t => C (8 * d + t)) (g := fun t => ws_up C (8 * d + w) x (8 * d + t)) (k := w) 8 hw (fun j hj hn => ws_un (by omega))
  rw [h0, ws_us] at h
  unfold ws_L
  omega
theorem ws_L_o {C : Nat → Nat} {d e w x : Nat} (hw : w < 8) (h : e ≠ d) : ws_L (ws_up C (8 * d + w) x) e = ws_L C e := by
  unfold ws_L
  exact ws_sm_c 8 (fun j hj => ws_un (by omega))
theorem ws_h_e {E C : Nat → Nat} {d w x : Nat} (hd : d < 24) (hw : w < 8) (h0 : C (8 * d + w) = 0) (h1 : E d = 1) : ws_h E (ws_up C (8 * d + w) x) w = ws_h E C w + ws_b x := by
  unfold ws_h
  rw [if_pos hw, if_pos hw]
  have h := ws_sm_u (f := fun e => E e * ws_b (C (8 * e + w))) (g := fun e => E e * ws_b (ws_up C (8 * d + w) x (8 * e + w))) (k := d) 24 hd (fun j hj hn => by
    show E j * ws_b (ws_up C (8 * d + w) x (8 * j + w)) = E j * ws_b (C (8 * j + w))
    rw [ws_un (by omega)])
  rw [h0, ws_us, h1, ws_b0] at h
  omega
theorem ws_h_o {E C : Nat → Nat} {d w t x : Nat} (hw : w < 8) (h : t ≠ w) : ws_h E (ws_up C (8 * d + w) x) t = ws_h E C t := by
  unfold ws_h
  by_cases ht : t < 8
  · rw [if_pos ht, if_pos ht]
    exact ws_sm_c 24 (fun j hj => by
      show E j * ws_b (ws_up C (8 * d + w) x (8 * j + t)) = E j * ws_b (C (8 * j + t))
      rw [ws_un (by omega)])
  · rw [if_neg ht, if_neg ht]
/-! one document begun, or deleted -/
theorem ws_E_u {E : Nat → Nat} {d : Nat} (x : Nat) (hd : d < 24) : ws_sm (ws_up E d x) 24 + E d = ws_sm E 24 + x := by
  have h := ws_sm_u (f := E) (g := ws_up E d x) (k := d) 24 hd (fun j hj hn => ws_un hn)
  rw [ws_us] at h
  exact h
theorem ws_h_u {E C : Nat → Nat} {d t : Nat} (x : Nat) (hd : d < 24) (ht : t < 8) : ws_h (ws_up E d x) C t + E d * ws_b (C (8 * d + t)) = ws_h E C t + x * ws_b (C (8 * d + t)) := by
  unfold ws_h
  rw [if_pos ht, if_pos ht]
  have h := ws_sm_u (f := fun e => E e * ws_b (C (8 * e + t))) (g := fun e => ws_up E d x e * ws_b (C (8 * e + t))) (k := d) 24 hd (fun j hj hn => by
    show ws_up E d x j * ws_b (C (8 * j + t)) = E j * ws_b (C (8 * j + t))
    rw [ws_un hn])
  rw [ws_us] at h
  exact h
theorem ws_h_n {E C : Nat → Nat} {n : Nat} (hn : n < 24) (hE : E n = 0) (hC : ∀ j, 8 * n ≤ j → C j = 0) (t : Nat) : ws_h (ws_up E n 1) C t = ws_h E C t := by
  by_cases ht : t < 8
  · have h := ws_h_u (E := E) (C := C) 1 hn ht
    rw [hE, hC (8 * n + t) (by omega), ws_b0] at h
    omega
  · unfold ws_h
    rw [if_neg ht, if_neg ht]
/-! one item put -/
theorem ws_it_u {K : Nat → Nat} {w : Nat} (x : Nat) (hw : w < 8) : ws_it (ws_up K w x) + ws_b (K w) = ws_it K + ws_b x := by
  have h := ws_sm_u (f := fun t => ws_b (K t)) (g := fun t => ws_b (ws_up K w x t)) (k := w) 8 hw (fun j hj hn => by
    show ws_b (ws_up K w x j) = ws_b (K j)
    rw [ws_un hn])
  rw [ws_us] at h
  exact h
theorem ws_A_u {A : Nat → Nat} {w : Nat} (x : Nat) (hw : w < 8) : ws_sm (ws_up A w x) 8 + A w = ws_sm A 8 + x := by
  have h := ws_sm_u (f := A) (g := ws_up A w x) (k := w) 8 hw (fun j hj hn => ws_un hn)
  rw [ws_us] at h
  exact h
/-! a row, word by word -/
def ws_rw (C : Nat → Nat) (n : Nat) (g : Nat → Nat) (w : Nat) : Nat → Nat := fun j => if 8 * n ≤ j ∧ j < 8 * n + w then g (j - 8 * n) else C j
theorem ws_rw_i {C : Nat → Nat} {n : Nat} {g : Nat → Nat} {w j : Nat} (h : 8 * n ≤ j) (h2 : j < 8 * n + w) : ws_rw C n g w j = g (j - 8 * n) := if_pos ⟨h, h2⟩
theorem ws_rw_o {C : Nat → Nat} {n : Nat} {g : Nat → Nat} {w j : Nat} (h : ¬ (8 * n ≤ j ∧ j < 8 * n + w)) : ws_rw C n g w j = C j := if_neg h
theorem ws_rw_0 (C : Nat → Nat) (n : Nat) (g : Nat → Nat) : ws_rw C n g 0 = C := by
  funext j
  exact ws_rw_o (by omega)
theorem ws_rw_s (C : Nat → Nat) (n : Nat) (g : Nat → Nat) (w : Nat) : ws_up (ws_rw C n g w) (8 * n + w) (g w) = ws_rw C n g (w + 1) := by
  funext j
  by_cases h : j = 8 * n + w
  · rw [h, ws_us, ws_rw_i (by omega) (by omega)]
    exact congrArg g (by omega)
  · rw [ws_un h]
    by_cases h2 : 8 * n ≤ j ∧ j < 8 * n + w
    · rw [ws_rw_i h2.1 h2.2, ws_rw_i h2.1 (by omega)]
    · rw [ws_rw_o h2, ws_rw_o (by omega)]
/-! what both states hold -/
def ws_ok (A C E K : Nat → Nat) (n : Nat) : Prop :=
  n ≤ 24 ∧ (∀ j, A j ≤ 7) ∧ (∀ j, C j ≤ 7) ∧ (∀ d, E d ≤ 1) ∧ (∀ d, n ≤ d → E d = 0) ∧ (∀ j, 8 * n ≤ j → C j = 0) ∧ (∀ t, K t ≤ 3) ∧ ws_it K ≤ 5
theorem ws_ok_add {A C E K : Nat → Nat} {n : Nat} (g : Nat → Nat) (hg : ∀ t, g t ≤ 7) (hn : n < 24) (h : ws_ok A C E K n) : ws_ok A (ws_rw C n g 8) (ws_up E n 1) K (n + 1) := by
  obtain ⟨h1, h2, h3, h4, h5, h6, h7, h8⟩ := h
  refine ⟨hn, h2, fun j => ?_, fun d => ws_u_le (Nat.le_refl 1) h4 d, fun d hd => ?_, fun j hj => ?_, h7, h8⟩
  · by_cases z : 8 * n ≤ j ∧ j < 8 * n + 8
    · rw [ws_rw_i z.1 z.2]; exact hg _
    · rw [ws_rw_o z]; exact h3 j
  · rw [ws_un (by omega)]; exact h5 d (by omega)
  · rw [ws_rw_o (by omega)]; exact h6 j (by omega)
/-! the first place at which a test holds -/
theorem ws_first (Q : Nat → Prop) : ∀ n, (∀ j, j < n → ¬ Q j) ∨ ∃ k, k < n ∧ Q k ∧ ∀ j, j < k → ¬ Q j := by
  intro n
  induction n with
  | zero => exact Or.inl (fun j hj => by omega)
  | succ n ih =>
    cases ih with
    | inl h =>
      by_cases z : Q n
      · exact Or.inr ⟨n, by omega, z, h⟩
      · exact Or.inl (fun j hj => by
          by_cases e : j = n
          · rw [e]; exact z
          · exact h j (by omega))
    | inr h =>
      obtain ⟨k, hk, hq, hj⟩ := h
      exact Or.inr ⟨k, by omega, hq, hj⟩
