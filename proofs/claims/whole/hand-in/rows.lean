section
theorem pk_us {f : Nat → Int32} {k : Nat} {x : Int32} : upd f k x k = x := if_pos rfl
theorem pk_un {f : Nat → Int32} {k j : Nat} {x : Int32} (h : j ≠ k) : upd f k x j = f j := if_neg h
theorem pk_sub {a b : Nat} (h : b ≤ a) : nI a - nI b = nI (a - b) := by
  obtain ⟨c, rfl⟩ : ∃ c, a = c + b := ⟨a - b, by omega⟩
  rw [← nI_add, Int32.add_sub_cancel, Nat.add_sub_cancel]
theorem pk_m1 (n : Nat) : nI (n + 1) + (-1) = nI n := by
  rw [← nI_1, Int32.add_assoc, show (1 : Int32) + (-1) = 0 from rfl, Int32.add_zero]
theorem pk_mul (a b : Nat) : nI a * nI b = nI (a * b) := (Int32.ofNat_mul a b).symm
theorem pk_div {a d : Nat} (ha : a < 2 ^ 31) (h0 : 0 < d) (hd : d < 2 ^ 31) : nI a / nI d = nI (a / d) := by
  apply Int32.toInt_inj.mp
  rw [lg_idiv_nonneg (by rw [nI_toInt ha]; omega) (by rw [nI_toInt hd]; omega), nI_toInt ha, nI_toInt hd, nI_toInt (Nat.lt_of_le_of_lt (Nat.div_le_self a d) ha)]
  first | rfl | exact (Int.natCast_ediv _ _).symm
theorem pk_rem {a d : Nat} (ha : a < 2 ^ 31) (h0 : 0 < d) (hd : d < 2 ^ 31) : nI a - nI a / nI d * nI d = nI (a % d) := by
  rw [pk_div ha h0 hd, pk_mul, pk_sub (Nat.div_mul_le_self a d)]
  exact congrArg nI (by have := Nat.div_add_mod' a d; omega)
theorem pk_sub_toInt {a b : Nat} (ha : a < 2 ^ 30) (hb : b < 2 ^ 30) : (nI a - nI b).toInt = (a : Int) - b := by
  rw [Int32.toInt_sub, nI_toInt (by omega), nI_toInt (by omega)]
  exact Int.bmod_eq_of_le (by omega) (by omega)
theorem pk_sneg {a b : Nat} (hb : b < 2 ^ 30) (h : a < b) : nI a - nI b < 0 := by
  rw [Int32.lt_iff_toInt_lt, pk_sub_toInt (by omega) hb, show (0 : Int32).toInt = 0 from by decide]
  omega
theorem pk_ix (x : Int32) {n : Nat} (hn : n < 2 ^ 31) : x < 0 ∨ nI n ≤ x ∨ ∃ j : Nat, j < n ∧ x = nI j := by
  by_cases h : x < 0
  · exact Or.inl h
  · obtain ⟨j, hj, rfl⟩ := nI_of h
    by_cases h2 : j < n
    · exact Or.inr (Or.inr ⟨j, h2, rfl⟩)
    · exact Or.inr (Or.inl (nI_le (by omega) hj))
theorem pk_le {x y : Int32} {A B : Prop} (a b : Nat) (f : a ≤ b → A) (g : b < a → B) (hx : x = nI a := by rfl) (hy : y = nI b := by rfl) (ha : a < 2 ^ 31 := by omega) (hb : b < 2 ^ 31 := by omega) : (x ≤ y → A) ∧ (¬ x ≤ y → B) := by
  subst hx hy
  rw [nI_leI ha hb]
  exact ⟨f, fun z => g (by omega)⟩
theorem pk_lt {x y : Int32} {A B : Prop} (a b : Nat) (f : a < b → A) (g : b ≤ a → B) (hx : x = nI a := by rfl) (hy : y = nI b := by rfl) (ha : a < 2 ^ 31 := by omega) (hb : b < 2 ^ 31 := by omega) : (x < y → A) ∧ (¬ x < y → B) := by
  subst hx hy
  rw [nI_ltI ha hb]
  exact ⟨f, fun z => g (by omega)⟩
theorem pk_eq {x y : Int32} {A B : Prop} (a b : Nat) (f : a = b → A) (g : a ≠ b → B) (hx : x = nI a := by rfl) (hy : y = nI b := by rfl) (ha : a < 2 ^ 31 := by omega) (hb : b < 2 ^ 31 := by omega) : (x = y → A) ∧ (¬ x = y → B) := by
  subst hx hy
  rw [nI_eq ha hb]
  exact ⟨f, g⟩
theorem pk_in {x : Int32} (n N : Nat) (h : n < N) (hx : x = nI n := by rfl) (hN : N < 2 ^ 31 := by omega) : vp_in x N := by
  subst hx
  exact vp_in_nI h hN
theorem pk_cl {x : Int32} (n : Nat) (hx : x = nI n := by rfl) (h : n < 2 ^ 31 := by omega) : x.toNatClampNeg = n := by
  subst hx
  exact nI_clamp h
theorem pk_loop {σ : Type} (W : Nat → Nat → σ → Prop) (I : Nat → σ → Prop) (e i0 : Nat) (s : σ) (hi : i0 ≤ e) (h0 : I i0 s) (hx : ∀ n s, I e s → W (n + 1) e s)
    (hs : ∀ n i s, i < e → I i s → (∀ s', I (i + 1) s' → W n (i + 1) s') → W (n + 1) i s) : ∃ n, W n i0 s :=
  ⟨e + 1, loop_i W I e hx hs (e + 1) i0 s hi (by omega) h0⟩
end
section
/-! sums below n, one cell put, the counts that X keeps beside its tables -/
def ws_sm (f : Nat → Nat) : Nat → Nat
  | 0 => 0
  | n + 1 => ws_sm f n + f n
theorem ws_sm_s (f : Nat → Nat) (n : Nat) : ws_sm f (n + 1) = ws_sm f n + f n := rfl
theorem ws_sm_le {f : Nat → Nat} {b : Nat} (h : ∀ j, f j ≤ b) : ∀ n, ws_sm f n ≤ b * n := by
  intro n
  induction n with
  | zero => exact Nat.zero_le _
  | succ n ih =>
    rw [ws_sm_s, Nat.mul_succ]
    exact Nat.add_le_add ih (h n)
theorem ws_sm_c {f g : Nat → Nat} : ∀ n, (∀ j, j < n → f j = g j) → ws_sm f n = ws_sm g n := by
  intro n
  induction n with
  | zero => intro _; rfl
  | succ n ih =>
    intro h
    rw [ws_sm_s, ws_sm_s, ih (fun j hj => h j (by omega)), h n (by omega)]
theorem ws_sm_u {f g : Nat → Nat} {k : Nat} : ∀ n, k < n → (∀ j, j < n → j ≠ k → g j = f j) → ws_sm g n + f k = ws_sm f n + g k := by
  intro n
  induction n with
  | zero => intro h _; omega
  | succ n ih =>
    intro h e
    rw [ws_sm_s, ws_sm_s]
    by_cases z : k = n
    · subst z
      have h1 := ws_sm_c (f := g) (g := f) k (fun j hj => e j (by omega) (by omega))
      omega
    · have h1 := ih (by omega) (fun j hj hn => e j (by omega) hn)
      have h2 := e n (by omega) (by omega)
      omega
theorem ws_sm_x {f : Nat → Nat} {n : Nat} (h : ∀ j, n ≤ j → f j = 0) : ∀ m, n ≤ m → ws_sm f m = ws_sm f n := by
  intro m
  induction m with
  | zero =>
    intro e
    have z : n = 0 := by omega
    rw [z]
  | succ m ih =>
    intro e
    by_cases z : n = m + 1
    · rw [z]
    · rw [ws_sm_s, ih (by omega), h m (by omega), Nat.add_zero]
theorem ws_sm_0 {f : Nat → Nat} : ∀ n, (∀ j, j < n → f j = 0) → ws_sm f n = 0 := by
  intro n
  induction n with
  | zero => intro _; rfl
  | succ n ih =>
    intro h
    rw [ws_sm_s, ih (fun j hj => h j (by omega)), h n (by omega)]
theorem ws_sm_m {f : Nat → Nat} {i : Nat} : ∀ n, i ≤ n → ws_sm f i ≤ ws_sm f n := by
  intro n
  induction n with
  | zero =>
    intro e
    have z : i = 0 := by omega
    rw [z]
    exact Nat.le_refl _
  | succ n ih =>
    intro e
    by_cases z : i = n + 1
    · rw [z]; exact Nat.le_refl _
    · have h1 := ih (by omega)
      rw [ws_sm_s]
      omega
def ws_up (f : Nat → Nat) (k x : Nat) : Nat → Nat := fun j => if j = k then x else f j
theorem ws_us {f : Nat → Nat} {k x : Nat} : ws_up f k x k = x := if_pos rfl
theorem ws_un {f : Nat → Nat} {k x j : Nat} (h : j ≠ k) : ws_up f k x j = f j := if_neg h
theorem ws_u_le {f : Nat → Nat} {k x b : Nat} (hx : x ≤ b) (h : ∀ j, f j ≤ b) (j : Nat) : ws_up f k x j ≤ b := by
  by_cases z : j = k
  · rw [z, ws_us]; exact hx
  · rw [ws_un z]; exact h j
theorem ws_upI (f : Nat → Nat) (k x : Nat) : upd (fun j => nI (f j)) k (nI x) = fun j => nI (ws_up f k x j) := by
  funext j
  by_cases h : j = k
  · rw [h, pk_us, ws_us]
  · rw [pk_un h, ws_un h]
/-- the same, the index and the value given as equations -/
theorem ws_upE {f : Nat → Nat} {i : Int32} {y : Int32} (k x : Nat) (hk : k < 2 ^ 31) (hi : i = nI k) (hy : y = nI x) : upd (fun j => nI (f j)) i.toNatClampNeg y = fun j => nI (ws_up f k x j) := by
  subst hi hy
  rw [nI_clamp hk]
  exact ws_upI f k x
theorem ws_fun {f g : Nat → Nat} {k : Nat} {y : Int32} (hy : y = nI (g k)) (h : ∀ j, j ≠ k → g j = f j) : upd (fun j => nI (f j)) k y = fun j => nI (g j) := by
  funext j
  by_cases z : j = k
  · rw [z, pk_us, hy]
  · rw [pk_un z, h j z]
def ws_b (x : Nat) : Nat := if 0 < x then 1 else 0
theorem ws_b0 : ws_b 0 = 0 := rfl
theorem ws_bp {x : Nat} (h : 0 < x) : ws_b x = 1 := if_pos h
theorem ws_b1 (x : Nat) : ws_b x ≤ 1 := by
  by_cases h : 0 < x
  · rw [ws_bp h]; exact Nat.le_refl _
  · have z : x = 0 := by omega
    rw [z, ws_b0]
    exact Nat.zero_le _
/-- the length of document d -/
def ws_L (C : Nat → Nat) (d : Nat) : Nat := ws_sm (fun t => C (8 * d + t)) 8
/-- the live documents that hold the word t -/
def ws_h (E C : Nat → Nat) (t : Nat) : Nat := if t < 8 then ws_sm (fun d => E d * ws_b (C (8 * d + t))) 24 else 0
/-- the items of the query -/
def ws_it (K : Nat → Nat) : Nat := ws_sm (fun t => ws_b (K t)) 8
theorem ws_L_le {C : Nat → Nat} (h : ∀ j, C j ≤ 7) (d : Nat) : ws_L C d ≤ 56 :=
  ws_sm_le (f := fun t => C (8 * d + t)) (b := 7) (fun t => h (8 * d + t)) 8
theorem ws_A_le {A : Nat → Nat} (h : ∀ j, A j ≤ 7) : ws_sm A 8 ≤ 56 := ws_sm_le (f := A) (b := 7) h 8
theorem ws_E_le {E : Nat → Nat} (h : ∀ j, E j ≤ 1) : ws_sm E 24 ≤ 24 := ws_sm_le (f := E) (b := 1) h 24
theorem ws_h_le {E C : Nat → Nat} (h : ∀ j, E j ≤ 1) (t : Nat) : ws_h E C t ≤ 24 := by
  unfold ws_h
  by_cases ht : t < 8
  · rw [if_pos ht]
    exact ws_sm_le (b := 1) (fun d => Nat.mul_le_mul (h d) (ws_b1 _)) 24
  · rw [if_neg ht]
    exact Nat.zero_le _
theorem ws_it_le (K : Nat → Nat) : ws_it K ≤ 8 := ws_sm_le (f := fun t => ws_b (K t)) (b := 1) (fun t => ws_b1 (K t)) 8
/-! one cell put -/
theorem ws_L_e {C : Nat → Nat} {d w x : Nat} (hw : w < 8) (h0 : C (8 * d + w) = 0) : ws_L (ws_up C (8 * d + w) x) d = ws_L C d + x := by
  have h := ws_sm_u (f := fun t => C (8 * d + t)) (g := fun t => ws_up C (8 * d + w) x (8 * d + t)) (k := w) 8 hw (fun j hj hn => ws_un (by omega))
  rw [h0, ws_us] at h
  unfold ws_L
  omega
theorem ws_L_o {C : Nat → Nat} {d e w x : Nat} (hw : w < 8) (h : e ≠ d) : ws_L (ws_up C (8 * d + w) x) e = ws_L C e := by
  unfold ws_L
  exact ws_sm_c 8 (fun j hj => ws_un (by omega))
theorem ws_h_e {E C : Nat → Nat} {d w x : Nat} (hd : d < 24) (hw : w < 8) (h0 : C (8 * d + w) = 0) (h1 : E d = 1) : ws_h E (ws_up C (8 * d + w) x) w = ws_h E C w + ws_b x := by
  unfold ws_h
  rw [if_pos hw, if_pos hw]
  have h := ws_sm_u (f := fun e => E e * ws_b (C (8 * e + w))) (g := fun e => E e * ws_b (ws_up C (8 * d + w) x (8 * e + w))) (k := d) 24 hd (fun j hj hn => by
    show E j * ws_b (ws_up C (8 * d + w) x (8 * j + w)) = E j * ws_b (C (8 * j + w))
    rw [ws_un (by omega)])
  rw [h0, ws_us, h1, ws_b0] at h
  omega
theorem ws_h_o {E C : Nat → Nat} {d w t x : Nat} (hw : w < 8) (h : t ≠ w) : ws_h E (ws_up C (8 * d + w) x) t = ws_h E C t := by
  unfold ws_h
  by_cases ht : t < 8
  · rw [if_pos ht, if_pos ht]
    exact ws_sm_c 24 (fun j hj => by
      show E j * ws_b (ws_up C (8 * d + w) x (8 * j + t)) = E j * ws_b (C (8 * j + t))
      rw [ws_un (by omega)])
  · rw [if_neg ht, if_neg ht]
/-! one document begun, or deleted -/
theorem ws_E_u {E : Nat → Nat} {d : Nat} (x : Nat) (hd : d < 24) : ws_sm (ws_up E d x) 24 + E d = ws_sm E 24 + x := by
  have h := ws_sm_u (f := E) (g := ws_up E d x) (k := d) 24 hd (fun j hj hn => ws_un hn)
  rw [ws_us] at h
  exact h
theorem ws_h_u {E C : Nat → Nat} {d t : Nat} (x : Nat) (hd : d < 24) (ht : t < 8) : ws_h (ws_up E d x) C t + E d * ws_b (C (8 * d + t)) = ws_h E C t + x * ws_b (C (8 * d + t)) := by
  unfold ws_h
  rw [if_pos ht, if_pos ht]
  have h := ws_sm_u (f := fun e => E e * ws_b (C (8 * e + t))) (g := fun e => ws_up E d x e * ws_b (C (8 * e + t))) (k := d) 24 hd (fun j hj hn => by
    show ws_up E d x j * ws_b (C (8 * j + t)) = E j * ws_b (C (8 * j + t))
    rw [ws_un hn])
  rw [ws_us] at h
  exact h
theorem ws_h_n {E C : Nat → Nat} {n : Nat} (hn : n < 24) (hE : E n = 0) (hC : ∀ j, 8 * n ≤ j → C j = 0) (t : Nat) : ws_h (ws_up E n 1) C t = ws_h E C t := by
  by_cases ht : t < 8
  · have h := ws_h_u (E := E) (C := C) 1 hn ht
    rw [hE, hC (8 * n + t) (by omega), ws_b0] at h
    omega
  · unfold ws_h
    rw [if_neg ht, if_neg ht]
/-! one item put -/
theorem ws_it_u {K : Nat → Nat} {w : Nat} (x : Nat) (hw : w < 8) : ws_it (ws_up K w x) + ws_b (K w) = ws_it K + ws_b x := by
  have h := ws_sm_u (f := fun t => ws_b (K t)) (g := fun t => ws_b (ws_up K w x t)) (k := w) 8 hw (fun j hj hn => by
    show ws_b (ws_up K w x j) = ws_b (K j)
    rw [ws_un hn])
  rw [ws_us] at h
  exact h
theorem ws_A_u {A : Nat → Nat} {w : Nat} (x : Nat) (hw : w < 8) : ws_sm (ws_up A w x) 8 + A w = ws_sm A 8 + x := by
  have h := ws_sm_u (f := A) (g := ws_up A w x) (k := w) 8 hw (fun j hj hn => ws_un hn)
  rw [ws_us] at h
  exact h
/-! a row, word by word -/
def ws_rw (C : Nat → Nat) (n : Nat) (g : Nat → Nat) (w : Nat) : Nat → Nat := fun j => if 8 * n ≤ j ∧ j < 8 * n + w then g (j - 8 * n) else C j
theorem ws_rw_i {C : Nat → Nat} {n : Nat} {g : Nat → Nat} {w j : Nat} (h : 8 * n ≤ j) (h2 : j < 8 * n + w) : ws_rw C n g w j = g (j - 8 * n) := if_pos ⟨h, h2⟩
theorem ws_rw_o {C : Nat → Nat} {n : Nat} {g : Nat → Nat} {w j : Nat} (h : ¬ (8 * n ≤ j ∧ j < 8 * n + w)) : ws_rw C n g w j = C j := if_neg h
theorem ws_rw_0 (C : Nat → Nat) (n : Nat) (g : Nat → Nat) : ws_rw C n g 0 = C := by
  funext j
  exact ws_rw_o (by omega)
theorem ws_rw_s (C : Nat → Nat) (n : Nat) (g : Nat → Nat) (w : Nat) : ws_up (ws_rw C n g w) (8 * n + w) (g w) = ws_rw C n g (w + 1) := by
  funext j
  by_cases h : j = 8 * n + w
  · rw [h, ws_us, ws_rw_i (by omega) (by omega)]
    exact congrArg g (by omega)
  · rw [ws_un h]
    by_cases h2 : 8 * n ≤ j ∧ j < 8 * n + w
    · rw [ws_rw_i h2.1 h2.2, ws_rw_i h2.1 (by omega)]
    · rw [ws_rw_o h2, ws_rw_o (by omega)]
/-! what both states hold -/
def ws_ok (A C E K : Nat → Nat) (n : Nat) : Prop :=
  n ≤ 24 ∧ (∀ j, A j ≤ 7) ∧ (∀ j, C j ≤ 7) ∧ (∀ d, E d ≤ 1) ∧ (∀ d, n ≤ d → E d = 0) ∧ (∀ j, 8 * n ≤ j → C j = 0) ∧ (∀ t, K t ≤ 3) ∧ ws_it K ≤ 5
theorem ws_ok_add {A C E K : Nat → Nat} {n : Nat} (g : Nat → Nat) (hg : ∀ t, g t ≤ 7) (hn : n < 24) (h : ws_ok A C E K n) : ws_ok A (ws_rw C n g 8) (ws_up E n 1) K (n + 1) := by
  obtain ⟨h1, h2, h3, h4, h5, h6, h7, h8⟩ := h
  refine ⟨hn, h2, fun j => ?_, fun d => ws_u_le (Nat.le_refl 1) h4 d, fun d hd => ?_, fun j hj => ?_, h7, h8⟩
  · by_cases z : 8 * n ≤ j ∧ j < 8 * n + 8
    · rw [ws_rw_i z.1 z.2]; exact hg _
    · rw [ws_rw_o z]; exact h3 j
  · rw [ws_un (by omega)]; exact h5 d (by omega)
  · rw [ws_rw_o (by omega)]; exact h6 j (by omega)
/-! the first place at which a test holds -/
theorem ws_first (Q : Nat → Prop) : ∀ n, (∀ j, j < n → ¬ Q j) ∨ ∃ k, k < n ∧ Q k ∧ ∀ j, j < k → ¬ Q j := by
  intro n
  induction n with
  | zero => exact Or.inl (fun j hj => by omega)
  | succ n ih =>
    cases ih with
    | inl h =>
      by_cases z : Q n
      · exact Or.inr ⟨n, by omega, z, h⟩
      · exact Or.inl (fun j hj => by
          by_cases e : j = n
          · rw [e]; exact z
          · exact h j (by omega))
    | inr h =>
      obtain ⟨k, hk, hq, hj⟩ := h
      exact Or.inr ⟨k, by omega, hq, hj⟩
end
section
/-! matching and score, as both sides have them -/
def ws_go (C K : Nat → Nat) (d : Nat) : Nat → Nat → Nat → Nat
  | 0, _, a => a
  | f + 1, t, a => if (K t = 3 ∧ 0 < C (8 * d + t)) ∨ (K t = 2 ∧ C (8 * d + t) = 0) then 0 else ws_go C K d f (t + 1) (if 0 < C (8 * d + t) ∧ 0 < K t then 1 else a)
theorem ws_go_n {C K : Nat → Nat} {d f t a : Nat} (h : (K t = 3 ∧ 0 < C (8 * d + t)) ∨ (K t = 2 ∧ C (8 * d + t) = 0)) : ws_go C K d (f + 1) t a = 0 := if_pos h
theorem ws_go_y {C K : Nat → Nat} {d f t a : Nat} (h : ¬ ((K t = 3 ∧ 0 < C (8 * d + t)) ∨ (K t = 2 ∧ C (8 * d + t) = 0))) (h2 : 0 < C (8 * d + t) ∧ 0 < K t) : ws_go C K d (f + 1) t a = ws_go C K d f (t + 1) 1 := by
  show (if _ then _ else _) = _
  rw [if_neg h, if_pos h2]
theorem ws_go_k {C K : Nat → Nat} {d f t a : Nat} (h : ¬ ((K t = 3 ∧ 0 < C (8 * d + t)) ∨ (K t = 2 ∧ C (8 * d + t) = 0))) (h2 : ¬ (0 < C (8 * d + t) ∧ 0 < K t)) : ws_go C K d (f + 1) t a = ws_go C K d f (t + 1) a := by
  show (if _ then _ else _) = _
  rw [if_neg h, if_neg h2]
theorem ws_go_1 (C K : Nat → Nat) (d : Nat) : ∀ f t a, a ≤ 1 → ws_go C K d f t a ≤ 1 := by
  intro f
  induction f with
  | zero => intro t a h; exact h
  | succ f ih =>
    intro t a h
    by_cases z : (K t = 3 ∧ 0 < C (8 * d + t)) ∨ (K t = 2 ∧ C (8 * d + t) = 0)
    · rw [ws_go_n z]; exact Nat.zero_le _
    · by_cases z2 : 0 < C (8 * d + t) ∧ 0 < K t
      · rw [ws_go_y z z2]; exact ih _ _ (Nat.le_refl 1)
      · rw [ws_go_k z z2]; exact ih _ _ h
/-- document d matches: 1, or 0 -/
def ws_M (E C K : Nat → Nat) (d : Nat) : Nat := if E d = 0 then 0 else ws_go C K d 8 0 0
theorem ws_M_0 {E C K : Nat → Nat} {d : Nat} (h : E d = 0) : ws_M E C K d = 0 := if_pos h
theorem ws_M_1 {E C K : Nat → Nat} {d : Nat} (h : ¬ E d = 0) : ws_M E C K d = ws_go C K d 8 0 0 := if_neg h
theorem ws_M_le (E C K : Nat → Nat) (d : Nat) : ws_M E C K d ≤ 1 := by
  by_cases h : E d = 0
  · rw [ws_M_0 h]; exact Nat.zero_le _
  · rw [ws_M_1 h]; exact ws_go_1 C K d 8 0 0 (Nat.zero_le _)
def ws_ra (E C : Nat → Nat) (t : Nat) : Nat := 64 * (ws_sm E 24 + 1) / (ws_h E C t + 1)
def ws_st (C : Nat → Nat) (d t : Nat) : Nat := 256 * C (8 * d + t) / (C (8 * d + t) + 2 + ws_L C d / 4)
def ws_tm (E C K : Nat → Nat) (bo : Nat → Int32) (d t : Nat) : Int32 :=
  if (K t = 1 ∨ K t = 2) ∧ 0 < C (8 * d + t) then bo t * nI (ws_ra E C t) * nI (ws_st C d t) else 0
def ws_sc (E C K : Nat → Nat) (bo : Nat → Int32) (d : Nat) : Nat → Int32
  | 0 => 0
  | t + 1 => ws_sc E C K bo d t + ws_tm E C K bo d t
theorem ws_tm_1 {E C K : Nat → Nat} {bo : Nat → Int32} {d t : Nat} (h : K t = 1 ∨ K t = 2) (h2 : 0 < C (8 * d + t)) : ws_tm E C K bo d t = bo t * nI (ws_ra E C t) * nI (ws_st C d t) := if_pos ⟨h, h2⟩
theorem ws_tm_0 {E C K : Nat → Nat} {bo : Nat → Int32} {d t : Nat} (h : ¬ ((K t = 1 ∨ K t = 2) ∧ 0 < C (8 * d + t))) : ws_tm E C K bo d t = 0 := if_neg h
/-- X adds the term of a word that the document hasn't too: it is 0 -/
theorem ws_tm_x {E C K : Nat → Nat} {bo : Nat → Int32} {d t : Nat} (h : K t = 1 ∨ K t = 2) : bo t * nI (ws_ra E C t) * nI (ws_st C d t) = ws_tm E C K bo d t := by
  by_cases h2 : 0 < C (8 * d + t)
  · rw [ws_tm_1 h h2]
  · have z : C (8 * d + t) = 0 := by omega
    have e : ws_st C d t = 0 := by
      unfold ws_st
      rw [z, Nat.mul_zero, Nat.zero_div]
    rw [ws_tm_0 (fun q => h2 q.2), e, nI_0, Int32.mul_zero]
def ws_S (E C K : Nat → Nat) (bo : Nat → Int32) (d : Nat) : Int32 := ws_sc E C K bo d 8
/-- e stands ahead of d -/
def ws_a1 (E C K : Nat → Nat) (bo : Nat → Int32) (d e : Nat) : Nat :=
  if ws_M E C K e = 1 ∧ (ws_S E C K bo d < ws_S E C K bo e ∨ (ws_S E C K bo e = ws_S E C K bo d ∧ e < d)) then 1 else 0
def ws_ah (E C K : Nat → Nat) (bo : Nat → Int32) (d : Nat) : Nat := ws_sm (ws_a1 E C K bo d) 24
theorem ws_a1_le (E C K : Nat → Nat) (bo : Nat → Int32) (d e : Nat) : ws_a1 E C K bo d e ≤ 1 := by
  unfold ws_a1
  split
  · exact Nat.le_refl 1
  · exact Nat.zero_le 1
theorem ws_a1_y {E C K : Nat → Nat} {bo : Nat → Int32} {d e : Nat} (h : ws_M E C K e = 1) (h2 : ws_S E C K bo d < ws_S E C K bo e ∨ (ws_S E C K bo e = ws_S E C K bo d ∧ e < d)) : ws_a1 E C K bo d e = 1 := if_pos ⟨h, h2⟩
theorem ws_a1_n {E C K : Nat → Nat} {bo : Nat → Int32} {d e : Nat} (h : ¬ (ws_M E C K e = 1 ∧ (ws_S E C K bo d < ws_S E C K bo e ∨ (ws_S E C K bo e = ws_S E C K bo d ∧ e < d)))) : ws_a1 E C K bo d e = 0 := if_neg h
theorem ws_ah_n {E C K : Nat → Nat} {bo : Nat → Int32} {d n : Nat} (hn : n ≤ 24) (h : ∀ e, n ≤ e → E e = 0) : ws_sm (ws_a1 E C K bo d) n = ws_ah E C K bo d :=
  (ws_sm_x (fun j hj => ws_a1_n (fun q => by have := ws_M_0 (C := C) (K := K) (h j hj); omega)) 24 hn).symm
/-- matching documents whose score is at least b -/
def ws_s1 (E C K : Nat → Nat) (bo : Nat → Int32) (b : Int32) (e : Nat) : Nat := if ws_M E C K e = 1 ∧ b ≤ ws_S E C K bo e then 1 else 0
theorem ws_s1_y {E C K : Nat → Nat} {bo : Nat → Int32} {b : Int32} {e : Nat} (h : ws_M E C K e = 1) (h2 : b ≤ ws_S E C K bo e) : ws_s1 E C K bo b e = 1 := if_pos ⟨h, h2⟩
theorem ws_s1_n {E C K : Nat → Nat} {bo : Nat → Int32} {b : Int32} {e : Nat} (h : ¬ (ws_M E C K e = 1 ∧ b ≤ ws_S E C K bo e)) : ws_s1 E C K bo b e = 0 := if_neg h
/-! indices and small numbers -/
theorem ws_ixX (d w : Nat) : nI d * 8 + nI w = nI (8 * d + w) := by
  show nI d * nI 8 + nI w = _
  rw [pk_mul, nI_add, Nat.mul_comm]
theorem ws_ixY (d w : Nat) : 8 * nI d + nI w = nI (8 * d + w) := by
  show nI 8 * nI d + nI w = _
  rw [pk_mul, nI_add]
theorem ws_01 {x : Nat} (h : x ≤ 1) : x = 0 ∨ x = 1 := by omega
theorem ws_asb {a x r b : Nat} (h : a + x = r + b) : nI a + (nI x - nI b) = nI r := by
  have e : nI a + nI x = nI r + nI b := by rw [nI_add, nI_add, h]
  rw [← Int32.add_sub_cancel (nI r) (nI b), ← e, Int32.sub_eq_add_neg, Int32.sub_eq_add_neg, Int32.add_assoc]
theorem ws_m1 {a b : Nat} (h : a + 1 = b) : nI b + (-1) = nI a := by
  subst h
  exact pk_m1 a
theorem ws_b1m {a b : Nat} (h : a + 1 = b) : nI b - 1 = nI a := by
  subst h
  exact nI_pred a
theorem ws_t1 : vp_nar .boolean 1 = 1 := rfl
theorem ws_t0 : vp_nar .boolean 0 = 0 := rfl
/-! the pattern of addMany -/
def ws_pt (s k t : Nat) : Nat := (s + 5 * k + 3 * t + k * t) % 11 - 3
theorem ws_pt_le (s k t : Nat) : ws_pt s k t ≤ 7 := by
  unfold ws_pt
  have h := Nat.mod_lt (s + 5 * k + 3 * t + k * t) (show 0 < 11 by decide)
  omega
theorem ws_pt_a (s k t : Nat) : nI s + 5 * nI k + 3 * nI t + nI k * nI t = nI (s + 5 * k + 3 * t + k * t) := by
  show nI s + nI 5 * nI k + nI 3 * nI t + nI k * nI t = _
  rw [pk_mul, pk_mul, pk_mul, nI_add, nI_add, nI_add]
theorem ws_pt_m {m : Nat} (h : m < 2 ^ 31) : nI m - nI m / 11 * 11 - 3 = nI (m % 11) - nI 3 := by
  show nI m - nI m / nI 11 * nI 11 - nI 3 = _
  rw [pk_rem h (by decide) (by decide)]
theorem ws_pt_b {s k t : Nat} (hs : s ≤ 10) (hk : k < 24) (ht : t < 8) : s + 5 * k + 3 * t + k * t < 2 ^ 31 := by
  have h : k * t ≤ 24 * 8 := Nat.mul_le_mul (by omega) (by omega)
  omega
/-- what is stored: m - 3, or 0 -/
theorem ws_pt_n {m : Nat} {P : Int32 → Prop} {x : Int32} (hm : m < 11) (hx : x = nI m - nI 3) (h : P (nI (m - 3))) : (0 ≤ x → P x) ∧ (¬ 0 ≤ x → P 0) := by
  subst hx
  by_cases z : m < 3
  · have e : m - 3 = 0 := by omega
    rw [e] at h
    have n : nI m - nI 3 < 0 := pk_sneg (by decide) z
    exact br_f (Int32.not_le.mpr n) h
  · rw [pk_sub (show 3 ≤ m by omega)]
    exact br_t (nI_pos' (by omega)) h
/-! the draft blanked, word by word -/
def ws_bl (A : Nat → Nat) (w : Nat) : Nat → Nat := fun j => if j < w then 0 else A j
theorem ws_bl_0 (A : Nat → Nat) : ws_bl A 0 = A := by
  funext j
  exact if_neg (by omega)
theorem ws_bl_s (A : Nat → Nat) (w : Nat) : ws_up (ws_bl A w) w 0 = ws_bl A (w + 1) := by
  funext j
  show (if j = w then 0 else if j < w then 0 else A j) = if j < w + 1 then 0 else A j
  by_cases h : j = w
  · rw [if_pos h, if_pos (by omega)]
  · rw [if_neg h]
    by_cases h2 : j < w
    · rw [if_pos h2, if_pos (by omega)]
    · rw [if_neg h2, if_neg (by omega)]
theorem ws_bl_le {A : Nat → Nat} (h : ∀ j, A j ≤ 7) (w j : Nat) : ws_bl A w j ≤ 7 := by
  show (if j < w then 0 else A j) ≤ 7
  by_cases z : j < w
  · rw [if_pos z]; exact Nat.zero_le _
  · rw [if_neg z]; exact h j
theorem ws_bl_z (A : Nat → Nat) : ws_sm (ws_bl A 8) 8 = 0 := ws_sm_0 8 (fun j hj => if_pos hj)
/-! the holders after a delete, word by word -/
def ws_dl (E D C : Nat → Nat) (w : Nat) : Nat → Nat := fun t => if t < w then ws_h D C t else ws_h E C t
theorem ws_dl_0 (E D C : Nat → Nat) : ws_dl E D C 0 = ws_h E C := by
  funext j
  exact if_neg (by omega)
theorem ws_dl_8 (E D C : Nat → Nat) : ws_dl E D C 8 = ws_h D C := by
  funext j
  show (if j < 8 then ws_h D C j else ws_h E C j) = ws_h D C j
  by_cases h : j < 8
  · rw [if_pos h]
  · rw [if_neg h]
    unfold ws_h
    rw [if_neg h, if_neg h]
theorem ws_dl_w (E D C : Nat → Nat) (w : Nat) : ws_dl E D C w w = ws_h E C w := if_neg (by omega)
theorem ws_dl_s (E D C : Nat → Nat) (w : Nat) : ws_up (ws_dl E D C w) w (ws_h D C w) = ws_dl E D C (w + 1) := by
  funext j
  show (if j = w then ws_h D C w else if j < w then ws_h D C j else ws_h E C j) = if j < w + 1 then ws_h D C j else ws_h E C j
  by_cases h : j = w
  · rw [if_pos h, if_pos (by omega), h]
  · rw [if_neg h]
    by_cases h2 : j < w
    · rw [if_pos h2, if_pos (by omega)]
    · rw [if_neg h2, if_neg (by omega)]
theorem ws_dl_k {E D C : Nat → Nat} {w : Nat} (h : ws_h D C w = ws_h E C w) : ws_dl E D C w = ws_dl E D C (w + 1) := by
  rw [← ws_dl_s, h]
  funext j
  by_cases z : j = w
  · rw [z, ws_us, ws_dl_w]
  · rw [ws_un z]
/-! any number is below 0, or a natural -/
theorem ws_neg (x : Int32) : x < 0 ∨ ∃ j : Nat, j < 2 ^ 31 ∧ x = nI j := by
  by_cases h : x < 0
  · exact Or.inl h
  · exact Or.inr (nI_of h)
/-! branches -/
theorem ws_br {y : Int32} {P Q : Prop} (x : Nat) (hx : x ≤ 1) (f : x = 0 → P) (g : x = 1 → Q) (hy : y = nI x := by rfl) : (y = 0 → P) ∧ (¬ y = 0 → Q) := by
  subst hy
  cases ws_01 hx with
  | inl z => subst z; exact br_t rfl (f rfl)
  | inr z => subst z; exact br_f (by decide) (g rfl)
theorem ws_brC {y : Int32} {P Q : Prop} (x : Nat) (hx : x ≤ 7) (f : x = 0 → P) (g : 0 < x → Q) (hy : y = nI x := by rfl) : (y ≤ 0 → P) ∧ (¬ y ≤ 0 → Q) :=
  pk_le x 0 (fun q => f (by omega)) g hy rfl (by omega) (by omega)
theorem ws_cX {d w : Nat} (hd : d < 24) (hw : w < 8) : (nI d * 8 + nI w).toNatClampNeg = 8 * d + w := by
  rw [ws_ixX]
  exact nI_clamp (by omega)
theorem ws_vX {d w : Nat} (hd : d < 24) (hw : w < 8) : vp_in (nI d * 8 + nI w) 192 := by
  rw [ws_ixX]
  exact vp_in_nI (by omega) (by decide)
theorem ws_cY {d w : Nat} (hd : d < 24) (hw : w < 8) : (8 * nI d + nI w).toNatClampNeg = 8 * d + w := by
  rw [ws_ixY]
  exact nI_clamp (by omega)
theorem ws_vY {d w : Nat} (hd : d < 24) (hw : w < 8) : vp_in (8 * nI d + nI w) 192 := by
  rw [ws_ixY]
  exact vp_in_nI (by omega) (by decide)
theorem ws_raI {E C : Nat → Nat} (h : ∀ j, E j ≤ 1) (t : Nat) : 64 * (nI (ws_sm E 24) + 1) / (nI (ws_h E C t) + 1) = nI (ws_ra E C t) := by
  have h1 := ws_E_le h
  have h2 := ws_h_le (C := C) h t
  rw [nI_1, nI_1]
  show nI 64 * nI _ / nI _ = _
  rw [pk_mul, pk_div (by omega) (by omega) (by omega)]
  rfl
theorem ws_ra0 {E C : Nat → Nat} (h : ∀ j, E j ≤ 1) (t : Nat) : ¬ nI (ws_h E C t) + 1 = 0 := by
  have h2 := ws_h_le (C := C) h t
  rw [nI_1]
  exact nI_ne0 (by omega) (by omega)
theorem ws_unI {C : Nat → Nat} (h : ∀ j, C j ≤ 7) (d t : Nat) : nI (C (8 * d + t)) + 2 + nI (ws_L C d) / 4 = nI (C (8 * d + t) + 2 + ws_L C d / 4) := by
  have h1 := ws_L_le h d
  show nI _ + nI 2 + nI _ / nI 4 = _
  rw [pk_div (by omega) (by omega) (by omega), nI_add, nI_add]
theorem ws_stI {C : Nat → Nat} (h : ∀ j, C j ≤ 7) (d t : Nat) : 256 * nI (C (8 * d + t)) / nI (C (8 * d + t) + 2 + ws_L C d / 4) = nI (ws_st C d t) := by
  have h1 := ws_L_le h d
  have h2 := h (8 * d + t)
  show nI 256 * nI _ / nI _ = _
  rw [pk_mul, pk_div (by omega) (by omega) (by omega)]
  rfl
theorem ws_un0 {C : Nat → Nat} (h : ∀ j, C j ≤ 7) (d t : Nat) : ¬ nI (C (8 * d + t) + 2 + ws_L C d / 4) = 0 := by
  have h1 := ws_L_le h d
  have h2 := h (8 * d + t)
  exact nI_ne0 (by omega) (by omega)
end
section
/-! the two states, of one picture -/
abbrev ws_X (A C E K : Nat → Nat) (bo : Nat → Int32) (n : Nat) : SX :=
  (nI (ws_sm A 8), nI n, nI (ws_sm E 24), nI (ws_it K), fun j => nI (A j), fun j => nI (C j), fun d => nI (ws_L C d), fun d => nI (E d), fun t => nI (ws_h E C t), fun t => nI (K t), bo)
abbrev ws_Y (A C E K : Nat → Nat) (bo : Nat → Int32) (n : Nat) : SY :=
  (nI n, fun j => nI (A j), fun j => nI (C j), fun d => nI (E d), fun t => nI (K t), bo)
def i_Rel (_ : Nat) (u : SX) (v : SY) : Prop := ∃ (A C E K : Nat → Nat) (bo : Nat → Int32) (n : Nat), u = ws_X A C E K bo n ∧ v = ws_Y A C E K bo n ∧ ws_ok A C E K n
end
section
section
variable {A C E K : Nat → Nat} {bo : Nat → Int32} {n : Nat}
/-! Y: the tests of the arguments -/
theorem yl_bw_n {post : Int32 → Prop} {v : Int32} (hv : v < 0) (h : post 1) : wpY_badWord post (ws_Y A C E K bo n) v := br_t hv h
theorem yl_bw_h {post : Int32 → Prop} {j : Nat} (hj : j < 2 ^ 31) (h8 : 8 ≤ j) (h : post 1) : wpY_badWord post (ws_Y A C E K bo n) (nI j) :=
  br_f (nI_pos hj) (pk_le j 7 (fun q => absurd q (by omega)) (fun _ => h))
theorem yl_bw {post : Int32 → Prop} {j : Nat} (hj : j < 8) (h : post 0) : wpY_badWord post (ws_Y A C E K bo n) (nI j) :=
  br_f (nI_pos (by omega)) (pk_le j 7 (fun _ => h) (fun q => absurd q (by omega)))
theorem yl_bd_n {post : Int32 → Prop} {v : Int32} (hv : v < 0) (h : post 1) : wpY_bad post (ws_Y A C E K bo n) v := br_t hv h
theorem yl_bd_h {post : Int32 → Prop} {j : Nat} (hj : j < 2 ^ 31) (h8 : 24 ≤ j) (h : post 1) : wpY_bad post (ws_Y A C E K bo n) (nI j) :=
  br_f (nI_pos hj) (pk_lt 23 j (fun _ => h) (fun q => absurd q (by omega)))
theorem yl_bd {post : Int32 → Prop} {j : Nat} (hj : j < 24) (hE : ∀ d, E d ≤ 1) (h : post (nI (1 - E j))) : wpY_bad post (ws_Y A C E K bo n) (nI j) := by
  have c : (nI j).toNatClampNeg = j := nI_clamp (by omega)
  refine br_f (nI_pos (by omega)) (pk_lt 23 j (fun q => absurd q (by omega)) (fun _ => ⟨vp_in_nI hj (by decide), ws_br (E j) (hE j) (fun z => ?_) (fun z => ?_) (congrArg (fun i => nI (E i)) c)⟩))
  · rw [z] at h; exact h
  · rw [z] at h; exact h
/-! Y: the counts -/
theorem yl_dl' {post : Int32 → Prop} (h : post (nI (ws_sm A 8))) : ∀ f i, i + f = 8 → wY_draftLength_4 post (nI n) (fun j => nI (A j)) (fun j => nI (C j)) (fun d => nI (E d)) (fun t => nI (K t)) bo (f + 1) (nI (ws_sm A i)) (nI i) := by
  intro f
  induction f with
  | zero =>
    intro i hi
    have e : i = 8 := by omega
    subst e
    exact br_t (by decide) h
  | succ f ih =>
    intro i hi
    have c : (nI i).toNatClampNeg = i := nI_clamp (by omega)
    have g := ih (i + 1) (by omega)
    rw [ws_sm_s] at g
    refine br_f (nI_ge (b := 8) (by omega) (by decide)) ⟨vp_in_nI (by omega) (by decide), nm_r (e' := nI (ws_sm A i + A i)) ?_ (nm_r (nI_1 i) g)⟩
    show nI _ + nI (A (nI i).toNatClampNeg) = _
    rw [c, nI_add]
theorem yl_dl {post : Int32 → Prop} (h : post (nI (ws_sm A 8))) : wpY_draftLength post (ws_Y A C E K bo n) := ⟨9, yl_dl' h 8 0 rfl⟩
theorem yl_lc' {post : Int32 → Prop} (hE : ∀ d, E d ≤ 1) (h : post (nI (ws_sm E 24))) : ∀ f i, i + f = 24 → wY_liveCount_4 post (nI n) (fun j => nI (A j)) (fun j => nI (C j)) (fun d => nI (E d)) (fun t => nI (K t)) bo (f + 1) (nI (ws_sm E i)) (nI i) := by
  intro f
  induction f with
  | zero =>
    intro i hi
    have e : i = 24 := by omega
    subst e
    exact br_t (by decide) h
  | succ f ih =>
    intro i hi
    have c : (nI i).toNatClampNeg = i := nI_clamp (by omega)
    have g := ih (i + 1) (by omega)
    rw [ws_sm_s] at g
    refine br_f (nI_ge (b := 24) (by omega) (by decide)) ⟨vp_in_nI (by omega) (by decide), ws_br (E i) (hE i) (fun z => nm_r (nI_1 i) ?_) (fun z => nm_r (nI_1 _) (nm_r (nI_1 i) ?_)) (congrArg (fun j => nI (E j)) c)⟩
    · rw [z] at g; exact g
    · rw [z] at g; exact g
theorem yl_lc {post : Int32 → Prop} (hE : ∀ d, E d ≤ 1) (h : post (nI (ws_sm E 24))) : wpY_liveCount post (ws_Y A C E K bo n) := ⟨25, yl_lc' hE h 24 0 rfl⟩
theorem yl_it' {post : Int32 → Prop} (hK : ∀ t, K t ≤ 3) (h : post (nI (ws_it K))) : ∀ f i, i + f = 8 → wY_items_4 post (nI n) (fun j => nI (A j)) (fun j => nI (C j)) (fun d => nI (E d)) (fun t => nI (K t)) bo (f + 1) (nI (ws_sm (fun t => ws_b (K t)) i)) (nI i) := by
  intro f
  induction f with
  | zero =>
    intro i hi
    have e : i = 8 := by omega
    subst e
    exact br_t (by decide) h
  | succ f ih =>
    intro i hi
    have c : (nI i).toNatClampNeg = i := nI_clamp (by omega)
    have g := ih (i + 1) (by omega)
    rw [ws_sm_s] at g
    have k3 := hK i
    refine br_f (nI_ge (b := 8) (by omega) (by decide)) ⟨vp_in_nI (by omega) (by decide), ws_brC (K i) (by omega) (fun z => nm_r (nI_1 i) ?_) (fun z => nm_r (nI_1 _) (nm_r (nI_1 i) ?_)) (congrArg (fun j => nI (K j)) c)⟩
    · rw [z, ws_b0] at g; exact g
    · rw [ws_bp z] at g; exact g
theorem yl_it {post : Int32 → Prop} (hK : ∀ t, K t ≤ 3) (h : post (nI (ws_it K))) : wpY_items post (ws_Y A C E K bo n) := ⟨9, yl_it' hK h 8 0 rfl⟩
theorem yl_ho' {post : Int32 → Prop} {t : Nat} (ht : t < 8) (hE : ∀ d, E d ≤ 1) (hC : ∀ j, C j ≤ 7) (h : post (nI (ws_h E C t))) : ∀ f i, i + f = 24 → wY_holders_4 post (nI t) (nI n) (fun j => nI (A j)) (fun j => nI (C j)) (fun d => nI (E d)) (fun t => nI (K t)) bo (f + 1) (nI (ws_sm (fun d => E d * ws_b (C (8 * d + t))) i)) (nI i) := by
  intro f
  induction f with
  | zero =>
    intro i hi
    have e : i = 24 := by omega
    subst e
    unfold ws_h at h
    rw [if_pos ht] at h
    exact br_t (by decide) h
  | succ f ih =>
    intro i hi
    have c : (nI i).toNatClampNeg = i := nI_clamp (by omega)
    have i24 : i < 24 := by omega
    have g := ih (i + 1) (by omega)
    rw [ws_sm_s] at g
    try dsimp only at g
    refine br_f (nI_ge (b := 24) (by omega) (by decide)) ⟨vp_in_nI (by omega) (by decide), ws_br (E i) (hE i) (fun z => nm_r (nI_1 i) ?_) (fun z => ⟨ws_vY i24 ht, ws_brC (C (8 * i + t)) (hC _) (fun y => nm_r (nI_1 i) ?_) (fun y => nm_r (nI_1 _) (nm_r (nI_1 i) ?_)) (congrArg (fun j => nI (C j)) (ws_cY i24 ht))⟩) (congrArg (fun j => nI (E j)) c)⟩
    · rw [z, Nat.zero_mul] at g; exact g
    · rw [y, ws_b0, Nat.mul_zero] at g; exact g
    · rw [z, ws_bp y] at g; exact g
theorem yl_ho {post : Int32 → Prop} {t : Nat} (ht : t < 8) (hE : ∀ d, E d ≤ 1) (hC : ∀ j, C j ≤ 7) (h : post (nI (ws_h E C t))) : wpY_holders post (ws_Y A C E K bo n) (nI t) := ⟨25, yl_ho' ht hE hC h 24 0 rfl⟩
/-! Y: matching -/
theorem yl_m40 {post : Int32 → Prop} {J : Int32 → Int32 → Prop} {d t a x : Nat} (ht : t < 8) (k3 : K t ≤ 3)
    (h0 : (K t = 3 ∧ 0 < x) ∨ (K t = 2 ∧ x = 0) → post 0)
    (h1 : ¬ ((K t = 3 ∧ 0 < x) ∨ (K t = 2 ∧ x = 0)) → 0 < x ∧ 0 < K t → J 1 (nI (t + 1)))
    (h2 : ¬ ((K t = 3 ∧ 0 < x) ∨ (K t = 2 ∧ x = 0)) → ¬ (0 < x ∧ 0 < K t) → J (nI a) (nI (t + 1))) :
    wY_matches_40 post J (nI d) (nI a) (nI t) (nI (ws_b x)) (nI n) (fun j => nI (A j)) (fun j => nI (C j)) (fun d => nI (E d)) (fun t => nI (K t)) bo := by
  have hv : vp_in (nI t) 8 := vp_in_nI ht (by decide)
  have ck : (fun j => nI (K j)) (nI t).toNatClampNeg = nI (K t) := congrArg (fun j => nI (K j)) (nI_clamp (by omega))
  unfold wY_matches_40 wY_matches_57 wY_matches_74
  by_cases hx : 0 < x
  · rw [ws_bp hx]
    exact ⟨hv, pk_eq (K t) 3 (fun q => br_f (by decide) (h0 (Or.inl ⟨q, hx⟩))) (fun q => ⟨hv, pk_eq (K t) 2
      (fun q2 => br_f (by decide) (br_f (by decide) ⟨hv, pk_eq (K t) 1 (fun q1 => absurd q1 (by omega)) (fun q1 => ⟨hv, pk_eq (K t) 2 (fun _ => nm_r (nI_1 t) (h1 (by omega) ⟨hx, by omega⟩)) (fun q3 => absurd q2 q3) ck⟩) ck⟩))
      (fun q2 => br_f (by decide) ⟨hv, pk_eq (K t) 1 (fun q1 => nm_r (nI_1 t) (h1 (by omega) ⟨hx, by omega⟩)) (fun q1 => ⟨hv, pk_eq (K t) 2 (fun q3 => absurd q3 q2) (fun _ => nm_r (nI_1 t) (h2 (by omega) (by omega))) ck⟩) ck⟩) ck⟩) ck⟩
  · have z : x = 0 := by omega
    rw [z, ws_b0]
    exact ⟨hv, pk_eq (K t) 3 (fun q => br_t rfl ⟨hv, pk_eq (K t) 2 (fun q2 => absurd q (by omega)) (fun q2 => br_t rfl (nm_r (nI_1 t) (h2 (by omega) (by omega)))) ck⟩)
      (fun q => ⟨hv, pk_eq (K t) 2 (fun q2 => br_t rfl (h0 (by omega))) (fun q2 => br_t rfl (nm_r (nI_1 t) (h2 (by omega) (by omega)))) ck⟩) ck⟩
theorem ws_nar {a : Nat} (h : a ≤ 1) : narrow .boolean (.int (nI a)) = .int (nI a) := by
  cases ws_01 h with
  | inl z => subst z; rfl
  | inr z => subst z; rfl
theorem yl_ma' {post : Int32 → Prop} {d : Nat} (hd : d < 24) (hC : ∀ j, C j ≤ 7) (hK : ∀ t, K t ≤ 3) : ∀ f t a, t + f = 8 → a ≤ 1 → post (nI (ws_go C K d f t a)) → wY_matches_15 post (nI d) (nI n) (fun j => nI (A j)) (fun j => nI (C j)) (fun d => nI (E d)) (fun t => nI (K t)) bo (f + 1) (nI a) (nI t) := by
  intro f
  induction f with
  | zero =>
    intro t a e ha h
    have e8 : t = 8 := by omega
    subst e8
    exact br_t (by decide) ⟨ws_nar ha, h⟩
  | succ f ih =>
    intro t a e ha h
    have ht : t < 8 := by omega
    have m := yl_m40 (post := post) (J := wY_matches_15 post (nI d) (nI n) (fun j => nI (A j)) (fun j => nI (C j)) (fun d => nI (E d)) (fun t => nI (K t)) bo (f + 1)) (A := A) (C := C) (E := E) (K := K) (bo := bo) (n := n) (d := d) (t := t) (a := a) (x := C (8 * d + t)) ht (hK t)
      (fun q => by rw [ws_go_n q] at h; exact h)
      (fun q q2 => ih (t + 1) 1 (by omega) (Nat.le_refl 1) (by rw [ws_go_y q q2] at h; exact h))
      (fun q q2 => ih (t + 1) a (by omega) ha (by rw [ws_go_k q q2] at h; exact h))
    refine br_f (nI_ge (b := 8) ht (by decide)) ⟨ws_vY hd ht, ws_brC (C (8 * d + t)) (hC _) (fun z => ?_) (fun z => ?_) (congrArg (fun j => nI (C j)) (ws_cY hd ht))⟩
    · rw [z, ws_b0] at m; exact m
    · rw [ws_bp z] at m; exact m
theorem yl_ma {post : Int32 → Prop} {d : Nat} (hd : d < 24) (hE : ∀ d, E d ≤ 1) (hC : ∀ j, C j ≤ 7) (hK : ∀ t, K t ≤ 3) (h : post (nI (ws_M E C K d))) : wpY_matches post (ws_Y A C E K bo n) (nI d) := by
  have c : (nI d).toNatClampNeg = d := nI_clamp (by omega)
  refine ⟨vp_in_nI hd (by decide), ws_br (E d) (hE d) (fun z => ?_) (fun z => ⟨9, yl_ma' hd hC hK 8 0 0 rfl (Nat.zero_le 1) ?_⟩) (congrArg (fun j => nI (E j)) c)⟩
  · rw [ws_M_0 z] at h; exact h
  · rw [ws_M_1 (by omega)] at h; exact h
/-! Y: the score -/
theorem yl_w2 {post : Int32 → Prop} {d : Nat} (hd : d < 24) (hE : ∀ d, E d ≤ 1) (hC : ∀ j, C j ≤ 7) (hK : ∀ t, K t ≤ 3) (h : post (ws_S E C K bo d)) : ∀ f t, t + f = 8 → wY_worth_41 post (nI d) (nI (ws_L C d)) (nI (ws_sm E 24)) (nI n) (fun j => nI (A j)) (fun j => nI (C j)) (fun d => nI (E d)) (fun t => nI (K t)) bo (f + 1) (ws_sc E C K bo d t) (nI t) := by
  intro f
  induction f with
  | zero =>
    intro t e
    have e8 : t = 8 := by omega
    subst e8
    exact br_t (by decide) h
  | succ f ih =>
    intro t e
    have ht : t < 8 := by omega
    have hv : vp_in (nI t) 8 := vp_in_nI ht (by decide)
    have c : (nI t).toNatClampNeg = t := nI_clamp (by omega)
    have ck : (fun j => nI (K j)) (nI t).toNatClampNeg = nI (K t) := congrArg (fun j => nI (K j)) c
    have k3 := hK t
    have g := ih (t + 1) (by omega)
    have gs : ws_sc E C K bo d (t + 1) = ws_sc E C K bo d t + ws_tm E C K bo d t := rfl
    have g0 : ¬ ((K t = 1 ∨ K t = 2) ∧ 0 < C (8 * d + t)) → wY_worth_41 post (nI d) (nI (ws_L C d)) (nI (ws_sm E 24)) (nI n) (fun j => nI (A j)) (fun j => nI (C j)) (fun d => nI (E d)) (fun t => nI (K t)) bo (f + 1) (ws_sc E C K bo d t) (nI (t + 1)) := by
      intro q
      rw [gs, ws_tm_0 q, Int32.add_zero] at g
      exact g
    have hL := ws_L_le hC d
    have hc := hC (8 * d + t)
    have hh := ws_h_le (C := C) hE t
    have b148 : (K t = 1 ∨ K t = 2) → 0 < C (8 * d + t) → wY_worth_148 post (wY_worth_41 post (nI d) (nI (ws_L C d)) (nI (ws_sm E 24)) (nI n) (fun j => nI (A j)) (fun j => nI (C j)) (fun d => nI (E d)) (fun t => nI (K t)) bo (f + 1)) (nI d) (nI (ws_L C d)) (nI (ws_sm E 24)) (ws_sc E C K bo d t) (nI t) (nI (ws_ra E C t)) (nI (ws_st C d t)) (nI n) (fun j => nI (A j)) (fun j => nI (C j)) (fun d => nI (E d)) (fun t => nI (K t)) bo :=
      fun q z => ⟨hv, nm_r (e' := ws_sc E C K bo d (t + 1)) (by rw [c, ← ws_tm_1 q z, gs]) (nm_r (nI_1 t) g)⟩
    have b117 : (K t = 1 ∨ K t = 2) → 0 < C (8 * d + t) → wY_worth_117 post (wY_worth_41 post (nI d) (nI (ws_L C d)) (nI (ws_sm E 24)) (nI n) (fun j => nI (A j)) (fun j => nI (C j)) (fun d => nI (E d)) (fun t => nI (K t)) bo (f + 1)) (nI d) (nI (ws_L C d)) (nI (ws_sm E 24)) (ws_sc E C K bo d t) (nI t) (nI (C (8 * d + t))) (nI (ws_ra E C t)) (nI n) (fun j => nI (A j)) (fun j => nI (C j)) (fun d => nI (E d)) (fun t => nI (K t)) bo :=
      fun q z => ⟨by decide, nm_r (ws_unI hC d t) (br_t (nI_le (a := 1) (by omega) (by omega)) ⟨ws_un0 hC d t, by rw [ws_stI hC]; exact b148 q z⟩)⟩
    have b84 : (K t = 1 ∨ K t = 2) → wY_worth_84 post (wY_worth_41 post (nI d) (nI (ws_L C d)) (nI (ws_sm E 24)) (nI n) (fun j => nI (A j)) (fun j => nI (C j)) (fun d => nI (E d)) (fun t => nI (K t)) bo (f + 1)) (nI d) (nI (ws_L C d)) (nI (ws_sm E 24)) (ws_sc E C K bo d t) (nI t) (nI (C (8 * d + t))) (nI n) (fun j => nI (A j)) (fun j => nI (C j)) (fun d => nI (E d)) (fun t => nI (K t)) bo :=
      fun q => ws_brC (C (8 * d + t)) hc (fun z => nm_r (nI_1 t) (g0 (by omega))) (fun z => yl_ho ht hE hC (br_t (nI_pos' (by omega)) ⟨ws_ra0 hE t, by rw [ws_raI hE t]; exact b117 q z⟩))
    exact br_f (nI_ge (b := 8) ht (by decide)) ⟨ws_vY hd ht, nm_r (e' := nI (C (8 * d + t))) (congrArg (fun j => nI (C j)) (ws_cY hd ht))
      ⟨hv, pk_eq (K t) 1 (fun q => b84 (Or.inl q)) (fun q1 => ⟨hv, pk_eq (K t) 2 (fun q => b84 (Or.inr q)) (fun q2 => nm_r (nI_1 t) (g0 (by omega))) ck⟩) ck⟩⟩
theorem yl_w1 {post : Int32 → Prop} {d : Nat} (hd : d < 24) (hE : ∀ d, E d ≤ 1) (hC : ∀ j, C j ≤ 7) (hK : ∀ t, K t ≤ 3) (h : post (ws_S E C K bo d)) : ∀ f t, t + f = 8 → wY_worth_4 post (nI d) (nI n) (fun j => nI (A j)) (fun j => nI (C j)) (fun d => nI (E d)) (fun t => nI (K t)) bo (f + 1) (nI (ws_sm (fun t => C (8 * d + t)) t)) (nI t) := by
  intro f
  induction f with
  | zero =>
    intro t e
    have e8 : t = 8 := by omega
    subst e8
    exact br_t (by decide) (yl_lc hE ⟨9, yl_w2 hd hE hC hK h 8 0 rfl⟩)
  | succ f ih =>
    intro t e
    have ht : t < 8 := by omega
    have g := ih (t + 1) (by omega)
    rw [ws_sm_s] at g
    refine br_f (nI_ge (b := 8) ht (by decide)) ⟨ws_vY hd ht, nm_r (e' := nI (ws_sm (fun t => C (8 * d + t)) t + C (8 * d + t))) ?_ (nm_r (nI_1 t) g)⟩
    show nI _ + nI (C (8 * nI d + nI t).toNatClampNeg) = _
    rw [ws_cY hd ht, nI_add]
theorem yl_wo {post : Int32 → Prop} {d : Nat} (hd : d < 24) (hE : ∀ d, E d ≤ 1) (hC : ∀ j, C j ≤ 7) (hK : ∀ t, K t ≤ 3) (h : post (ws_S E C K bo d)) : wpY_worth post (ws_Y A C E K bo n) (nI d) := ⟨9, yl_w1 hd hE hC hK h 8 0 rfl⟩
/-! Y: over the documents -/
theorem yl_mt' {post : Int32 → Prop} (hE : ∀ d, E d ≤ 1) (hC : ∀ j, C j ≤ 7) (hK : ∀ t, K t ≤ 3) (h : post (nI (ws_sm (ws_M E C K) 24))) : ∀ f i, i + f = 24 → wY_matching_4 post (nI n) (fun j => nI (A j)) (fun j => nI (C j)) (fun d => nI (E d)) (fun t => nI (K t)) bo (f + 1) (nI (ws_sm (ws_M E C K) i)) (nI i) := by
  intro f
  induction f with
  | zero =>
    intro i e
    have e8 : i = 24 := by omega
    subst e8
    exact br_t (by decide) h
  | succ f ih =>
    intro i e
    have hi : i < 24 := by omega
    have g := ih (i + 1) (by omega)
    rw [ws_sm_s] at g
    refine br_f (nI_ge (b := 24) hi (by decide)) (yl_ma hi hE hC hK (ws_br (ws_M E C K i) (ws_M_le E C K i) (fun z => nm_r (nI_1 i) ?_) (fun z => nm_r (nI_1 _) (nm_r (nI_1 i) ?_))))
    · rw [z] at g; exact g
    · rw [z] at g; exact g
theorem yl_mt {post : Int32 → Prop} (hE : ∀ d, E d ≤ 1) (hC : ∀ j, C j ≤ 7) (hK : ∀ t, K t ≤ 3) (h : post (nI (ws_sm (ws_M E C K) 24))) : wpY_matching post (ws_Y A C E K bo n) := ⟨25, yl_mt' hE hC hK h 24 0 rfl⟩
theorem yl_sg' {post : Int32 → Prop} {b : Int32} (hE : ∀ d, E d ≤ 1) (hC : ∀ j, C j ≤ 7) (hK : ∀ t, K t ≤ 3) (h : post (nI (ws_sm (ws_s1 E C K bo b) 24))) : ∀ f i, i + f = 24 → wY_scoring_4 post b (nI n) (fun j => nI (A j)) (fun j => nI (C j)) (fun d => nI (E d)) (fun t => nI (K t)) bo (f + 1) (nI (ws_sm (ws_s1 E C K bo b) i)) (nI i) := by
  intro f
  induction f with
  | zero =>
    intro i e
    have e8 : i = 24 := by omega
    subst e8
    exact br_t (by decide) h
  | succ f ih =>
    intro i e
    have hi : i < 24 := by omega
    have g := ih (i + 1) (by omega)
    rw [ws_sm_s] at g
    refine br_f (nI_ge (b := 24) hi (by decide)) (yl_ma hi hE hC hK (ws_br (ws_M E C K i) (ws_M_le E C K i) (fun z => nm_r (nI_1 i) ?_) (fun z => yl_wo hi hE hC hK (br_c (fun lt => nm_r (nI_1 i) ?_) (fun nl => nm_r (nI_1 _) (nm_r (nI_1 i) ?_))))))
    · rw [ws_s1_n (fun q => by omega)] at g; exact g
    · rw [ws_s1_n (fun q => Int32.not_le.mpr lt q.2)] at g; exact g
    · rw [ws_s1_y z (Int32.not_lt.mp nl)] at g; exact g
theorem yl_sg {post : Int32 → Prop} {b : Int32} (hE : ∀ d, E d ≤ 1) (hC : ∀ j, C j ≤ 7) (hK : ∀ t, K t ≤ 3) (h : post (nI (ws_sm (ws_s1 E C K bo b) 24))) : wpY_scoring post (ws_Y A C E K bo n) b := ⟨25, yl_sg' hE hC hK h 24 0 rfl⟩
theorem yl_ah' {post : Int32 → Prop} {d : Nat} (hd : d < 24) (hE : ∀ d, E d ≤ 1) (hC : ∀ j, C j ≤ 7) (hK : ∀ t, K t ≤ 3) (h : post (nI (ws_ah E C K bo d))) : ∀ f i, i + f = 24 → wY_ahead_11 post (nI d) (ws_S E C K bo d) (nI n) (fun j => nI (A j)) (fun j => nI (C j)) (fun d => nI (E d)) (fun t => nI (K t)) bo (f + 1) (nI (ws_sm (ws_a1 E C K bo d) i)) (nI i) := by
  intro f
  induction f with
  | zero =>
    intro i e
    have e8 : i = 24 := by omega
    subst e8
    exact br_t (by decide) h
  | succ f ih =>
    intro i e
    have hi : i < 24 := by omega
    have g := ih (i + 1) (by omega)
    rw [ws_sm_s] at g
    refine br_f (nI_ge (b := 24) hi (by decide)) (yl_ma hi hE hC hK (ws_br (ws_M E C K i) (ws_M_le E C K i) (fun z => nm_r (nI_1 i) ?_) (fun z => yl_wo hi hE hC hK (br_c (fun lt => nm_r (nI_1 _) (nm_r (nI_1 i) ?_)) (fun nl => br_c (fun eq => pk_le d i (fun q => nm_r (nI_1 i) ?_) (fun q => nm_r (nI_1 _) (nm_r (nI_1 i) ?_))) (fun ne => nm_r (nI_1 i) ?_))))))
    · rw [ws_a1_n (fun q => by omega)] at g; exact g
    · rw [ws_a1_y z (Or.inl lt)] at g; exact g
    · rw [ws_a1_n (fun p => p.2.elim nl (fun p2 => by omega))] at g; exact g
    · rw [ws_a1_y z (Or.inr ⟨eq, q⟩)] at g; exact g
    · rw [ws_a1_n (fun p => p.2.elim nl (fun p2 => ne p2.1))] at g; exact g
theorem yl_ah {post : Int32 → Prop} {d : Nat} (hd : d < 24) (hE : ∀ d, E d ≤ 1) (hC : ∀ j, C j ≤ 7) (hK : ∀ t, K t ≤ 3) (h : post (nI (ws_ah E C K bo d))) : wpY_ahead post (ws_Y A C E K bo n) (nI d) := yl_wo hd hE hC hK ⟨25, yl_ah' hd hE hC hK h 24 0 rfl⟩
theorem yl_at_s {post : Int32 → Prop} {p i f : Nat} (hp : p < 10) (hi : i < 24) (hE : ∀ d, E d ≤ 1) (hC : ∀ j, C j ≤ 7) (hK : ∀ t, K t ≤ 3) (hq : ¬ (ws_M E C K i = 1 ∧ ws_ah E C K bo i = p)) (g : wY_at_2 post (nI p) (nI n) (fun j => nI (A j)) (fun j => nI (C j)) (fun d => nI (E d)) (fun t => nI (K t)) bo f (nI (i + 1))) : wY_at_2 post (nI p) (nI n) (fun j => nI (A j)) (fun j => nI (C j)) (fun d => nI (E d)) (fun t => nI (K t)) bo (f + 1) (nI i) := by
  have hb : ws_ah E C K bo i ≤ 24 := ws_sm_le (b := 1) (ws_a1_le E C K bo i) 24
  exact br_f (nI_ge (b := 24) hi (by decide)) (yl_ma hi hE hC hK (ws_br (ws_M E C K i) (ws_M_le E C K i) (fun z => nm_r (nI_1 i) g) (fun z => yl_ah hi hE hC hK (pk_eq (ws_ah E C K bo i) p (fun q => absurd ⟨z, q⟩ hq) (fun q => nm_r (nI_1 i) g)))))
theorem yl_at_t {post : Int32 → Prop} {p i f : Nat} (hp : p < 10) (hi : i < 24) (hE : ∀ d, E d ≤ 1) (hC : ∀ j, C j ≤ 7) (hK : ∀ t, K t ≤ 3) (hq : ws_M E C K i = 1 ∧ ws_ah E C K bo i = p) (g : post (nI i)) : wY_at_2 post (nI p) (nI n) (fun j => nI (A j)) (fun j => nI (C j)) (fun d => nI (E d)) (fun t => nI (K t)) bo (f + 1) (nI i) := by
  have hb : ws_ah E C K bo i ≤ 24 := ws_sm_le (b := 1) (ws_a1_le E C K bo i) 24
  exact br_f (nI_ge (b := 24) hi (by decide)) (yl_ma hi hE hC hK (ws_br (ws_M E C K i) (ws_M_le E C K i) (fun z => absurd z (by omega)) (fun z => yl_ah hi hE hC hK (pk_eq (ws_ah E C K bo i) p (fun q => g) (fun q => absurd hq.2 q)))))
theorem yl_at_n' {post : Int32 → Prop} {p : Nat} (hp : p < 10) (hE : ∀ d, E d ≤ 1) (hC : ∀ j, C j ≤ 7) (hK : ∀ t, K t ≤ 3) (hq : ∀ i, i < 24 → ¬ (ws_M E C K i = 1 ∧ ws_ah E C K bo i = p)) (h : post (-2)) : ∀ f i, i + f = 24 → wY_at_2 post (nI p) (nI n) (fun j => nI (A j)) (fun j => nI (C j)) (fun d => nI (E d)) (fun t => nI (K t)) bo (f + 1) (nI i) := by
  intro f
  induction f with
  | zero =>
    intro i e
    have e8 : i = 24 := by omega
    subst e8
    exact br_t (by decide) h
  | succ f ih =>
    intro i e
    exact yl_at_s hp (by omega) hE hC hK (hq i (by omega)) (ih (i + 1) (by omega))
theorem yl_at_k' {post : Int32 → Prop} {p k : Nat} (hp : p < 10) (hk : k < 24) (hE : ∀ d, E d ≤ 1) (hC : ∀ j, C j ≤ 7) (hK : ∀ t, K t ≤ 3) (hq : ws_M E C K k = 1 ∧ ws_ah E C K bo k = p) (hn : ∀ i, i < k → ¬ (ws_M E C K i = 1 ∧ ws_ah E C K bo i = p)) (h : post (nI k)) : ∀ f i, i + f = k → wY_at_2 post (nI p) (nI n) (fun j => nI (A j)) (fun j => nI (C j)) (fun d => nI (E d)) (fun t => nI (K t)) bo (f + 1) (nI i) := by
  intro f
  induction f with
  | zero =>
    intro i e
    have e8 : i = k := by omega
    subst e8
    exact yl_at_t hp hk hE hC hK hq h
  | succ f ih =>
    intro i e
    exact yl_at_s hp (by omega) hE hC hK (hn i (by omega)) (ih (i + 1) (by omega))
theorem yl_at_n {post : Int32 → Prop} {p : Nat} (hp : p < 10) (hE : ∀ d, E d ≤ 1) (hC : ∀ j, C j ≤ 7) (hK : ∀ t, K t ≤ 3) (hq : ∀ i, i < 24 → ¬ (ws_M E C K i = 1 ∧ ws_ah E C K bo i = p)) (h : post (-2)) : wpY_at post (ws_Y A C E K bo n) (nI p) := ⟨25, yl_at_n' hp hE hC hK hq h 24 0 rfl⟩
theorem yl_at_k {post : Int32 → Prop} {p k : Nat} (hp : p < 10) (hk : k < 24) (hE : ∀ d, E d ≤ 1) (hC : ∀ j, C j ≤ 7) (hK : ∀ t, K t ≤ 3) (hq : ws_M E C K k = 1 ∧ ws_ah E C K bo k = p) (hn : ∀ i, i < k → ¬ (ws_M E C K i = 1 ∧ ws_ah E C K bo i = p)) (h : post (nI k)) : wpY_at post (ws_Y A C E K bo n) (nI p) := ⟨k + 1, yl_at_k' hp hk hE hC hK hq hn h k 0 (Nat.zero_add k)⟩
end
end
section
section
variable {A C E K : Nat → Nat} {bo : Nat → Int32} {n : Nat}
/-! X: the tests of the arguments -/
theorem xl_ig_n {post : Int32 → Prop} {v : Int32} (hv : v < 0) (h : post 0) : wpX_isGood post (ws_X A C E K bo n) v := br_t hv h
theorem xl_ig_h {post : Int32 → Prop} {j : Nat} (hj : j < 2 ^ 31) (h8 : 8 ≤ j) (h : post 0) : wpX_isGood post (ws_X A C E K bo n) (nI j) :=
  br_f (nI_pos hj) (pk_le 8 j (fun _ => h) (fun q => absurd q (by omega)))
theorem xl_ig {post : Int32 → Prop} {j : Nat} (hj : j < 8) (h : post 1) : wpX_isGood post (ws_X A C E K bo n) (nI j) :=
  br_f (nI_pos (by omega)) (pk_le 8 j (fun q => absurd q (by omega)) (fun _ => h))
theorem xl_ip_n {post : Int32 → Prop} {v : Int32} (hv : v < 0) (h : post 0) : wpX_isPosition post (ws_X A C E K bo n) v := br_t hv h
theorem xl_ip_h {post : Int32 → Prop} {j : Nat} (hj : j < 2 ^ 31) (h8 : 10 ≤ j) (h : post 0) : wpX_isPosition post (ws_X A C E K bo n) (nI j) :=
  br_f (nI_pos hj) (pk_lt 9 j (fun _ => h) (fun q => absurd q (by omega)))
theorem xl_ip {post : Int32 → Prop} {j : Nat} (hj : j < 10) (h : post 1) : wpX_isPosition post (ws_X A C E K bo n) (nI j) :=
  br_f (nI_pos (by omega)) (pk_lt 9 j (fun q => absurd q (by omega)) (fun _ => h))
theorem xl_il_n {post : Int32 → Prop} {v : Int32} (hv : v < 0) (h : post 0) : wpX_isLive post (ws_X A C E K bo n) v := br_t hv h
theorem xl_il_h {post : Int32 → Prop} {j : Nat} (hj : j < 2 ^ 31) (h8 : 24 ≤ j) (hn : n ≤ 24) (h : post 0) : wpX_isLive post (ws_X A C E K bo n) (nI j) :=
  br_f (nI_pos hj) (pk_le n j (fun _ => h) (fun q => absurd q (by omega)))
theorem xl_il {post : Int32 → Prop} {j : Nat} (hj : j < 24) (hn : n ≤ 24) (h0 : ∀ d, n ≤ d → E d = 0) (hE : ∀ d, E d ≤ 1) (h : post (nI (E j))) : wpX_isLive post (ws_X A C E K bo n) (nI j) := by
  have c : (nI j).toNatClampNeg = j := nI_clamp (by omega)
  refine br_f (nI_pos (by omega)) (pk_le n j (fun q => ?_) (fun _ => ⟨vp_in_nI hj (by decide), ws_br (E j) (hE j) (fun z => ?_) (fun z => ?_) (congrArg (fun i => nI (E i)) c)⟩))
  · rw [h0 j q] at h; exact h
  · rw [z] at h; exact h
  · rw [z] at h; exact h
theorem xl_has {post : Int32 → Prop} {d w : Nat} (hd : d < 24) (hw : w < 8) (hC : ∀ j, C j ≤ 7) (h : post (nI (ws_b (C (8 * d + w))))) : wpX_has post (ws_X A C E K bo n) (nI d) (nI w) := by
  refine ⟨ws_vX hd hw, ws_brC (C (8 * d + w)) (hC _) (fun z => ?_) (fun z => ?_) (congrArg (fun i => nI (C i)) (ws_cX hd hw))⟩
  · rw [z, ws_b0] at h; exact h
  · rw [ws_bp z] at h; exact h
/-! X: the score -/
theorem xl_ra {post : Int32 → Prop} {t : Nat} (ht : t < 8) (hE : ∀ d, E d ≤ 1) (h : post (nI (ws_ra E C t))) : wpX_rarity post (ws_X A C E K bo n) (nI t) := by
  have c : (nI t).toNatClampNeg = t := nI_clamp (by omega)
  unfold wpX_rarity
  dsimp only
  rw [c, ws_raI hE t]
  exact ⟨vp_in_nI ht (by decide), ws_ra0 hE t, h⟩
theorem xl_st {post : Int32 → Prop} {d t : Nat} (hd : d < 24) (ht : t < 8) (hC : ∀ j, C j ≤ 7) (h : post (nI (ws_st C d t))) : wpX_strength post (ws_X A C E K bo n) (nI d) (nI t) := by
  have c : (nI d).toNatClampNeg = d := nI_clamp (by omega)
  refine ⟨ws_vX hd ht, nm_r (e' := nI (C (8 * d + t))) (congrArg (fun i => nI (C i)) (ws_cX hd ht)) ⟨vp_in_nI hd (by decide), by decide, ?_⟩⟩
  rw [c, ws_unI hC, ws_stI hC]
  exact ⟨ws_un0 hC d t, h⟩
/-! X: matching -/
theorem xl_mb {post : Int32 → Prop} {J : Int32 → Int32 → Prop} {d t a x : Nat} (k3 : K t ≤ 3)
    (h0 : (K t = 3 ∧ 0 < x) ∨ (K t = 2 ∧ x = 0) → post 0)
    (h1 : ¬ ((K t = 3 ∧ 0 < x) ∨ (K t = 2 ∧ x = 0)) → 0 < x ∧ 0 < K t → J 1 (nI (t + 1)))
    (h2 : ¬ ((K t = 3 ∧ 0 < x) ∨ (K t = 2 ∧ x = 0)) → ¬ (0 < x ∧ 0 < K t) → J (nI a) (nI (t + 1))) :
    (nI (K t) = 3 → ((nI (ws_b x) = 0 → wX_matches_47 post J (nI d) (nI a) (nI t) (nI (K t)) (nI (ws_b x)) (nI (ws_sm A 8)) (nI n) (nI (ws_sm E 24)) (nI (ws_it K)) (fun j => nI (A j)) (fun j => nI (C j)) (fun d => nI (ws_L C d)) (fun d => nI (E d)) (fun t => nI (ws_h E C t)) (fun t => nI (K t)) bo) ∧ (¬ nI (ws_b x) = 0 → post 0))) ∧ (¬ nI (K t) = 3 → wX_matches_47 post J (nI d) (nI a) (nI t) (nI (K t)) (nI (ws_b x)) (nI (ws_sm A 8)) (nI n) (nI (ws_sm E 24)) (nI (ws_it K)) (fun j => nI (A j)) (fun j => nI (C j)) (fun d => nI (ws_L C d)) (fun d => nI (E d)) (fun t => nI (ws_h E C t)) (fun t => nI (K t)) bo) := by
  unfold wX_matches_47 wX_matches_60
  by_cases hx : 0 < x
  · rw [ws_bp hx]
    exact pk_eq (K t) 3 (fun q => br_f (by decide) (h0 (Or.inl ⟨q, hx⟩))) (fun q => pk_eq (K t) 2
      (fun q2 => br_f (by decide) (pk_eq (K t) 0 (fun q0 => absurd q0 (by omega)) (fun q0 => br_f (by decide) (nm_r (nI_1 t) (h1 (by omega) ⟨hx, by omega⟩)))))
      (fun q2 => pk_eq (K t) 0 (fun q0 => nm_r (nI_1 t) (h2 (by omega) (by omega))) (fun q0 => br_f (by decide) (nm_r (nI_1 t) (h1 (by omega) ⟨hx, by omega⟩)))))
  · have z : x = 0 := by omega
    rw [z, ws_b0]
    exact pk_eq (K t) 3 (fun q => br_t rfl (pk_eq (K t) 2 (fun q2 => absurd q (by omega)) (fun q2 => pk_eq (K t) 0 (fun q0 => absurd q (by omega)) (fun q0 => br_t rfl (nm_r (nI_1 t) (h2 (by omega) (by omega)))))))
      (fun q => pk_eq (K t) 2 (fun q2 => br_t rfl (h0 (by omega))) (fun q2 => pk_eq (K t) 0 (fun q0 => nm_r (nI_1 t) (h2 (by omega) (by omega))) (fun q0 => br_t rfl (nm_r (nI_1 t) (h2 (by omega) (by omega))))))
theorem xl_ma' {post : Int32 → Prop} {d : Nat} (hd : d < 24) (hC : ∀ j, C j ≤ 7) (hK : ∀ t, K t ≤ 3) : ∀ f t a, t + f = 8 → a ≤ 1 → post (nI (ws_go C K d f t a)) → wX_matches_14 post (nI d) (nI (ws_sm A 8)) (nI n) (nI (ws_sm E 24)) (nI (ws_it K)) (fun j => nI (A j)) (fun j => nI (C j)) (fun d => nI (ws_L C d)) (fun d => nI (E d)) (fun t => nI (ws_h E C t)) (fun t => nI (K t)) bo (f + 1) (nI a) (nI t) := by
  intro f
  induction f with
  | zero =>
    intro t a e ha h
    have e8 : t = 8 := by omega
    subst e8
    exact br_t (by decide) ⟨ws_nar ha, h⟩
  | succ f ih =>
    intro t a e ha h
    have ht : t < 8 := by omega
    have c : (nI t).toNatClampNeg = t := nI_clamp (by omega)
    have m := xl_mb (post := post) (J := wX_matches_14 post (nI d) (nI (ws_sm A 8)) (nI n) (nI (ws_sm E 24)) (nI (ws_it K)) (fun j => nI (A j)) (fun j => nI (C j)) (fun d => nI (ws_L C d)) (fun d => nI (E d)) (fun t => nI (ws_h E C t)) (fun t => nI (K t)) bo (f + 1)) (A := A) (C := C) (E := E) (K := K) (bo := bo) (n := n) (d := d) (t := t) (a := a) (x := C (8 * d + t)) (hK t)
      (fun q => by rw [ws_go_n q] at h; exact h)
      (fun q q2 => ih (t + 1) 1 (by omega) (Nat.le_refl 1) (by rw [ws_go_y q q2] at h; exact h))
      (fun q q2 => ih (t + 1) a (by omega) ha (by rw [ws_go_k q q2] at h; exact h))
    exact br_f (nI_ge (b := 8) ht (by decide)) ⟨vp_in_nI ht (by decide), nm_r (e' := nI (K t)) (congrArg (fun j => nI (K j)) c) (xl_has hd ht hC m)⟩
theorem xl_ma {post : Int32 → Prop} {d : Nat} (hd : d < 24) (hn : n ≤ 24) (h0 : ∀ d, n ≤ d → E d = 0) (hE : ∀ d, E d ≤ 1) (hC : ∀ j, C j ≤ 7) (hK : ∀ t, K t ≤ 3) (h : post (nI (ws_M E C K d))) : wpX_matches post (ws_X A C E K bo n) (nI d) := by
  unfold wpX_matches
  dsimp only [ws_X]
  refine xl_il hd hn h0 hE (ws_br (E d) (hE d) (fun z => ?_) (fun z => ⟨9, xl_ma' hd hC hK 8 0 0 rfl (Nat.zero_le 1) ?_⟩))
  · rw [ws_M_0 z] at h; exact h
  · rw [ws_M_1 (by omega)] at h; exact h
/-! X: the score's loop -/
theorem xl_s1 {post : Int32 → Prop} {d : Nat} (hd : d < 24) (hE : ∀ d, E d ≤ 1) (hC : ∀ j, C j ≤ 7) (hK : ∀ t, K t ≤ 3) (h : post (ws_S E C K bo d)) : ∀ f t, t + f = 8 → wX_scoreOf_4 post (nI d) (nI (ws_sm A 8)) (nI n) (nI (ws_sm E 24)) (nI (ws_it K)) (fun j => nI (A j)) (fun j => nI (C j)) (fun d => nI (ws_L C d)) (fun d => nI (E d)) (fun t => nI (ws_h E C t)) (fun t => nI (K t)) bo (f + 1) (ws_sc E C K bo d t) (nI t) := by
  intro f
  induction f with
  | zero =>
    intro t e
    have e8 : t = 8 := by omega
    subst e8
    exact br_t (by decide) h
  | succ f ih =>
    intro t e
    have ht : t < 8 := by omega
    have hv : vp_in (nI t) 8 := vp_in_nI ht (by decide)
    have c : (nI t).toNatClampNeg = t := nI_clamp (by omega)
    have ck : (fun j => nI (K j)) (nI t).toNatClampNeg = nI (K t) := congrArg (fun j => nI (K j)) c
    have k3 := hK t
    have g := ih (t + 1) (by omega)
    have gs : ws_sc E C K bo d (t + 1) = ws_sc E C K bo d t + ws_tm E C K bo d t := rfl
    have b30 : (K t = 1 ∨ K t = 2) → wX_scoreOf_30 post (wX_scoreOf_4 post (nI d) (nI (ws_sm A 8)) (nI n) (nI (ws_sm E 24)) (nI (ws_it K)) (fun j => nI (A j)) (fun j => nI (C j)) (fun d => nI (ws_L C d)) (fun d => nI (E d)) (fun t => nI (ws_h E C t)) (fun t => nI (K t)) bo (f + 1)) (nI d) (ws_sc E C K bo d t) (nI t) (nI (ws_sm A 8)) (nI n) (nI (ws_sm E 24)) (nI (ws_it K)) (fun j => nI (A j)) (fun j => nI (C j)) (fun d => nI (ws_L C d)) (fun d => nI (E d)) (fun t => nI (ws_h E C t)) (fun t => nI (K t)) bo :=
      fun q => ⟨hv, xl_ra ht hE (xl_st hd ht hC (nm_r (e' := ws_sc E C K bo d (t + 1)) (by rw [c, ws_tm_x q, gs]) (nm_r (nI_1 t) g)))⟩
    refine br_f (nI_ge (b := 8) ht (by decide)) ⟨hv, pk_eq (K t) 1 (fun q => b30 (Or.inl q)) (fun q1 => ⟨hv, pk_eq (K t) 2 (fun q => b30 (Or.inr q)) (fun q2 => nm_r (nI_1 t) ?_) ck⟩) ck⟩
    rw [gs, ws_tm_0 (by omega), Int32.add_zero] at g
    exact g
theorem xl_so {post : Int32 → Prop} {d : Nat} (hd : d < 24) (hE : ∀ d, E d ≤ 1) (hC : ∀ j, C j ≤ 7) (hK : ∀ t, K t ≤ 3) (h : post (ws_S E C K bo d)) : wpX_scoreOf post (ws_X A C E K bo n) (nI d) := ⟨9, xl_s1 hd hE hC hK h 8 0 rfl⟩
/-! X: over the documents -/
theorem xl_mt' {post : Int32 → Prop} (hn : n ≤ 24) (h0 : ∀ d, n ≤ d → E d = 0) (hE : ∀ d, E d ≤ 1) (hC : ∀ j, C j ≤ 7) (hK : ∀ t, K t ≤ 3) (h : post (nI (ws_sm (ws_M E C K) n))) : ∀ f i, i + f = n → wX_matching_4 post (nI (ws_sm A 8)) (nI n) (nI (ws_sm E 24)) (nI (ws_it K)) (fun j => nI (A j)) (fun j => nI (C j)) (fun d => nI (ws_L C d)) (fun d => nI (E d)) (fun t => nI (ws_h E C t)) (fun t => nI (K t)) bo (f + 1) (nI (ws_sm (ws_M E C K) i)) (nI i) := by
  intro f
  induction f with
  | zero =>
    intro i e
    have e8 : i = n := by omega
    subst e8
    exact pk_le i i (fun _ => h) (fun q => absurd q (by omega))
  | succ f ih =>
    intro i e
    have hi : i < 24 := by omega
    have g := ih (i + 1) (by omega)
    rw [ws_sm_s (ws_M E C K) i] at g
    refine pk_le n i (fun q => absurd q (by omega)) (fun _ => xl_ma hi hn h0 hE hC hK (ws_br (ws_M E C K i) (ws_M_le E C K i) (fun z => nm_r (nI_1 i) ?_) (fun z => nm_r (nI_1 _) (nm_r (nI_1 i) ?_))))
    · rw [z] at g; exact g
    · rw [z] at g; exact g
theorem xl_mt {post : Int32 → Prop} (hn : n ≤ 24) (h0 : ∀ d, n ≤ d → E d = 0) (hE : ∀ d, E d ≤ 1) (hC : ∀ j, C j ≤ 7) (hK : ∀ t, K t ≤ 3) (h : post (nI (ws_sm (ws_M E C K) 24))) : wpX_matching post (ws_X A C E K bo n) := by
  rw [ws_sm_x (fun j hj => ws_M_0 (h0 j hj)) 24 hn] at h
  exact ⟨n + 1, xl_mt' hn h0 hE hC hK h n 0 (Nat.zero_add n)⟩
theorem xl_sg' {post : Int32 → Prop} {b : Int32} (hn : n ≤ 24) (h0 : ∀ d, n ≤ d → E d = 0) (hE : ∀ d, E d ≤ 1) (hC : ∀ j, C j ≤ 7) (hK : ∀ t, K t ≤ 3) (h : post (nI (ws_sm (ws_s1 E C K bo b) n))) : ∀ f i, i + f = n → wX_scoring_4 post b (nI (ws_sm A 8)) (nI n) (nI (ws_sm E 24)) (nI (ws_it K)) (fun j => nI (A j)) (fun j => nI (C j)) (fun d => nI (ws_L C d)) (fun d => nI (E d)) (fun t => nI (ws_h E C t)) (fun t => nI (K t)) bo (f + 1) (nI (ws_sm (ws_s1 E C K bo b) i)) (nI i) := by
  intro f
  induction f with
  | zero =>
    intro i e
    have e8 : i = n := by omega
    subst e8
    exact pk_le i i (fun _ => h) (fun q => absurd q (by omega))
  | succ f ih =>
    intro i e
    have hi : i < 24 := by omega
    have g := ih (i + 1) (by omega)
    rw [ws_sm_s (ws_s1 E C K bo b) i] at g
    refine pk_le n i (fun q => absurd q (by omega)) (fun _ => xl_ma hi hn h0 hE hC hK (ws_br (ws_M E C K i) (ws_M_le E C K i) (fun z => nm_r (nI_1 i) ?_) (fun z => xl_so hi hE hC hK (br_c (fun lt => nm_r (nI_1 i) ?_) (fun nl => nm_r (nI_1 _) (nm_r (nI_1 i) ?_))))))
    · rw [ws_s1_n (fun q => by omega)] at g; exact g
    · rw [ws_s1_n (fun q => Int32.not_le.mpr lt q.2)] at g; exact g
    · rw [ws_s1_y z (Int32.not_lt.mp nl)] at g; exact g
theorem xl_sg {post : Int32 → Prop} {b : Int32} (hn : n ≤ 24) (h0 : ∀ d, n ≤ d → E d = 0) (hE : ∀ d, E d ≤ 1) (hC : ∀ j, C j ≤ 7) (hK : ∀ t, K t ≤ 3) (h : post (nI (ws_sm (ws_s1 E C K bo b) 24))) : wpX_scoring post (ws_X A C E K bo n) b := by
  rw [ws_sm_x (fun j hj => ws_s1_n (fun q => by have z := ws_M_0 (C := C) (K := K) (h0 j hj); omega)) 24 hn] at h
  exact ⟨n + 1, xl_sg' hn h0 hE hC hK h n 0 (Nat.zero_add n)⟩
theorem xl_pl' {post : Int32 → Prop} {d : Nat} (hd : d < 24) (hn : n ≤ 24) (h0 : ∀ d, n ≤ d → E d = 0) (hE : ∀ d, E d ≤ 1) (hC : ∀ j, C j ≤ 7) (hK : ∀ t, K t ≤ 3) (h : post (nI (ws_sm (ws_a1 E C K bo d) n))) : ∀ f i, i + f = n → wX_placeOf_11 post (nI d) (ws_S E C K bo d) (nI (ws_sm A 8)) (nI n) (nI (ws_sm E 24)) (nI (ws_it K)) (fun j => nI (A j)) (fun j => nI (C j)) (fun d => nI (ws_L C d)) (fun d => nI (E d)) (fun t => nI (ws_h E C t)) (fun t => nI (K t)) bo (f + 1) (nI (ws_sm (ws_a1 E C K bo d) i)) (nI i) := by
  intro f
  induction f with
  | zero =>
    intro i e
    have e8 : i = n := by omega
    subst e8
    exact pk_le i i (fun _ => h) (fun q => absurd q (by omega))
  | succ f ih =>
    intro i e
    have hi : i < 24 := by omega
    have g := ih (i + 1) (by omega)
    rw [ws_sm_s (ws_a1 E C K bo d) i] at g
    refine pk_le n i (fun q => absurd q (by omega)) (fun _ => xl_ma hi hn h0 hE hC hK (ws_br (ws_M E C K i) (ws_M_le E C K i) (fun z => nm_r (nI_1 i) ?_) (fun z => xl_so hi hE hC hK (br_c (fun lt => nm_r (nI_1 _) (nm_r (nI_1 i) ?_)) (fun nl => br_c (fun eq => pk_le d i (fun q => nm_r (nI_1 i) ?_) (fun q => nm_r (nI_1 _) (nm_r (nI_1 i) ?_))) (fun ne => nm_r (nI_1 i) ?_))))))
    · rw [ws_a1_n (fun q => by omega)] at g; exact g
    · rw [ws_a1_y z (Or.inl lt)] at g; exact g
    · rw [ws_a1_n (fun p => p.2.elim nl (fun p2 => by omega))] at g; exact g
    · rw [ws_a1_y z (Or.inr ⟨eq, q⟩)] at g; exact g
    · rw [ws_a1_n (fun p => p.2.elim nl (fun p2 => ne p2.1))] at g; exact g
theorem xl_pl {post : Int32 → Prop} {d : Nat} (hd : d < 24) (hn : n ≤ 24) (h0 : ∀ d, n ≤ d → E d = 0) (hE : ∀ d, E d ≤ 1) (hC : ∀ j, C j ≤ 7) (hK : ∀ t, K t ≤ 3) (h : post (nI (ws_ah E C K bo d))) : wpX_placeOf post (ws_X A C E K bo n) (nI d) := by
  rw [← ws_ah_n hn h0] at h
  exact xl_so hd hE hC hK ⟨n + 1, xl_pl' hd hn h0 hE hC hK h n 0 (Nat.zero_add n)⟩
theorem xl_dc_s {post : Int32 → Prop} {p i f : Nat} (hp : p < 10) (hi : i < n) (hn : n ≤ 24) (h0 : ∀ d, n ≤ d → E d = 0) (hE : ∀ d, E d ≤ 1) (hC : ∀ j, C j ≤ 7) (hK : ∀ t, K t ≤ 3) (hq : ¬ (ws_M E C K i = 1 ∧ ws_ah E C K bo i = p)) (g : wX_documentAt_2 post (nI p) (nI (ws_sm A 8)) (nI n) (nI (ws_sm E 24)) (nI (ws_it K)) (fun j => nI (A j)) (fun j => nI (C j)) (fun d => nI (ws_L C d)) (fun d => nI (E d)) (fun t => nI (ws_h E C t)) (fun t => nI (K t)) bo f (nI (i + 1))) : wX_documentAt_2 post (nI p) (nI (ws_sm A 8)) (nI n) (nI (ws_sm E 24)) (nI (ws_it K)) (fun j => nI (A j)) (fun j => nI (C j)) (fun d => nI (ws_L C d)) (fun d => nI (E d)) (fun t => nI (ws_h E C t)) (fun t => nI (K t)) bo (f + 1) (nI i) := by
  have hb : ws_ah E C K bo i ≤ 24 := ws_sm_le (b := 1) (ws_a1_le E C K bo i) 24
  have h24 : i < 24 := by omega
  exact pk_le n i (fun q => absurd q (by omega)) (fun _ => xl_ma h24 hn h0 hE hC hK (ws_br (ws_M E C K i) (ws_M_le E C K i) (fun z => nm_r (nI_1 i) g) (fun z => xl_pl h24 hn h0 hE hC hK (pk_eq (ws_ah E C K bo i) p (fun q => absurd ⟨z, q⟩ hq) (fun q => nm_r (nI_1 i) g)))))
theorem xl_dc_t {post : Int32 → Prop} {p i f : Nat} (hp : p < 10) (hi : i < n) (hn : n ≤ 24) (h0 : ∀ d, n ≤ d → E d = 0) (hE : ∀ d, E d ≤ 1) (hC : ∀ j, C j ≤ 7) (hK : ∀ t, K t ≤ 3) (hq : ws_M E C K i = 1 ∧ ws_ah E C K bo i = p) (g : post (nI i)) : wX_documentAt_2 post (nI p) (nI (ws_sm A 8)) (nI n) (nI (ws_sm E 24)) (nI (ws_it K)) (fun j => nI (A j)) (fun j => nI (C j)) (fun d => nI (ws_L C d)) (fun d => nI (E d)) (fun t => nI (ws_h E C t)) (fun t => nI (K t)) bo (f + 1) (nI i) := by
  have hb : ws_ah E C K bo i ≤ 24 := ws_sm_le (b := 1) (ws_a1_le E C K bo i) 24
  have h24 : i < 24 := by omega
  exact pk_le n i (fun q => absurd q (by omega)) (fun _ => xl_ma h24 hn h0 hE hC hK (ws_br (ws_M E C K i) (ws_M_le E C K i) (fun z => absurd z (by omega)) (fun z => xl_pl h24 hn h0 hE hC hK (pk_eq (ws_ah E C K bo i) p (fun q => g) (fun q => absurd hq.2 q)))))
theorem xl_dc_n' {post : Int32 → Prop} {p : Nat} (hp : p < 10) (hn : n ≤ 24) (h0 : ∀ d, n ≤ d → E d = 0) (hE : ∀ d, E d ≤ 1) (hC : ∀ j, C j ≤ 7) (hK : ∀ t, K t ≤ 3) (hq : ∀ i, i < 24 → ¬ (ws_M E C K i = 1 ∧ ws_ah E C K bo i = p)) (h : post (-1)) : ∀ f i, i + f = n → wX_documentAt_2 post (nI p) (nI (ws_sm A 8)) (nI n) (nI (ws_sm E 24)) (nI (ws_it K)) (fun j => nI (A j)) (fun j => nI (C j)) (fun d => nI (ws_L C d)) (fun d => nI (E d)) (fun t => nI (ws_h E C t)) (fun t => nI (K t)) bo (f + 1) (nI i) := by
  intro f
  induction f with
  | zero =>
    intro i e
    have e8 : i = n := by omega
    subst e8
    exact pk_le i i (fun _ => h) (fun q => absurd q (by omega))
  | succ f ih =>
    intro i e
    exact xl_dc_s hp (by omega) hn h0 hE hC hK (hq i (by omega)) (ih (i + 1) (by omega))
theorem xl_dc_k' {post : Int32 → Prop} {p k : Nat} (hp : p < 10) (hk : k < n) (hn : n ≤ 24) (h0 : ∀ d, n ≤ d → E d = 0) (hE : ∀ d, E d ≤ 1) (hC : ∀ j, C j ≤ 7) (hK : ∀ t, K t ≤ 3) (hq : ws_M E C K k = 1 ∧ ws_ah E C K bo k = p) (hj : ∀ i, i < k → ¬ (ws_M E C K i = 1 ∧ ws_ah E C K bo i = p)) (h : post (nI k)) : ∀ f i, i + f = k → wX_documentAt_2 post (nI p) (nI (ws_sm A 8)) (nI n) (nI (ws_sm E 24)) (nI (ws_it K)) (fun j => nI (A j)) (fun j => nI (C j)) (fun d => nI (ws_L C d)) (fun d => nI (E d)) (fun t => nI (ws_h E C t)) (fun t => nI (K t)) bo (f + 1) (nI i) := by
  intro f
  induction f with
  | zero =>
    intro i e
    have e8 : i = k := by omega
    subst e8
    exact xl_dc_t hp hk hn h0 hE hC hK hq h
  | succ f ih =>
    intro i e
    exact xl_dc_s hp (by omega) hn h0 hE hC hK (hj i (by omega)) (ih (i + 1) (by omega))
theorem xl_dc_n {post : Int32 → Prop} {p : Nat} (hp : p < 10) (hn : n ≤ 24) (h0 : ∀ d, n ≤ d → E d = 0) (hE : ∀ d, E d ≤ 1) (hC : ∀ j, C j ≤ 7) (hK : ∀ t, K t ≤ 3) (hq : ∀ i, i < 24 → ¬ (ws_M E C K i = 1 ∧ ws_ah E C K bo i = p)) (h : post (-1)) : wpX_documentAt post (ws_X A C E K bo n) (nI p) := ⟨n + 1, xl_dc_n' hp hn h0 hE hC hK hq h n 0 (Nat.zero_add n)⟩
theorem xl_dc_k {post : Int32 → Prop} {p k : Nat} (hp : p < 10) (hk : k < n) (hn : n ≤ 24) (h0 : ∀ d, n ≤ d → E d = 0) (hE : ∀ d, E d ≤ 1) (hC : ∀ j, C j ≤ 7) (hK : ∀ t, K t ≤ 3) (hq : ws_M E C K k = 1 ∧ ws_ah E C K bo k = p) (hj : ∀ i, i < k → ¬ (ws_M E C K i = 1 ∧ ws_ah E C K bo i = p)) (h : post (nI k)) : wpX_documentAt post (ws_X A C E K bo n) (nI p) := ⟨k + 1, xl_dc_k' hp hk hn h0 hE hC hK hq hj h k 0 (Nat.zero_add k)⟩
end
end
section
section
variable {A C E K : Nat → Nat} {bo : Nat → Int32} {n : Nat}
/-! arguments that are refused -/
def ws_out (N : Nat) (v : Int32) : Prop := v < 0 ∨ ∃ j : Nat, j < 2 ^ 31 ∧ N ≤ j ∧ v = nI j
theorem ws_io (N : Nat) (v : Int32) : ws_out N v ∨ ∃ j : Nat, j < N ∧ v = nI j := by
  cases ws_neg v with
  | inl h => exact Or.inl (Or.inl h)
  | inr h =>
    obtain ⟨j, hj, e⟩ := h
    by_cases z : j < N
    · exact Or.inr ⟨j, z, e⟩
    · exact Or.inl (Or.inr ⟨j, hj, by omega, e⟩)
theorem xl_igB {post : Int32 → Prop} {v : Int32} (hv : ws_out 8 v) (h : post 0) : wpX_isGood post (ws_X A C E K bo n) v := by
  cases hv with
  | inl z => exact xl_ig_n z h
  | inr z =>
    obtain ⟨j, hj, h8, e⟩ := z
    subst e
    exact xl_ig_h hj h8 h
theorem yl_bwB {post : Int32 → Prop} {v : Int32} (hv : ws_out 8 v) (h : post 1) : wpY_badWord post (ws_Y A C E K bo n) v := by
  cases hv with
  | inl z => exact yl_bw_n z h
  | inr z =>
    obtain ⟨j, hj, h8, e⟩ := z
    subst e
    exact yl_bw_h hj h8 h
theorem xl_ilB {post : Int32 → Prop} {v : Int32} (hn : n ≤ 24) (hv : ws_out 24 v) (h : post 0) : wpX_isLive post (ws_X A C E K bo n) v := by
  cases hv with
  | inl z => exact xl_il_n z h
  | inr z =>
    obtain ⟨j, hj, h8, e⟩ := z
    subst e
    exact xl_il_h hj h8 hn h
theorem yl_bdB {post : Int32 → Prop} {v : Int32} (hv : ws_out 24 v) (h : post 1) : wpY_bad post (ws_Y A C E K bo n) v := by
  cases hv with
  | inl z => exact yl_bd_n z h
  | inr z =>
    obtain ⟨j, hj, h8, e⟩ := z
    subst e
    exact yl_bd_h hj h8 h
theorem xl_ipB {post : Int32 → Prop} {v : Int32} (hv : ws_out 10 v) (h : post 0) : wpX_isPosition post (ws_X A C E K bo n) v := by
  cases hv with
  | inl z => exact xl_ip_n z h
  | inr z =>
    obtain ⟨j, hj, h8, e⟩ := z
    subst e
    exact xl_ip_h hj h8 h
/-- a test 'below 0, or above M', the outcome the same -/
theorem ws_oo {P Q : Prop} {v M : Int32} {N : Nat} (hv : ws_out (N + 1) v) (h : P) (hM : M = nI N := by rfl) (hN : N < 2 ^ 31 := by decide) : (v < 0 → P) ∧ (¬ v < 0 → (v ≤ M → Q) ∧ (¬ v ≤ M → P)) := by
  subst hM
  cases hv with
  | inl z => exact br_t z h
  | inr z =>
    obtain ⟨j, hj, h8, e⟩ := z
    subst e
    exact br_f (nI_pos hj) (br_f (nI_ge (by omega) hj) h)
theorem ws_oi {P Q : Prop} {j : Nat} {M : Int32} {N : Nat} (hj : j ≤ N) (h : Q) (hM : M = nI N := by rfl) (hN : N < 2 ^ 31 := by decide) : (nI j < 0 → P) ∧ (¬ nI j < 0 → (nI j ≤ M → Q) ∧ (¬ nI j ≤ M → P)) := by
  subst hM
  exact br_f (nI_pos (by omega)) (br_t (nI_le hj hN) h)
/-! X: a document begun, a word entered -/
theorem xl_open {post : SX → Prop} (hn : n < 24) (h0 : E n = 0) (hC0 : ∀ j, 8 * n ≤ j → C j = 0) (h : post (ws_X A C (ws_up E n 1) K bo (n + 1))) : wpX_openDocument post (ws_X A C E K bo n) := by
  have c : (nI n).toNatClampNeg = n := nI_clamp (by omega)
  have e1 : upd (fun d => nI (E d)) (nI n).toNatClampNeg (vp_nar .boolean 1) = fun d => nI (ws_up E n 1 d) := by
    rw [c, ws_t1]
    exact ws_upI E n 1
  have e2 : nI (ws_sm E 24) + 1 = nI (ws_sm (ws_up E n 1) 24) := by
    have q := ws_E_u (E := E) 1 hn
    rw [nI_1]
    exact congrArg nI (by omega)
  have e3 : (fun t => nI (ws_h (ws_up E n 1) C t)) = fun t => nI (ws_h E C t) := by
    funext t
    rw [ws_h_n hn h0 hC0 t]
  unfold ws_X at h
  rw [e3] at h
  exact ⟨vp_in_nI hn (by decide), nm_r e1 (nm_r (nI_1 n) (nm_r e2 h))⟩
theorem xl_enter {post : SX → Prop} {d w x : Nat} {y : Int32} (hd : d < 24) (hw : w < 8) (hx : x ≤ 7) (h0 : C (8 * d + w) = 0) (h1 : E d = 1) (hy : y = nI x) (h : post (ws_X A (ws_up C (8 * d + w) x) E K bo n)) : wpX_enter post (ws_X A C E K bo n) (nI d) (nI w) y := by
  subst hy
  have cd : (nI d).toNatClampNeg = d := nI_clamp (by omega)
  have cw : (nI w).toNatClampNeg = w := nI_clamp (by omega)
  have vd : vp_in (nI d) 24 := vp_in_nI hd (by decide)
  have vw : vp_in (nI w) 8 := vp_in_nI hw (by decide)
  have e1 : upd (fun j => nI (C j)) (nI d * 8 + nI w).toNatClampNeg (nI x) = fun j => nI (ws_up C (8 * d + w) x j) := by
    rw [ws_cX hd hw]
    exact ws_upI C _ x
  have e2 : upd (fun e => nI (ws_L C e)) (nI d).toNatClampNeg (nI (ws_L C (nI d).toNatClampNeg) + nI x) = fun e => nI (ws_L (ws_up C (8 * d + w) x) e) := by
    rw [cd]
    exact ws_fun (by rw [nI_add, ws_L_e hw h0]) (fun j hj => ws_L_o hw hj)
  have q := ws_h_e (E := E) (x := x) hd hw h0 h1
  refine ⟨ws_vX hd hw, nm_r e1 ⟨vd, vd, nm_r e2 (ws_brC x hx (fun z => ?_) (fun z => ⟨vw, vw, nm_r (e' := fun t => nI (ws_h E (ws_up C (8 * d + w) x) t)) ?_ h⟩))⟩⟩
  · have e3 : (fun t => nI (ws_h E (ws_up C (8 * d + w) x) t)) = fun t => nI (ws_h E C t) := by
      funext t
      by_cases zt : t = w
      · rw [zt, q, z, ws_b0, Nat.add_zero]
      · rw [ws_h_o hw zt]
    unfold ws_X at h
    rw [e3] at h
    exact h
  · show upd (fun t => nI (ws_h E C t)) (nI w).toNatClampNeg (nI (ws_h E C (nI w).toNatClampNeg) + 1) = _
    rw [cw]
    exact ws_fun (by rw [nI_1, q, ws_bp z]) (fun j hj => ws_h_o hw hj)
/-! add -/
theorem xl_ad {post : Int32 → SX → Prop} (hn : n < 24) (hA : ∀ j, A j ≤ 7) (hC0 : ∀ j, 8 * n ≤ j → C j = 0) (h : post (nI n) (ws_X A (ws_rw C n A 8) (ws_up E n 1) K bo (n + 1))) : ∀ f w, w + f = 8 → wX_add_22 post (nI n) (f + 1) (nI w) (nI (ws_sm A 8)) (nI (n + 1)) (nI (ws_sm (ws_up E n 1) 24)) (nI (ws_it K)) (fun j => nI (A j)) (fun j => nI ((ws_rw C n A w) j)) (fun d => nI (ws_L (ws_rw C n A w) d)) (fun d => nI ((ws_up E n 1) d)) (fun t => nI (ws_h (ws_up E n 1) (ws_rw C n A w) t)) (fun t => nI (K t)) bo := by
  intro f
  induction f with
  | zero =>
    intro w e
    have e8 : w = 8 := by omega
    subst e8
    exact br_t (by decide) h
  | succ f ih =>
    intro w e
    have hw : w < 8 := by omega
    have c : (nI w).toNatClampNeg = w := nI_clamp (by omega)
    have g := ih (w + 1) (by omega)
    rw [← ws_rw_s C n A w] at g
    exact br_f (nI_ge (b := 8) hw (by decide)) ⟨vp_in_nI hw (by decide), xl_enter (x := A w) hn hw (hA w) (by rw [ws_rw_o (by omega)]; exact hC0 _ (by omega)) ws_us (congrArg (fun j => nI (A j)) c) (nm_r (nI_1 w) g)⟩
theorem yl_ad {post : Int32 → SY → Prop} (hn : n < 24) (h : post (nI n) (ws_Y A (ws_rw C n A 8) (ws_up E n 1) K bo (n + 1))) : ∀ f w, w + f = 8 → wY_add_15 post (nI n) (nI n) (f + 1) (nI w) (fun j => nI (A j)) (fun j => nI (ws_rw C n A w j)) (fun d => nI (E d)) (fun t => nI (K t)) bo := by
  have cn : (nI n).toNatClampNeg = n := nI_clamp (by omega)
  intro f
  induction f with
  | zero =>
    intro w e
    have e8 : w = 8 := by omega
    subst e8
    exact br_t (by decide) ⟨vp_in_nI hn (by decide), nm_r (e' := fun d => nI (ws_up E n 1 d)) (by rw [cn, ws_t1]; exact ws_upI E n 1) (nm_r (nI_1 n) h)⟩
  | succ f ih =>
    intro w e
    have hw : w < 8 := by omega
    have c : (nI w).toNatClampNeg = w := nI_clamp (by omega)
    have g := ih (w + 1) (by omega)
    refine br_f (nI_ge (b := 8) hw (by decide)) ⟨vp_in_nI hw (by decide), ws_vY hn hw, nm_r (e' := fun j => nI (ws_rw C n A (w + 1) j)) ?_ (nm_r (nI_1 w) g)⟩
    rw [ws_cY hn hw, c, ← ws_rw_s]
    exact ws_upI _ _ _
/-! addMany -/
theorem xl_pt {post : Int32 → Prop} {s k w : Nat} (hs : s ≤ 10) (hk : k < 24) (hw : w < 8) (h : post (nI (ws_pt s k w))) : wpX_patternTimes post (ws_X A C E K bo n) (nI s) (nI k) (nI w) := by
  unfold wpX_patternTimes
  dsimp only [ws_X]
  rw [ws_pt_a, ws_pt_m (ws_pt_b hs hk hw)]
  exact ⟨by decide, nm_e (ws_pt_n (P := post) (Nat.mod_lt _ (by decide)) rfl h)⟩
theorem xl_am {post : Int32 → SX → Prop} {J : Int32 → Int32 → Int32 → Int32 → Int32 → (Nat → Int32) → (Nat → Int32) → (Nat → Int32) → (Nat → Int32) → (Nat → Int32) → (Nat → Int32) → (Nat → Int32) → Prop} {x2 x3 : Int32} {s k : Nat} (hs : s ≤ 10) (hk : k < 24) (hn : n < 24) (hC0 : ∀ j, 8 * n ≤ j → C j = 0) (h : J (nI (k + 1)) (nI (ws_sm A 8)) (nI (n + 1)) (nI (ws_sm (ws_up E n 1) 24)) (nI (ws_it K)) (fun j => nI (A j)) (fun j => nI ((ws_rw C n (ws_pt s k) 8) j)) (fun d => nI (ws_L (ws_rw C n (ws_pt s k) 8) d)) (fun d => nI ((ws_up E n 1) d)) (fun t => nI (ws_h (ws_up E n 1) (ws_rw C n (ws_pt s k) 8) t)) (fun t => nI (K t)) bo) : ∀ f w, w + f = 8 → wX_addMany_62 post J (nI s) x2 x3 (nI k) (nI n) (f + 1) (nI w) (nI (ws_sm A 8)) (nI (n + 1)) (nI (ws_sm (ws_up E n 1) 24)) (nI (ws_it K)) (fun j => nI (A j)) (fun j => nI ((ws_rw C n (ws_pt s k) w) j)) (fun d => nI (ws_L (ws_rw C n (ws_pt s k) w) d)) (fun d => nI ((ws_up E n 1) d)) (fun t => nI (ws_h (ws_up E n 1) (ws_rw C n (ws_pt s k) w) t)) (fun t => nI (K t)) bo := by
  intro f
  induction f with
  | zero =>
    intro w e
    have e8 : w = 8 := by omega
    subst e8
    exact br_t (by decide) (nm_r (nI_1 k) h)
  | succ f ih =>
    intro w e
    have hw : w < 8 := by omega
    have g := ih (w + 1) (by omega)
    rw [← ws_rw_s C n (ws_pt s k) w] at g
    exact br_f (nI_ge (b := 8) hw (by decide)) (xl_pt hs hk hw (xl_enter (x := ws_pt s k w) hn hw (ws_pt_le s k w) (by rw [ws_rw_o (by omega)]; exact hC0 _ (by omega)) ws_us rfl (nm_r (nI_1 w) g)))
theorem yl_am {post : Int32 → SY → Prop} {J : Int32 → Int32 → Int32 → (Nat → Int32) → (Nat → Int32) → (Nat → Int32) → (Nat → Int32) → (Nat → Int32) → Prop} {x2 : Int32} {s k m : Nat} (hs : s ≤ 10) (hk : k < 24) (hn : n < 24) (h : J (nI (m + 1)) (nI (k + 1)) (nI (n + 1)) (fun j => nI (A j)) (fun j => nI ((ws_rw C n (ws_pt s k) 8) j)) (fun d => nI ((ws_up E n 1) d)) (fun t => nI (K t)) bo) : ∀ f w, w + f = 8 → wY_addMany_53 post J (nI s) x2 (nI m) (nI k) (nI n) (nI n) (f + 1) (nI w) (fun j => nI (A j)) (fun j => nI (ws_rw C n (ws_pt s k) w j)) (fun d => nI (E d)) (fun t => nI (K t)) bo := by
  have cn : (nI n).toNatClampNeg = n := nI_clamp (by omega)
  intro f
  induction f with
  | zero =>
    intro w e
    have e8 : w = 8 := by omega
    subst e8
    exact br_t (by decide) ⟨vp_in_nI hn (by decide), nm_r (e' := fun d => nI (ws_up E n 1 d)) (by rw [cn, ws_t1]; exact ws_upI E n 1) (nm_r (nI_1 n) (nm_r (nI_1 m) (nm_r (nI_1 k) h)))⟩
  | succ f ih =>
    intro w e
    have hw : w < 8 := by omega
    have c : (nI w).toNatClampNeg = w := nI_clamp (by omega)
    have g := ih (w + 1) (by omega)
    refine br_f (nI_ge (b := 8) hw (by decide)) ⟨by decide, nm_r (e' := nI ((s + 5 * k + 3 * w + k * w) % 11) - nI 3) (by rw [ws_pt_a, ws_pt_m (ws_pt_b hs hk hw)]) (ws_pt_n (P := fun z => vp_in (8 * nI n + nI w) 192 ∧ ∀ a : Nat → Int32, a = upd (fun j => nI (ws_rw C n (ws_pt s k) w j)) (8 * nI n + nI w).toNatClampNeg z → ∀ y : Int32, y = nI w + 1 → wY_addMany_53 post J (nI s) x2 (nI m) (nI k) (nI n) (nI n) (f + 1) y (fun j => nI (A j)) a (fun d => nI (E d)) (fun t => nI (K t)) bo) (Nat.mod_lt _ (by decide)) rfl ⟨ws_vY hn hw, nm_r (e' := fun j => nI (ws_rw C n (ws_pt s k) (w + 1) j)) ?_ (nm_r (nI_1 w) g)⟩)⟩
    rw [ws_cY hn hw, ← ws_rw_s]
    exact ws_upI _ _ _
theorem yl_af {post : Int32 → SY → Prop} {s c m : Nat} (hc : c ≤ 24) (hn : n = 24) (h : post (nI m) (ws_Y A C E K bo n)) : ∀ f k, k + f = c → wY_addMany_31 post (nI s) (nI c) (f + 1) (nI m) (nI k) (nI n) (fun j => nI (A j)) (fun j => nI (C j)) (fun d => nI (E d)) (fun t => nI (K t)) bo := by
  intro f
  induction f with
  | zero =>
    intro k e
    exact pk_le c k (fun _ => h) (fun q => absurd q (by omega))
  | succ f ih =>
    intro k e
    exact pk_le c k (fun q => absurd q (by omega)) (fun _ => br_t (by rw [hn]; decide) (nm_r (nI_1 k) (ih (k + 1) (by omega))))
theorem ws_am {s c n0 : Nat} (hs : s ≤ 10) (hc : c ≤ 24) : ∀ (f k : Nat) (C E : Nat → Nat) (n : Nat), k + f = c → ws_ok A C E K n → n0 ≤ n → ∃ (D F : Nat → Nat) (m : Nat), ws_ok A D F K m ∧
    (∀ post : Int32 → SX → Prop, post (nI (m - n0)) (ws_X A D F K bo m) → wX_addMany_34 post (nI s) (nI c) (nI n0) (f + 1) (nI k) (nI (ws_sm A 8)) (nI n) (nI (ws_sm E 24)) (nI (ws_it K)) (fun j => nI (A j)) (fun j => nI (C j)) (fun d => nI (ws_L C d)) (fun d => nI (E d)) (fun t => nI (ws_h E C t)) (fun t => nI (K t)) bo) ∧
    (∀ post : Int32 → SY → Prop, post (nI (m - n0)) (ws_Y A D F K bo m) → wY_addMany_31 post (nI s) (nI c) (f + 1) (nI (n - n0)) (nI k) (nI n) (fun j => nI (A j)) (fun j => nI (C j)) (fun d => nI (E d)) (fun t => nI (K t)) bo) := by
  intro f
  induction f with
  | zero =>
    intro k C E n e ok hn
    exact ⟨C, E, n, ok, fun post h => pk_le c k (fun _ => by rw [pk_sub hn]; exact h) (fun q => absurd q (by omega)), fun post h => pk_le c k (fun _ => h) (fun q => absurd q (by omega))⟩
  | succ f ih =>
    intro k C E n e ok hn
    have n24 : n ≤ 24 := ok.1
    have hE0 : ∀ d, n ≤ d → E d = 0 := ok.2.2.2.2.1
    have hC0 : ∀ j, 8 * n ≤ j → C j = 0 := ok.2.2.2.2.2.1
    by_cases z : n < 24
    · obtain ⟨D, F, m, ok', hX, hY⟩ := ih (k + 1) (ws_rw C n (ws_pt s k) 8) (ws_up E n 1) (n + 1) (by omega) (ws_ok_add (ws_pt s k) (ws_pt_le s k) z ok) (by omega)
      have en : n + 1 - n0 = n - n0 + 1 := by omega
      rw [en] at hY
      have nge : ¬ (24 : Int32) ≤ nI n := nI_ge (b := 24) z (by decide)
      refine ⟨D, F, m, ok', fun post h => pk_le c k (fun q => absurd q (by omega)) (fun _ => br_f nge (xl_open z (hE0 n (Nat.le_refl n)) hC0 ⟨9, ?_⟩)), fun post h => pk_le c k (fun q => absurd q (by omega)) (fun _ => br_f nge ⟨9, ?_⟩)⟩
      · have g := xl_am (A := A) (E := E) (K := K) (bo := bo) (post := post) (J := wX_addMany_34 post (nI s) (nI c) (nI n0) (f + 1)) (x2 := nI c) (x3 := nI n0) hs (show k < 24 by omega) z hC0 (hX post h) 8 0 rfl
        rw [ws_rw_0] at g
        exact g
      · have g := yl_am (A := A) (C := C) (E := E) (K := K) (bo := bo) (post := post) (J := wY_addMany_31 post (nI s) (nI c) (f + 1)) (x2 := nI c) hs (show k < 24 by omega) z (hY post h) 8 0 rfl
        rw [ws_rw_0] at g
        exact g
    · have e24 : n = 24 := by omega
      exact ⟨C, E, n, ok, fun post h => pk_le c k (fun q => absurd q (by omega)) (fun _ => br_t (by rw [e24]; decide) (by rw [pk_sub hn]; exact h)), fun post h => yl_af hc e24 h (f + 1) k e⟩
end
end
section
section
variable {A C E K : Nat → Nat} {bo : Nat → Int32} {n : Nat}
/-! blank -/
theorem xl_bl {post : Int32 → SX → Prop} {x1 : Int32} (h : post x1 (ws_X (ws_bl A 8) C E K bo n)) : ∀ f w, w + f = 8 → wX_blank_7 post x1 (nI (ws_sm A 8)) (nI n) (nI (ws_sm E 24)) (nI (ws_it K)) (f + 1) (nI w) (fun j => nI (ws_bl A w j)) (fun j => nI (C j)) (fun d => nI (ws_L C d)) (fun d => nI (E d)) (fun t => nI (ws_h E C t)) (fun t => nI (K t)) bo := by
  intro f
  induction f with
  | zero =>
    intro w e
    have e8 : w = 8 := by omega
    subst e8
    unfold ws_X at h
    rw [ws_bl_z] at h
    exact br_t (by decide) h
  | succ f ih =>
    intro w e
    have hw : w < 8 := by omega
    have c : (nI w).toNatClampNeg = w := nI_clamp (by omega)
    have g := ih (w + 1) (by omega)
    refine br_f (nI_ge (b := 8) hw (by decide)) ⟨vp_in_nI hw (by decide), nm_r (e' := fun j => nI (ws_bl A (w + 1) j)) ?_ (nm_r (nI_1 w) g)⟩
    rw [c, ← ws_bl_s]
    exact ws_upI _ _ 0
theorem yl_bl {post : Int32 → SY → Prop} {x1 : Int32} (h : post x1 (ws_Y (ws_bl A 8) C E K bo n)) : ∀ f w, w + f = 8 → wY_blank_7 post x1 (nI n) (f + 1) (nI w) (fun j => nI (ws_bl A w j)) (fun j => nI (C j)) (fun d => nI (E d)) (fun t => nI (K t)) bo := by
  intro f
  induction f with
  | zero =>
    intro w e
    have e8 : w = 8 := by omega
    subst e8
    exact br_t (by decide) h
  | succ f ih =>
    intro w e
    have hw : w < 8 := by omega
    have c : (nI w).toNatClampNeg = w := nI_clamp (by omega)
    have g := ih (w + 1) (by omega)
    refine br_f (nI_ge (b := 8) hw (by decide)) ⟨vp_in_nI hw (by decide), nm_r (e' := fun j => nI (ws_bl A (w + 1) j)) ?_ (nm_r (nI_1 w) g)⟩
    rw [c, ← ws_bl_s]
    exact ws_upI _ _ 0
/-! delete -/
theorem xl_hasG {post : Int32 → Prop} {f1 f2 f3 f4 : Int32} {a1 a3 a4 a5 a6 a7 : Nat → Int32} {d w : Nat} (hd : d < 24) (hw : w < 8) (hC : ∀ j, C j ≤ 7) (h : post (nI (ws_b (C (8 * d + w))))) : wpX_has post (f1, f2, f3, f4, a1, fun j => nI (C j), a3, a4, a5, a6, a7) (nI d) (nI w) := by
  refine ⟨ws_vX hd hw, ws_brC (C (8 * d + w)) (hC _) (fun z => ?_) (fun z => ?_) (congrArg (fun i => nI (C i)) (ws_cX hd hw))⟩
  · rw [z, ws_b0] at h; exact h
  · rw [ws_bp z] at h; exact h
theorem xl_de {post : Int32 → SX → Prop} {d : Nat} (hd : d < 24) (hC : ∀ j, C j ≤ 7) (h1 : E d = 1) (h : post (nI (ws_sm (ws_up E d 0) 24)) (ws_X A C (ws_up E d 0) K bo n)) : ∀ f w, w + f = 8 → wX_delete_29 post (nI d) (nI (ws_sm A 8)) (nI n) (nI (ws_sm (ws_up E d 0) 24)) (nI (ws_it K)) (f + 1) (nI w) (fun j => nI (A j)) (fun j => nI (C j)) (fun d => nI (ws_L C d)) (fun j => nI (ws_up E d 0 j)) (fun t => nI (ws_dl E (ws_up E d 0) C w t)) (fun t => nI (K t)) bo := by
  intro f
  induction f with
  | zero =>
    intro w e
    have e8 : w = 8 := by omega
    subst e8
    rw [ws_dl_8]
    exact br_t (by decide) h
  | succ f ih =>
    intro w e
    have hw : w < 8 := by omega
    have c : (nI w).toNatClampNeg = w := nI_clamp (by omega)
    have vw : vp_in (nI w) 8 := vp_in_nI hw (by decide)
    have g := ih (w + 1) (by omega)
    have q := ws_h_u (E := E) (C := C) 0 hd hw
    rw [h1, Nat.one_mul, Nat.zero_mul, Nat.add_zero] at q
    refine br_f (nI_ge (b := 8) hw (by decide)) (xl_hasG hd hw hC (ws_br (ws_b (C (8 * d + w))) (ws_b1 _) (fun z => nm_r (nI_1 w) ?_) (fun z => ⟨vw, vw, nm_r (e' := fun t => nI (ws_dl E (ws_up E d 0) C (w + 1) t)) ?_ (nm_r (nI_1 w) g)⟩)))
    · rw [z, Nat.add_zero] at q
      rw [ws_dl_k q]
      exact g
    · rw [z] at q
      show upd (fun t => nI (ws_dl E (ws_up E d 0) C w t)) (nI w).toNatClampNeg (nI (ws_dl E (ws_up E d 0) C w (nI w).toNatClampNeg) - 1) = _
      rw [c, ws_dl_w, ws_b1m q, ← ws_dl_s]
      exact ws_upI _ _ _
/-! item -/
def ws_kd (b : Nat) : Nat := if b = 0 then 3 else if b < 10 then 1 else if b ≤ 10 then 0 else if b < 20 then 2 else 0
theorem xl_kd_n {post : Int32 → Prop} {v : Int32} (hv : v < 0) (h : post 0) : wpX_kindOf post (ws_X A C E K bo n) v := by
  have e0 : ¬ v = 0 := fun e => absurd (e ▸ hv) (by decide)
  have e1 : v < 1 := Int32.lt_trans hv (by decide)
  have e2 : v ≤ 10 := Int32.le_of_lt (Int32.lt_trans hv (by decide))
  exact br_f e0 (br_t e1 (br_t e2 h))
theorem xl_kd {post : Int32 → Prop} {b : Nat} (hb : b < 2 ^ 31) (h : post (nI (ws_kd b))) : wpX_kindOf post (ws_X A C E K bo n) (nI b) := by
  unfold ws_kd at h
  refine pk_eq b 0 (fun q => ?_) (fun q0 => pk_lt b 1 (fun q => absurd q (by omega)) (fun q1 => pk_lt 9 b (fun q => pk_le b 10 (fun q2 => ?_) (fun q2 => pk_lt 19 b (fun q3 => ?_) (fun q3 => ?_))) (fun q => ?_)))
  · rw [if_pos q] at h; exact h
  · rw [if_neg q0, if_neg (by omega), if_pos q2] at h; exact h
  · rw [if_neg q0, if_neg (by omega), if_neg (by omega), if_neg (by omega)] at h; exact h
  · rw [if_neg q0, if_neg (by omega), if_neg (by omega), if_pos (by omega)] at h; exact h
  · rw [if_neg q0, if_pos (by omega)] at h; exact h
theorem xl_i53 {post : Int32 → SX → Prop} {w b x : Nat} (hw : w < 8) (hx : x ≤ 3) (hb : b < 20) (h2 : x = 2 → 10 ≤ b) (h1 : ¬ x = 2 → b < 10) (h : post (nI (ws_it (ws_up K w x))) (ws_X A C E (ws_up K w x) (upd bo w (nI (b % 10))) n)) : wX_item_53 post (nI w) (nI b) (nI x) (nI (ws_sm A 8)) (nI n) (nI (ws_sm E 24)) (nI (ws_it (ws_up K w x))) (fun j => nI (A j)) (fun j => nI (C j)) (fun d => nI (ws_L C d)) (fun d => nI (E d)) (fun t => nI (ws_h E C t)) (fun t => nI (K t)) bo := by
  have c : (nI w).toNatClampNeg = w := nI_clamp (by omega)
  have vw : vp_in (nI w) 8 := vp_in_nI hw (by decide)
  have e1 : upd (fun t => nI (K t)) (nI w).toNatClampNeg (nI x) = fun t => nI (ws_up K w x t) := by
    rw [c]
    exact ws_upI K w x
  refine ⟨vw, nm_r e1 (pk_eq x 2 (fun q => ⟨vw, nm_r (e' := upd bo w (nI (b % 10))) ?_ h⟩) (fun q => ⟨vw, nm_r (e' := upd bo w (nI (b % 10))) ?_ h⟩))⟩
  · have k := h2 q
    show upd bo (nI w).toNatClampNeg (nI b - nI 10) = _
    rw [c, pk_sub k]
    exact congrArg (fun z => upd bo w (nI z)) (by omega)
  · have k := h1 q
    rw [c]
    exact congrArg (fun z => upd bo w (nI z)) (by omega)
theorem yl_i73 {post : Int32 → SY → Prop} {w b x : Nat} (hw : w < 8) (hb : b < 20) (hK : ∀ t, ws_up K w x t ≤ 3) (h : post (nI (ws_it (ws_up K w x))) (ws_Y A C E (ws_up K w x) (upd bo w (nI (b % 10))) n)) : wY_item_73 post (nI w) (nI b) (nI x) (nI w) (nI n) (fun j => nI (A j)) (fun j => nI (C j)) (fun d => nI (E d)) (fun t => nI (K t)) bo := by
  have c : (nI w).toNatClampNeg = w := nI_clamp (by omega)
  have vw : vp_in (nI w) 8 := vp_in_nI hw (by decide)
  have e1 : upd (fun t => nI (K t)) (nI w).toNatClampNeg (nI x) = fun t => nI (ws_up K w x t) := by
    rw [c]
    exact ws_upI K w x
  refine ⟨vw, nm_r e1 ⟨by decide, vw, nm_r (e' := upd bo w (nI (b % 10))) ?_ (yl_it hK h)⟩⟩
  show upd bo (nI w).toNatClampNeg (nI b - nI b / nI 10 * nI 10) = _
  rw [c, pk_rem (by omega) (by decide) (by decide)]
theorem yl_i49 {post : Int32 → SY → Prop} {w b : Nat} (hw : w < 8) (hb : b < 20) (h10 : b ≠ 10) (hK : ∀ t, ws_up K w (ws_kd b) t ≤ 3) (h : post (nI (ws_it (ws_up K w (ws_kd b)))) (ws_Y A C E (ws_up K w (ws_kd b)) (upd bo w (nI (b % 10))) n)) : wY_item_49 post (nI w) (nI b) (nI n) (fun j => nI (A j)) (fun j => nI (C j)) (fun d => nI (E d)) (fun t => nI (K t)) bo := by
  have m := yl_i73 hw hb hK h
  refine pk_eq b 0 (fun q => ?_) (fun q0 => pk_le 10 b (fun q => ?_) (fun q => ?_))
  · have e : ws_kd b = 3 := if_pos q
    rw [e] at m; exact m
  · have e : ws_kd b = 2 := by
      unfold ws_kd
      rw [if_neg q0, if_neg (by omega), if_neg (by omega), if_pos hb]
    rw [e] at m; exact m
  · have e : ws_kd b = 1 := by
      unfold ws_kd
      rw [if_neg q0, if_pos (by omega)]
    rw [e] at m; exact m
theorem ws_kd_p {b : Nat} (hb : b < 20) (h10 : b ≠ 10) : 0 < ws_kd b ∧ ws_kd b ≤ 3 ∧ (ws_kd b = 2 → 10 ≤ b) ∧ (¬ ws_kd b = 2 → b < 10) := by
  unfold ws_kd
  by_cases q0 : b = 0
  · rw [if_pos q0]; omega
  · by_cases q1 : b < 10
    · rw [if_neg q0, if_pos q1]; omega
    · rw [if_neg q0, if_neg q1, if_neg (by omega), if_pos hb]; omega
theorem ws_kd_0 {b : Nat} (hb : 20 ≤ b ∨ b = 10) : ws_kd b = 0 := by
  unfold ws_kd
  by_cases q : b ≤ 10
  · rw [if_neg (by omega), if_neg (by omega), if_pos q]
  · rw [if_neg (by omega), if_neg (by omega), if_neg q, if_neg (by omega)]
theorem ws_itu {w x : Nat} (hw : w < 8) (h0 : K w = 0) (hx : 0 < x) : ws_it (ws_up K w x) = ws_it K + 1 := by
  have q := ws_it_u (K := K) x hw
  rw [h0, ws_b0, ws_bp hx] at q
  exact q
theorem ws_itk {w x : Nat} (hw : w < 8) (h0 : 0 < K w) (hx : 0 < x) : ws_it (ws_up K w x) = ws_it K := by
  have q := ws_it_u (K := K) x hw
  rw [ws_bp h0, ws_bp hx] at q
  omega
theorem ws_itd {w : Nat} (hw : w < 8) (h0 : 0 < K w) : ws_it (ws_up K w 0) + 1 = ws_it K := by
  have q := ws_it_u (K := K) 0 hw
  rw [ws_bp h0, ws_b0] at q
  exact q
end
end
section
section
variable {A C E K : Nat → Nat} {bo : Nat → Int32} {n : Nat}
theorem ws_pv {P : Int32 → Prop} {a b : Int32} (e : a = b) (h : P b) : P a := by
  subst e
  exact h
theorem ws_h00 (t : Nat) : ws_h (fun _ => 0) (fun _ => 0) t = 0 := by
  unfold ws_h
  by_cases ht : t < 8
  · rw [if_pos ht]
    exact ws_sm_0 24 (fun j _ => Nat.zero_mul _)
  · rw [if_neg ht]
theorem ws_init : i_Rel 0 (0, 0, 0, 0, (fun _ => 0), (fun _ => 0), (fun _ => 0), (fun _ => 0), (fun _ => 0), (fun _ => 0), (fun _ => 0)) (0, (fun _ => 0), (fun _ => 0), (fun _ => 0), (fun _ => 0), (fun _ => 0)) := by
  have e : (fun t => nI (ws_h (fun _ => 0) (fun _ => 0) t)) = fun _ => (0 : Int32) := by
    funext t
    rw [ws_h00]
    rfl
  refine ⟨fun _ => 0, fun _ => 0, fun _ => 0, fun _ => 0, fun _ => 0, 0, ?_, rfl, Nat.zero_le _, fun _ => Nat.zero_le _, fun _ => Nat.zero_le _, fun _ => Nat.zero_le _, fun _ _ => rfl, fun _ _ => rfl, fun _ => Nat.zero_le _, Nat.zero_le _⟩
  unfold ws_X
  rw [e]
  rfl
/-! write -/
theorem xl_wr {post : Int32 → SX → Prop} {w x : Nat} (hw : w < 8) (hx : x < 8) (h : post (nI (ws_sm (ws_up A w x) 8)) (ws_X (ws_up A w x) C E K bo n)) : wpX_write post (ws_X A C E K bo n) (nI w) (nI x) := by
  have c : (nI w).toNatClampNeg = w := nI_clamp (by omega)
  have vw : vp_in (nI w) 8 := vp_in_nI hw (by decide)
  unfold wpX_write
  dsimp only [ws_X]
  refine xl_ig hw (br_f (by decide) (ws_oi (N := 7) (by omega) ⟨vw, nm_r (e' := nI (ws_sm (ws_up A w x) 8)) ?_ ⟨vw, nm_r (e' := fun j => nI (ws_up A w x j)) ?_ h⟩⟩))
  · rw [c]
    exact ws_asb (ws_A_u x hw).symm
  · rw [c]
    exact ws_upI A w x
theorem yl_wr {post : Int32 → SY → Prop} {w x : Nat} (hw : w < 8) (hx : x < 8) (h : post (nI (ws_sm (ws_up A w x) 8)) (ws_Y (ws_up A w x) C E K bo n)) : wpY_write post (ws_Y A C E K bo n) (nI w) (nI x) := by
  have c : (nI w).toNatClampNeg = w := nI_clamp (by omega)
  have vw : vp_in (nI w) 8 := vp_in_nI hw (by decide)
  unfold wpY_write
  dsimp only [ws_Y]
  refine yl_bw hw (br_t rfl (ws_oi (N := 7) (by omega) ⟨vw, nm_r (e' := fun j => nI (ws_up A w x j)) ?_ (yl_dl h)⟩))
  rw [c]
  exact ws_upI A w x
theorem xl_wr1 {post : Int32 → SX → Prop} {v1 v2 : Int32} (h1 : ws_out 8 v1) (h : post (-1) (ws_X A C E K bo n)) : wpX_write post (ws_X A C E K bo n) v1 v2 := by
  unfold wpX_write
  dsimp only [ws_X]
  exact xl_igB h1 (br_t rfl h)
theorem yl_wr1 {post : Int32 → SY → Prop} {v1 v2 : Int32} (h1 : ws_out 8 v1) (h : post (-1) (ws_Y A C E K bo n)) : wpY_write post (ws_Y A C E K bo n) v1 v2 := by
  unfold wpY_write
  dsimp only [ws_Y]
  exact yl_bwB h1 (br_f (by decide) h)
theorem xl_wr2 {post : Int32 → SX → Prop} {w : Nat} {v2 : Int32} (hw : w < 8) (h2 : ws_out 8 v2) (h : post (-2) (ws_X A C E K bo n)) : wpX_write post (ws_X A C E K bo n) (nI w) v2 := by
  unfold wpX_write
  dsimp only [ws_X]
  exact xl_ig hw (br_f (by decide) (ws_oo (N := 7) h2 h))
theorem yl_wr2 {post : Int32 → SY → Prop} {w : Nat} {v2 : Int32} (hw : w < 8) (h2 : ws_out 8 v2) (h : post (-2) (ws_Y A C E K bo n)) : wpY_write post (ws_Y A C E K bo n) (nI w) v2 := by
  unfold wpY_write
  dsimp only [ws_Y]
  exact yl_bw hw (br_t rfl (ws_oo (N := 7) h2 h))
/-! blank -/
theorem xl_blank {post : Int32 → SX → Prop} (h : post (nI (ws_sm A 8)) (ws_X (ws_bl A 8) C E K bo n)) : wpX_blank post (ws_X A C E K bo n) := by
  have g := xl_bl h 8 0 rfl
  rw [ws_bl_0] at g
  exact ⟨9, g⟩
theorem yl_blank {post : Int32 → SY → Prop} (h : post (nI (ws_sm A 8)) (ws_Y (ws_bl A 8) C E K bo n)) : wpY_blank post (ws_Y A C E K bo n) := by
  have g := yl_bl h 8 0 rfl
  rw [ws_bl_0] at g
  unfold wpY_blank
  dsimp only [ws_Y]
  exact yl_dl ⟨9, g⟩
/-! add -/
theorem xl_add {post : Int32 → SX → Prop} (hn : n < 24) (ok : ws_ok A C E K n) (h : post (nI n) (ws_X A (ws_rw C n A 8) (ws_up E n 1) K bo (n + 1))) : wpX_add post (ws_X A C E K bo n) := by
  have g := xl_ad hn ok.2.1 ok.2.2.2.2.2.1 h 8 0 rfl
  rw [ws_rw_0] at g
  exact pk_lt n 24 (fun _ => xl_open hn (ok.2.2.2.2.1 n (Nat.le_refl n)) ok.2.2.2.2.2.1 ⟨9, g⟩) (fun q => absurd q (by omega))
theorem yl_add {post : Int32 → SY → Prop} (hn : n < 24) (h : post (nI n) (ws_Y A (ws_rw C n A 8) (ws_up E n 1) K bo (n + 1))) : wpY_add post (ws_Y A C E K bo n) := by
  have g := yl_ad hn h 8 0 rfl
  rw [ws_rw_0] at g
  exact pk_le n 23 (fun _ => ⟨9, g⟩) (fun q => absurd q (by omega))
/-! delete -/
theorem xl_del {post : Int32 → SX → Prop} {d : Nat} (hd : d < 24) (ok : ws_ok A C E K n) (h1 : E d = 1) (h : post (nI (ws_sm (ws_up E d 0) 24)) (ws_X A C (ws_up E d 0) K bo n)) : wpX_delete post (ws_X A C E K bo n) (nI d) := by
  have c : (nI d).toNatClampNeg = d := nI_clamp (by omega)
  have q := ws_E_u (E := E) 0 hd
  unfold wpX_delete
  dsimp only [ws_X]
  refine xl_il hd ok.1 ok.2.2.2.2.1 ok.2.2.2.1 (ws_br (E d) (ok.2.2.2.1 d) (fun z => absurd z (by omega)) (fun _ => ⟨vp_in_nI hd (by decide), nm_r (e' := fun j => nI (ws_up E d 0 j)) ?_ (nm_r (e' := nI (ws_sm (ws_up E d 0) 24)) (ws_b1m (by omega)) ⟨9, ?_⟩)⟩))
  · rw [c, ws_t0]
    exact ws_upI E d 0
  · have g := xl_de hd ok.2.2.1 h1 h 8 0 rfl
    rw [ws_dl_0] at g
    exact g
theorem yl_del {post : Int32 → SY → Prop} {d : Nat} (hd : d < 24) (ok : ws_ok A C E K n) (h1 : E d = 1) (h : post (nI (ws_sm (ws_up E d 0) 24)) (ws_Y A C (ws_up E d 0) K bo n)) : wpY_delete post (ws_Y A C E K bo n) (nI d) := by
  have c : (nI d).toNatClampNeg = d := nI_clamp (by omega)
  unfold wpY_delete
  dsimp only [ws_Y]
  refine yl_bd hd ok.2.2.2.1 (ws_br (1 - E d) (by omega) (fun _ => ⟨vp_in_nI hd (by decide), nm_r (e' := fun j => nI (ws_up E d 0 j)) ?_ (yl_lc (ws_u_le (Nat.zero_le 1) ok.2.2.2.1) h)⟩) (fun z => absurd z (by omega)))
  rw [c, ws_t0]
  exact ws_upI E d 0
theorem xl_del0 {post : Int32 → SX → Prop} {d : Nat} (hd : d < 24) (ok : ws_ok A C E K n) (h1 : E d = 0) (h : post (-1) (ws_X A C E K bo n)) : wpX_delete post (ws_X A C E K bo n) (nI d) := by
  unfold wpX_delete
  dsimp only [ws_X]
  exact xl_il hd ok.1 ok.2.2.2.2.1 ok.2.2.2.1 (ws_br (E d) (ok.2.2.2.1 d) (fun z => h) (fun z => absurd z (by omega)))
theorem yl_del0 {post : Int32 → SY → Prop} {d : Nat} (hd : d < 24) (ok : ws_ok A C E K n) (h1 : E d = 0) (h : post (-1) (ws_Y A C E K bo n)) : wpY_delete post (ws_Y A C E K bo n) (nI d) := by
  unfold wpY_delete
  dsimp only [ws_Y]
  exact yl_bd hd ok.2.2.2.1 (ws_br (1 - E d) (by omega) (fun z => absurd z (by omega)) (fun z => h))
theorem xl_delB {post : Int32 → SX → Prop} {v : Int32} (hv : ws_out 24 v) (ok : ws_ok A C E K n) (h : post (-1) (ws_X A C E K bo n)) : wpX_delete post (ws_X A C E K bo n) v := by
  unfold wpX_delete
  dsimp only [ws_X]
  exact xl_ilB ok.1 hv (br_t rfl h)
theorem yl_delB {post : Int32 → SY → Prop} {v : Int32} (hv : ws_out 24 v) (h : post (-1) (ws_Y A C E K bo n)) : wpY_delete post (ws_Y A C E K bo n) v := by
  unfold wpY_delete
  dsimp only [ws_Y]
  exact yl_bdB hv (br_f (by decide) h)
/-! item -/
theorem xl_itB {post : Int32 → SX → Prop} {v1 v2 : Int32} (h1 : ws_out 8 v1) (h : post (-1) (ws_X A C E K bo n)) : wpX_item post (ws_X A C E K bo n) v1 v2 := by
  unfold wpX_item
  dsimp only [ws_X]
  exact xl_igB h1 (br_t rfl h)
theorem yl_itB {post : Int32 → SY → Prop} {v1 v2 : Int32} (h1 : ws_out 8 v1) (h : post (-1) (ws_Y A C E K bo n)) : wpY_item post (ws_Y A C E K bo n) v1 v2 := by
  unfold wpY_item
  dsimp only [ws_Y]
  exact yl_bwB h1 (br_f (by decide) h)
theorem xl_itN {post : Int32 → SX → Prop} {w : Nat} {v : Int32} (hw : w < 8) (hv : v < 0) (h : post (-2) (ws_X A C E K bo n)) : wpX_item post (ws_X A C E K bo n) (nI w) v := by
  unfold wpX_item
  dsimp only [ws_X]
  exact xl_ig hw (br_f (by decide) (xl_kd_n hv (br_t rfl h)))
theorem yl_itN {post : Int32 → SY → Prop} {w : Nat} {v : Int32} (hw : w < 8) (hv : v < 0) (h : post (-2) (ws_Y A C E K bo n)) : wpY_item post (ws_Y A C E K bo n) (nI w) v := by
  unfold wpY_item
  dsimp only [ws_Y]
  exact yl_bw hw (br_t rfl (br_t hv h))
theorem xl_itO {post : Int32 → SX → Prop} {w b : Nat} (hw : w < 8) (hb : b < 2 ^ 31) (h0 : 20 ≤ b ∨ b = 10) (h : post (-2) (ws_X A C E K bo n)) : wpX_item post (ws_X A C E K bo n) (nI w) (nI b) := by
  unfold wpX_item
  dsimp only [ws_X]
  exact xl_ig hw (br_f (by decide) (xl_kd hb (by rw [ws_kd_0 h0]; exact br_t rfl h)))
theorem yl_itO {post : Int32 → SY → Prop} {w b : Nat} (hw : w < 8) (hb : b < 2 ^ 31) (h0 : 20 ≤ b ∨ b = 10) (h : post (-2) (ws_Y A C E K bo n)) : wpY_item post (ws_Y A C E K bo n) (nI w) (nI b) := by
  unfold wpY_item
  dsimp only [ws_Y]
  exact yl_bw hw (br_t rfl (br_f (nI_pos hb) (pk_lt 19 b (fun _ => h) (fun q => pk_eq b 10 (fun _ => h) (fun q2 => absurd q2 (by omega))))))
theorem xl_itF {post : Int32 → SX → Prop} {w b : Nat} (hw : w < 8) (hb : b < 20) (h10 : b ≠ 10) (h0 : K w = 0) (h5 : ws_it K = 5) (h : post (-3) (ws_X A C E K bo n)) : wpX_item post (ws_X A C E K bo n) (nI w) (nI b) := by
  have c : (nI w).toNatClampNeg = w := nI_clamp (by omega)
  have ck : (fun j => nI (K j)) (nI w).toNatClampNeg = nI (K w) := congrArg (fun j => nI (K j)) c
  have kp := ws_kd_p hb h10
  unfold wpX_item
  dsimp only [ws_X]
  exact xl_ig hw (br_f (by decide) (xl_kd (by omega) (br_f (nI_ne0 kp.1 (by omega)) ⟨vp_in_nI hw (by decide), pk_eq (K w) 0 (fun _ => pk_lt (ws_it K) 5 (fun q => absurd q (by omega)) (fun _ => h)) (fun q => absurd h0 q) ck⟩)))
theorem yl_itF {post : Int32 → SY → Prop} {w b : Nat} (hw : w < 8) (hb : b < 20) (h10 : b ≠ 10) (hK : ∀ t, K t ≤ 3) (h0 : K w = 0) (h5 : ws_it K = 5) (h : post (-3) (ws_Y A C E K bo n)) : wpY_item post (ws_Y A C E K bo n) (nI w) (nI b) := by
  have c : (nI w).toNatClampNeg = w := nI_clamp (by omega)
  have ck : (fun j => nI (K j)) (nI w).toNatClampNeg = nI (K w) := congrArg (fun j => nI (K j)) c
  unfold wpY_item
  dsimp only [ws_Y]
  exact yl_bw hw (br_t rfl (br_f (nI_pos (by omega)) (pk_lt 19 b (fun q => absurd q (by omega)) (fun _ => pk_eq b 10 (fun q => absurd q h10) (fun _ => ⟨vp_in_nI hw (by decide), pk_eq (K w) 0 (fun _ => yl_it hK (pk_eq (ws_it K) 5 (fun _ => h) (fun q => absurd h5 q))) (fun q => absurd h0 q) ck⟩)))))
theorem xl_itP {post : Int32 → SX → Prop} {w b : Nat} (hw : w < 8) (hb : b < 20) (h10 : b ≠ 10) (hK : ∀ t, K t ≤ 3) (h0 : K w = 0 → ws_it K < 5) (h : post (nI (ws_it (ws_up K w (ws_kd b)))) (ws_X A C E (ws_up K w (ws_kd b)) (upd bo w (nI (b % 10))) n)) : wpX_item post (ws_X A C E K bo n) (nI w) (nI b) := by
  have c : (nI w).toNatClampNeg = w := nI_clamp (by omega)
  have ck : (fun j => nI (K j)) (nI w).toNatClampNeg = nI (K w) := congrArg (fun j => nI (K j)) c
  have kp := ws_kd_p hb h10
  have k3 := hK w
  have i8 := ws_it_le K
  have m := xl_i53 hw kp.2.1 hb kp.2.2.1 kp.2.2.2 h
  unfold wpX_item
  dsimp only [ws_X]
  refine xl_ig hw (br_f (by decide) (xl_kd (by omega) (br_f (nI_ne0 kp.1 (by omega)) ⟨vp_in_nI hw (by decide), pk_eq (K w) 0 (fun q => pk_lt (ws_it K) 5 (fun _ => nm_r (e' := nI (ws_it (ws_up K w (ws_kd b)))) ?_ m) (fun q2 => absurd (h0 q) (by omega))) (fun q => ?_) ck⟩)))
  · rw [ws_itu hw q kp.1, nI_1]
  · rw [ws_itk hw (by omega) kp.1] at m
    exact m
theorem yl_itP {post : Int32 → SY → Prop} {w b : Nat} (hw : w < 8) (hb : b < 20) (h10 : b ≠ 10) (hK : ∀ t, K t ≤ 3) (h0 : K w = 0 → ws_it K < 5) (h : post (nI (ws_it (ws_up K w (ws_kd b)))) (ws_Y A C E (ws_up K w (ws_kd b)) (upd bo w (nI (b % 10))) n)) : wpY_item post (ws_Y A C E K bo n) (nI w) (nI b) := by
  have c : (nI w).toNatClampNeg = w := nI_clamp (by omega)
  have ck : (fun j => nI (K j)) (nI w).toNatClampNeg = nI (K w) := congrArg (fun j => nI (K j)) c
  have kp := ws_kd_p hb h10
  have k3 := hK w
  have i8 := ws_it_le K
  have m := yl_i49 hw hb h10 (ws_u_le kp.2.1 hK) h
  unfold wpY_item
  dsimp only [ws_Y]
  exact yl_bw hw (br_t rfl (br_f (nI_pos (by omega)) (pk_lt 19 b (fun q => absurd q (by omega)) (fun _ => pk_eq b 10 (fun q => absurd q h10) (fun _ => ⟨vp_in_nI hw (by decide), pk_eq (K w) 0 (fun q => yl_it hK (pk_eq (ws_it K) 5 (fun q2 => absurd (h0 q) (by omega)) (fun _ => m))) (fun q => m) ck⟩)))))
/-! drop -/
theorem xl_drB {post : Int32 → SX → Prop} {v1 : Int32} (h1 : ws_out 8 v1) (h : post (-1) (ws_X A C E K bo n)) : wpX_drop post (ws_X A C E K bo n) v1 := by
  unfold wpX_drop
  dsimp only [ws_X]
  exact xl_igB h1 (br_t rfl h)
theorem yl_drB {post : Int32 → SY → Prop} {v1 : Int32} (h1 : ws_out 8 v1) (h : post (-1) (ws_Y A C E K bo n)) : wpY_drop post (ws_Y A C E K bo n) v1 := by
  unfold wpY_drop
  dsimp only [ws_Y]
  exact yl_bwB h1 (br_f (by decide) h)
theorem xl_dr {post : Int32 → SX → Prop} {w : Nat} (hw : w < 8) (hK : ∀ t, K t ≤ 3) (ha : K w = 0 → post (-1) (ws_X A C E K bo n)) (h : 0 < K w → post (nI (ws_it (ws_up K w 0))) (ws_X A C E (ws_up K w 0) bo n)) : wpX_drop post (ws_X A C E K bo n) (nI w) := by
  have c : (nI w).toNatClampNeg = w := nI_clamp (by omega)
  have ck : (fun j => nI (K j)) (nI w).toNatClampNeg = nI (K w) := congrArg (fun j => nI (K j)) c
  have vw : vp_in (nI w) 8 := vp_in_nI hw (by decide)
  have k3 := hK w
  unfold wpX_drop
  dsimp only [ws_X]
  refine xl_ig hw (br_f (by decide) ⟨vw, pk_eq (K w) 0 (fun q => ha q) (fun q => ⟨vw, nm_r (e' := fun t => nI (ws_up K w 0 t)) ?_ (nm_r (e' := nI (ws_it (ws_up K w 0))) (ws_b1m (ws_itd hw (by omega))) (h (by omega)))⟩) ck⟩)
  rw [c]
  exact ws_upI K w 0
theorem yl_dr {post : Int32 → SY → Prop} {w : Nat} (hw : w < 8) (hK : ∀ t, K t ≤ 3) (ha : K w = 0 → post (-1) (ws_Y A C E K bo n)) (h : 0 < K w → post (nI (ws_it (ws_up K w 0))) (ws_Y A C E (ws_up K w 0) bo n)) : wpY_drop post (ws_Y A C E K bo n) (nI w) := by
  have c : (nI w).toNatClampNeg = w := nI_clamp (by omega)
  have ck : (fun j => nI (K j)) (nI w).toNatClampNeg = nI (K w) := congrArg (fun j => nI (K j)) c
  have vw : vp_in (nI w) 8 := vp_in_nI hw (by decide)
  have k3 := hK w
  unfold wpY_drop
  dsimp only [ws_Y]
  refine yl_bw hw (br_t rfl ⟨vw, pk_eq (K w) 0 (fun q => ha q) (fun q => ⟨vw, nm_r (e' := fun t => nI (ws_up K w 0 t)) ?_ (yl_it (ws_u_le (Nat.zero_le 3) hK) (h (by omega)))⟩) ck⟩)
  rw [c]
  exact ws_upI K w 0
theorem ws_ok_K {w x : Nat} (ok : ws_ok A C E K n) (hx : x ≤ 3) (h5 : ws_it (ws_up K w x) ≤ 5) : ws_ok A C E (ws_up K w x) n := by
  obtain ⟨h1, h2, h3, h4, h5', h6, h7, h8⟩ := ok
  exact ⟨h1, h2, h3, h4, h5', h6, ws_u_le hx h7, h5⟩
theorem ws_ok_E {d : Nat} (ok : ws_ok A C E K n) : ws_ok A C (ws_up E d 0) K n := by
  obtain ⟨h1, h2, h3, h4, h5, h6, h7, h8⟩ := ok
  refine ⟨h1, h2, h3, ws_u_le (Nat.zero_le 1) h4, fun j hj => ?_, h6, h7, h8⟩
  by_cases z : j = d
  · rw [z, ws_us]
  · rw [ws_un z]; exact h5 j hj
end
end
section
theorem i_up {k : Nat} {u : SX} {v : SY} (h : i_Rel k u v) : i_Rel (k + 3) u v := h
theorem i_vc0 : wpX_init (fun u => wpY_init (fun v => i_Rel 0 u v)) := ws_init
theorem i_vc_write {k : Nat} {u : SX} {v : SY} (I : i_Rel k u v) (hk : k + 3 ≤ 1536) (v1 : Int32) (v2 : Int32) : wpX_write (fun r u' => wpY_write (fun r' v' => r' = r ∧ i_Rel (k + 3) u' v') v v1 v2) u v1 v2 := by
  obtain ⟨A, C, E, K, bo, n, rfl, rfl, ok⟩ := I
  have R : i_Rel (k + 3) (ws_X A C E K bo n) (ws_Y A C E K bo n) := ⟨A, C, E, K, bo, n, rfl, rfl, ok⟩
  cases ws_io 8 v1 with
  | inl h1 => exact xl_wr1 h1 (yl_wr1 h1 ⟨rfl, R⟩)
  | inr h1 =>
    obtain ⟨w, hw, rfl⟩ := h1
    cases ws_io 8 v2 with
    | inl h2 => exact xl_wr2 hw h2 (yl_wr2 hw h2 ⟨rfl, R⟩)
    | inr h2 =>
      obtain ⟨x, hx, rfl⟩ := h2
      exact xl_wr hw hx (yl_wr hw hx ⟨rfl, ws_up A w x, C, E, K, bo, n, rfl, rfl, ok.1, ws_u_le (by omega) ok.2.1, ok.2.2⟩)
theorem i_vc_blank {k : Nat} {u : SX} {v : SY} (I : i_Rel k u v) (hk : k + 3 ≤ 1536) : wpX_blank (fun r u' => wpY_blank (fun r' v' => r' = r ∧ i_Rel (k + 3) u' v') v) u := by
  obtain ⟨A, C, E, K, bo, n, rfl, rfl, ok⟩ := I
  exact xl_blank (yl_blank ⟨rfl, ws_bl A 8, C, E, K, bo, n, rfl, rfl, ok.1, ws_bl_le ok.2.1 8, ok.2.2⟩)
theorem i_vc_add {k : Nat} {u : SX} {v : SY} (I : i_Rel k u v) (hk : k + 3 ≤ 1536) : wpX_add (fun r u' => wpY_add (fun r' v' => r' = r ∧ i_Rel (k + 3) u' v') v) u := by
  obtain ⟨A, C, E, K, bo, n, rfl, rfl, ok⟩ := I
  have n24 := ok.1
  by_cases z : n < 24
  · exact xl_add z ok (yl_add z ⟨rfl, A, ws_rw C n A 8, ws_up E n 1, K, bo, n + 1, rfl, rfl, ws_ok_add A ok.2.1 z ok⟩)
  · exact pk_lt n 24 (fun q => absurd q z) (fun _ => pk_le n 23 (fun q => absurd q (by omega)) (fun _ => ⟨rfl, A, C, E, K, bo, n, rfl, rfl, ok⟩))
theorem i_vc_addMany {k : Nat} {u : SX} {v : SY} (I : i_Rel k u v) (hk : k + 3 ≤ 1536) (v1 : Int32) (v2 : Int32) : wpX_addMany (fun r u' => wpY_addMany (fun r' v' => r' = r ∧ i_Rel (k + 3) u' v') v v1 v2) u v1 v2 := by
  obtain ⟨A, C, E, K, bo, n, rfl, rfl, ok⟩ := I
  have R : i_Rel (k + 3) (ws_X A C E K bo n) (ws_Y A C E K bo n) := ⟨A, C, E, K, bo, n, rfl, rfl, ok⟩
  cases ws_io 11 v1 with
  | inl h1 => exact ws_oo (N := 10) h1 (ws_oo (N := 10) h1 ⟨rfl, R⟩)
  | inr h1 =>
    obtain ⟨s, hs, rfl⟩ := h1
    have hs' : s ≤ 10 := by omega
    cases ws_neg v2 with
    | inl h2 =>
      have h3 : v2 < 1 := Int32.lt_trans h2 (by decide)
      exact ws_oi (N := 10) hs' (br_t h3 (ws_oi (N := 10) hs' (br_t h3 ⟨rfl, R⟩)))
    | inr h2 =>
      obtain ⟨c, hc, rfl⟩ := h2
      by_cases z : 1 ≤ c ∧ c ≤ 24
      · obtain ⟨D, F, m, ok', hX, hY⟩ := ws_am (bo := bo) (n0 := n) hs' z.2 c 0 C E n (Nat.zero_add c) ok (Nat.le_refl n)
        rw [Nat.sub_self] at hY
        exact ws_oi (N := 10) hs' (pk_lt c 1 (fun q => absurd q (by omega)) (fun _ => pk_le c 24 (fun _ => ⟨c + 1, hX _ (ws_oi (N := 10) hs' (pk_lt c 1 (fun q => absurd q (by omega)) (fun _ => pk_le c 24 (fun _ => ⟨c + 1, hY _ ⟨rfl, A, D, F, K, bo, m, rfl, rfl, ok'⟩⟩) (fun q => absurd q (by omega)))))⟩) (fun q => absurd q (by omega))))
      · exact ws_oi (N := 10) hs' (pk_lt c 1 (fun q => ws_oi (N := 10) hs' (pk_lt c 1 (fun _ => ⟨rfl, R⟩) (fun q2 => absurd q (by omega)))) (fun q => pk_le c 24 (fun q2 => absurd q2 (by omega)) (fun q2 => ws_oi (N := 10) hs' (pk_lt c 1 (fun q3 => absurd q3 (by omega)) (fun _ => pk_le c 24 (fun q3 => absurd q3 (by omega)) (fun _ => ⟨rfl, R⟩))))))
theorem i_vc_delete {k : Nat} {u : SX} {v : SY} (I : i_Rel k u v) (hk : k + 3 ≤ 1536) (v1 : Int32) : wpX_delete (fun r u' => wpY_delete (fun r' v' => r' = r ∧ i_Rel (k + 3) u' v') v v1) u v1 := by
  obtain ⟨A, C, E, K, bo, n, rfl, rfl, ok⟩ := I
  have R : i_Rel (k + 3) (ws_X A C E K bo n) (ws_Y A C E K bo n) := ⟨A, C, E, K, bo, n, rfl, rfl, ok⟩
  cases ws_io 24 v1 with
  | inl h1 => exact xl_delB h1 ok (yl_delB h1 ⟨rfl, R⟩)
  | inr h1 =>
    obtain ⟨d, hd, rfl⟩ := h1
    cases ws_01 (ok.2.2.2.1 d) with
    | inl z => exact xl_del0 hd ok z (yl_del0 hd ok z ⟨rfl, R⟩)
    | inr z => exact xl_del hd ok z (yl_del hd ok z ⟨rfl, A, C, ws_up E d 0, K, bo, n, rfl, rfl, ws_ok_E ok⟩)
theorem i_vc_tidy {k : Nat} {u : SX} {v : SY} (I : i_Rel k u v) (hk : k + 3 ≤ 1536) : wpX_tidy (fun r => wpY_tidy (fun r' => r' = r ∧ i_Rel (k + 3) u v) v) u := by
  obtain ⟨A, C, E, K, bo, n, rfl, rfl, ok⟩ := I
  have R : i_Rel (k + 3) (ws_X A C E K bo n) (ws_Y A C E K bo n) := ⟨A, C, E, K, bo, n, rfl, rfl, ok⟩
  unfold wpX_tidy wpY_tidy
  exact yl_lc ok.2.2.2.1 ⟨rfl, R⟩
theorem i_vc_live {k : Nat} {u : SX} {v : SY} (I : i_Rel k u v) (hk : k + 3 ≤ 1536) : wpX_live (fun r => wpY_live (fun r' => r' = r ∧ i_Rel (k + 3) u v) v) u := by
  obtain ⟨A, C, E, K, bo, n, rfl, rfl, ok⟩ := I
  have R : i_Rel (k + 3) (ws_X A C E K bo n) (ws_Y A C E K bo n) := ⟨A, C, E, K, bo, n, rfl, rfl, ok⟩
  unfold wpX_live wpY_live
  exact yl_lc ok.2.2.2.1 ⟨rfl, R⟩
theorem i_vc_times {k : Nat} {u : SX} {v : SY} (I : i_Rel k u v) (hk : k + 3 ≤ 1536) (v1 : Int32) (v2 : Int32) : wpX_times (fun r => wpY_times (fun r' => r' = r ∧ i_Rel (k + 3) u v) v v1 v2) u v1 v2 := by
  obtain ⟨A, C, E, K, bo, n, rfl, rfl, ok⟩ := I
  have R : i_Rel (k + 3) (ws_X A C E K bo n) (ws_Y A C E K bo n) := ⟨A, C, E, K, bo, n, rfl, rfl, ok⟩
  unfold wpX_times wpY_times
  dsimp only [ws_X, ws_Y]
  cases ws_io 8 v1 with
  | inl h1 => exact xl_igB h1 (br_t rfl (yl_bwB h1 (br_f (by decide) ⟨rfl, R⟩)))
  | inr h1 =>
    obtain ⟨w, hw, rfl⟩ := h1
    refine xl_ig hw (br_f (by decide) ?_)
    cases ws_io 24 v2 with
    | inl h2 => exact xl_ilB ok.1 h2 (br_t rfl (yl_bw hw (br_t rfl (yl_bdB h2 (br_f (by decide) ⟨rfl, R⟩)))))
    | inr h2 =>
      obtain ⟨d, hd, rfl⟩ := h2
      have e1 := ok.2.2.2.1 d
      refine xl_il hd ok.1 ok.2.2.2.2.1 ok.2.2.2.1 (ws_br (E d) e1 (fun z => yl_bw hw (br_t rfl (yl_bd hd ok.2.2.2.1 (ws_br (1 - E d) (by omega) (fun q => absurd q (by omega)) (fun _ => ⟨rfl, R⟩))))) (fun z => ⟨ws_vX hd hw, yl_bw hw (br_t rfl (yl_bd hd ok.2.2.2.1 (ws_br (1 - E d) (by omega) (fun _ => ⟨ws_vY hd hw, ?_, R⟩) (fun q => absurd q (by omega)))))⟩))
      rw [ws_cX hd hw, ws_cY hd hw]
theorem i_vc_spread {k : Nat} {u : SX} {v : SY} (I : i_Rel k u v) (hk : k + 3 ≤ 1536) (v1 : Int32) : wpX_spread (fun r => wpY_spread (fun r' => r' = r ∧ i_Rel (k + 3) u v) v v1) u v1 := by
  obtain ⟨A, C, E, K, bo, n, rfl, rfl, ok⟩ := I
  have R : i_Rel (k + 3) (ws_X A C E K bo n) (ws_Y A C E K bo n) := ⟨A, C, E, K, bo, n, rfl, rfl, ok⟩
  unfold wpX_spread wpY_spread
  dsimp only [ws_X, ws_Y]
  cases ws_io 8 v1 with
  | inl h1 => exact xl_igB h1 (br_t rfl (yl_bwB h1 (br_f (by decide) ⟨rfl, R⟩)))
  | inr h1 =>
    obtain ⟨w, hw, rfl⟩ := h1
    have c : (nI w).toNatClampNeg = w := nI_clamp (by omega)
    exact xl_ig hw (br_f (by decide) ⟨vp_in_nI hw (by decide), yl_bw hw (br_t rfl (yl_ho hw ok.2.2.2.1 ok.2.2.1 ⟨by rw [c], R⟩))⟩)
theorem i_vc_item {k : Nat} {u : SX} {v : SY} (I : i_Rel k u v) (hk : k + 3 ≤ 1536) (v1 : Int32) (v2 : Int32) : wpX_item (fun r u' => wpY_item (fun r' v' => r' = r ∧ i_Rel (k + 3) u' v') v v1 v2) u v1 v2 := by
  obtain ⟨A, C, E, K, bo, n, rfl, rfl, ok⟩ := I
  have R : i_Rel (k + 3) (ws_X A C E K bo n) (ws_Y A C E K bo n) := ⟨A, C, E, K, bo, n, rfl, rfl, ok⟩
  have hK : ∀ t, K t ≤ 3 := ok.2.2.2.2.2.2.1
  have i5 : ws_it K ≤ 5 := ok.2.2.2.2.2.2.2
  cases ws_io 8 v1 with
  | inl h1 => exact xl_itB h1 (yl_itB h1 ⟨rfl, R⟩)
  | inr h1 =>
    obtain ⟨w, hw, rfl⟩ := h1
    cases ws_neg v2 with
    | inl h2 => exact xl_itN hw h2 (yl_itN hw h2 ⟨rfl, R⟩)
    | inr h2 =>
      obtain ⟨b, hb, rfl⟩ := h2
      by_cases z : 20 ≤ b ∨ b = 10
      · exact xl_itO hw hb z (yl_itO hw hb z ⟨rfl, R⟩)
      · have b20 : b < 20 := by omega
        have b10 : b ≠ 10 := by omega
        have kp := ws_kd_p b20 b10
        by_cases z2 : K w = 0 ∧ ws_it K = 5
        · exact xl_itF hw b20 b10 z2.1 z2.2 (yl_itF hw b20 b10 hK z2.1 z2.2 ⟨rfl, R⟩)
        · have h0 : K w = 0 → ws_it K < 5 := by omega
          have h5 : ws_it (ws_up K w (ws_kd b)) ≤ 5 := by
            by_cases z3 : K w = 0
            · rw [ws_itu hw z3 kp.1]
              exact h0 z3
            · rw [ws_itk hw (by omega) kp.1]
              exact i5
          exact xl_itP hw b20 b10 hK h0 (yl_itP hw b20 b10 hK h0 ⟨rfl, A, C, E, ws_up K w (ws_kd b), upd bo w (nI (b % 10)), n, rfl, rfl, ws_ok_K ok kp.2.1 h5⟩)
theorem i_vc_drop {k : Nat} {u : SX} {v : SY} (I : i_Rel k u v) (hk : k + 3 ≤ 1536) (v1 : Int32) : wpX_drop (fun r u' => wpY_drop (fun r' v' => r' = r ∧ i_Rel (k + 3) u' v') v v1) u v1 := by
  obtain ⟨A, C, E, K, bo, n, rfl, rfl, ok⟩ := I
  have R : i_Rel (k + 3) (ws_X A C E K bo n) (ws_Y A C E K bo n) := ⟨A, C, E, K, bo, n, rfl, rfl, ok⟩
  have hK : ∀ t, K t ≤ 3 := ok.2.2.2.2.2.2.1
  have i5 : ws_it K ≤ 5 := ok.2.2.2.2.2.2.2
  cases ws_io 8 v1 with
  | inl h1 => exact xl_drB h1 (yl_drB h1 ⟨rfl, R⟩)
  | inr h1 =>
    obtain ⟨w, hw, rfl⟩ := h1
    refine xl_dr hw hK (fun z => yl_dr hw hK (fun _ => ⟨rfl, R⟩) (fun q => absurd z (by omega))) (fun z => yl_dr hw hK (fun q => absurd q (by omega)) (fun _ => ⟨rfl, A, C, E, ws_up K w 0, bo, n, rfl, rfl, ws_ok_K ok (Nat.zero_le 3) ?_⟩))
    have q := ws_itd hw z
    omega
theorem i_vc_matching {k : Nat} {u : SX} {v : SY} (I : i_Rel k u v) (hk : k + 3 ≤ 1536) : wpX_matching (fun r => wpY_matching (fun r' => r' = r ∧ i_Rel (k + 3) u v) v) u := by
  obtain ⟨A, C, E, K, bo, n, rfl, rfl, ok⟩ := I
  have R : i_Rel (k + 3) (ws_X A C E K bo n) (ws_Y A C E K bo n) := ⟨A, C, E, K, bo, n, rfl, rfl, ok⟩
  obtain ⟨hn, hA, hC, hE, h0, hC0, hK, h5⟩ := ok
  exact xl_mt hn h0 hE hC hK (yl_mt hE hC hK ⟨rfl, R⟩)
theorem i_vc_score {k : Nat} {u : SX} {v : SY} (I : i_Rel k u v) (hk : k + 3 ≤ 1536) (v1 : Int32) : wpX_score (fun r => wpY_score (fun r' => r' = r ∧ i_Rel (k + 3) u v) v v1) u v1 := by
  obtain ⟨A, C, E, K, bo, n, rfl, rfl, ok⟩ := I
  have R : i_Rel (k + 3) (ws_X A C E K bo n) (ws_Y A C E K bo n) := ⟨A, C, E, K, bo, n, rfl, rfl, ok⟩
  obtain ⟨hn, hA, hC, hE, h0, hC0, hK, h5⟩ := ok
  unfold wpX_score wpY_score
  dsimp only [ws_X, ws_Y]
  cases ws_io 24 v1 with
  | inl h1 => exact xl_ilB hn h1 (br_t rfl (yl_bdB h1 (br_f (by decide) ⟨rfl, R⟩)))
  | inr h1 =>
    obtain ⟨d, hd, rfl⟩ := h1
    have e1 := hE d
    exact xl_il hd hn h0 hE (ws_br (E d) e1 (fun z => yl_bd hd hE (ws_br (1 - E d) (by omega) (fun q => absurd q (by omega)) (fun _ => ⟨rfl, R⟩))) (fun z => xl_so hd hE hC hK (yl_bd hd hE (ws_br (1 - E d) (by omega) (fun _ => yl_wo hd hE hC hK ⟨rfl, R⟩) (fun q => absurd q (by omega))))))
theorem ws_ne1 {j : Nat} (h : j < 2 ^ 31) : ¬ nI j = -1 := by
  intro e
  have p := nI_pos h
  rw [e] at p
  exact p (by decide)
theorem i_vc_ranked {k : Nat} {u : SX} {v : SY} (I : i_Rel k u v) (hk : k + 3 ≤ 1536) (v1 : Int32) : wpX_ranked (fun r => wpY_ranked (fun r' => r' = r ∧ i_Rel (k + 3) u v) v v1) u v1 := by
  obtain ⟨A, C, E, K, bo, n, rfl, rfl, ok⟩ := I
  have R : i_Rel (k + 3) (ws_X A C E K bo n) (ws_Y A C E K bo n) := ⟨A, C, E, K, bo, n, rfl, rfl, ok⟩
  obtain ⟨hn, hA, hC, hE, h0, hC0, hK, h5⟩ := ok
  unfold wpX_ranked wpY_ranked
  dsimp only [ws_X, ws_Y]
  cases ws_io 10 v1 with
  | inl h1 => exact xl_ipB h1 (br_t rfl (ws_oo (N := 9) h1 ⟨rfl, R⟩))
  | inr h1 =>
    obtain ⟨p, hp, rfl⟩ := h1
    cases ws_first (fun i => ws_M E C K i = 1 ∧ ws_ah E C K bo i = p) 24 with
    | inl q => exact xl_ip hp (br_f (by decide) (xl_dc_n hp hn h0 hE hC hK q (br_t rfl (ws_oi (N := 9) (by omega) (yl_at_n hp hE hC hK q ⟨rfl, R⟩)))))
    | inr q =>
      obtain ⟨j, hj, hq, hf⟩ := q
      have jn : j < n := by
        by_cases z : n ≤ j
        · have m0 := ws_M_0 (C := C) (K := K) (h0 j z)
          omega
        · omega
      exact xl_ip hp (br_f (by decide) (xl_dc_k hp jn hn h0 hE hC hK hq hf (br_f (ws_ne1 (by omega)) (ws_oi (N := 9) (by omega) (yl_at_k hp hj hE hC hK hq hf ⟨rfl, R⟩)))))
theorem i_vc_rankedScore {k : Nat} {u : SX} {v : SY} (I : i_Rel k u v) (hk : k + 3 ≤ 1536) (v1 : Int32) : wpX_rankedScore (fun r => wpY_rankedScore (fun r' => r' = r ∧ i_Rel (k + 3) u v) v v1) u v1 := by
  obtain ⟨A, C, E, K, bo, n, rfl, rfl, ok⟩ := I
  have R : i_Rel (k + 3) (ws_X A C E K bo n) (ws_Y A C E K bo n) := ⟨A, C, E, K, bo, n, rfl, rfl, ok⟩
  obtain ⟨hn, hA, hC, hE, h0, hC0, hK, h5⟩ := ok
  unfold wpX_rankedScore wpY_rankedScore
  dsimp only [ws_X, ws_Y]
  cases ws_io 10 v1 with
  | inl h1 => exact xl_ipB h1 (br_t rfl (ws_oo (N := 9) h1 ⟨rfl, R⟩))
  | inr h1 =>
    obtain ⟨p, hp, rfl⟩ := h1
    cases ws_first (fun i => ws_M E C K i = 1 ∧ ws_ah E C K bo i = p) 24 with
    | inl q => exact xl_ip hp (br_f (by decide) (xl_dc_n hp hn h0 hE hC hK q (br_t rfl (ws_oi (N := 9) (by omega) (yl_at_n hp hE hC hK q (br_f (by decide) ⟨rfl, R⟩))))))
    | inr q =>
      obtain ⟨j, hj, hq, hf⟩ := q
      have jn : j < n := by
        by_cases z : n ≤ j
        · have m0 := ws_M_0 (C := C) (K := K) (h0 j z)
          omega
        · omega
      exact xl_ip hp (br_f (by decide) (xl_dc_k hp jn hn h0 hE hC hK hq hf (br_f (ws_ne1 (by omega)) (xl_so hj hE hC hK (ws_oi (N := 9) (by omega) (yl_at_k hp hj hE hC hK hq hf (br_t (nI_pos' (by omega)) (yl_wo hj hE hC hK ⟨rfl, R⟩))))))))
theorem i_vc_scoring {k : Nat} {u : SX} {v : SY} (I : i_Rel k u v) (hk : k + 3 ≤ 1536) (v1 : Int32) : wpX_scoring (fun r => wpY_scoring (fun r' => r' = r ∧ i_Rel (k + 3) u v) v v1) u v1 := by
  obtain ⟨A, C, E, K, bo, n, rfl, rfl, ok⟩ := I
  have R : i_Rel (k + 3) (ws_X A C E K bo n) (ws_Y A C E K bo n) := ⟨A, C, E, K, bo, n, rfl, rfl, ok⟩
  obtain ⟨hn, hA, hC, hE, h0, hC0, hK, h5⟩ := ok
  exact xl_sg hn h0 hE hC hK (yl_sg hE hC hK ⟨rfl, R⟩)
end
