/-! matching and score, as both sides have them -/
def ws_go (C K : Nat → Nat) (d : Nat) : Nat → Nat → Nat → Nat
  | 0, _, a => a
  | f + 1, t, a => if (K t = 3 ∧ 0 < C (8 * d + t)) ∨ (K t = 2 ∧ C (8 * d + t) = 0) then 0 else ws_go C K d f (t + 1) (if 0 < C (8 * d + t) ∧ 0 < K t then 1 else a)
theorem ws_go_n {C K : Nat → Nat} {d f t a : Nat} (h : (K t = 3 ∧ 0 < C (8 * d + t)) ∨ (K t = 2 ∧ C (8 * d + t) = 0)) : ws_go C K d (f + 1) t a = 0 := if_pos h
theorem ws_go_y {C K : Nat → Nat} {d f t a : Nat} (h : ¬ ((K t = 3 ∧ 0 < C (8 * d + t)) ∨ (K t = 2 ∧ C (8 * d + t) = 0))) (h2 : 0 < C (8 * d + t) ∧ 0 < K t) : ws_go C K d (f + 1) t a = ws_go C K d f (t + 1) 1 := by
  show (if _ then _ else _) = _
  rw [if_neg h, if_pos h2]
theorem ws_go_k {C K : Nat → Nat} {d f t a : Nat} (h : ¬ ((K t = 3 ∧ 0 < C (8 * d + t)) ∨ (K t = 2 ∧ C (8 * d + t) = 0))) (h2 : ¬ (0 < C (8 * d + t) ∧ 0 < K t)) : ws_go C K d (f + 1) t a = ws_go C K d f (t + 1) a := by
  show (if _ then _ else _) = _
  rw [if_neg h, if_neg h2]
theorem ws_go_1 (C K : Nat → Nat) (d : Nat) : ∀ f t a, a ≤ 1 → ws_go C K d f t a ≤ 1 := by
  intro f
  induction f with
  | zero => intro t a h; exact h
  | succ f ih =>
    intro t a h
    by_cases z : (K t = 3 ∧ 0 < C (8 * d + t)) ∨ (K t = 2 ∧ C (8 * d + t) = 0)
    · rw [ws_go_n z]; exact Nat.zero_le _
    · by_cases z2 : 0 < C (8 * d + t) ∧ 0 < K t
      · rw [ws_go_y z z2]; exact ih _ _ (Nat.le_refl 1)
      · rw [ws_go_k z z2]; exact ih _ _ h
/-- document d matches: 1, or 0 -/
def ws_M (E C K : Nat → Nat) (d : Nat) : Nat := if E d = 0 then 0 else ws_go C K d 8 0 0
theorem ws_M_0 {E C K : Nat → Nat} {d : Nat} (h : E d = 0) : ws_M E C K d = 0 := if_pos h
theorem ws_M_1 {E C K : Nat → Nat} {d : Nat} (h : ¬ E d = 0) : ws_M E C K d = ws_go C K d 8 0 0 := if_neg h
theorem ws_M_le (E C K : Nat → Nat) (d : Nat) : ws_M E C K d ≤ 1 := by
  by_cases h : E d = 0
  · rw [ws_M_0 h]; exact Nat.zero_le _
  · rw [ws_M_1 h]; exact ws_go_1 C K d 8 0 0 (Nat.zero_le _)
def ws_ra (E C : Nat → Nat) (t : Nat) : Nat := 64 * (ws_sm E 24 + 1) / (ws_h E C t + 1)
def ws_st (C : Nat → Nat) (d t : Nat) : Nat := 256 * C (8 * d + t) / (C (8 * d + t) + 2 + ws_L C d / 4)
def ws_tm (E C K : Nat → Nat) (bo : Nat → Int32) (d t : Nat) : Int32 :=
  if (K t = 1 ∨ K t = 2) ∧ 0 < C (8 * d + t) then bo t * nI (ws_ra E C t) * nI (ws_st C d t) else 0
def ws_sc (E C K : Nat → Nat) (bo : Nat → Int32) (d : Nat) : Nat → Int32
  | 0 => 0
  | t + 1 => ws_sc E C K bo d t + ws_tm E C K bo d t
theorem ws_tm_1 {E C K : Nat → Nat} {bo : Nat → Int32} {d t : Nat} (h : K t = 1 ∨ K t = 2) (h2 : 0 < C (8 * d + t)) : ws_tm E C K bo d t = bo t * nI (ws_ra E C t) * nI (ws_st C d t) := if_pos ⟨h, h2⟩
theorem ws_tm_0 {E C K : Nat → Nat} {bo : Nat → Int32} {d t : Nat} (h : ¬ ((K t = 1 ∨ K t = 2) ∧ 0 < C (8 * d + t))) : ws_tm E C K bo d t = 0 := if_neg h
/-- X adds the term of a word that the document hasn't too: it is 0 -/
theorem ws_tm_x {E C K : Nat → Nat} {bo : Nat → Int32} {d t : Nat} (h : K t = 1 ∨ K t = 2) : bo t * nI (ws_ra E C t) * nI (ws_st C d t) = ws_tm E C K bo d t := by
  by_cases h2 : 0 < C (8 * d + t)
  · rw [ws_tm_1 h h2]
  · have z : C (8 * d + t) = 0 := by omega
    have e : ws_st C d t = 0 := by
      unfold ws_st
      rw [z, Nat.mul_zero, Nat.zero_div]
    rw [ws_tm_0 (fun q => h2 q.2), e, nI_0, Int32.mul_zero]
def ws_S (E C K : Nat → Nat) (bo : Nat → Int32) (d : Nat) : Int32 := ws_sc E C K bo d 8
/-- e stands ahead of d -/
def ws_a1 (E C K : Nat → Nat) (bo : Nat → Int32) (d e : Nat) : Nat :=
  if ws_M E C K e = 1 ∧ (ws_S E C K bo d < ws_S E C K bo e ∨ (ws_S E C K bo e = ws_S E C K bo d ∧ e < d)) then 1 else 0
def ws_ah (E C K : Nat → Nat) (bo : Nat → Int32) (d : Nat) : Nat := ws_sm (ws_a1 E C K bo d) 24
theorem ws_a1_le (E C K : Nat → Nat) (bo : Nat → Int32) (d e : Nat) : ws_a1 E C K bo d e ≤ 1 := by
  unfold ws_a1
  split
  · exact Nat.le_refl 1
  · exact Nat.zero_le 1
theorem ws_a1_y {E C K : Nat → Nat} {bo : Nat → Int32} {d e : Nat} (h : ws_M E C K e = 1) (h2 : ws_S E C K bo d < ws_S E C K bo e ∨ (ws_S E C K bo e = ws_S E C K bo d ∧ e < d)) : ws_a1 E C K bo d e = 1 := if_pos ⟨h, h2⟩
theorem ws_a1_n {E C K : Nat → Nat} {bo : Nat → Int32} {d e : Nat} (h : ¬ (ws_M E C K e = 1 ∧ (ws_S E C K bo d < ws_S E C K bo e ∨ (ws_S E C K bo e = ws_S E C K bo d ∧ e < d)))) : ws_a1 E C K bo d e = 0 := if_neg h
theorem ws_ah_n {E C K : Nat → Nat} {bo : Nat → Int32} {d n : Nat} (hn : n ≤ 24) (h : ∀ e, n ≤ e → E e = 0) : ws_sm (ws_a1 E C K bo d) n = ws_ah E C K bo d :=
  (ws_sm_x (fun j hj => ws_a1_n (fun q => by have := ws_M_0 (C := C) (K := K) (h j hj); omega)) 24 hn).symm
/-- matching documents whose score is at least b -/
def ws_s1 (E C K : Nat → Nat) (bo : Nat → Int32) (b : Int32) (e : Nat) : Nat := if ws_M E C K e = 1 ∧ b ≤ ws_S E C K bo e then 1 else 0
theorem ws_s1_y {E C K : Nat → Nat} {bo : Nat → Int32} {b : Int32} {e : Nat} (h : ws_M E C K e = 1) (h2 : b ≤ ws_S E C K bo e) : ws_s1 E C K bo b e = 1 := if_pos ⟨h, h2⟩
theorem ws_s1_n {E C K : Nat → Nat} {bo : Nat → Int32} {b : Int32} {e : Nat} (h : ¬ (ws_M E C K e = 1 ∧ b ≤ ws_S E C K bo e)) : ws_s1 E C K bo b e = 0 := if_neg h
/-! indices and small numbers -/
theorem ws_ixX (d w : Nat) : nI d * 8 + nI w = nI (8 * d + w) := by
  show nI d * nI 8 + nI w = _
  rw [pk_mul, nI_add, Nat.mul_comm]
theorem ws_ixY (d w : Nat) : 8 * nI d + nI w = nI (8 * d + w) := by
  show nI 8 * nI d + nI w = _
  rw [pk_mul, nI_add]
theorem ws_01 {x : Nat} (h : x ≤ 1) : x = 0 ∨ x = 1 := by omega
theorem ws_asb {a x r b : Nat} (h : a + x = r + b) : nI a + (nI x - nI b) = nI r := by
  have e : nI a + nI x = nI r + nI b := by rw [nI_add, nI_add, h]
  rw [← Int32.add_sub_cancel (nI r) (nI b), ← e, Int32.sub_eq_add_neg, Int32.sub_eq_add_neg, Int32.add_assoc]
theorem ws_m1 {a b : Nat} (h : a + 1 = b) : nI b + (-1) = nI a := by
  subst h
  exact pk_m1 a
theorem ws_b1m {a b : Nat} (h : a + 1 = b) : nI b - 1 = nI a := by
  subst h
  exact nI_pred a
theorem ws_t1 : vp_nar .boolean 1 = 1 := rfl
theorem ws_t0 : vp_nar .boolean 0 = 0 := rfl
/-! the pattern of addMany -/
def ws_pt (s k t : Nat) : Nat := (s + 5 * k + 3 * t + k * t) % 11 - 3
theorem ws_pt_le (s k t : Nat) : ws_pt s k t ≤ 7 := by
  unfold ws_pt
  have h := Nat.mod_lt (s + 5 * k + 3 * t + k * t) (show 0 < 11 by decide)
  omega
theorem ws_pt_a (s k t : Nat) : nI s + 5 * nI k + 3 * nI t + nI k * nI t = nI (s + 5 * k + 3 * t + k * t) := by
  show nI s + nI 5 * nI k + nI 3 * nI t + nI k * nI t = _
  rw [pk_mul, pk_mul, pk_mul, nI_add, nI_add, nI_add]
theorem ws_pt_m {m : Nat} (h : m < 2 ^ 31) : nI m - nI m / 11 * 11 - 3 = nI (m % 11) - nI 3 := by
  show nI m - nI m / nI 11 * nI 11 - nI 3 = _
  rw [pk_rem h (by decide) (by decide)]
theorem ws_pt_b {s k t : Nat} (hs : s ≤ 10) (hk : k < 24) (ht : t < 8) : s + 5 * k + 3 * t + k * t < 2 ^ 31 := by
  have h : k * t ≤ 24 * 8 := Nat.mul_le_mul (by omega) (by omega)
  omega
/-- what is stored: m - 3, or 0 -/
theorem ws_pt_n {m : Nat} {P : Int32 → Prop} {x : Int32} (hm : m < 11) (hx : x = nI m - nI 3) (h : P (nI (m - 3))) : (0 ≤ x → P x) ∧ (¬ 0 ≤ x → P 0) := by
  subst hx
  by_cases z : m < 3
  · have e : m - 3 = 0 := by omega
    rw [e] at h
    have n : nI m - nI 3 < 0 := pk_sneg (by decide) z
    exact br_f (Int32.not_le.mpr n) h
  · rw [pk_sub (show 3 ≤ m by omega)]
    exact br_t (nI_pos' (by omega)) h
/-! the draft blanked, word by word -/
def ws_bl (A : Nat → Nat) (w : Nat) : Nat → Nat := fun j => if j < w then 0 else A j
theorem ws_bl_0 (A : Nat → Nat) : ws_bl A 0 = A := by
  funext j
  exact if_neg (by omega)
theorem ws_bl_s (A : Nat → Nat) (w : Nat) : ws_up (ws_bl A w) w 0 = ws_bl A (w + 1) := by
  funext j
  show (if j = w then 0 else if j < w then 0 else A j) = if j < w + 1 then 0 else A j
  by_cases h : j = w
  · rw [if_pos h, if_pos (by omega)]
  · rw [if_neg h]
    by_cases h2 : j < w
    · rw [if_pos h2, if_pos (by omega)]
    · rw [if_neg h2, if_neg (by omega)]
theorem ws_bl_le {A : Nat → Nat} (h : ∀ j, A j ≤ 7) (w j : Nat) : ws_bl A w j ≤ 7 := by
  show (if j < w then 0 else A j) ≤ 7
  by_cases z : j < w
  · rw [if_pos z]; exact Nat.zero_le _
  · rw [if_neg z]; exact h j
theorem ws_bl_z (A : Nat → Nat) : ws_sm (ws_bl A 8) 8 = 0 := ws_sm_0 8 (fun j hj => if_pos hj)
/-! the holders after a delete, word by word -/
def ws_dl (E D C : Nat → Nat) (w : Nat) : Nat → Nat := fun t => if t < w then ws_h D C t else ws_h E C t
theorem ws_dl_0 (E D C : Nat → Nat) : ws_dl E D C 0 = ws_h E C := by
  funext j
  exact if_neg (by omega)
theorem ws_dl_8 (E D C : Nat → Nat) : ws_dl E D C 8 = ws_h D C := by
  funext j
  show (if j < 8 then ws_h D C j else ws_h E C j) = ws_h D C j
  by_cases h : j < 8
  · rw [if_pos h]
  · rw [if_neg h]
    unfold ws_h
    rw [if_neg h, if_neg h]
theorem ws_dl_w (E D C : Nat → Nat) (w : Nat) : ws_dl E D C w w = ws_h E C w := if_neg (by omega)
theorem ws_dl_s (E D C : Nat → Nat) (w : Nat) : ws_up (ws_dl E D C w) w (ws_h D C w) = ws_dl E D C (w + 1) := by
  funext j
  show (if j = w then ws_h D C w else if j < w then ws_h D C j else ws_h E C j) = if j < w + 1 then ws_h D C j else ws_h E C j
  by_cases h : j = w
  · rw [if_pos h, if_pos (by omega), h]
  · rw [if_neg h]
    by_cases h2 : j < w
    · rw [if_pos h2, if_pos (by omega)]
    · rw [if_neg h2, if_neg (by omega)]
theorem ws_dl_k {E D C : Nat → Nat} {w : Nat} (h : ws_h D C w = ws_h E C w) : ws_dl E D C w = ws_dl E D C (w + 1) := by
  rw [← ws_dl_s, h]
  funext j
  by_cases z : j = w
  · rw [z, ws_us, ws_dl_w]
  · rw [ws_un z]
/-! any number is below 0, or a natural -/
theorem ws_neg (x : Int32) : x < 0 ∨ ∃ j : Nat, j < 2 ^ 31 ∧ x = nI j := by
  by_cases h : x < 0
  · exact Or.inl h
  · exact Or.inr (nI_of h)
/-! branches -/
theorem ws_br {y : Int32} {P Q : Prop} (x : Nat) (hx : x ≤ 1) (f : x = 0 → P) (g : x = 1 → Q) (hy : y = nI x := by rfl) : (y = 0 → P) ∧ (¬ y = 0 → Q) := by
  subst hy
  cases ws_01 hx with
  | inl z => subst z; exact br_t rfl (f rfl)
  | inr z => subst z; exact br_f (by decide) (g rfl)
theorem ws_brC {y : Int32} {P Q : Prop} (x : Nat) (hx : x ≤ 7) (f : x = 0 → P) (g : 0 < x → Q) (hy : y = nI x := by rfl) : (y ≤ 0 → P) ∧ (¬ y ≤ 0 → Q) :=
  pk_le x 0 (fun q => f (by omega)) g hy rfl (by omega) (by omega)
theorem ws_cX {d w : Nat} (hd : d < 24) (hw : w < 8) : (nI d * 8 + nI w).toNatClampNeg = 8 * d + w := by
  rw [ws_ixX]
  exact nI_clamp (by omega)
theorem ws_vX {d w : Nat} (hd : d < 24) (hw : w < 8) : vp_in (nI d * 8 + nI w) 192 := by
  rw [ws_ixX]
  exact vp_in_nI (by omega) (by decide)
theorem ws_cY {d w : Nat} (hd : d < 24) (hw : w < 8) : (8 * nI d + nI w).toNatClampNeg = 8 * d + w := by
  rw [ws_ixY]
  exact nI_clamp (by omega)
theorem ws_vY {d w : Nat} (hd : d < 24) (hw : w < 8) : vp_in (8 * nI d + nI w) 192 := by
  rw [ws_ixY]
  exact vp_in_nI (by omega) (by decide)
theorem ws_raI {E C : Nat → Nat} (h : ∀ j, E j ≤ 1) (t : Nat) : 64 * (nI (ws_sm E 24) + 1) / (nI (ws_h E C t) + 1) = nI (ws_ra E C t) := by
  have h1 := ws_E_le h
  have h2 := ws_h_le (C := C) h t
  rw [nI_1, nI_1]
  show nI 64 * nI _ / nI _ = _
  rw [pk_mul, pk_div (by omega) (by omega) (by omega)]
  rfl
theorem ws_ra0 {E C : Nat → Nat} (h : ∀ j, E j ≤ 1) (t : Nat) : ¬ nI (ws_h E C t) + 1 = 0 := by
  have h2 := ws_h_le (C := C) h t
  rw [nI_1]
  exact nI_ne0 (by omega) (by omega)
theorem ws_unI {C : Nat → Nat} (h : ∀ j, C j ≤ 7) (d t : Nat) : nI (C (8 * d + t)) + 2 + nI (ws_L C d) / 4 = nI (C (8 * d + t) + 2 + ws_L C d / 4) := by
  have h1 := ws_L_le h d
  show nI _ + nI 2 + nI _ / nI 4 = _
  rw [pk_div (by omega) (by omega) (by omega), nI_add, nI_add]
theorem ws_stI {C : Nat → Nat} (h : ∀ j, C j ≤ 7) (d t : Nat) : 256 * nI (C (8 * d + t)) / nI (C (8 * d + t) + 2 + ws_L C d / 4) = nI (ws_st C d t) := by
  have h1 := ws_L_le h d
  have h2 := h (8 * d + t)
  show nI 256 * nI _ / nI _ = _
  rw [pk_mul, pk_div (by omega) (by omega) (by omega)]
  rfl
theorem ws_un0 {C : Nat → Nat} (h : ∀ j, C j ≤ 7) (d t : Nat) : ¬ nI (C (8 * d + t) + 2 + ws_L C d / 4) = 0 := by
  have h1 := ws_L_le h d
  have h2 := h (8 * d + t)
  exact nI_ne0 (by omega) (by omega)
