section
variable {A C E K : Nat → Nat} {bo : Nat → Int32} {n : Nat}
/-! blank -/
theorem xl_bl {post : Int32 → SX → Prop} {x1 : Int32} (h : post x1 (ws_X (ws_bl A 8) C E K bo n)) : ∀ f w, w + f = 8 → wX_blank_7 post x1 (nI (ws_sm A 8)) (nI n) (nI (ws_sm E 24)) (nI (ws_it K)) (f + 1) (nI w) (fun j => nI (ws_bl A w j)) (fun j => nI (C j)) (fun d => nI (ws_L C d)) (fun d => nI (E d)) (fun t => nI (ws_h E C t)) (fun t => nI (K t)) bo := by
  intro f
  induction f with
  | zero =>
    intro w e
    have e8 : w = 8 := by omega
    subst e8
    unfold ws_X at h
    rw [ws_bl_z] at h
    exact br_t (by decide) h
  | succ f ih =>
    intro w e
    have hw : w < 8 := by omega
    have c : (nI w).toNatClampNeg = w := nI_clamp (by omega)
    have g := ih (w + 1) (by omega)
    refine br_f (nI_ge (b := 8) hw (by decide)) ⟨vp_in_nI hw (by decide), nm_r (e' := fun j => nI (ws_bl A (w + 1) j)) ?_ (nm_r (nI_1 w) g)⟩
    rw [c, ← ws_bl_s]
    exact ws_upI _ _ 0
theorem yl_bl {post : Int32 → SY → Prop} {x1 : Int32} (h : post x1 (ws_Y (ws_bl A 8) C E K bo n)) : ∀ f w, w + f = 8 → wY_blank_7 post x1 (nI n) (f + 1) (nI w) (fun j => nI (ws_bl A w j)) (fun j => nI (C j)) (fun d => nI (E d)) (fun t => nI (K t)) bo := by
  intro f
  induction f with
  | zero =>
    intro w e
    have e8 : w = 8 := by omega
    subst e8
    exact br_t (by decide) h
  | succ f ih =>
    intro w e
    have hw : w < 8 := by omega
    have c : (nI w).toNatClampNeg = w := nI_clamp (by omega)
    have g := ih (w + 1) (by omega)
    refine br_f (nI_ge (b := 8) hw (by decide)) ⟨vp_in_nI hw (by decide), nm_r (e' := fun j => nI (ws_bl A (w + 1) j)) ?_ (nm_r (nI_1 w) g)⟩
    rw [c, ← ws_bl_s]
    exact ws_upI _ _ 0
/-! delete -/
theorem xl_hasG {post : Int32 → Prop} {f1 f2 f3 f4 : Int32} {a1 a3 a4 a5 a6 a7 : Nat → Int32} {d w : Nat} (hd : d < 24) (hw : w < 8) (hC : ∀ j, C j ≤ 7) (h : post (nI (ws_b (C (8 * d + w))))) : wpX_has post (f1, f2, f3, f4, a1, fun j => nI (C j), a3, a4, a5, a6, a7) (nI d) (nI w) := by
  refine ⟨ws_vX hd hw, ws_brC (C (8 * d + w)) (hC _) (fun z => ?_) (fun z => ?_) (congrArg (fun i => nI (C i)) (ws_cX hd hw))⟩
  · rw [z, ws_b0] at h; exact h
  · rw [ws_bp z] at h; exact h
theorem xl_de {post : Int32 → SX → Prop} {d : Nat} (hd : d < 24) (hC : ∀ j, C j ≤ 7) (h1 : E d = 1) (h : post (nI (ws_sm (ws_up E d 0) 24)) (ws_X A C (ws_up E d 0) K bo n)) : ∀ f w, w + f = 8 → wX_delete_29 post (nI d) (nI (ws_sm A 8)) (nI n) (nI (ws_sm (ws_up E d 0) 24)) (nI (ws_it K)) (f + 1) (nI w) (fun j => nI (A j)) (fun j => nI (C j)) (fun d => nI (ws_L C d)) (fun j => nI (ws_up E d 0 j)) (fun t => nI (ws_dl E (ws_up E d 0) C w t)) (fun t => nI (K t)) bo := by
  intro f
  induction f with
  | zero =>
    intro w e
    have e8 : w = 8 := by omega
    subst e8
    rw [ws_dl_8]
    exact br_t (by decide) h
  | succ f ih =>
    intro w e
    have hw : w < 8 := by omega
    have c : (nI w).toNatClampNeg = w := nI_clamp (by omega)
    have vw : vp_in (nI w) 8 := vp_in_nI hw (by decide)
    have g := ih (w + 1) (by omega)
    have q := ws_h_u (E := E) (C := C) 0 hd hw
    rw [h1, Nat.one_mul, Nat.zero_mul, Nat.add_zero] at q
    refine br_f (nI_ge (b := 8) hw (by decide)) (xl_hasG hd hw hC (ws_br (ws_b (C (8 * d + w))) (ws_b1 _) (fun z => nm_r (nI_1 w) ?_) (fun z => ⟨vw, vw, nm_r (e' := fun t => nI (ws_dl E (ws_up E d 0) C (w + 1) t)) ?_ (nm_r (nI_1 w) g)⟩)))
    · rw [z, Nat.add_zero] at q
      rw [ws_dl_k q]
      exact g
    · rw [z] at q
      show upd (fun t => nI (ws_dl E (ws_up E d 0) C w t)) (nI w).toNatClampNeg (nI (ws_dl E (ws_up E d 0) C w (nI w).toNatClampNeg) - 1) = _
      rw [c, ws_dl_w, ws_b1m q, ← ws_dl_s]
      exact ws_upI _ _ _
/-! item -/
def ws_kd (b : Nat) : Nat := if b = 0 then 3 else if b < 10 then 1 else if b ≤ 10 then 0 else if b < 20 then 2 else 0
theorem xl_kd_n {post : Int32 → Prop} {v : Int32} (hv : v < 0) (h : post 0) : wpX_kindOf post (ws_X A C E K bo n) v := by
  have e0 : ¬ v = 0 := fun e => absurd (e ▸ hv) (by decide)
  have e1 : v < 1 := Int32.lt_trans hv (by decide)
  have e2 : v ≤ 10 := Int32.le_of_lt (Int32.lt_trans hv (by decide))
  exact br_f e0 (br_t e1 (br_t e2 h))
theorem xl_kd {post : Int32 → Prop} {b : Nat} (hb : b < 2 ^ 31) (h : post (nI (ws_kd b))) : wpX_kindOf post (ws_X A C E K bo n) (nI b) := by
  unfold ws_kd at h
  refine pk_eq b 0 (fun q => ?_) (fun q0 => pk_lt b 1 (fun q => absurd q (by omega)) (fun q1 => pk_lt 9 b (fun q => pk_le b 10 (fun q2 => ?_) (fun q2 => pk_lt 19 b (fun q3 => ?_) (fun q3 => ?_))) (fun q => ?_)))
  · rw [if_pos q] at h; exact h
  · rw [if_neg q0, if_neg (by omega), if_pos q2] at h; exact h
  · rw [if_neg q0, if_neg (by omega), if_neg (by omega), if_neg (by omega)] at h; exact h
  · rw [if_neg q0, if_neg (by omega), if_neg (by omega), if_pos (by omega)] at h; exact h
  · rw [if_neg q0, if_pos (by omega)] at h; exact h
theorem xl_i53 {post : Int32 → SX → Prop} {w b x : Nat} (hw : w < 8) (hx : x ≤ 3) (hb : b < 20) (h2 : x = 2 → 10 ≤ b) (h1 : ¬ x = 2 → b < 10) (h : post (nI (ws_it (ws_up K w x))) (ws_X A C E (ws_up K w x) (upd bo w (nI (b % 10))) n)) : wX_item_53 post (nI w) (nI b) (nI x) (nI (ws_sm A 8)) (nI n) (nI (ws_sm E 24)) (nI (ws_it (ws_up K w x))) (fun j => nI (A j)) (fun j => nI (C j)) (fun d => nI (ws_L C d)) (fun d => nI (E d)) (fun t => nI (ws_h E C t)) (fun t => nI (K t)) bo := by
  have c : (nI w).toNatClampNeg = w := nI_clamp (by omega)
  have vw : vp_in (nI w) 8 := vp_in_nI hw (by decide)
  have e1 : upd (fun t => nI (K t)) (nI w).toNatClampNeg (nI x) = fun t => nI (ws_up K w x t) := by
    rw [c]
    exact ws_upI K w x
  refine ⟨vw, nm_r e1 (pk_eq x 2 (fun q => ⟨vw, nm_r (e' := upd bo w (nI (b % 10))) ?_ h⟩) (fun q => ⟨vw, nm_r (e' := upd bo w (nI (b % 10))) ?_ h⟩))⟩
  · have k := h2 q
    show upd bo (nI w).toNatClampNeg (nI b - nI 10) = _
    rw [c, pk_sub k]
    exact congrArg (fun z => upd bo w (nI z)) (by omega)
  · have k := h1 q
    rw [c]
    exact congrArg (fun z => upd bo w (nI z)) (by omega)
theorem yl_i73 {post : Int32 → SY → Prop} {w b x : Nat} (hw : w < 8) (hb : b < 20) (hK : ∀ t, ws_up K w x t ≤ 3) (h : post (nI (ws_it (ws_up K w x))) (ws_Y A C E (ws_up K w x) (upd bo w (nI (b % 10))) n)) : wY_item_73 post (nI w) (nI b) (nI x) (nI w) (nI n) (fun j => nI (A j)) (fun j => nI (C j)) (fun d => nI (E d)) (fun t => nI (K t)) bo := by
  have c : (nI w).toNatClampNeg = w := nI_clamp (by omega)
  have vw : vp_in (nI w) 8 := vp_in_nI hw (by decide)
  have e1 : upd (fun t => nI (K t)) (nI w).toNatClampNeg (nI x) = fun t => nI (ws_up K w x t) := by
    rw [c]
    exact ws_upI K w x
  refine ⟨vw, nm_r e1 ⟨by decide, vw, nm_r (e' := upd bo w (nI (b % 10))) ?_ (yl_it hK h)⟩⟩
  show upd bo (nI w).toNatClampNeg (nI b - nI b / nI 10 * nI 10) = _
  rw [c, pk_rem (by omega) (by decide) (by decide)]
theorem yl_i49 {post : Int32 → SY → Prop} {w b : Nat} (hw : w < 8) (hb : b < 20) (h10 : b ≠ 10) (hK : ∀ t, ws_up K w (ws_kd b) t ≤ 3) (h : post (nI (ws_it (ws_up K w (ws_kd b)))) (ws_Y A C E (ws_up K w (ws_kd b)) (upd bo w (nI (b % 10))) n)) : wY_item_49 post (nI w) (nI b) (nI n) (fun j => nI (A j)) (fun j => nI (C j)) (fun d => nI (E d)) (fun t => nI (K t)) bo := by
  have m := yl_i73 hw hb hK h
  refine pk_eq b 0 (fun q => ?_) (fun q0 => pk_le 10 b (fun q => ?_) (fun q => ?_))
  · have e : ws_kd b = 3 := if_pos q
    rw [e] at m; exact m
  · have e : ws_kd b = 2 := by
      unfold ws_kd
      rw [if_neg q0, if_neg (by omega), if_neg (by omega), if_pos hb]
    rw [e] at m; exact m
  · have e : ws_kd b = 1 := by
      unfold ws_kd
      rw [if_neg q0, if_pos (by omega)]
    rw [e] at m; exact m
theorem ws_kd_p {b : Nat} (hb : b < 20) (h10 : b ≠ 10) : 0 < ws_kd b ∧ ws_kd b ≤ 3 ∧ (ws_kd b = 2 → 10 ≤ b) ∧ (¬ ws_kd b = 2 → b < 10) := by
  unfold ws_kd
  by_cases q0 : b = 0
  · rw [if_pos q0]; omega
  · by_cases q1 : b < 10
    · rw [if_neg q0, if_pos q1]; omega
    · rw [if_neg q0, if_neg q1, if_neg (by omega), if_pos hb]; omega
theorem ws_kd_0 {b : Nat} (hb : 20 ≤ b ∨ b = 10) : ws_kd b = 0 := by
  unfold ws_kd
  by_cases q : b ≤ 10
  · rw [if_neg (by omega), if_neg (by omega), if_pos q]
  · rw [if_neg (by omega), if_neg (by omega), if_neg q, if_neg (by omega)]
theorem ws_itu {w x : Nat} (hw : w < 8) (h0 : K w = 0) (hx : 0 < x) : ws_it (ws_up K w x) = ws_it K + 1 := by
  have q := ws_it_u (K := K) x hw
  rw [h0, ws_b0, ws_bp hx] at q
  exact q
theorem ws_itk {w x : Nat} (hw : w < 8) (h0 : 0 < K w) (hx : 0 < x) : ws_it (ws_up K w x) = ws_it K := by
  have q := ws_it_u (K := K) x hw
  rw [ws_bp h0, ws_bp hx] at q
  omega
theorem ws_itd {w : Nat} (hw : w < 8) (h0 : 0 < K w) : ws_it (ws_up K w 0) + 1 = ws_it K := by
  have q := ws_it_u (K := K) 0 hw
  rw [ws_bp h0, ws_b0] at q
  exact q
end
