section
variable {A C E K : Nat → Nat} {bo : Nat → Int32} {n : Nat}
theorem ws_pv {P : Int32 → Prop} {a b : Int32} (e : a = b) (h : P b) : P a := by
  subst e
  exact h
theorem ws_h00 (t : Nat) : ws_h (fun _ => 0) (fun _ => 0) t = 0 := by
  unfold ws_h
  by_cases ht : t < 8
  · rw [if_pos ht]
    exact ws_sm_0 24 (fun j _ => Nat.zero_mul _)
  · rw [if_neg ht]
theorem ws_init : i_Rel 0 (0, 0, 0, 0, (fun _ => 0), (fun _ => 0), (fun _ => 0), (fun _ => 0), (fun _ => 0), (fun _ => 0), (fun _ => 0)) (0, (fun _ => 0), (fun _ => 0), (fun _ => 0), (fun _ => 0), (fun _ => 0)) := by
  have e : (fun t => nI (ws_h (fun _ => 0) (fun _ => 0) t)) = fun _ => (0 : Int32) := by
    funext t
    rw [ws_h00]
    rfl
  refine ⟨fun _ => 0, fun _ => 0, fun _ => 0, fun _ => 0, fun _ => 0, 0, ?_, rfl, Nat.zero_le _, fun _ => Nat.zero_le _, fun _ => Nat.zero_le _, fun _ => Nat.zero_le _, fun _ _ => rfl, fun _ _ => rfl, fun _ => Nat.zero_le _, Nat.zero_le _⟩
  unfold ws_X
  rw [e]
  rfl
/-! write -/
theorem xl_wr {post : Int32 → SX → Prop} {w x : Nat} (hw : w < 8) (hx : x < 8) (h : post (nI (ws_sm (ws_up A w x) 8)) (ws_X (ws_up A w x) C E K bo n)) : wpX_write post (ws_X A C E K bo n) (nI w) (nI x) := by
  have c : (nI w).toNatClampNeg = w := nI_clamp (by omega)
  have vw : vp_in (nI w) 8 := vp_in_nI hw (by decide)
  unfold wpX_write
  dsimp only [ws_X]
  refine xl_ig hw (br_f (by decide) (ws_oi (N := 7) (by omega) ⟨vw, nm_r (e' := nI (ws_sm (ws_up A w x) 8)) ?_ ⟨vw, nm_r (e' := fun j => nI (ws_up A w x j)) ?_ h⟩⟩))
  · rw [c]
    exact ws_asb (ws_A_u x hw).symm
  · rw [c]
    exact ws_upI A w x
theorem yl_wr {post : Int32 → SY → Prop} {w x : Nat} (hw : w < 8) (hx : x < 8) (h : post (nI (ws_sm (ws_up A w x) 8)) (ws_Y (ws_up A w x) C E K bo n)) : wpY_write post (ws_Y A C E K bo n) (nI w) (nI x) := by
  have c : (nI w).toNatClampNeg = w := nI_clamp (by omega)
  have vw : vp_in (nI w) 8 := vp_in_nI hw (by decide)
  unfold wpY_write
  dsimp only [ws_Y]
  refine yl_bw hw (br_t rfl (ws_oi (N := 7) (by omega) ⟨vw, nm_r (e' := fun j => nI (ws_up A w x j)) ?_ (yl_dl h)⟩))
  rw [c]
  exact ws_upI A w x
theorem xl_wr1 {post : Int32 → SX → Prop} {v1 v2 : Int32} (h1 : ws_out 8 v1) (h : post (-1) (ws_X A C E K bo n)) : wpX_write post (ws_X A C E K bo n) v1 v2 := by
  unfold wpX_write
  dsimp only [ws_X]
  exact xl_igB h1 (br_t rfl h)
theorem yl_wr1 {post : Int32 → SY → Prop} {v1 v2 : Int32} (h1 : ws_out 8 v1) (h : post (-1) (ws_Y A C E K bo n)) : wpY_write post (ws_Y A C E K bo n) v1 v2 := by
  unfold wpY_write
  dsimp only [ws_Y]
  exact yl_bwB h1 (br_f (by decide) h)
theorem xl_wr2 {post : Int32 → SX → Prop} {w : Nat} {v2 : Int32} (hw : w < 8) (h2 : ws_out 8 v2) (h : post (-2) (ws_X A C E K bo n)) : wpX_write post (ws_X A C E K bo n) (nI w) v2 := by
  unfold wpX_write
  dsimp only [ws_X]
  exact xl_ig hw (br_f (by decide) (ws_oo (N := 7) h2 h))
theorem yl_wr2 {post : Int32 → SY → Prop} {w : Nat} {v2 : Int32} (hw : w < 8) (h2 : ws_out 8 v2) (h : post (-2) (ws_Y A C E K bo n)) : wpY_write post (ws_Y A C E K bo n) (nI w) v2 := by
  unfold wpY_write
  dsimp only [ws_Y]
  exact yl_bw hw (br_t rfl (ws_oo (N := 7) h2 h))
/-! blank -/
theorem xl_blank {post : Int32 → SX → Prop} (h : post (nI (ws_sm A 8)) (ws_X (ws_bl A 8) C E K bo n)) : wpX_blank post (ws_X A C E K bo n) := by
  have g := xl_bl h 8 0 rfl
  rw [ws_bl_0] at g
  exact ⟨9, g⟩
theorem yl_blank {post : Int32 → SY → Prop} (h : post (nI (ws_sm A 8)) (ws_Y (ws_bl A 8) C E K bo n)) : wpY_blank post (ws_Y A C E K bo n) := by
  have g := yl_bl h 8 0 rfl
  rw [ws_bl_0] at g
  unfold wpY_blank
  dsimp only [ws_Y]
  exact yl_dl ⟨9, g⟩
/-! add -/
theorem xl_add {post : Int32 → SX → Prop} (hn : n < 24) (ok : ws_ok A C E K n) (h : post (nI n) (ws_X A (ws_rw C n A 8) (ws_up E n 1) K bo (n + 1))) : wpX_add post (ws_X A C E K bo n) := by
  have g := xl_ad hn ok.2.1 ok.2.2.2.2.2.1 h 8 0 rfl
  rw [ws_rw_0] at g
  exact pk_lt n 24 (fun _ => xl_open hn (ok.2.2.2.2.1 n (Nat.le_refl n)) ok.2.2.2.2.2.1 ⟨9, g⟩) (fun q => absurd q (by omega))
theorem yl_add {post : Int32 → SY → Prop} (hn : n < 24) (h : post (nI n) (ws_Y A (ws_rw C n A 8) (ws_up E n 1) K bo (n + 1))) : wpY_add post (ws_Y A C E K bo n) := by
  have g := yl_ad hn h 8 0 rfl
  rw [ws_rw_0] at g
  exact pk_le n 23 (fun _ => ⟨9, g⟩) (fun q => absurd q (by omega))
/-! delete -/
theorem xl_del {post : Int32 → SX → Prop} {d : Nat} (hd : d < 24) (ok : ws_ok A C E K n) (h1 : E d = 1) (h : post (nI (ws_sm (ws_up E d 0) 24)) (ws_X A C (ws_up E d 0) K bo n)) : wpX_delete post (ws_X A C E K bo n) (nI d) := by
  have c : (nI d).toNatClampNeg = d := nI_clamp (by omega)
  have q := ws_E_u (E := E) 0 hd
  unfold wpX_delete
  dsimp only [ws_X]
  refine xl_il hd ok.1 ok.2.2.2.2.1 ok.2.2.2.1 (ws_br (E d) (ok.2.2.2.1 d) (fun z => absurd z (by omega)) (fun _ => ⟨vp_in_nI hd (by decide), nm_r (e' := fun j => nI (ws_up E d 0 j)) ?_ (nm_r (e' := nI (ws_sm (ws_up E d 0) 24)) (ws_b1m (by omega)) ⟨9, ?_⟩)⟩))
  · rw [c, ws_t0]
    exact ws_upI E d 0
  · have g := xl_de hd ok.2.2.1 h1 h 8 0 rfl
    rw [ws_dl_0] at g
    exact g
theorem yl_del {post : Int32 → SY → Prop} {d : Nat} (hd : d < 24) (ok : ws_ok A C E K n) (h1 : E d = 1) (h : post (nI (ws_sm (ws_up E d 0) 24)) (ws_Y A C (ws_up E d 0) K bo n)) : wpY_delete post (ws_Y A C E K bo n) (nI d) := by
  have c : (nI d).toNatClampNeg = d := nI_clamp (by omega)
  unfold wpY_delete
  dsimp only [ws_Y]
  refine yl_bd hd ok.2.2.2.1 (ws_br (1 - E d) (by omega) (fun _ => ⟨vp_in_nI hd (by decide), nm_r (e' := fun j => nI (ws_up E d 0 j)) ?_ (yl_lc (ws_u_le (Nat.zero_le 1) ok.2.2.2.1) h)⟩) (fun z => absurd z (by omega)))
  rw [c, ws_t0]
  exact ws_upI E d 0
theorem xl_del0 {post : Int32 → SX → Prop} {d : Nat} (hd : d < 24) (ok : ws_ok A C E K n) (h1 : E d = 0) (h : post (-1) (ws_X A C E K bo n)) : wpX_delete post (ws_X A C E K bo n) (nI d) := by
  unfold wpX_delete
  dsimp only [ws_X]
  exact xl_il hd ok.1 ok.2.2.2.2.1 ok.2.2.2.1 (ws_br (E d) (ok.2.2.2.1 d) (fun z => h) (fun z => absurd z (by omega)))
theorem yl_del0 {post : Int32 → SY → Prop} {d : Nat} (hd : d < 24) (ok : ws_ok A C E K n) (h1 : E d = 0) (h : post (-1) (ws_Y A C E K bo n)) : wpY_delete post (ws_Y A C E K bo n) (nI d) := by
  unfold wpY_delete
  dsimp only [ws_Y]
  exact yl_bd hd ok.2.2.2.1 (ws_br (1 - E d) (by omega) (fun z => absurd z (by omega)) (fun z => h))
theorem xl_delB {post : Int32 → SX → Prop} {v : Int32} (hv : ws_out 24 v) (ok : ws_ok A C E K n) (h : post (-1) (ws_X A C E K bo n)) : wpX_delete post (ws_X A C E K bo n) v := by
  unfold wpX_delete
  dsimp only [ws_X]
  exact xl_ilB ok.1 hv (br_t rfl h)
theorem yl_delB {post : Int32 → SY → Prop} {v : Int32} (hv : ws_out 24 v) (h : post (-1) (ws_Y A C E K bo n)) : wpY_delete post (ws_Y A C E K bo n) v := by
  unfold wpY_delete
  dsimp only [ws_Y]
  exact yl_bdB hv (br_f (by decide) h)
/-! item -/
theorem xl_itB {post : Int32 → SX → Prop} {v1 v2 : Int32} (h1 : ws_out 8 v1) (h : post (-1) (ws_X A C E K bo n)) : wpX_item post (ws_X A C E K bo n) v1 v2 := by
  unfold wpX_item
  dsimp only [ws_X]
  exact xl_igB h1 (br_t rfl h)
theorem yl_itB {post : Int32 → SY → Prop} {v1 v2 : Int32} (h1 : ws_out 8 v1) (h : post (-1) (ws_Y A C E K bo n)) : wpY_item post (ws_Y A C E K bo n) v1 v2 := by
  unfold wpY_item
  dsimp only [ws_Y]
  exact yl_bwB h1 (br_f (by decide) h)
theorem xl_itN {post : Int32 → SX → Prop} {w : Nat} {v : Int32} (hw : w < 8) (hv : v < 0) (h : post (-2) (ws_X A C E K bo n)) : wpX_item post (ws_X A C E K bo n) (nI w) v := by
  unfold wpX_item
  dsimp only [ws_X]
  exact xl_ig hw (br_f (by decide) (xl_kd_n hv (br_t rfl h)))
theorem yl_itN {post : Int32 → SY → Prop} {w : Nat} {v : Int32} (hw : w < 8) (hv : v < 0) (h : post (-2) (ws_Y A C E K bo n)) : wpY_item post (ws_Y A C E K bo n) (nI w) v := by
  unfold wpY_item
  dsimp only [ws_Y]
  exact yl_bw hw (br_t rfl (br_t hv h))
theorem xl_itO {post : Int32 → SX → Prop} {w b : Nat} (hw : w < 8) (hb : b < 2 ^ 31) (h0 : 20 ≤ b ∨ b = 10) (h : post (-2) (ws_X A C E K bo n)) : wpX_item post (ws_X A C E K bo n) (nI w) (nI b) := by
  unfold wpX_item
  dsimp only [ws_X]
  exact xl_ig hw (br_f (by decide) (xl_kd hb (by rw [ws_kd_0 h0]; exact br_t rfl h)))
theorem yl_itO {post : Int32 → SY → Prop} {w b : Nat} (hw : w < 8) (hb : b < 2 ^ 31) (h0 : 20 ≤ b ∨ b = 10) (h : post (-2) (ws_Y A C E K bo n)) : wpY_item post (ws_Y A C E K bo n) (nI w) (nI b) := by
  unfold wpY_item
  dsimp only [ws_Y]
  exact yl_bw hw (br_t rfl (br_f (nI_pos hb) (pk_lt 19 b (fun _ => h) (fun q => pk_eq b 10 (fun _ => h) (fun q2 => absurd q2 (by omega))))))
theorem xl_itF {post : Int32 → SX → Prop} {w b : Nat} (hw : w < 8) (hb : b < 20) (h10 : b ≠ 10) (h0 : K w = 0) (h5 : ws_it K = 5) (h : post (-3) (ws_X A C E K bo n)) : wpX_item post (ws_X A C E K bo n) (nI w) (nI b) := by
  have c : (nI w).toNatClampNeg = w := nI_clamp (by omega)
  have ck : (fun j => nI (K j)) (nI w).toNatClampNeg = nI (K w) := congrArg (fun j => nI (K j)) c
  have kp := ws_kd_p hb h10
  unfold wpX_item
  dsimp only [ws_X]
  exact xl_ig hw (br_f (by decide) (xl_kd (by omega) (br_f (nI_ne0 kp.1 (by omega)) ⟨vp_in_nI hw (by decide), pk_eq (K w) 0 (fun _ => pk_lt (ws_it K) 5 (fun q => absurd q (by omega)) (fun _ => h)) (fun q => absurd h0 q) ck⟩)))
theorem yl_itF {post : Int32 → SY → Prop} {w b : Nat} (hw : w < 8) (hb : b < 20) (h10 : b ≠ 10) (hK : ∀ t, K t ≤ 3) (h0 : K w = 0) (h5 : ws_it K = 5) (h : post (-3) (ws_Y A C E K bo n)) : wpY_item post (ws_Y A C E K bo n) (nI w) (nI b) := by
  have c : (nI w).toNatClampNeg = w := nI_clamp (by omega)
  have ck : (fun j => nI (K j)) (nI w).toNatClampNeg = nI (K w) := congrArg (fun j => nI (K j)) c
  unfold wpY_item
  dsimp only [ws_Y]
  exact yl_bw hw (br_t rfl (br_f (nI_pos (by omega)) (pk_lt 19 b (fun q => absurd q (by omega)) (fun _ => pk_eq b 10 (fun q => absurd q h10) (fun _ => ⟨vp_in_nI hw (by decide), pk_eq (K w) 0 (fun _ => yl_it hK (pk_eq (ws_it K) 5 (fun _ => h) (fun q => absurd h5 q))) (fun q => absurd h0 q) ck⟩)))))
theorem xl_itP {post : Int32 → SX → Prop} {w b : Nat} (hw : w < 8) (hb : b < 20) (h10 : b ≠ 10) (hK : ∀ t, K t ≤ 3) (h0 : K w = 0 → ws_it K < 5) (h : post (nI (ws_it (ws_up K w (ws_kd b)))) (ws_X A C E (ws_up K w (ws_kd b)) (upd bo w (nI (b % 10))) n)) : wpX_item post (ws_X A C E K bo n) (nI w) (nI b) := by
  have c : (nI w).toNatClampNeg = w := nI_clamp (by omega)
  have ck : (fun j => nI (K j)) (nI w).toNatClampNeg = nI (K w) := congrArg (fun j => nI (K j)) c
  have kp := ws_kd_p hb h10
  have k3 := hK w
  have i8 := ws_it_le K
  have m := xl_i53 hw kp.2.1 hb kp.2.2.1 kp.2.2.2 h
  unfold wpX_item
  dsimp only [ws_X]
  refine xl_ig hw (br_f (by decide) (xl_kd (by omega) (br_f (nI_ne0 kp.1 (by omega)) ⟨vp_in_nI hw (by decide), pk_eq (K w) 0 (fun q => pk_lt (ws_it K) 5 (fun _ => nm_r (e' := nI (ws_it (ws_up K w (ws_kd b)))) ?_ m) (fun q2 => absurd (h0 q) (by omega))) (fun q => ?_) ck⟩)))
  · rw [ws_itu hw q kp.1, nI_1]
  · rw [ws_itk hw (by omega) kp.1] at m
    exact m
theorem yl_itP {post : Int32 → SY → Prop} {w b : Nat} (hw : w < 8) (hb : b < 20) (h10 : b ≠ 10) (hK : ∀ t, K t ≤ 3) (h0 : K w = 0 → ws_it K < 5) (h : post (nI (ws_it (ws_up K w (ws_kd b)))) (ws_Y A C E (ws_up K w (ws_kd b)) (upd bo w (nI (b % 10))) n)) : wpY_item post (ws_Y A C E K bo n) (nI w) (nI b) := by
  have c : (nI w).toNatClampNeg = w := nI_clamp (by omega)
  have ck : (fun j => nI (K j)) (nI w).toNatClampNeg = nI (K w) := congrArg (fun j => nI (K j)) c
  have kp := ws_kd_p hb h10
  have k3 := hK w
  have i8 := ws_it_le K
  have m := yl_i49 hw hb h10 (ws_u_le kp.2.1 hK) h
  unfold wpY_item
  dsimp only [ws_Y]
  exact yl_bw hw (br_t rfl (br_f (nI_pos (by omega)) (pk_lt 19 b (fun q => absurd q (by omega)) (fun _ => pk_eq b 10 (fun q => absurd q h10) (fun _ => ⟨vp_in_nI hw (by decide), pk_eq (K w) 0 (fun q => yl_it hK (pk_eq (ws_it K) 5 (fun q2 => absurd (h0 q) (by omega)) (fun _ => m))) (fun q => m) ck⟩)))))
/-! drop -/
theorem xl_drB {post : Int32 → SX → Prop} {v1 : Int32} (h1 : ws_out 8 v1) (h : post (-1) (ws_X A C E K bo n)) : wpX_drop post (ws_X A C E K bo n) v1 := by
  unfold wpX_drop
  dsimp only [ws_X]
  exact xl_igB h1 (br_t rfl h)
theorem yl_drB {post : Int32 → SY → Prop} {v1 : Int32} (h1 : ws_out 8 v1) (h : post (-1) (ws_Y A C E K bo n)) : wpY_drop post (ws_Y A C E K bo n) v1 := by
  unfold wpY_drop
  dsimp only [ws_Y]
  exact yl_bwB h1 (br_f (by decide) h)
theorem xl_dr {post : Int32 → SX → Prop} {w : Nat} (hw : w < 8) (hK : ∀ t, K t ≤ 3) (ha : K w = 0 → post (-1) (ws_X A C E K bo n)) (h : 0 < K w → post (nI (ws_it (ws_up K w 0))) (ws_X A C E (ws_up K w 0) bo n)) : wpX_drop post (ws_X A C E K bo n) (nI w) := by
  have c : (nI w).toNatClampNeg = w := nI_clamp (by omega)
  have ck : (fun j => nI (K j)) (nI w).toNatClampNeg = nI (K w) := congrArg (fun j => nI (K j)) c
  have vw : vp_in (nI w) 8 := vp_in_nI hw (by decide)
  have k3 := hK w
  unfold wpX_drop
  dsimp only [ws_X]
  refine xl_ig hw (br_f (by decide) ⟨vw, pk_eq (K w) 0 (fun q => ha q) (fun q => ⟨vw, nm_r (e' := fun t => nI (ws_up K w 0 t)) ?_ (nm_r (e' := nI (ws_it (ws_up K w 0))) (ws_b1m (ws_itd hw (by omega))) (h (by omega)))⟩) ck⟩)
  rw [c]
  exact ws_upI K w 0
theorem yl_dr {post : Int32 → SY → Prop} {w : Nat} (hw : w < 8) (hK : ∀ t, K t ≤ 3) (ha : K w = 0 → post (-1) (ws_Y A C E K bo n)) (h : 0 < K w → post (nI (ws_it (ws_up K w 0))) (ws_Y A C E (ws_up K w 0) bo n)) : wpY_drop post (ws_Y A C E K bo n) (nI w) := by
  have c : (nI w).toNatClampNeg = w := nI_clamp (by omega)
  have ck : (fun j => nI (K j)) (nI w).toNatClampNeg = nI (K w) := congrArg (fun j => nI (K j)) c
  have vw : vp_in (nI w) 8 := vp_in_nI hw (by decide)
  have k3 := hK w
  unfold wpY_drop
  dsimp only [ws_Y]
  refine yl_bw hw (br_t rfl ⟨vw, pk_eq (K w) 0 (fun q => ha q) (fun q => ⟨vw, nm_r (e' := fun t => nI (ws_up K w 0 t)) ?_ (yl_it (ws_u_le (Nat.zero_le 3) hK) (h (by omega)))⟩) ck⟩)
  rw [c]
  exact ws_upI K w 0
theorem ws_ok_K {w x : Nat} (ok : ws_ok A C E K n) (hx : x ≤ 3) (h5 : ws_it (ws_up K w x) ≤ 5) : ws_ok A C E (ws_up K w x) n := by
  obtain ⟨h1, h2, h3, h4, h5', h6, h7, h8⟩ := ok
  exact ⟨h1, h2, h3, h4, h5', h6, ws_u_le hx h7, h5⟩
theorem ws_ok_E {d : Nat} (ok : ws_ok A C E K n) : ws_ok A C (ws_up E d 0) K n := by
  obtain ⟨h1, h2, h3, h4, h5, h6, h7, h8⟩ := ok
  refine ⟨h1, h2, h3, ws_u_le (Nat.zero_le 1) h4, fun j hj => ?_, h6, h7, h8⟩
  by_cases z : j = d
  · rw [z, ws_us]
  · rw [ws_un z]; exact h5 j hj
end
