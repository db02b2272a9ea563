section
variable {A C E K : Nat → Nat} {bo : Nat → Int32} {n : Nat}
/-! arguments that are refused -/
def ws_out (N : Nat) (v : Int32) : Prop := v < 0 ∨ ∃ j : Nat, j < 2 ^ 31 ∧ N ≤ j ∧ v = nI j
theorem ws_io (N : Nat) (v : Int32) : ws_out N v ∨ ∃ j : Nat, j < N ∧ v = nI j := by
  cases ws_neg v with
  | inl h => exact Or.inl (Or.inl h)
  | inr h =>
    obtain ⟨j, hj, e⟩ := h
    by_cases z : j < N
    · exact Or.inr ⟨j, z, e⟩
    · exact Or.inl (Or.inr ⟨j, hj, by omega, e⟩)
theorem xl_igB {post : Int32 → Prop} {v : Int32} (hv : ws_out 8 v) (h : post 0) : wpX_isGood post (ws_X A C E K bo n) v := by
  cases hv with
  | inl z => exact xl_ig_n z h
  | inr z =>
    obtain ⟨j, hj, h8, e⟩ := z
    subst e
    exact xl_ig_h hj h8 h
theorem yl_bwB {post : Int32 → Prop} {v : Int32} (hv : ws_out 8 v) (h : post 1) : wpY_badWord post (ws_Y A C E K bo n) v := by
  cases hv with
  | inl z => exact yl_bw_n z h
  | inr z =>
    obtain ⟨j, hj, h8, e⟩ := z
    subst e
    exact yl_bw_h hj h8 h
theorem xl_ilB {post : Int32 → Prop} {v : Int32} (hn : n ≤ 24) (hv : ws_out 24 v) (h : post 0) : wpX_isLive post (ws_X A C E K bo n) v := by
  cases hv with
  | inl z => exact xl_il_n z h
  | inr z =>
    obtain ⟨j, hj, h8, e⟩ := z
    subst e
    exact xl_il_h hj h8 hn h
theorem yl_bdB {post : Int32 → Prop} {v : Int32} (hv : ws_out 24 v) (h : post 1) : wpY_bad post (ws_Y A C E K bo n) v := by
  cases hv with
  | inl z => exact yl_bd_n z h
  | inr z =>
    obtain ⟨j, hj, h8, e⟩ := z
    subst e
    exact yl_bd_h hj h8 h
theorem xl_ipB {post : Int32 → Prop} {v : Int32} (hv : ws_out 10 v) (h : post 0) : wpX_isPosition post (ws_X A C E K bo n) v := by
  cases hv with
  | inl z => exact xl_ip_n z h
  | inr z =>
    obtain ⟨j, hj, h8, e⟩ := z
    subst e
    exact xl_ip_h hj h8 h
/-- a test 'below 0, or above M', the outcome the same -/
theorem ws_oo {P Q : Prop} {v M : Int32} {N : Nat} (hv : ws_out (N + 1) v) (h : P) (hM : M = nI N := by rfl) (hN : N < 2 ^ 31 := by decide) : (v < 0 → P) ∧ (¬ v < 0 → (v ≤ M → Q) ∧ (¬ v ≤ M → P)) := by
  subst hM
  cases hv with
  | inl z => exact br_t z h
  | inr z =>
    obtain ⟨j, hj, h8, e⟩ := z
    subst e
    exact br_f (nI_pos hj) (br_f (nI_ge (by omega) hj) h)
theorem ws_oi {P Q : Prop} {j : Nat} {M : Int32} {N : Nat} (hj : j ≤ N) (h : Q) (hM : M = nI N := by rfl) (hN : N < 2 ^ 31 := by decide) : (nI j < 0 → P) ∧ (¬ nI j < 0 → (nI j ≤ M → Q) ∧ (¬ nI j ≤ M → P)) := by
  subst hM
  exact br_f (nI_pos (by omega)) (br_t (nI_le hj hN) h)
/-! X: a document begun, a word entered -/
theorem xl_open {post : SX → Prop} (hn : n < 24) (h0 : E n = 0) (hC0 : ∀ j, 8 * n ≤ j → C j = 0) (h : post (ws_X A C (ws_up E n 1) K bo (n + 1))) : wpX_openDocument post (ws_X A C E K bo n) := by
  have c : (nI n).toNatClampNeg = n := nI_clamp (by omega)
  have e1 : upd (fun d => nI (E d)) (nI n).toNatClampNeg (vp_nar .boolean 1) = fun d => nI (ws_up E n 1 d) := by
    rw [c, ws_t1]
    exact ws_upI E n 1
  have e2 : nI (ws_sm E 24) + 1 = nI (ws_sm (ws_up E n 1) 24) := by
    have q := ws_E_u (E := E) 1 hn
    rw [nI_1]
    exact congrArg nI (by omega)
  have e3 : (fun t => nI (ws_h (ws_up E n 1) C t)) = fun t => nI (ws_h E C t) := by
    funext t
    rw [ws_h_n hn h0 hC0 t]
  unfold ws_X at h
  rw [e3] at h
  exact ⟨vp_in_nI hn (by decide), nm_r e1 (nm_r (nI_1 n) (nm_r e2 h))⟩
theorem xl_enter {post : SX → Prop} {d w x : Nat} {y : Int32} (hd : d < 24) (hw : w < 8) (hx : x ≤ 7) (h0 : C (8 * d + w) = 0) (h1 : E d = 1) (hy : y = nI x) (h : post (ws_X A (ws_up C (8 * d + w) x) E K bo n)) : wpX_enter post (ws_X A C E K bo n) (nI d) (nI w) y := by
  subst hy
  have cd : (nI d).toNatClampNeg = d := nI_clamp (by omega)
  have cw : (nI w).toNatClampNeg = w := nI_clamp (by omega)
  have vd : vp_in (nI d) 24 := vp_in_nI hd (by decide)
  have vw : vp_in (nI w) 8 := vp_in_nI hw (by decide)
  have e1 : upd (fun j => nI (C j)) (nI d * 8 + nI w).toNatClampNeg (nI x) = fun j => nI (ws_up C (8 * d + w) x j) := by
    rw [ws_cX hd hw]
    exact ws_upI C _ x
  have e2 : upd (fun e => nI (ws_L C e)) (nI d).toNatClampNeg (nI (ws_L C (nI d).toNatClampNeg) + nI x) = fun e => nI (ws_L (ws_up C (8 * d + w) x) e) := by
    rw [cd]
    exact ws_fun (by rw [nI_add, ws_L_e hw h0]) (fun j hj => ws_L_o hw hj)
  have q := ws_h_e (E := E) (x := x) hd hw h0 h1
  refine ⟨ws_vX hd hw, nm_r e1 ⟨vd, vd, nm_r e2 (ws_brC x hx (fun z => ?_) (fun z => ⟨vw, vw, nm_r (e' := fun t => nI (ws_h E (ws_up C (8 * d + w) x) t)) ?_ h⟩))⟩⟩
  · have e3 : (fun t => nI (ws_h E (ws_up C (8 * d + w) x) t)) = fun t => nI (ws_h E C t) := by
      funext t
      by_cases zt : t = w
      · rw [zt, q, z, ws_b0, Nat.add_zero]
      · rw [ws_h_o hw zt]
    unfold ws_X at h
    rw [e3] at h
    exact h
  · show upd (fun t => nI (ws_h E C t)) (nI w).toNatClampNeg (nI (ws_h E C (nI w).toNatClampNeg) + 1) = _
    rw [cw]
    exact ws_fun (by rw [nI_1, q, ws_bp z]) (fun j hj => ws_h_o hw hj)
/-! add -/
theorem xl_ad {post : Int32 → SX → Prop} (hn : n < 24) (hA : ∀ j, A j ≤ 7) (hC0 : ∀ j, 8 * n ≤ j → C j = 0) (h : post (nI n) (ws_X A (ws_rw C n A 8) (ws_up E n 1) K bo (n + 1))) : ∀ f w, w + f = 8 → wX_add_22 post (nI n) (f + 1) (nI w) (nI (ws_sm A 8)) (nI (n + 1)) (nI (ws_sm (ws_up E n 1) 24)) (nI (ws_it K)) (fun j => nI (A j)) (fun j => nI ((ws_rw C n A w) j)) (fun d => nI (ws_L (ws_rw C n A w) d)) (fun d => nI ((ws_up E n 1) d)) (fun t => nI (ws_h (ws_up E n 1) (ws_rw C n A w) t)) (fun t => nI (K t)) bo := by
  intro f
  induction f with
  | zero =>
    intro w e
    have e8 : w = 8 := by omega
    subst e8
    exact br_t (by decide) h
  | succ f ih =>
    intro w e
    have hw : w < 8 := by omega
    have c : (nI w).toNatClampNeg = w := nI_clamp (by omega)
    have g := ih (w + 1) (by omega)
    rw [← ws_rw_s C n A w] at g
    exact br_f (nI_ge (b := 8) hw (by decide)) ⟨vp_in_nI hw (by decide), xl_enter (x := A w) hn hw (hA w) (by rw [ws_rw_o (by omega)]; exact hC0 _ (by omega)) ws_us (congrArg (fun j => nI (A j)) c) (nm_r (nI_1 w) g)⟩
theorem yl_ad {post : Int32 → SY → Prop} (hn : n < 24) (h : post (nI n) (ws_Y A (ws_rw C n A 8) (ws_up E n 1) K bo (n + 1))) : ∀ f w, w + f = 8 → wY_add_15 post (nI n) (nI n) (f + 1) (nI w) (fun j => nI (A j)) (fun j => nI (ws_rw C n A w j)) (fun d => nI (E d)) (fun t => nI (K t)) bo := by
  have cn : (nI n).toNatClampNeg = n := nI_clamp (by omega)
  intro f
  induction f with
  | zero =>
    intro w e
    have e8 : w = 8 := by omega
    subst e8
    exact br_t (by decide) ⟨vp_in_nI hn (by decide), nm_r (e' := fun d => nI (ws_up E n 1 d)) (by rw [cn, ws_t1]; exact ws_upI E n 1) (nm_r (nI_1 n) h)⟩
  | succ f ih =>
    intro w e
    have hw : w < 8 := by omega
    have c : (nI w).toNatClampNeg = w := nI_clamp (by omega)
    have g := ih (w + 1) (by omega)
    refine br_f (nI_ge (b := 8) hw (by decide)) ⟨vp_in_nI hw (by decide), ws_vY hn hw, nm_r (e' := fun j => nI (ws_rw C n A (w + 1) j)) ?_ (nm_r (nI_1 w) g)⟩
    rw [ws_cY hn hw, c, ← ws_rw_s]
    exact ws_upI _ _ _
/-! addMany -/
theorem xl_pt {post : Int32 → Prop} {s k w : Nat} (hs : s ≤ 10) (hk : k < 24) (hw : w < 8) (h : post (nI (ws_pt s k w))) : wpX_patternTimes post (ws_X A C E K bo n) (nI s) (nI k) (nI w) := by
  unfold wpX_patternTimes
  dsimp only [ws_X]
  rw [ws_pt_a, ws_pt_m (ws_pt_b hs hk hw)]
  exact ⟨by decide, nm_e (ws_pt_n (P := post) (Nat.mod_lt _ (by decide)) rfl h)⟩
theorem xl_am {post : Int32 → SX → Prop} {J : Int32 → Int32 → Int32 → Int32 → Int32 → (Nat → Int32) → (Nat → Int32) → (Nat → Int32) → (Nat → Int32) → (Nat → Int32) → (Nat → Int32) → (Nat → Int32) → Prop} {x2 x3 : Int32} {s k : Nat} (hs : s ≤ 10) (hk : k < 24) (hn : n < 24) (hC0 : ∀ j, 8 * n ≤ j → C j = 0) (h : J (nI (k + 1)) (nI (ws_sm A 8)) (nI (n + 1)) (nI (ws_sm (ws_up E n 1) 24)) (nI (ws_it K)) (fun j => nI (A j)) (fun j => nI ((ws_rw C n (ws_pt s k) 8) j)) (fun d => nI (ws_L (ws_rw C n (ws_pt s k) 8) d)) (fun d => nI ((ws_up E n 1) d)) (fun t => nI (ws_h (ws_up E n 1) (ws_rw C n (ws_pt s k) 8) t)) (fun t => nI (K t)) bo) : ∀ f w, w + f = 8 → wX_addMany_62 post J (nI s) x2 x3 (nI k) (nI n) (f + 1) (nI w) (nI (ws_sm A 8)) (nI (n + 1)) (nI (ws_sm (ws_up E n 1) 24)) (nI (ws_it K)) (fun j => nI (A j)) (fun j => nI ((ws_rw C n (ws_pt s k) w) j)) (fun d => nI (ws_L (ws_rw C n (ws_pt s k) w) d)) (fun d => nI ((ws_up E n 1) d)) (fun t => nI (ws_h (ws_up E n 1) (ws_rw C n (ws_pt s k) w) t)) (fun t => nI (K t)) bo := by
  intro f
  induction f with
  | zero =>
    intro w e
    have e8 : w = 8 := by omega
    subst e8
    exact br_t (by decide) (nm_r (nI_1 k) h)
  | succ f ih =>
    intro w e
    have hw : w < 8 := by omega
    have g := ih (w + 1) (by omega)
    rw [← ws_rw_s C n (ws_pt s k) w] at g
    exact br_f (nI_ge (b := 8) hw (by decide)) (xl_pt hs hk hw (xl_enter (x := ws_pt s k w) hn hw (ws_pt_le s k w) (by rw [ws_rw_o (by omega)]; exact hC0 _ (by omega)) ws_us rfl (nm_r (nI_1 w) g)))
theorem yl_am {post : Int32 → SY → Prop} {J : Int32 → Int32 → Int32 → (Nat → Int32) → (Nat → Int32) → (Nat → Int32) → (Nat → Int32) → (Nat → Int32) → Prop} {x2 : Int32} {s k m : Nat} (hs : s ≤ 10) (hk : k < 24) (hn : n < 24) (h : J (nI (m + 1)) (nI (k + 1)) (nI (n + 1)) (fun j => nI (A j)) (fun j => nI ((ws_rw C n (ws_pt s k) 8) j)) (fun d => nI ((ws_up E n 1) d)) (fun t => nI (K t)) bo) : ∀ f w, w + f = 8 → wY_addMany_53 post J (nI s) x2 (nI m) (nI k) (nI n) (nI n) (f + 1) (nI w) (fun j => nI (A j)) (fun j => nI (ws_rw C n (ws_pt s k) w j)) (fun d => nI (E d)) (fun t => nI (K t)) bo := by
  have cn : (nI n).toNatClampNeg = n := nI_clamp (by omega)
  intro f
  induction f with
  | zero =>
    intro w e
    have e8 : w = 8 := by omega
    subst e8
    exact br_t (by decide) ⟨vp_in_nI hn (by decide), nm_r (e' := fun d => nI (ws_up E n 1 d)) (by rw [cn, ws_t1]; exact ws_upI E n 1) (nm_r (nI_1 n) (nm_r (nI_1 m) (nm_r (nI_1 k) h)))⟩
  | succ f ih =>
    intro w e
    have hw : w < 8 := by omega
    have c : (nI w).toNatClampNeg = w := nI_clamp (by omega)
    have g := ih (w + 1) (by omega)
    refine br_f (nI_ge (b := 8) hw (by decide)) ⟨by decide, nm_r (e' := nI ((s + 5 * k + 3 * w + k * w) % 11) - nI 3) (by rw [ws_pt_a, ws_pt_m (ws_pt_b hs hk hw)]) (ws_pt_n (P := fun z => vp_in (8 * nI n + nI w) 192 ∧ ∀ a : Nat → Int32, a = upd (fun j => nI (ws_rw C n (ws_pt s k) w j)) (8 * nI n + nI w).toNatClampNeg z → ∀ y : Int32, y = nI w + 1 → wY_addMany_53 post J (nI s) x2 (nI m) (nI k) (nI n) (nI n) (f + 1) y (fun j => nI (A j)) a (fun d => nI (E d)) (fun t => nI (K t)) bo) (Nat.mod_lt _ (by decide)) rfl ⟨ws_vY hn hw, nm_r (e' := fun j => nI (ws_rw C n (ws_pt s k) (w + 1) j)) ?_ (nm_r (nI_1 w) g)⟩)⟩
    rw [ws_cY hn hw, ← ws_rw_s]
    exact ws_upI _ _ _
theorem yl_af {post : Int32 → SY → Prop} {s c m : Nat} (hc : c ≤ 24) (hn : n = 24) (h : post (nI m) (ws_Y A C E K bo n)) : ∀ f k, k + f = c → wY_addMany_31 post (nI s) (nI c) (f + 1) (nI m) (nI k) (nI n) (fun j => nI (A j)) (fun j => nI (C j)) (fun d => nI (E d)) (fun t => nI (K t)) bo := by
  intro f
  induction f with
  | zero =>
    intro k e
    exact pk_le c k (fun _ => h) (fun q => absurd q (by omega))
  | succ f ih =>
    intro k e
    exact pk_le c k (fun q => absurd q (by omega)) (fun _ => br_t (by rw [hn]; decide) (nm_r (nI_1 k) (ih (k + 1) (by omega))))
theorem ws_am {s c n0 : Nat} (hs : s ≤ 10) (hc : c ≤ 24) : ∀ (f k : Nat) (C E : Nat → Nat) (n : Nat), k + f = c → ws_ok A C E K n → n0 ≤ n → ∃ (D F : Nat → Nat) (m : Nat), ws_ok A D F K m ∧
    (∀ post : Int32 → SX → Prop, post (nI (m - n0)) (ws_X A D F K bo m) → wX_addMany_34 post (nI s) (nI c) (nI n0) (f + 1) (nI k) (nI (ws_sm A 8)) (nI n) (nI (ws_sm E 24)) (nI (ws_it K)) (fun j => nI (A j)) (fun j => nI (C j)) (fun d => nI (ws_L C d)) (fun d => nI (E d)) (fun t => nI (ws_h E C t)) (fun t => nI (K t)) bo) ∧
    (∀ post : Int32 → SY → Prop, post (nI (m - n0)) (ws_Y A D F K bo m) → wY_addMany_31 post (nI s) (nI c) (f + 1) (nI (n - n0)) (nI k) (nI n) (fun j => nI (A j)) (fun j => nI (C j)) (fun d => nI (E d)) (fun t => nI (K t)) bo) := by
  intro f
  induction f with
  | zero =>
    intro k C E n e ok hn
    exact ⟨C, E, n, ok, fun post h => pk_le c k (fun _ => by rw [pk_sub hn]; exact h) (fun q => absurd q (by omega)), fun post h => pk_le c k (fun _ => h) (fun q => absurd q (by omega))⟩
  | succ f ih =>
    intro k C E n e ok hn
    have n24 : n ≤ 24 := ok.1
    have hE0 : ∀ d, n ≤ d → E d = 0 := ok.2.2.2.2.1
    have hC0 : ∀ j, 8 * n ≤ j → C j = 0 := ok.2.2.2.2.2.1
    by_cases z : n < 24
    · obtain ⟨D, F, m, ok', hX, hY⟩ := ih (k + 1) (ws_rw C n (ws_pt s k) 8) (ws_up E n 1) (n + 1) (by omega) (ws_ok_add (ws_pt s k) (ws_pt_le s k) z ok) (by omega)
      have en : n + 1 - n0 = n - n0 + 1 := by omega
      rw [en] at hY
      have nge : ¬ (24 : Int32) ≤ nI n := nI_ge (b := 24) z (by decide)
      refine ⟨D, F, m, ok', fun post h => pk_le c k (fun q => absurd q (by omega)) (fun _ => br_f nge (xl_open z (hE0 n (Nat.le_refl n)) hC0 ⟨9, ?_⟩)), fun post h => pk_le c k (fun q => absurd q (by omega)) (fun _ => br_f nge ⟨9, ?_⟩)⟩
      · have g := xl_am (A := A) (E := E) (K := K) (bo := bo) (post := post) (J := wX_addMany_34 post (nI s) (nI c) (nI n0) (f + 1)) (x2 := nI c) (x3 := nI n0) hs (show k < 24 by omega) z hC0 (hX post h) 8 0 rfl
        rw [ws_rw_0] at g
        exact g
      · have g := yl_am (A := A) (C := C) (E := E) (K := K) (bo := bo) (post := post) (J := wY_addMany_31 post (nI s) (nI c) (f + 1)) (x2 := nI c) hs (show k < 24 by omega) z (hY post h) 8 0 rfl
        rw [ws_rw_0] at g
        exact g
    · have e24 : n = 24 := by omega
      exact ⟨C, E, n, ok, fun post h => pk_le c k (fun q => absurd q (by omega)) (fun _ => br_t (by rw [e24]; decide) (by rw [pk_sub hn]; exact h)), fun post h => yl_af hc e24 h (f + 1) k e⟩
end
