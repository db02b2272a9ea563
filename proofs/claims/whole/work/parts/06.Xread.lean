section
variable {A C E K : Nat → Nat} {bo : Nat → Int32} {n : Nat}
/-! X: the tests of the arguments -/
theorem xl_ig_n {post : Int32 → Prop} {v : Int32} (hv : v < 0) (h : post 0) : wpX_isGood post (ws_X A C E K bo n) v := br_t hv h
theorem xl_ig_h {post : Int32 → Prop} {j : Nat} (hj : j < 2 ^ 31) (h8 : 8 ≤ j) (h : post 0) : wpX_isGood post (ws_X A C E K bo n) (nI j) :=
  br_f (nI_pos hj) (pk_le 8 j (fun _ => h) (fun q => absurd q (by omega)))
theorem xl_ig {post : Int32 → Prop} {j : Nat} (hj : j < 8) (h : post 1) : wpX_isGood post (ws_X A C E K bo n) (nI j) :=
  br_f (nI_pos (by omega)) (pk_le 8 j (fun q => absurd q (by omega)) (fun _ => h))
theorem xl_ip_n {post : Int32 → Prop} {v : Int32} (hv : v < 0) (h : post 0) : wpX_isPosition post (ws_X A C E K bo n) v := br_t hv h
theorem xl_ip_h {post : Int32 → Prop} {j : Nat} (hj : j < 2 ^ 31) (h8 : 10 ≤ j) (h : post 0) : wpX_isPosition post (ws_X A C E K bo n) (nI j) :=
  br_f (nI_pos hj) (pk_lt 9 j (fun _ => h) (fun q => absurd q (by omega)))
theorem xl_ip {post : Int32 → Prop} {j : Nat} (hj : j < 10) (h : post 1) : wpX_isPosition post (ws_X A C E K bo n) (nI j) :=
  br_f (nI_pos (by omega)) (pk_lt 9 j (fun q => absurd q (by omega)) (fun _ => h))
theorem xl_il_n {post : Int32 → Prop} {v : Int32} (hv : v < 0) (h : post 0) : wpX_isLive post (ws_X A C E K bo n) v := br_t hv h
theorem xl_il_h {post : Int32 → Prop} {j : Nat} (hj : j < 2 ^ 31) (h8 : 24 ≤ j) (hn : n ≤ 24) (h : post 0) : wpX_isLive post (ws_X A C E K bo n) (nI j) :=
  br_f (nI_pos hj) (pk_le n j (fun _ => h) (fun q => absurd q (by omega)))
theorem xl_il {post : Int32 → Prop} {j : Nat} (hj : j < 24) (hn : n ≤ 24) (h0 : ∀ d, n ≤ d → E d = 0) (hE : ∀ d, E d ≤ 1) (h : post (nI (E j))) : wpX_isLive post (ws_X A C E K bo n) (nI j) := by
  have c : (nI j).toNatClampNeg = j := nI_clamp (by omega)
  refine br_f (nI_pos (by omega)) (pk_le n j (fun q => ?_) (fun _ => ⟨vp_in_nI hj (by decide), ws_br (E j) (hE j) (fun z => ?_) (fun z => ?_) (congrArg (fun i => nI (E i)) c)⟩))
  · rw [h0 j q] at h; exact h
  · rw [z] at h; exact h
  · rw [z] at h; exact h
theorem xl_has {post : Int32 → Prop} {d w : Nat} (hd : d < 24) (hw : w < 8) (hC : ∀ j, C j ≤ 7) (h : post (nI (ws_b (C (8 * d + w))))) : wpX_has post (ws_X A C E K bo n) (nI d) (nI w) := by
  refine ⟨ws_vX hd hw, ws_brC (C (8 * d + w)) (hC _) (fun z => ?_) (fun z => ?_) (congrArg (fun i => nI (C i)) (ws_cX hd hw))⟩
  · rw [z, ws_b0] at h; exact h
  · rw [ws_bp z] at h; exact h
/-! X: the score -/
theorem xl_ra {post : Int32 → Prop} {t : Nat} (ht : t < 8) (hE : ∀ d, E d ≤ 1) (h : post (nI (ws_ra E C t))) : wpX_rarity post (ws_X A C E K bo n) (nI t) := by
  have c : (nI t).toNatClampNeg = t := nI_clamp (by omega)
  unfold wpX_rarity
  dsimp only
  rw [c, ws_raI hE t]
  exact ⟨vp_in_nI ht (by decide), ws_ra0 hE t, h⟩
theorem xl_st {post : Int32 → Prop} {d t : Nat} (hd : d < 24) (ht : t < 8) (hC : ∀ j, C j ≤ 7) (h : post (nI (ws_st C d t))) : wpX_strength post (ws_X A C E K bo n) (nI d) (nI t) := by
  have c : (nI d).toNatClampNeg = d := nI_clamp (by omega)
  refine ⟨ws_vX hd ht, nm_r (e' := nI (C (8 * d + t))) (congrArg (fun i => nI (C i)) (ws_cX hd ht)) ⟨vp_in_nI hd (by decide), by decide, ?_⟩⟩
  rw [c, ws_unI hC, ws_stI hC]
  exact ⟨ws_un0 hC d t, h⟩
/-! X: matching -/
theorem xl_mb {post : Int32 → Prop} {J : Int32 → Int32 → Prop} {d t a x : Nat} (k3 : K t ≤ 3)
    (h0 : (K t = 3 ∧ 0 < x) ∨ (K t = 2 ∧ x = 0) → post 0)
    (h1 : ¬ ((K t = 3 ∧ 0 < x) ∨ (K t = 2 ∧ x = 0)) → 0 < x ∧ 0 < K t → J 1 (nI (t + 1)))
    (h2 : ¬ ((K t = 3 ∧ 0 < x) ∨ (K t = 2 ∧ x = 0)) → ¬ (0 < x ∧ 0 < K t) → J (nI a) (nI (t + 1))) :
    (nI (K t) = 3 → ((nI (ws_b x) = 0 → wX_matches_47 post J (nI d) (nI a) (nI t) (nI (K t)) (nI (ws_b x)) (nI (ws_sm A 8)) (nI n) (nI (ws_sm E 24)) (nI (ws_it K)) (fun j => nI (A j)) (fun j => nI (C j)) (fun d => nI (ws_L C d)) (fun d => nI (E d)) (fun t => nI (ws_h E C t)) (fun t => nI (K t)) bo) ∧ (¬ nI (ws_b x) = 0 → post 0))) ∧ (¬ nI (K t) = 3 → wX_matches_47 post J (nI d) (nI a) (nI t) (nI (K t)) (nI (ws_b x)) (nI (ws_sm A 8)) (nI n) (nI (ws_sm E 24)) (nI (ws_it K)) (fun j => nI (A j)) (fun j => nI (C j)) (fun d => nI (ws_L C d)) (fun d => nI (E d)) (fun t => nI (ws_h E C t)) (fun t => nI (K t)) bo) := by
  unfold wX_matches_47 wX_matches_60
  by_cases hx : 0 < x
  · rw [ws_bp hx]
    exact pk_eq (K t) 3 (fun q => br_f (by decide) (h0 (Or.inl ⟨q, hx⟩))) (fun q => pk_eq (K t) 2
      (fun q2 => br_f (by decide) (pk_eq (K t) 0 (fun q0 => absurd q0 (by omega)) (fun q0 => br_f (by decide) (nm_r (nI_1 t) (h1 (by omega) ⟨hx, by omega⟩)))))
      (fun q2 => pk_eq (K t) 0 (fun q0 => nm_r (nI_1 t) (h2 (by omega) (by omega))) (fun q0 => br_f (by decide) (nm_r (nI_1 t) (h1 (by omega) ⟨hx, by omega⟩)))))
  · have z : x = 0 := by omega
    rw [z, ws_b0]
    exact pk_eq (K t) 3 (fun q => br_t rfl (pk_eq (K t) 2 (fun q2 => absurd q (by omega)) (fun q2 => pk_eq (K t) 0 (fun q0 => absurd q (by omega)) (fun q0 => br_t rfl (nm_r (nI_1 t) (h2 (by omega) (by omega)))))))
      (fun q => pk_eq (K t) 2 (fun q2 => br_t rfl (h0 (by omega))) (fun q2 => pk_eq (K t) 0 (fun q0 => nm_r (nI_1 t) (h2 (by omega) (by omega))) (fun q0 => br_t rfl (nm_r (nI_1 t) (h2 (by omega) (by omega))))))
theorem xl_ma' {post : Int32 → Prop} {d : Nat} (hd : d < 24) (hC : ∀ j, C j ≤ 7) (hK : ∀ t, K t ≤ 3) : ∀ f t a, t + f = 8 → a ≤ 1 → post (nI (ws_go C K d f t a)) → wX_matches_14 post (nI d) (nI (ws_sm A 8)) (nI n) (nI (ws_sm E 24)) (nI (ws_it K)) (fun j => nI (A j)) (fun j => nI (C j)) (fun d => nI (ws_L C d)) (fun d => nI (E d)) (fun t => nI (ws_h E C t)) (fun t => nI (K t)) bo (f + 1) (nI a) (nI t) := by
  intro f
  induction f with
  | zero =>
    intro t a e ha h
    have e8 : t = 8 := by omega
    subst e8
    exact br_t (by decide) ⟨ws_nar ha, h⟩
  | succ f ih =>
    intro t a e ha h
    have ht : t < 8 := by omega
    have c : (nI t).toNatClampNeg = t := nI_clamp (by omega)
    have m := xl_mb (post := post) (J := wX_matches_14 post (nI d) (nI (ws_sm A 8)) (nI n) (nI (ws_sm E 24)) (nI (ws_it K)) (fun j => nI (A j)) (fun j => nI (C j)) (fun d => nI (ws_L C d)) (fun d => nI (E d)) (fun t => nI (ws_h E C t)) (fun t => nI (K t)) bo (f + 1)) (A := A) (C := C) (E := E) (K := K) (bo := bo) (n := n) (d := d) (t := t) (a := a) (x := C (8 * d + t)) (hK t)
      (fun q => by rw [ws_go_n q] at h; exact h)
      (fun q q2 => ih (t + 1) 1 (by omega) (Nat.le_refl 1) (by rw [ws_go_y q q2] at h; exact h))
      (fun q q2 => ih (t + 1) a (by omega) ha (by rw [ws_go_k q q2] at h; exact h))
    exact br_f (nI_ge (b := 8) ht (by decide)) ⟨vp_in_nI ht (by decide), nm_r (e' := nI (K t)) (congrArg (fun j => nI (K j)) c) (xl_has hd ht hC m)⟩
theorem xl_ma {post : Int32 → Prop} {d : Nat} (hd : d < 24) (hn : n ≤ 24) (h0 : ∀ d, n ≤ d → E d = 0) (hE : ∀ d, E d ≤ 1) (hC : ∀ j, C j ≤ 7) (hK : ∀ t, K t ≤ 3) (h : post (nI (ws_M E C K d))) : wpX_matches post (ws_X A C E K bo n) (nI d) := by
  unfold wpX_matches
  dsimp only [ws_X]
  refine xl_il hd hn h0 hE (ws_br (E d) (hE d) (fun z => ?_) (fun z => ⟨9, xl_ma' hd hC hK 8 0 0 rfl (Nat.zero_le 1) ?_⟩))
  · rw [ws_M_0 z] at h; exact h
  · rw [ws_M_1 (by omega)] at h; exact h
/-! X: the score's loop -/
theorem xl_s1 {post : Int32 → Prop} {d : Nat} (hd : d < 24) (hE : ∀ d, E d ≤ 1) (hC : ∀ j, C j ≤ 7) (hK : ∀ t, K t ≤ 3) (h : post (ws_S E C K bo d)) : ∀ f t, t + f = 8 → wX_scoreOf_4 post (nI d) (nI (ws_sm A 8)) (nI n) (nI (ws_sm E 24)) (nI (ws_it K)) (fun j => nI (A j)) (fun j => nI (C j)) (fun d => nI (ws_L C d)) (fun d => nI (E d)) (fun t => nI (ws_h E C t)) (fun t => nI (K t)) bo (f + 1) (ws_sc E C K bo d t) (nI t) := by
  intro f
  induction f with
  | zero =>
    intro t e
    have e8 : t = 8 := by omega
    subst e8
    exact br_t (by decide) h
  | succ f ih =>
    intro t e
    have ht : t < 8 := by omega
    have hv : vp_in (nI t) 8 := vp_in_nI ht (by decide)
    have c : (nI t).toNatClampNeg = t := nI_clamp (by omega)
    have ck : (fun j => nI (K j)) (nI t).toNatClampNeg = nI (K t) := congrArg (fun j => nI (K j)) c
    have k3 := hK t
    have g := ih (t + 1) (by omega)
    have gs : ws_sc E C K bo d (t + 1) = ws_sc E C K bo d t + ws_tm E C K bo d t := rfl
    have b30 : (K t = 1 ∨ K t = 2) → wX_scoreOf_30 post (wX_scoreOf_4 post (nI d) (nI (ws_sm A 8)) (nI n) (nI (ws_sm E 24)) (nI (ws_it K)) (fun j => nI (A j)) (fun j => nI (C j)) (fun d => nI (ws_L C d)) (fun d => nI (E d)) (fun t => nI (ws_h E C t)) (fun t => nI (K t)) bo (f + 1)) (nI d) (ws_sc E C K bo d t) (nI t) (nI (ws_sm A 8)) (nI n) (nI (ws_sm E 24)) (nI (ws_it K)) (fun j => nI (A j)) (fun j => nI (C j)) (fun d => nI (ws_L C d)) (fun d => nI (E d)) (fun t => nI (ws_h E C t)) (fun t => nI (K t)) bo :=
      fun q => ⟨hv, xl_ra ht hE (xl_st hd ht hC (nm_r (e' := ws_sc E C K bo d (t + 1)) (by rw [c, ws_tm_x q, gs]) (nm_r (nI_1 t) g)))⟩
    refine br_f (nI_ge (b := 8) ht (by decide)) ⟨hv, pk_eq (K t) 1 (fun q => b30 (Or.inl q)) (fun q1 => ⟨hv, pk_eq (K t) 2 (fun q => b30 (Or.inr q)) (fun q2 => nm_r (nI_1 t) ?_) ck⟩) ck⟩
    rw [gs, ws_tm_0 (by omega), Int32.add_zero] at g
    exact g
theorem xl_so {post : Int32 → Prop} {d : Nat} (hd : d < 24) (hE : ∀ d, E d ≤ 1) (hC : ∀ j, C j ≤ 7) (hK : ∀ t, K t ≤ 3) (h : post (ws_S E C K bo d)) : wpX_scoreOf post (ws_X A C E K bo n) (nI d) := ⟨9, xl_s1 hd hE hC hK h 8 0 rfl⟩
/-! X: over the documents -/
theorem xl_mt' {post : Int32 → Prop} (hn : n ≤ 24) (h0 : ∀ d, n ≤ d → E d = 0) (hE : ∀ d, E d ≤ 1) (hC : ∀ j, C j ≤ 7) (hK : ∀ t, K t ≤ 3) (h : post (nI (ws_sm (ws_M E C K) n))) : ∀ f i, i + f = n → wX_matching_4 post (nI (ws_sm A 8)) (nI n) (nI (ws_sm E 24)) (nI (ws_it K)) (fun j => nI (A j)) (fun j => nI (C j)) (fun d => nI (ws_L C d)) (fun d => nI (E d)) (fun t => nI (ws_h E C t)) (fun t => nI (K t)) bo (f + 1) (nI (ws_sm (ws_M E C K) i)) (nI i) := by
  intro f
  induction f with
  | zero =>
    intro i e
    have e8 : i = n := by omega
    subst e8
    exact pk_le i i (fun _ => h) (fun q => absurd q (by omega))
  | succ f ih =>
    intro i e
    have hi : i < 24 := by omega
    have g := ih (i + 1) (by omega)
    rw [ws_sm_s (ws_M E C K) i] at g
    refine pk_le n i (fun q => absurd q (by omega)) (fun _ => xl_ma hi hn h0 hE hC hK (ws_br (ws_M E C K i) (ws_M_le E C K i) (fun z => nm_r (nI_1 i) ?_) (fun z => nm_r (nI_1 _) (nm_r (nI_1 i) ?_))))
    · rw [z] at g; exact g
    · rw [z] at g; exact g
theorem xl_mt {post : Int32 → Prop} (hn : n ≤ 24) (h0 : ∀ d, n ≤ d → E d = 0) (hE : ∀ d, E d ≤ 1) (hC : ∀ j, C j ≤ 7) (hK : ∀ t, K t ≤ 3) (h : post (nI (ws_sm (ws_M E C K) 24))) : wpX_matching post (ws_X A C E K bo n) := by
  rw [ws_sm_x (fun j hj => ws_M_0 (h0 j hj)) 24 hn] at h
  exact ⟨n + 1, xl_mt' hn h0 hE hC hK h n 0 (Nat.zero_add n)⟩
theorem xl_sg' {post : Int32 → Prop} {b : Int32} (hn : n ≤ 24) (h0 : ∀ d, n ≤ d → E d = 0) (hE : ∀ d, E d ≤ 1) (hC : ∀ j, C j ≤ 7) (hK : ∀ t, K t ≤ 3) (h : post (nI (ws_sm (ws_s1 E C K bo b) n))) : ∀ f i, i + f = n → wX_scoring_4 post b (nI (ws_sm A 8)) (nI n) (nI (ws_sm E 24)) (nI (ws_it K)) (fun j => nI (A j)) (fun j => nI (C j)) (fun d => nI (ws_L C d)) (fun d => nI (E d)) (fun t => nI (ws_h E C t)) (fun t => nI (K t)) bo (f + 1) (nI (ws_sm (ws_s1 E C K bo b) i)) (nI i) := by
  intro f
  induction f with
  | zero =>
    intro i e
    have e8 : i = n := by omega
    subst e8
    exact pk_le i i (fun _ => h) (fun q => absurd q (by omega))
  | succ f ih =>
    intro i e
    have hi : i < 24 := by omega
    have g := ih (i + 1) (by omega)
    rw [ws_sm_s (ws_s1 E C K bo b) i] at g
    refine pk_le n i (fun q => absurd q (by omega)) (fun _ => xl_ma hi hn h0 hE hC hK (ws_br (ws_M E C K i) (ws_M_le E C K i) (fun z => nm_r (nI_1 i) ?_) (fun z => xl_so hi hE hC hK (br_c (fun lt => nm_r (nI_1 i) ?_) (fun nl => nm_r (nI_1 _) (nm_r (nI_1 i) ?_))))))
    · rw [ws_s1_n (fun q => by omega)] at g; exact g
    · rw [ws_s1_n (fun q => Int32.not_le.mpr lt q.2)] at g; exact g
    · rw [ws_s1_y z (Int32.not_lt.mp nl)] at g; exact g
theorem xl_sg {post : Int32 → Prop} {b : Int32} (hn : n ≤ 24) (h0 : ∀ d, n ≤ d → E d = 0) (hE : ∀ d, E d ≤ 1) (hC : ∀ j, C j ≤ 7) (hK : ∀ t, K t ≤ 3) (h : post (nI (ws_sm (ws_s1 E C K bo b) 24))) : wpX_scoring post (ws_X A C E K bo n) b := by
  rw [ws_sm_x (fun j hj => ws_s1_n (fun q => by have z := ws_M_0 (C := C) (K := K) (h0 j hj); omega)) 24 hn] at h
  exact ⟨n + 1, xl_sg' hn h0 hE hC hK h n 0 (Nat.zero_add n)⟩
theorem xl_pl' {post : Int32 → Prop} {d : Nat} (hd : d < 24) (hn : n ≤ 24) (h0 : ∀ d, n ≤ d → E d = 0) (hE : ∀ d, E d ≤ 1) (hC : ∀ j, C j ≤ 7) (hK : ∀ t, K t ≤ 3) (h : post (nI (ws_sm (ws_a1 E C K bo d) n))) : ∀ f i, i + f = n → wX_placeOf_11 post (nI d) (ws_S E C K bo d) (nI (ws_sm A 8)) (nI n) (nI (ws_sm E 24)) (nI (ws_it K)) (fun j => nI (A j)) (fun j => nI (C j)) (fun d => nI (ws_L C d)) (fun d => nI (E d)) (fun t => nI (ws_h E C t)) (fun t => nI (K t)) bo (f + 1) (nI (ws_sm (ws_a1 E C K bo d) i)) (nI i) := by
  intro f
  induction f with
  | zero =>
    intro i e
    have e8 : i = n := by omega
    subst e8
    exact pk_le i i (fun _ => h) (fun q => absurd q (by omega))
  | succ f ih =>
    intro i e
    have hi : i < 24 := by omega
    have g := ih (i + 1) (by omega)
    rw [ws_sm_s (ws_a1 E C K bo d) i] at g
    refine pk_le n i (fun q => absurd q (by omega)) (fun _ => xl_ma hi hn h0 hE hC hK (ws_br (ws_M E C K i) (ws_M_le E C K i) (fun z => nm_r (nI_1 i) ?_) (fun z => xl_so hi hE hC hK (br_c (fun lt => nm_r (nI_1 _) (nm_r (nI_1 i) ?_)) (fun nl => br_c (fun eq => pk_le d i (fun q => nm_r (nI_1 i) ?_) (fun q => nm_r (nI_1 _) (nm_r (nI_1 i) ?_))) (fun ne => nm_r (nI_1 i) ?_))))))
    · rw [ws_a1_n (fun q => by omega)] at g; exact g
    · rw [ws_a1_y z (Or.inl lt)] at g; exact g
    · rw [ws_a1_n (fun p => p.2.elim nl (fun p2 => by omega))] at g; exact g
    · rw [ws_a1_y z (Or.inr ⟨eq, q⟩)] at g; exact g
    · rw [ws_a1_n (fun p => p.2.elim nl (fun p2 => ne p2.1))] at g; exact g
theorem xl_pl {post : Int32 → Prop} {d : Nat} (hd : d < 24) (hn : n ≤ 24) (h0 : ∀ d, n ≤ d → E d = 0) (hE : ∀ d, E d ≤ 1) (hC : ∀ j, C j ≤ 7) (hK : ∀ t, K t ≤ 3) (h : post (nI (ws_ah E C K bo d))) : wpX_placeOf post (ws_X A C E K bo n) (nI d) := by
  rw [← ws_ah_n hn h0] at h
  exact xl_so hd hE hC hK ⟨n + 1, xl_pl' hd hn h0 hE hC hK h n 0 (Nat.zero_add n)⟩
theorem xl_dc_s {post : Int32 → Prop} {p i f : Nat} (hp : p < 10) (hi : i < n) (hn : n ≤ 24) (h0 : ∀ d, n ≤ d → E d = 0) (hE : ∀ d, E d ≤ 1) (hC : ∀ j, C j ≤ 7) (hK : ∀ t, K t ≤ 3) (hq : ¬ (ws_M E C K i = 1 ∧ ws_ah E C K bo i = p)) (g : wX_documentAt_2 post (nI p) (nI (ws_sm A 8)) (nI n) (nI (ws_sm E 24)) (nI (ws_it K)) (fun j => nI (A j)) (fun j => nI (C j)) (fun d => nI (ws_L C d)) (fun d => nI (E d)) (fun t => nI (ws_h E C t)) (fun t => nI (K t)) bo f (nI (i + 1))) : wX_documentAt_2 post (nI p) (nI (ws_sm A 8)) (nI n) (nI (ws_sm E 24)) (nI (ws_it K)) (fun j => nI (A j)) (fun j => nI (C j)) (fun d => nI (ws_L C d)) (fun d => nI (E d)) (fun t => nI (ws_h E C t)) (fun t => nI (K t)) bo (f + 1) (nI i) := by
  have hb : ws_ah E C K bo i ≤ 24 := ws_sm_le (b := 1) (ws_a1_le E C K bo i) 24
  have h24 : i < 24 := by omega
  exact pk_le n i (fun q => absurd q (by omega)) (fun _ => xl_ma h24 hn h0 hE hC hK (ws_br (ws_M E C K i) (ws_M_le E C K i) (fun z => nm_r (nI_1 i) g) (fun z => xl_pl h24 hn h0 hE hC hK (pk_eq (ws_ah E C K bo i) p (fun q => absurd ⟨z, q⟩ hq) (fun q => nm_r (nI_1 i) g)))))
theorem xl_dc_t {post : Int32 → Prop} {p i f : Nat} (hp : p < 10) (hi : i < n) (hn : n ≤ 24) (h0 : ∀ d, n ≤ d → E d = 0) (hE : ∀ d, E d ≤ 1) (hC : ∀ j, C j ≤ 7) (hK : ∀ t, K t ≤ 3) (hq : ws_M E C K i = 1 ∧ ws_ah E C K bo i = p) (g : post (nI i)) : wX_documentAt_2 post (nI p) (nI (ws_sm A 8)) (nI n) (nI (ws_sm E 24)) (nI (ws_it K)) (fun j => nI (A j)) (fun j => nI (C j)) (fun d => nI (ws_L C d)) (fun d => nI (E d)) (fun t => nI (ws_h E C t)) (fun t => nI (K t)) bo (f + 1) (nI i) := by
  have hb : ws_ah E C K bo i ≤ 24 := ws_sm_le (b := 1) (ws_a1_le E C K bo i) 24
  have h24 : i < 24 := by omega
  exact pk_le n i (fun q => absurd q (by omega)) (fun _ => xl_ma h24 hn h0 hE hC hK (ws_br (ws_M E C K i) (ws_M_le E C K i) (fun z => absurd z (by omega)) (fun z => xl_pl h24 hn h0 hE hC hK (pk_eq (ws_ah E C K bo i) p (fun q => g) (fun q => absurd hq.2 q)))))
theorem xl_dc_n' {post : Int32 → Prop} {p : Nat} (hp : p < 10) (hn : n ≤ 24) (h0 : ∀ d, n ≤ d → E d = 0) (hE : ∀ d, E d ≤ 1) (hC : ∀ j, C j ≤ 7) (hK : ∀ t, K t ≤ 3) (hq : ∀ i, i < 24 → ¬ (ws_M E C K i = 1 ∧ ws_ah E C K bo i = p)) (h : post (-1)) : ∀ f i, i + f = n → wX_documentAt_2 post (nI p) (nI (ws_sm A 8)) (nI n) (nI (ws_sm E 24)) (nI (ws_it K)) (fun j => nI (A j)) (fun j => nI (C j)) (fun d => nI (ws_L C d)) (fun d => nI (E d)) (fun t => nI (ws_h E C t)) (fun t => nI (K t)) bo (f + 1) (nI i) := by
  intro f
  induction f with
  | zero =>
    intro i e
    have e8 : i = n := by omega
    subst e8
    exact pk_le i i (fun _ => h) (fun q => absurd q (by omega))
  | succ f ih =>
    intro i e
    exact xl_dc_s hp (by omega) hn h0 hE hC hK (hq i (by omega)) (ih (i + 1) (by omega))
theorem xl_dc_k' {post : Int32 → Prop} {p k : Nat} (hp : p < 10) (hk : k < n) (hn : n ≤ 24) (h0 : ∀ d, n ≤ d → E d = 0) (hE : ∀ d, E d ≤ 1) (hC : ∀ j, C j ≤ 7) (hK : ∀ t, K t ≤ 3) (hq : ws_M E C K k = 1 ∧ ws_ah E C K bo k = p) (hj : ∀ i, i < k → ¬ (ws_M E C K i = 1 ∧ ws_ah E C K bo i = p)) (h : post (nI k)) : ∀ f i, i + f = k → wX_documentAt_2 post (nI p) (nI (ws_sm A 8)) (nI n) (nI (ws_sm E 24)) (nI (ws_it K)) (fun j => nI (A j)) (fun j => nI (C j)) (fun d => nI (ws_L C d)) (fun d => nI (E d)) (fun t => nI (ws_h E C t)) (fun t => nI (K t)) bo (f + 1) (nI i) := by
  intro f
  induction f with
  | zero =>
    intro i e
    have e8 : i = k := by omega
    subst e8
    exact xl_dc_t hp hk hn h0 hE hC hK hq h
  | succ f ih =>
    intro i e
    exact xl_dc_s hp (by omega) hn h0 hE hC hK (hj i (by omega)) (ih (i + 1) (by omega))
theorem xl_dc_n {post : Int32 → Prop} {p : Nat} (hp : p < 10) (hn : n ≤ 24) (h0 : ∀ d, n ≤ d → E d = 0) (hE : ∀ d, E d ≤ 1) (hC : ∀ j, C j ≤ 7) (hK : ∀ t, K t ≤ 3) (hq : ∀ i, i < 24 → ¬ (ws_M E C K i = 1 ∧ ws_ah E C K bo i = p)) (h : post (-1)) : wpX_documentAt post (ws_X A C E K bo n) (nI p) := ⟨n + 1, xl_dc_n' hp hn h0 hE hC hK hq h n 0 (Nat.zero_add n)⟩
theorem xl_dc_k {post : Int32 → Prop} {p k : Nat} (hp : p < 10) (hk : k < n) (hn : n ≤ 24) (h0 : ∀ d, n ≤ d → E d = 0) (hE : ∀ d, E d ≤ 1) (hC : ∀ j, C j ≤ 7) (hK : ∀ t, K t ≤ 3) (hq : ws_M E C K k = 1 ∧ ws_ah E C K bo k = p) (hj : ∀ i, i < k → ¬ (ws_M E C K i = 1 ∧ ws_ah E C K bo i = p)) (h : post (nI k)) : wpX_documentAt post (ws_X A C E K bo n) (nI p) := ⟨k + 1, xl_dc_k' hp hk hn h0 hE hC hK hq hj h k 0 (Nat.zero_add k)⟩
end
