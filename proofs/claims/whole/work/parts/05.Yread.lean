section
variable {A C E K : Nat → Nat} {bo : Nat → Int32} {n : Nat}
/-! Y: the tests of the arguments -/
theorem yl_bw_n {post : Int32 → Prop} {v : Int32} (hv : v < 0) (h : post 1) : wpY_badWord post (ws_Y A C E K bo n) v := br_t hv h
theorem yl_bw_h {post : Int32 → Prop} {j : Nat} (hj : j < 2 ^ 31) (h8 : 8 ≤ j) (h : post 1) : wpY_badWord post (ws_Y A C E K bo n) (nI j) :=
  br_f (nI_pos hj) (pk_le j 7 (fun q => absurd q (by omega)) (fun _ => h))
theorem yl_bw {post : Int32 → Prop} {j : Nat} (hj : j < 8) (h : post 0) : wpY_badWord post (ws_Y A C E K bo n) (nI j) :=
  br_f (nI_pos (by omega)) (pk_le j 7 (fun _ => h) (fun q => absurd q (by omega)))
theorem yl_bd_n {post : Int32 → Prop} {v : Int32} (hv : v < 0) (h : post 1) : wpY_bad post (ws_Y A C E K bo n) v := br_t hv h
theorem yl_bd_h {post : Int32 → Prop} {j : Nat} (hj : j < 2 ^ 31) (h8 : 24 ≤ j) (h : post 1) : wpY_bad post (ws_Y A C E K bo n) (nI j) :=
  br_f (nI_pos hj) (pk_lt 23 j (fun _ => h) (fun q => absurd q (by omega)))
theorem yl_bd {post : Int32 → Prop} {j : Nat} (hj : j < 24) (hE : ∀ d, E d ≤ 1) (h : post (nI (1 - E j))) : wpY_bad post (ws_Y A C E K bo n) (nI j) := by
  have c : (nI j).toNatClampNeg = j := nI_clamp (by omega)
  refine br_f (nI_pos (by omega)) (pk_lt 23 j (fun q => absurd q (by omega)) (fun _ => ⟨vp_in_nI hj (by decide), ws_br (E j) (hE j) (fun z => ?_) (fun z => ?_) (congrArg (fun i => nI (E i)) c)⟩))
  · rw [z] at h; exact h
  · rw [z] at h; exact h
/-! Y: the counts -/
theorem yl_dl' {post : Int32 → Prop} (h : post (nI (ws_sm A 8))) : ∀ f i, i + f = 8 → wY_draftLength_4 post (nI n) (fun j => nI (A j)) (fun j => nI (C j)) (fun d => nI (E d)) (fun t => nI (K t)) bo (f + 1) (nI (ws_sm A i)) (nI i) := by
  intro f
  induction f with
  | zero =>
    intro i hi
    have e : i = 8 := by omega
    subst e
    exact br_t (by decide) h
  | succ f ih =>
    intro i hi
    have c : (nI i).toNatClampNeg = i := nI_clamp (by omega)
    have g := ih (i + 1) (by omega)
    rw [ws_sm_s] at g
    refine br_f (nI_ge (b := 8) (by omega) (by decide)) ⟨vp_in_nI (by omega) (by decide), nm_r (e' := nI (ws_sm A i + A i)) ?_ (nm_r (nI_1 i) g)⟩
    show nI _ + nI (A (nI i).toNatClampNeg) = _
    rw [c, nI_add]
theorem yl_dl {post : Int32 → Prop} (h : post (nI (ws_sm A 8))) : wpY_draftLength post (ws_Y A C E K bo n) := ⟨9, yl_dl' h 8 0 rfl⟩
theorem yl_lc' {post : Int32 → Prop} (hE : ∀ d, E d ≤ 1) (h : post (nI (ws_sm E 24))) : ∀ f i, i + f = 24 → wY_liveCount_4 post (nI n) (fun j => nI (A j)) (fun j => nI (C j)) (fun d => nI (E d)) (fun t => nI (K t)) bo (f + 1) (nI (ws_sm E i)) (nI i) := by
  intro f
  induction f with
  | zero =>
    intro i hi
    have e : i = 24 := by omega
    subst e
    exact br_t (by decide) h
  | succ f ih =>
    intro i hi
    have c : (nI i).toNatClampNeg = i := nI_clamp (by omega)
    have g := ih (i + 1) (by omega)
    rw [ws_sm_s] at g
    refine br_f (nI_ge (b := 24) (by omega) (by decide)) ⟨vp_in_nI (by omega) (by decide), ws_br (E i) (hE i) (fun z => nm_r (nI_1 i) ?_) (fun z => nm_r (nI_1 _) (nm_r (nI_1 i) ?_)) (congrArg (fun j => nI (E j)) c)⟩
    · rw [z] at g; exact g
    · rw [z] at g; exact g
theorem yl_lc {post : Int32 → Prop} (hE : ∀ d, E d ≤ 1) (h : post (nI (ws_sm E 24))) : wpY_liveCount post (ws_Y A C E K bo n) := ⟨25, yl_lc' hE h 24 0 rfl⟩
theorem yl_it' {post : Int32 → Prop} (hK : ∀ t, K t ≤ 3) (h : post (nI (ws_it K))) : ∀ f i, i + f = 8 → wY_items_4 post (nI n) (fun j => nI (A j)) (fun j => nI (C j)) (fun d => nI (E d)) (fun t => nI (K t)) bo (f + 1) (nI (ws_sm (fun t => ws_b (K t)) i)) (nI i) := by
  intro f
  induction f with
  | zero =>
    intro i hi
    have e : i = 8 := by omega
    subst e
    exact br_t (by decide) h
  | succ f ih =>
    intro i hi
    have c : (nI i).toNatClampNeg = i := nI_clamp (by omega)
    have g := ih (i + 1) (by omega)
    rw [ws_sm_s] at g
    have k3 := hK i
    refine br_f (nI_ge (b := 8) (by omega) (by decide)) ⟨vp_in_nI (by omega) (by decide), ws_brC (K i) (by omega) (fun z => nm_r (nI_1 i) ?_) (fun z => nm_r (nI_1 _) (nm_r (nI_1 i) ?_)) (congrArg (fun j => nI (K j)) c)⟩
    · rw [z, ws_b0] at g; exact g
    · rw [ws_bp z] at g; exact g
theorem yl_it {post : Int32 → Prop} (hK : ∀ t, K t ≤ 3) (h : post (nI (ws_it K))) : wpY_items post (ws_Y A C E K bo n) := ⟨9, yl_it' hK h 8 0 rfl⟩
theorem yl_ho' {post : Int32 → Prop} {t : Nat} (ht : t < 8) (hE : ∀ d, E d ≤ 1) (hC : ∀ j, C j ≤ 7) (h : post (nI (ws_h E C t))) : ∀ f i, i + f = 24 → wY_holders_4 post (nI t) (nI n) (fun j => nI (A j)) (fun j => nI (C j)) (fun d => nI (E d)) (fun t => nI (K t)) bo (f + 1) (nI (ws_sm (fun d => E d * ws_b (C (8 * d + t))) i)) (nI i) := by
  intro f
  induction f with
  | zero =>
    intro i hi
    have e : i = 24 := by omega
    subst e
    unfold ws_h at h
    rw [if_pos ht] at h
    exact br_t (by decide) h
  | succ f ih =>
    intro i hi
    have c : (nI i).toNatClampNeg = i := nI_clamp (by omega)
    have i24 : i < 24 := by omega
    have g := ih (i + 1) (by omega)
    rw [ws_sm_s] at g
    try dsimp only at g
    refine br_f (nI_ge (b := 24) (by omega) (by decide)) ⟨vp_in_nI (by omega) (by decide), ws_br (E i) (hE i) (fun z => nm_r (nI_1 i) ?_) (fun z => ⟨ws_vY i24 ht, ws_brC (C (8 * i + t)) (hC _) (fun y => nm_r (nI_1 i) ?_) (fun y => nm_r (nI_1 _) (nm_r (nI_1 i) ?_)) (congrArg (fun j => nI (C j)) (ws_cY i24 ht))⟩) (congrArg (fun j => nI (E j)) c)⟩
    · rw [z, Nat.zero_mul] at g; exact g
    · rw [y, ws_b0, Nat.mul_zero] at g; exact g
    · rw [z, ws_bp y] at g; exact g
theorem yl_ho {post : Int32 → Prop} {t : Nat} (ht : t < 8) (hE : ∀ d, E d ≤ 1) (hC : ∀ j, C j ≤ 7) (h : post (nI (ws_h E C t))) : wpY_holders post (ws_Y A C E K bo n) (nI t) := ⟨25, yl_ho' ht hE hC h 24 0 rfl⟩
/-! Y: matching -/
theorem yl_m40 {post : Int32 → Prop} {J : Int32 → Int32 → Prop} {d t a x : Nat} (ht : t < 8) (k3 : K t ≤ 3)
    (h0 : (K t = 3 ∧ 0 < x) ∨ (K t = 2 ∧ x = 0) → post 0)
    (h1 : ¬ ((K t = 3 ∧ 0 < x) ∨ (K t = 2 ∧ x = 0)) → 0 < x ∧ 0 < K t → J 1 (nI (t + 1)))
    (h2 : ¬ ((K t = 3 ∧ 0 < x) ∨ (K t = 2 ∧ x = 0)) → ¬ (0 < x ∧ 0 < K t) → J (nI a) (nI (t + 1))) :
    wY_matches_40 post J (nI d) (nI a) (nI t) (nI (ws_b x)) (nI n) (fun j => nI (A j)) (fun j => nI (C j)) (fun d => nI (E d)) (fun t => nI (K t)) bo := by
  have hv : vp_in (nI t) 8 := vp_in_nI ht (by decide)
  have ck : (fun j => nI (K j)) (nI t).toNatClampNeg = nI (K t) := congrArg (fun j => nI (K j)) (nI_clamp (by omega))
  unfold wY_matches_40 wY_matches_57 wY_matches_74
  by_cases hx : 0 < x
  · rw [ws_bp hx]
    exact ⟨hv, pk_eq (K t) 3 (fun q => br_f (by decide) (h0 (Or.inl ⟨q, hx⟩))) (fun q => ⟨hv, pk_eq (K t) 2
      (fun q2 => br_f (by decide) (br_f (by decide) ⟨hv, pk_eq (K t) 1 (fun q1 => absurd q1 (by omega)) (fun q1 => ⟨hv, pk_eq (K t) 2 (fun _ => nm_r (nI_1 t) (h1 (by omega) ⟨hx, by omega⟩)) (fun q3 => absurd q2 q3) ck⟩) ck⟩))
      (fun q2 => br_f (by decide) ⟨hv, pk_eq (K t) 1 (fun q1 => nm_r (nI_1 t) (h1 (by omega) ⟨hx, by omega⟩)) (fun q1 => ⟨hv, pk_eq (K t) 2 (fun q3 => absurd q3 q2) (fun _ => nm_r (nI_1 t) (h2 (by omega) (by omega))) ck⟩) ck⟩) ck⟩) ck⟩
  · have z : x = 0 := by omega
    rw [z, ws_b0]
    exact ⟨hv, pk_eq (K t) 3 (fun q => br_t rfl ⟨hv, pk_eq (K t) 2 (fun q2 => absurd q (by omega)) (fun q2 => br_t rfl (nm_r (nI_1 t) (h2 (by omega) (by omega)))) ck⟩)
      (fun q => ⟨hv, pk_eq (K t) 2 (fun q2 => br_t rfl (h0 (by omega))) (fun q2 => br_t rfl (nm_r (nI_1 t) (h2 (by omega) (by omega)))) ck⟩) ck⟩
theorem ws_nar {a : Nat} (h : a ≤ 1) : narrow .boolean (.int (nI a)) = .int (nI a) := by
  cases ws_01 h with
  | inl z => subst z; rfl
  | inr z => subst z; rfl
theorem yl_ma' {post : Int32 → Prop} {d : Nat} (hd : d < 24) (hC : ∀ j, C j ≤ 7) (hK : ∀ t, K t ≤ 3) : ∀ f t a, t + f = 8 → a ≤ 1 → post (nI (ws_go C K d f t a)) → wY_matches_15 post (nI d) (nI n) (fun j => nI (A j)) (fun j => nI (C j)) (fun d => nI (E d)) (fun t => nI (K t)) bo (f + 1) (nI a) (nI t) := by
  intro f
  induction f with
  | zero =>
    intro t a e ha h
    have e8 : t = 8 := by omega
    subst e8
    exact br_t (by decide) ⟨ws_nar ha, h⟩
  | succ f ih =>
    intro t a e ha h
    have ht : t < 8 := by omega
    have m := yl_m40 (post := post) (J := wY_matches_15 post (nI d) (nI n) (fun j => nI (A j)) (fun j => nI (C j)) (fun d => nI (E d)) (fun t => nI (K t)) bo (f + 1)) (A := A) (C := C) (E := E) (K := K) (bo := bo) (n := n) (d := d) (t := t) (a := a) (x := C (8 * d + t)) ht (hK t)
      (fun q => by rw [ws_go_n q] at h; exact h)
      (fun q q2 => ih (t + 1) 1 (by omega) (Nat.le_refl 1) (by rw [ws_go_y q q2] at h; exact h))
      (fun q q2 => ih (t + 1) a (by omega) ha (by rw [ws_go_k q q2] at h; exact h))
    refine br_f (nI_ge (b := 8) ht (by decide)) ⟨ws_vY hd ht, ws_brC (C (8 * d + t)) (hC _) (fun z => ?_) (fun z => ?_) (congrArg (fun j => nI (C j)) (ws_cY hd ht))⟩
    · rw [z, ws_b0] at m; exact m
    · rw [ws_bp z] at m; exact m
theorem yl_ma {post : Int32 → Prop} {d : Nat} (hd : d < 24) (hE : ∀ d, E d ≤ 1) (hC : ∀ j, C j ≤ 7) (hK : ∀ t, K t ≤ 3) (h : post (nI (ws_M E C K d))) : wpY_matches post (ws_Y A C E K bo n) (nI d) := by
  have c : (nI d).toNatClampNeg = d := nI_clamp (by omega)
  refine ⟨vp_in_nI hd (by decide), ws_br (E d) (hE d) (fun z => ?_) (fun z => ⟨9, yl_ma' hd hC hK 8 0 0 rfl (Nat.zero_le 1) ?_⟩) (congrArg (fun j => nI (E j)) c)⟩
  · rw [ws_M_0 z] at h; exact h
  · rw [ws_M_1 (by omega)] at h; exact h
/-! Y: the score -/
theorem yl_w2 {post : Int32 → Prop} {d : Nat} (hd : d < 24) (hE : ∀ d, E d ≤ 1) (hC : ∀ j, C j ≤ 7) (hK : ∀ t, K t ≤ 3) (h : post (ws_S E C K bo d)) : ∀ f t, t + f = 8 → wY_worth_41 post (nI d) (nI (ws_L C d)) (nI (ws_sm E 24)) (nI n) (fun j => nI (A j)) (fun j => nI (C j)) (fun d => nI (E d)) (fun t => nI (K t)) bo (f + 1) (ws_sc E C K bo d t) (nI t) := by
  intro f
  induction f with
  | zero =>
    intro t e
    have e8 : t = 8 := by omega
    subst e8
    exact br_t (by decide) h
  | succ f ih =>
    intro t e
    have ht : t < 8 := by omega
    have hv : vp_in (nI t) 8 := vp_in_nI ht (by decide)
    have c : (nI t).toNatClampNeg = t := nI_clamp (by omega)
    have ck : (fun j => nI (K j)) (nI t).toNatClampNeg = nI (K t) := congrArg (fun j => nI (K j)) c
    have k3 := hK t
    have g := ih (t + 1) (by omega)
    have gs : ws_sc E C K bo d (t + 1) = ws_sc E C K bo d t + ws_tm E C K bo d t := rfl
    have g0 : ¬ ((K t = 1 ∨ K t = 2) ∧ 0 < C (8 * d + t)) → wY_worth_41 post (nI d) (nI (ws_L C d)) (nI (ws_sm E 24)) (nI n) (fun j => nI (A j)) (fun j => nI (C j)) (fun d => nI (E d)) (fun t => nI (K t)) bo (f + 1) (ws_sc E C K bo d t) (nI (t + 1)) := by
      intro q
      rw [gs, ws_tm_0 q, Int32.add_zero] at g
      exact g
    have hL := ws_L_le hC d
    have hc := hC (8 * d + t)
    have hh := ws_h_le (C := C) hE t
    have b148 : (K t = 1 ∨ K t = 2) → 0 < C (8 * d + t) → wY_worth_148 post (wY_worth_41 post (nI d) (nI (ws_L C d)) (nI (ws_sm E 24)) (nI n) (fun j => nI (A j)) (fun j => nI (C j)) (fun d => nI (E d)) (fun t => nI (K t)) bo (f + 1)) (nI d) (nI (ws_L C d)) (nI (ws_sm E 24)) (ws_sc E C K bo d t) (nI t) (nI (ws_ra E C t)) (nI (ws_st C d t)) (nI n) (fun j => nI (A j)) (fun j => nI (C j)) (fun d => nI (E d)) (fun t => nI (K t)) bo :=
      fun q z => ⟨hv, nm_r (e' := ws_sc E C K bo d (t + 1)) (by rw [c, ← ws_tm_1 q z, gs]) (nm_r (nI_1 t) g)⟩
    have b117 : (K t = 1 ∨ K t = 2) → 0 < C (8 * d + t) → wY_worth_117 post (wY_worth_41 post (nI d) (nI (ws_L C d)) (nI (ws_sm E 24)) (nI n) (fun j => nI (A j)) (fun j => nI (C j)) (fun d => nI (E d)) (fun t => nI (K t)) bo (f + 1)) (nI d) (nI (ws_L C d)) (nI (ws_sm E 24)) (ws_sc E C K bo d t) (nI t) (nI (C (8 * d + t))) (nI (ws_ra E C t)) (nI n) (fun j => nI (A j)) (fun j => nI (C j)) (fun d => nI (E d)) (fun t => nI (K t)) bo :=
      fun q z => ⟨by decide, nm_r (ws_unI hC d t) (br_t (nI_le (a := 1) (by omega) (by omega)) ⟨ws_un0 hC d t, by rw [ws_stI hC]; exact b148 q z⟩)⟩
    have b84 : (K t = 1 ∨ K t = 2) → wY_worth_84 post (wY_worth_41 post (nI d) (nI (ws_L C d)) (nI (ws_sm E 24)) (nI n) (fun j => nI (A j)) (fun j => nI (C j)) (fun d => nI (E d)) (fun t => nI (K t)) bo (f + 1)) (nI d) (nI (ws_L C d)) (nI (ws_sm E 24)) (ws_sc E C K bo d t) (nI t) (nI (C (8 * d + t))) (nI n) (fun j => nI (A j)) (fun j => nI (C j)) (fun d => nI (E d)) (fun t => nI (K t)) bo :=
      fun q => ws_brC (C (8 * d + t)) hc (fun z => nm_r (nI_1 t) (g0 (by omega))) (fun z => yl_ho ht hE hC (br_t (nI_pos' (by omega)) ⟨ws_ra0 hE t, by rw [ws_raI hE t]; exact b117 q z⟩))
    exact br_f (nI_ge (b := 8) ht (by decide)) ⟨ws_vY hd ht, nm_r (e' := nI (C (8 * d + t))) (congrArg (fun j => nI (C j)) (ws_cY hd ht))
      ⟨hv, pk_eq (K t) 1 (fun q => b84 (Or.inl q)) (fun q1 => ⟨hv, pk_eq (K t) 2 (fun q => b84 (Or.inr q)) (fun q2 => nm_r (nI_1 t) (g0 (by omega))) ck⟩) ck⟩⟩
theorem yl_w1 {post : Int32 → Prop} {d : Nat} (hd : d < 24) (hE : ∀ d, E d ≤ 1) (hC : ∀ j, C j ≤ 7) (hK : ∀ t, K t ≤ 3) (h : post (ws_S E C K bo d)) : ∀ f t, t + f = 8 → wY_worth_4 post (nI d) (nI n) (fun j => nI (A j)) (fun j => nI (C j)) (fun d => nI (E d)) (fun t => nI (K t)) bo (f + 1) (nI (ws_sm (fun t => C (8 * d + t)) t)) (nI t) := by
  intro f
  induction f with
  | zero =>
    intro t e
    have e8 : t = 8 := by omega
    subst e8
    exact br_t (by decide) (yl_lc hE ⟨9, yl_w2 hd hE hC hK h 8 0 rfl⟩)
  | succ f ih =>
    intro t e
    have ht : t < 8 := by omega
    have g := ih (t + 1) (by omega)
    rw [ws_sm_s] at g
    refine br_f (nI_ge (b := 8) ht (by decide)) ⟨ws_vY hd ht, nm_r (e' := nI (ws_sm (fun t => C (8 * d + t)) t + C (8 * d + t))) ?_ (nm_r (nI_1 t) g)⟩
    show nI _ + nI (C (8 * nI d + nI t).toNatClampNeg) = _
    rw [ws_cY hd ht, nI_add]
theorem yl_wo {post : Int32 → Prop} {d : Nat} (hd : d < 24) (hE : ∀ d, E d ≤ 1) (hC : ∀ j, C j ≤ 7) (hK : ∀ t, K t ≤ 3) (h : post (ws_S E C K bo d)) : wpY_worth post (ws_Y A C E K bo n) (nI d) := ⟨9, yl_w1 hd hE hC hK h 8 0 rfl⟩
/-! Y: over the documents -/
theorem yl_mt' {post : Int32 → Prop} (hE : ∀ d, E d ≤ 1) (hC : ∀ j, C j ≤ 7) (hK : ∀ t, K t ≤ 3) (h : post (nI (ws_sm (ws_M E C K) 24))) : ∀ f i, i + f = 24 → wY_matching_4 post (nI n) (fun j => nI (A j)) (fun j => nI (C j)) (fun d => nI (E d)) (fun t => nI (K t)) bo (f + 1) (nI (ws_sm (ws_M E C K) i)) (nI i) := by
  intro f
  induction f with
  | zero =>
    intro i e
    have e8 : i = 24 := by omega
    subst e8
    exact br_t (by decide) h
  | succ f ih =>
    intro i e
    have hi : i < 24 := by omega
    have g := ih (i + 1) (by omega)
    rw [ws_sm_s] at g
    refine br_f (nI_ge (b := 24) hi (by decide)) (yl_ma hi hE hC hK (ws_br (ws_M E C K i) (ws_M_le E C K i) (fun z => nm_r (nI_1 i) ?_) (fun z => nm_r (nI_1 _) (nm_r (nI_1 i) ?_))))
    · rw [z] at g; exact g
    · rw [z] at g; exact g
theorem yl_mt {post : Int32 → Prop} (hE : ∀ d, E d ≤ 1) (hC : ∀ j, C j ≤ 7) (hK : ∀ t, K t ≤ 3) (h : post (nI (ws_sm (ws_M E C K) 24))) : wpY_matching post (ws_Y A C E K bo n) := ⟨25, yl_mt' hE hC hK h 24 0 rfl⟩
theorem yl_sg' {post : Int32 → Prop} {b : Int32} (hE : ∀ d, E d ≤ 1) (hC : ∀ j, C j ≤ 7) (hK : ∀ t, K t ≤ 3) (h : post (nI (ws_sm (ws_s1 E C K bo b) 24))) : ∀ f i, i + f = 24 → wY_scoring_4 post b (nI n) (fun j => nI (A j)) (fun j => nI (C j)) (fun d => nI (E d)) (fun t => nI (K t)) bo (f + 1) (nI (ws_sm (ws_s1 E C K bo b) i)) (nI i) := by
  intro f
  induction f with
  | zero =>
    intro i e
    have e8 : i = 24 := by omega
    subst e8
    exact br_t (by decide) h
  | succ f ih =>
    intro i e
    have hi : i < 24 := by omega
    have g := ih (i + 1) (by omega)
    rw [ws_sm_s] at g
    refine br_f (nI_ge (b := 24) hi (by decide)) (yl_ma hi hE hC hK (ws_br (ws_M E C K i) (ws_M_le E C K i) (fun z => nm_r (nI_1 i) ?_) (fun z => yl_wo hi hE hC hK (br_c (fun lt => nm_r (nI_1 i) ?_) (fun nl => nm_r (nI_1 _) (nm_r (nI_1 i) ?_))))))
    · rw [ws_s1_n (fun q => by omega)] at g; exact g
    · rw [ws_s1_n (fun q => Int32.not_le.mpr lt q.2)] at g; exact g
    · rw [ws_s1_y z (Int32.not_lt.mp nl)] at g; exact g
theorem yl_sg {post : Int32 → Prop} {b : Int32} (hE : ∀ d, E d ≤ 1) (hC : ∀ j, C j ≤ 7) (hK : ∀ t, K t ≤ 3) (h : post (nI (ws_sm (ws_s1 E C K bo b) 24))) : wpY_scoring post (ws_Y A C E K bo n) b := ⟨25, yl_sg' hE hC hK h 24 0 rfl⟩
theorem yl_ah' {post : Int32 → Prop} {d : Nat} (hd : d < 24) (hE : ∀ d, E d ≤ 1) (hC : ∀ j, C j ≤ 7) (hK : ∀ t, K t ≤ 3) (h : post (nI (ws_ah E C K bo d))) : ∀ f i, i + f = 24 → wY_ahead_11 post (nI d) (ws_S E C K bo d) (nI n) (fun j => nI (A j)) (fun j => nI (C j)) (fun d => nI (E d)) (fun t => nI (K t)) bo (f + 1) (nI (ws_sm (ws_a1 E C K bo d) i)) (nI i) := by
  intro f
  induction f with
  | zero =>
    intro i e
    have e8 : i = 24 := by omega
    subst e8
    exact br_t (by decide) h
  | succ f ih =>
    intro i e
    have hi : i < 24 := by omega
    have g := ih (i + 1) (by omega)
    rw [ws_sm_s] at g
    refine br_f (nI_ge (b := 24) hi (by decide)) (yl_ma hi hE hC hK (ws_br (ws_M E C K i) (ws_M_le E C K i) (fun z => nm_r (nI_1 i) ?_) (fun z => yl_wo hi hE hC hK (br_c (fun lt => nm_r (nI_1 _) (nm_r (nI_1 i) ?_)) (fun nl => br_c (fun eq => pk_le d i (fun q => nm_r (nI_1 i) ?_) (fun q => nm_r (nI_1 _) (nm_r (nI_1 i) ?_))) (fun ne => nm_r (nI_1 i) ?_))))))
    · rw [ws_a1_n (fun q => by omega)] at g; exact g
    · rw [ws_a1_y z (Or.inl lt)] at g; exact g
    · rw [ws_a1_n (fun p => p.2.elim nl (fun p2 => by omega))] at g; exact g
    · rw [ws_a1_y z (Or.inr ⟨eq, q⟩)] at g; exact g
    · rw [ws_a1_n (fun p => p.2.elim nl (fun p2 => ne p2.1))] at g; exact g
theorem yl_ah {post : Int32 → Prop} {d : Nat} (hd : d < 24) (hE : ∀ d, E d ≤ 1) (hC : ∀ j, C j ≤ 7) (hK : ∀ t, K t ≤ 3) (h : post (nI (ws_ah E C K bo d))) : wpY_ahead post (ws_Y A C E K bo n) (nI d) := yl_wo hd hE hC hK ⟨25, yl_ah' hd hE hC hK h 24 0 rfl⟩
theorem yl_at_s {post : Int32 → Prop} {p i f : Nat} (hp : p < 10) (hi : i < 24) (hE : ∀ d, E d ≤ 1) (hC : ∀ j, C j ≤ 7) (hK : ∀ t, K t ≤ 3) (hq : ¬ (ws_M E C K i = 1 ∧ ws_ah E C K bo i = p)) (g : wY_at_2 post (nI p) (nI n) (fun j => nI (A j)) (fun j => nI (C j)) (fun d => nI (E d)) (fun t => nI (K t)) bo f (nI (i + 1))) : wY_at_2 post (nI p) (nI n) (fun j => nI (A j)) (fun j => nI (C j)) (fun d => nI (E d)) (fun t => nI (K t)) bo (f + 1) (nI i) := by
  have hb : ws_ah E C K bo i ≤ 24 := ws_sm_le (b := 1) (ws_a1_le E C K bo i) 24
  exact br_f (nI_ge (b := 24) hi (by decide)) (yl_ma hi hE hC hK (ws_br (ws_M E C K i) (ws_M_le E C K i) (fun z => nm_r (nI_1 i) g) (fun z => yl_ah hi hE hC hK (pk_eq (ws_ah E C K bo i) p (fun q => absurd ⟨z, q⟩ hq) (fun q => nm_r (nI_1 i) g)))))
theorem yl_at_t {post : Int32 → Prop} {p i f : Nat} (hp : p < 10) (hi : i < 24) (hE : ∀ d, E d ≤ 1) (hC : ∀ j, C j ≤ 7) (hK : ∀ t, K t ≤ 3) (hq : ws_M E C K i = 1 ∧ ws_ah E C K bo i = p) (g : post (nI i)) : wY_at_2 post (nI p) (nI n) (fun j => nI (A j)) (fun j => nI (C j)) (fun d => nI (E d)) (fun t => nI (K t)) bo (f + 1) (nI i) := by
  have hb : ws_ah E C K bo i ≤ 24 := ws_sm_le (b := 1) (ws_a1_le E C K bo i) 24
  exact br_f (nI_ge (b := 24) hi (by decide)) (yl_ma hi hE hC hK (ws_br (ws_M E C K i) (ws_M_le E C K i) (fun z => absurd z (by omega)) (fun z => yl_ah hi hE hC hK (pk_eq (ws_ah E C K bo i) p (fun q => g) (fun q => absurd hq.2 q)))))
theorem yl_at_n' {post : Int32 → Prop} {p : Nat} (hp : p < 10) (hE : ∀ d, E d ≤ 1) (hC : ∀ j, C j ≤ 7) (hK : ∀ t, K t ≤ 3) (hq : ∀ i, i < 24 → ¬ (ws_M E C K i = 1 ∧ ws_ah E C K bo i = p)) (h : post (-2)) : ∀ f i, i + f = 24 → wY_at_2 post (nI p) (nI n) (fun j => nI (A j)) (fun j => nI (C j)) (fun d => nI (E d)) (fun t => nI (K t)) bo (f + 1) (nI i) := by
  intro f
  induction f with
  | zero =>
    intro i e
    have e8 : i = 24 := by omega
    subst e8
    exact br_t (by decide) h
  | succ f ih =>
    intro i e
    exact yl_at_s hp (by omega) hE hC hK (hq i (by omega)) (ih (i + 1) (by omega))
theorem yl_at_k' {post : Int32 → Prop} {p k : Nat} (hp : p < 10) (hk : k < 24) (hE : ∀ d, E d ≤ 1) (hC : ∀ j, C j ≤ 7) (hK : ∀ t, K t ≤ 3) (hq : ws_M E C K k = 1 ∧ ws_ah E C K bo k = p) (hn : ∀ i, i < k → ¬ (ws_M E C K i = 1 ∧ ws_ah E C K bo i = p)) (h : post (nI k)) : ∀ f i, i + f = k → wY_at_2 post (nI p) (nI n) (fun j => nI (A j)) (fun j => nI (C j)) (fun d => nI (E d)) (fun t => nI (K t)) bo (f + 1) (nI i) := by
  intro f
  induction f with
  | zero =>
    intro i e
    have e8 : i = k := by omega
    subst e8
    exact yl_at_t hp hk hE hC hK hq h
  | succ f ih =>
    intro i e
    exact yl_at_s hp (by omega) hE hC hK (hn i (by omega)) (ih (i + 1) (by omega))
theorem yl_at_n {post : Int32 → Prop} {p : Nat} (hp : p < 10) (hE : ∀ d, E d ≤ 1) (hC : ∀ j, C j ≤ 7) (hK : ∀ t, K t ≤ 3) (hq : ∀ i, i < 24 → ¬ (ws_M E C K i = 1 ∧ ws_ah E C K bo i = p)) (h : post (-2)) : wpY_at post (ws_Y A C E K bo n) (nI p) := ⟨25, yl_at_n' hp hE hC hK hq h 24 0 rfl⟩
theorem yl_at_k {post : Int32 → Prop} {p k : Nat} (hp : p < 10) (hk : k < 24) (hE : ∀ d, E d ≤ 1) (hC : ∀ j, C j ≤ 7) (hK : ∀ t, K t ≤ 3) (hq : ws_M E C K k = 1 ∧ ws_ah E C K bo k = p) (hn : ∀ i, i < k → ¬ (ws_M E C K i = 1 ∧ ws_ah E C K bo i = p)) (h : post (nI k)) : wpY_at post (ws_Y A C E K bo n) (nI p) := ⟨k + 1, yl_at_k' hp hk hE hC hK hq hn h k 0 (Nat.zero_add k)⟩
end
