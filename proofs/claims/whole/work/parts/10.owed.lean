theorem i_up {k : Nat} {u : SX} {v : SY} (h : i_Rel k u v) : i_Rel (k + 3) u v := h
theorem i_vc0 : wpX_init (fun u => wpY_init (fun v => i_Rel 0 u v)) := ws_init
theorem i_vc_write {k : Nat} {u : SX} {v : SY} (I : i_Rel k u v) (hk : k + 3 ≤ 1536) (v1 : Int32) (v2 : Int32) : wpX_write (fun r u' => wpY_write (fun r' v' => r' = r ∧ i_Rel (k + 3) u' v') v v1 v2) u v1 v2 := by
  obtain ⟨A, C, E, K, bo, n, rfl, rfl, ok⟩ := I
  have R : i_Rel (k + 3) (ws_X A C E K bo n) (ws_Y A C E K bo n) := ⟨A, C, E, K, bo, n, rfl, rfl, ok⟩
  cases ws_io 8 v1 with
  | inl h1 => exact xl_wr1 h1 (yl_wr1 h1 ⟨rfl, R⟩)
  | inr h1 =>
    obtain ⟨w, hw, rfl⟩ := h1
    cases ws_io 8 v2 with
    | inl h2 => exact xl_wr2 hw h2 (yl_wr2 hw h2 ⟨rfl, R⟩)
    | inr h2 =>
      obtain ⟨x, hx, rfl⟩ := h2
      exact xl_wr hw hx (yl_wr hw hx ⟨rfl, ws_up A w x, C, E, K, bo, n, rfl, rfl, ok.1, ws_u_le (by omega) ok.2.1, ok.2.2⟩)
theorem i_vc_blank {k : Nat} {u : SX} {v : SY} (I : i_Rel k u v) (hk : k + 3 ≤ 1536) : wpX_blank (fun r u' => wpY_blank (fun r' v' => r' = r ∧ i_Rel (k + 3) u' v') v) u := by
  obtain ⟨A, C, E, K, bo, n, rfl, rfl, ok⟩ := I
  exact xl_blank (yl_blank ⟨rfl, ws_bl A 8, C, E, K, bo, n, rfl, rfl, ok.1, ws_bl_le ok.2.1 8, ok.2.2⟩)
theorem i_vc_add {k : Nat} {u : SX} {v : SY} (I : i_Rel k u v) (hk : k + 3 ≤ 1536) : wpX_add (fun r u' => wpY_add (fun r' v' => r' = r ∧ i_Rel (k + 3) u' v') v) u := by
  obtain ⟨A, C, E, K, bo, n, rfl, rfl, ok⟩ := I
  have n24 := ok.1
  by_cases z : n < 24
  · exact xl_add z ok (yl_add z ⟨rfl, A, ws_rw C n A 8, ws_up E n 1, K, bo, n + 1, rfl, rfl, ws_ok_add A ok.2.1 z ok⟩)
  · exact pk_lt n 24 (fun q => absurd q z) (fun _ => pk_le n 23 (fun q => absurd q (by omega)) (fun _ => ⟨rfl, A, C, E, K, bo, n, rfl, rfl, ok⟩))
theorem i_vc_addMany {k : Nat} {u : SX} {v : SY} (I : i_Rel k u v) (hk : k + 3 ≤ 1536) (v1 : Int32) (v2 : Int32) : wpX_addMany (fun r u' => wpY_addMany (fun r' v' => r' = r ∧ i_Rel (k + 3) u' v') v v1 v2) u v1 v2 := by
  obtain ⟨A, C, E, K, bo, n, rfl, rfl, ok⟩ := I
  have R : i_Rel (k + 3) (ws_X A C E K bo n) (ws_Y A C E K bo n) := ⟨A, C, E, K, bo, n, rfl, rfl, ok⟩
  cases ws_io 11 v1 with
  | inl h1 => exact ws_oo (N := 10) h1 (ws_oo (N := 10) h1 ⟨rfl, R⟩)
  | inr h1 =>
    obtain ⟨s, hs, rfl⟩ := h1
    have hs' : s ≤ 10 := by omega
    cases ws_neg v2 with
    | inl h2 =>
      have h3 : v2 < 1 := Int32.lt_trans h2 (by decide)
      exact ws_oi (N := 10) hs' (br_t h3 (ws_oi (N := 10) hs' (br_t h3 ⟨rfl, R⟩)))
    | inr h2 =>
      obtain ⟨c, hc, rfl⟩ := h2
      by_cases z : 1 ≤ c ∧ c ≤ 24
      · obtain ⟨D, F, m, ok', hX, hY⟩ := ws_am (bo := bo) (n0 := n) hs' z.2 c 0 C E n (Nat.zero_add c) ok (Nat.le_refl n)
        rw [Nat.sub_self] at hY
        exact ws_oi (N := 10) hs' (pk_lt c 1 (fun q => absurd q (by omega)) (fun _ => pk_le c 24 (fun _ => ⟨c + 1, hX _ (ws_oi (N := 10) hs' (pk_lt c 1 (fun q => absurd q (by omega)) (fun _ => pk_le c 24 (fun _ => ⟨c + 1, hY _ ⟨rfl, A, D, F, K, bo, m, rfl, rfl, ok'⟩⟩) (fun q => absurd q (by omega)))))⟩) (fun q => absurd q (by omega))))
      · exact ws_oi (N := 10) hs' (pk_lt c 1 (fun q => ws_oi (N := 10) hs' (pk_lt c 1 (fun _ => ⟨rfl, R⟩) (fun q2 => absurd q (by omega)))) (fun q => pk_le c 24 (fun q2 => absurd q2 (by omega)) (fun q2 => ws_oi (N := 10) hs' (pk_lt c 1 (fun q3 => absurd q3 (by omega)) (fun _ => pk_le c 24 (fun q3 => absurd q3 (by omega)) (fun _ => ⟨rfl, R⟩))))))
theorem i_vc_delete {k : Nat} {u : SX} {v : SY} (I : i_Rel k u v) (hk : k + 3 ≤ 1536) (v1 : Int32) : wpX_delete (fun r u' => wpY_delete (fun r' v' => r' = r ∧ i_Rel (k + 3) u' v') v v1) u v1 := by
  obtain ⟨A, C, E, K, bo, n, rfl, rfl, ok⟩ := I
  have R : i_Rel (k + 3) (ws_X A C E K bo n) (ws_Y A C E K bo n) := ⟨A, C, E, K, bo, n, rfl, rfl, ok⟩
  cases ws_io 24 v1 with
  | inl h1 => exact xl_delB h1 ok (yl_delB h1 ⟨rfl, R⟩)
  | inr h1 =>
    obtain ⟨d, hd, rfl⟩ := h1
    cases ws_01 (ok.2.2.2.1 d) with
    | inl z => exact xl_del0 hd ok z (yl_del0 hd ok z ⟨rfl, R⟩)
    | inr z => exact xl_del hd ok z (yl_del hd ok z ⟨rfl, A, C, ws_up E d 0, K, bo, n, rfl, rfl, ws_ok_E ok⟩)
theorem i_vc_tidy {k : Nat} {u : SX} {v : SY} (I : i_Rel k u v) (hk : k + 3 ≤ 1536) : wpX_tidy (fun r => wpY_tidy (fun r' => r' = r ∧ i_Rel (k + 3) u v) v) u := by
  obtain ⟨A, C, E, K, bo, n, rfl, rfl, ok⟩ := I
  have R : i_Rel (k + 3) (ws_X A C E K bo n) (ws_Y A C E K bo n) := ⟨A, C, E, K, bo, n, rfl, rfl, ok⟩
  unfold wpX_tidy wpY_tidy
  exact yl_lc ok.2.2.2.1 ⟨rfl, R⟩
theorem i_vc_live {k : Nat} {u : SX} {v : SY} (I : i_Rel k u v) (hk : k + 3 ≤ 1536) : wpX_live (fun r => wpY_live (fun r' => r' = r ∧ i_Rel (k + 3) u v) v) u := by
  obtain ⟨A, C, E, K, bo, n, rfl, rfl, ok⟩ := I
  have R : i_Rel (k + 3) (ws_X A C E K bo n) (ws_Y A C E K bo n) := ⟨A, C, E, K, bo, n, rfl, rfl, ok⟩
  unfold wpX_live wpY_live
  exact yl_lc ok.2.2.2.1 ⟨rfl, R⟩
theorem i_vc_times {k : Nat} {u : SX} {v : SY} (I : i_Rel k u v) (hk : k + 3 ≤ 1536) (v1 : Int32) (v2 : Int32) : wpX_times (fun r => wpY_times (fun r' => r' = r ∧ i_Rel (k + 3) u v) v v1 v2) u v1 v2 := by
  obtain ⟨A, C, E, K, bo, n, rfl, rfl, ok⟩ := I
  have R : i_Rel (k + 3) (ws_X A C E K bo n) (ws_Y A C E K bo n) := ⟨A, C, E, K, bo, n, rfl, rfl, ok⟩
  unfold wpX_times wpY_times
  dsimp only [ws_X, ws_Y]
  cases ws_io 8 v1 with
  | inl h1 => exact xl_igB h1 (br_t rfl (yl_bwB h1 (br_f (by decide) ⟨rfl, R⟩)))
  | inr h1 =>
    obtain ⟨w, hw, rfl⟩ := h1
    refine xl_ig hw (br_f (by decide) ?_)
    cases ws_io 24 v2 with
    | inl h2 => exact xl_ilB ok.1 h2 (br_t rfl (yl_bw hw (br_t rfl (yl_bdB h2 (br_f (by decide) ⟨rfl, R⟩)))))
    | inr h2 =>
      obtain ⟨d, hd, rfl⟩ := h2
      have e1 := ok.2.2.2.1 d
      refine xl_il hd ok.1 ok.2.2.2.2.1 ok.2.2.2.1 (ws_br (E d) e1 (fun z => yl_bw hw (br_t rfl (yl_bd hd ok.2.2.2.1 (ws_br (1 - E d) (by omega) (fun q => absurd q (by omega)) (fun _ => ⟨rfl, R⟩))))) (fun z => ⟨ws_vX hd hw, yl_bw hw (br_t rfl (yl_bd hd ok.2.2.2.1 (ws_br (1 - E d) (by omega) (fun _ => ⟨ws_vY hd hw, ?_, R⟩) (fun q => absurd q (by omega)))))⟩))
      rw [ws_cX hd hw, ws_cY hd hw]
theorem i_vc_spread {k : Nat} {u : SX} {v : SY} (I : i_Rel k u v) (hk : k + 3 ≤ 1536) (v1 : Int32) : wpX_spread (fun r => wpY_spread (fun r' => r' = r ∧ i_Rel (k + 3) u v) v v1) u v1 := by
  obtain ⟨A, C, E, K, bo, n, rfl, rfl, ok⟩ := I
  have R : i_Rel (k + 3) (ws_X A C E K bo n) (ws_Y A C E K bo n) := ⟨A, C, E, K, bo, n, rfl, rfl, ok⟩
  unfold wpX_spread wpY_spread
  dsimp only [ws_X, ws_Y]
  cases ws_io 8 v1 with
  | inl h1 => exact xl_igB h1 (br_t rfl (yl_bwB h1 (br_f (by decide) ⟨rfl, R⟩)))
  | inr h1 =>
    obtain ⟨w, hw, rfl⟩ := h1
    have c : (nI w).toNatClampNeg = w := nI_clamp (by omega)
    exact xl_ig hw (br_f (by decide) ⟨vp_in_nI hw (by decide), yl_bw hw (br_t rfl (yl_ho hw ok.2.2.2.1 ok.2.2.1 ⟨by rw [c], R⟩))⟩)
theorem i_vc_item {k : Nat} {u : SX} {v : SY} (I : i_Rel k u v) (hk : k + 3 ≤ 1536) (v1 : Int32) (v2 : Int32) : wpX_item (fun r u' => wpY_item (fun r' v' => r' = r ∧ i_Rel (k + 3) u' v') v v1 v2) u v1 v2 := by
  obtain ⟨A, C, E, K, bo, n, rfl, rfl, ok⟩ := I
  have R : i_Rel (k + 3) (ws_X A C E K bo n) (ws_Y A C E K bo n) := ⟨A, C, E, K, bo, n, rfl, rfl, ok⟩
  have hK : ∀ t, K t ≤ 3 := ok.2.2.2.2.2.2.1
  have i5 : ws_it K ≤ 5 := ok.2.2.2.2.2.2.2
  cases ws_io 8 v1 with
  | inl h1 => exact xl_itB h1 (yl_itB h1 ⟨rfl, R⟩)
  | inr h1 =>
    obtain ⟨w, hw, rfl⟩ := h1
    cases ws_neg v2 with
    | inl h2 => exact xl_itN hw h2 (yl_itN hw h2 ⟨rfl, R⟩)
    | inr h2 =>
      obtain ⟨b, hb, rfl⟩ := h2
      by_cases z : 20 ≤ b ∨ b = 10
      · exact xl_itO hw hb z (yl_itO hw hb z ⟨rfl, R⟩)
      · have b20 : b < 20 := by omega
        have b10 : b ≠ 10 := by omega
        have kp := ws_kd_p b20 b10
        by_cases z2 : K w = 0 ∧ ws_it K = 5
        · exact xl_itF hw b20 b10 z2.1 z2.2 (yl_itF hw b20 b10 hK z2.1 z2.2 ⟨rfl, R⟩)
        · have h0 : K w = 0 → ws_it K < 5 := by omega
          have h5 : ws_it (ws_up K w (ws_kd b)) ≤ 5 := by
            by_cases z3 : K w = 0
            · rw [ws_itu hw z3 kp.1]
              exact h0 z3
            · rw [ws_itk hw (by omega) kp.1]
              exact i5
          exact xl_itP hw b20 b10 hK h0 (yl_itP hw b20 b10 hK h0 ⟨rfl, A, C, E, ws_up K w (ws_kd b), upd bo w (nI (b % 10)), n, rfl, rfl, ws_ok_K ok kp.2.1 h5⟩)
theorem i_vc_drop {k : Nat} {u : SX} {v : SY} (I : i_Rel k u v) (hk : k + 3 ≤ 1536) (v1 : Int32) : wpX_drop (fun r u' => wpY_drop (fun r' v' => r' = r ∧ i_Rel (k + 3) u' v') v v1) u v1 := by
  obtain ⟨A, C, E, K, bo, n, rfl, rfl, ok⟩ := I
  have R : i_Rel (k + 3) (ws_X A C E K bo n) (ws_Y A C E K bo n) := ⟨A, C, E, K, bo, n, rfl, rfl, ok⟩
  have hK : ∀ t, K t ≤ 3 := ok.2.2.2.2.2.2.1
  have i5 : ws_it K ≤ 5 := ok.2.2.2.2.2.2.2
  cases ws_io 8 v1 with
  | inl h1 => exact xl_drB h1 (yl_drB h1 ⟨rfl, R⟩)
  | inr h1 =>
    obtain ⟨w, hw, rfl⟩ := h1
    refine xl_dr hw hK (fun z => yl_dr hw hK (fun _ => ⟨rfl, R⟩) (fun q => absurd z (by omega))) (fun z => yl_dr hw hK (fun q => absurd q (by omega)) (fun _ => ⟨rfl, A, C, E, ws_up K w 0, bo, n, rfl, rfl, ws_ok_K ok (Nat.zero_le 3) ?_⟩))
    have q := ws_itd hw z
    omega
theorem i_vc_matching {k : Nat} {u : SX} {v : SY} (I : i_Rel k u v) (hk : k + 3 ≤ 1536) : wpX_matching (fun r => wpY_matching (fun r' => r' = r ∧ i_Rel (k + 3) u v) v) u := by
  obtain ⟨A, C, E, K, bo, n, rfl, rfl, ok⟩ := I
  have R : i_Rel (k + 3) (ws_X A C E K bo n) (ws_Y A C E K bo n) := ⟨A, C, E, K, bo, n, rfl, rfl, ok⟩
  obtain ⟨hn, hA, hC, hE, h0, hC0, hK, h5⟩ := ok
  exact xl_mt hn h0 hE hC hK (yl_mt hE hC hK ⟨rfl, R⟩)
theorem i_vc_score {k : Nat} {u : SX} {v : SY} (I : i_Rel k u v) (hk : k + 3 ≤ 1536) (v1 : Int32) : wpX_score (fun r => wpY_score (fun r' => r' = r ∧ i_Rel (k + 3) u v) v v1) u v1 := by
  obtain ⟨A, C, E, K, bo, n, rfl, rfl, ok⟩ := I
  have R : i_Rel (k + 3) (ws_X A C E K bo n) (ws_Y A C E K bo n) := ⟨A, C, E, K, bo, n, rfl, rfl, ok⟩
  obtain ⟨hn, hA, hC, hE, h0, hC0, hK, h5⟩ := ok
  unfold wpX_score wpY_score
  dsimp only [ws_X, ws_Y]
  cases ws_io 24 v1 with
  | inl h1 => exact xl_ilB hn h1 (br_t rfl (yl_bdB h1 (br_f (by decide) ⟨rfl, R⟩)))
  | inr h1 =>
    obtain ⟨d, hd, rfl⟩ := h1
    have e1 := hE d
    exact xl_il hd hn h0 hE (ws_br (E d) e1 (fun z => yl_bd hd hE (ws_br (1 - E d) (by omega) (fun q => absurd q (by omega)) (fun _ => ⟨rfl, R⟩))) (fun z => xl_so hd hE hC hK (yl_bd hd hE (ws_br (1 - E d) (by omega) (fun _ => yl_wo hd hE hC hK ⟨rfl, R⟩) (fun q => absurd q (by omega))))))
theorem ws_ne1 {j : Nat} (h : j < 2 ^ 31) : ¬ nI j = -1 := by
  intro e
  have p := nI_pos h
  rw [e] at p
  exact p (by decide)
theorem i_vc_ranked {k : Nat} {u : SX} {v : SY} (I : i_Rel k u v) (hk : k + 3 ≤ 1536) (v1 : Int32) : wpX_ranked (fun r => wpY_ranked (fun r' => r' = r ∧ i_Rel (k + 3) u v) v v1) u v1 := by
  obtain ⟨A, C, E, K, bo, n, rfl, rfl, ok⟩ := I
  have R : i_Rel (k + 3) (ws_X A C E K bo n) (ws_Y A C E K bo n) := ⟨A, C, E, K, bo, n, rfl, rfl, ok⟩
  obtain ⟨hn, hA, hC, hE, h0, hC0, hK, h5⟩ := ok
  unfold wpX_ranked wpY_ranked
  dsimp only [ws_X, ws_Y]
  cases ws_io 10 v1 with
  | inl h1 => exact xl_ipB h1 (br_t rfl (ws_oo (N := 9) h1 ⟨rfl, R⟩))
  | inr h1 =>
    obtain ⟨p, hp, rfl⟩ := h1
    cases ws_first (fun i => ws_M E C K i = 1 ∧ ws_ah E C K bo i = p) 24 with
    | inl q => exact xl_ip hp (br_f (by decide) (xl_dc_n hp hn h0 hE hC hK q (br_t rfl (ws_oi (N := 9) (by omega) (yl_at_n hp hE hC hK q ⟨rfl, R⟩)))))
    | inr q =>
      obtain ⟨j, hj, hq, hf⟩ := q
      have jn : j < n := by
        by_cases z : n ≤ j
        · have m0 := ws_M_0 (C := C) (K := K) (h0 j z)
          omega
        · omega
      exact xl_ip hp (br_f (by decide) (xl_dc_k hp jn hn h0 hE hC hK hq hf (br_f (ws_ne1 (by omega)) (ws_oi (N := 9) (by omega) (yl_at_k hp hj hE hC hK hq hf ⟨rfl, R⟩)))))
theorem i_vc_rankedScore {k : Nat} {u : SX} {v : SY} (I : i_Rel k u v) (hk : k + 3 ≤ 1536) (v1 : Int32) : wpX_rankedScore (fun r => wpY_rankedScore (fun r' => r' = r ∧ i_Rel (k + 3) u v) v v1) u v1 := by
  obtain ⟨A, C, E, K, bo, n, rfl, rfl, ok⟩ := I
  have R : i_Rel (k + 3) (ws_X A C E K bo n) (ws_Y A C E K bo n) := ⟨A, C, E, K, bo, n, rfl, rfl, ok⟩
  obtain ⟨hn, hA, hC, hE, h0, hC0, hK, h5⟩ := ok
  unfold wpX_rankedScore wpY_rankedScore
  dsimp only [ws_X, ws_Y]
  cases ws_io 10 v1 with
  | inl h1 => exact xl_ipB h1 (br_t rfl (ws_oo (N := 9) h1 ⟨rfl, R⟩))
  | inr h1 =>
    obtain ⟨p, hp, rfl⟩ := h1
    cases ws_first (fun i => ws_M E C K i = 1 ∧ ws_ah E C K bo i = p) 24 with
    | inl q => exact xl_ip hp (br_f (by decide) (xl_dc_n hp hn h0 hE hC hK q (br_t rfl (ws_oi (N := 9) (by omega) (yl_at_n hp hE hC hK q (br_f (by decide) ⟨rfl, R⟩))))))
    | inr q =>
      obtain ⟨j, hj, hq, hf⟩ := q
      have jn : j < n := by
        by_cases z : n ≤ j
        · have m0 := ws_M_0 (C := C) (K := K) (h0 j z)
          omega
        · omega
      exact xl_ip hp (br_f (by decide) (xl_dc_k hp jn hn h0 hE hC hK hq hf (br_f (ws_ne1 (by omega)) (xl_so hj hE hC hK (ws_oi (N := 9) (by omega) (yl_at_k hp hj hE hC hK hq hf (br_t (nI_pos' (by omega)) (yl_wo hj hE hC hK ⟨rfl, R⟩))))))))
theorem i_vc_scoring {k : Nat} {u : SX} {v : SY} (I : i_Rel k u v) (hk : k + 3 ≤ 1536) (v1 : Int32) : wpX_scoring (fun r => wpY_scoring (fun r' => r' = r ∧ i_Rel (k + 3) u v) v v1) u v1 := by
  obtain ⟨A, C, E, K, bo, n, rfl, rfl, ok⟩ := I
  have R : i_Rel (k + 3) (ws_X A C E K bo n) (ws_Y A C E K bo n) := ⟨A, C, E, K, bo, n, rfl, rfl, ok⟩
  obtain ⟨hn, hA, hC, hE, h0, hC0, hK, h5⟩ := ok
  exact xl_sg hn h0 hE hC hK (yl_sg hE hC hK ⟨rfl, R⟩)
