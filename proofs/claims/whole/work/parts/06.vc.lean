/-! one theorem a method, the second half -/
theorem i_vc_repeat {k : Nat} {u : SX} {v : SY} (I : i_Rel k u v) (hk : k + 3 ≤ 1536) (v1 : Int32) (v2 : Int32) : wpX_repeat (fun r u' => wpY_repeat (fun r' v' => r' = r ∧ i_Rel (k + 3) u' v') v v1 v2) u v1 v2 := by
  obtain ⟨d, c, l, rfl, rfl, hd, hl⟩ := I
  unfold wpX_repeat wpY_repeat
  dsimp only
  by_cases hb : bs_B 255 v1
  · refine bx_B1 hb (br_f bs_10 ?_)
    by_cases hc : bs_B 255 v2
    · have hb' := hb
      obtain ⟨n, hn, rfl⟩ := hb
      have hs := bs_sum_le hl (6 + d) (by omega)
      have e6 : 6 + nI d = nI (6 + d) := nI_add 6 d
      have es : nI (bs_sum l (6 + d)) + nI n = nI (bs_sum l (6 + d) + n) := nI_add _ _
      refine bx_B1 hc (br_f bs_10 (pk_lt d 4 (fun h4 => pk_le n 40 (fun h40 => ?_) (fun h40 => ?_)) (fun h4 => ?_)))
      · have f4 : ¬ nI d = 4 := fun y => absurd ((nI_eq (a := d) (b := 4) (by omega) (by omega)).mp y) (by omega)
        have f40 : nI n ≤ 40 := nI_le (a := n) (b := 40) h40 (by decide)
        by_cases h : bs_sum l (6 + d) + n ≤ 100
        · refine bx_room1 hd hl h (br_f bs_10 (nm_r (nI_1 d) (bx_top (bx_rep (by omega) h40 ?_))))
          exact by_S1 hb' (br_f bs_10 (by_S1 hc (br_f bs_10 (br_f f4 (br_t f40 (by_used hd hl (pk_le (bs_sum l (6 + d) + n) 100 (fun _ => nm_r e6 (by_rep (by omega) h40 ⟨rfl, bs_rel (by omega) (bs_lenU hl _ h40)⟩)) (fun z => absurd z (by omega)) es)))))))
        · refine bx_room0 hd hl h40 (by omega) (br_t rfl ?_)
          exact by_S1 hb' (br_f bs_10 (by_S1 hc (br_f bs_10 (br_f f4 (br_t f40 (by_used hd hl (pk_le (bs_sum l (6 + d) + n) 100 (fun z => absurd z (by omega)) (fun _ => ⟨rfl, bs_rel hd hl⟩) es)))))))
      · have f4 : ¬ nI d = 4 := fun y => absurd ((nI_eq (a := d) (b := 4) (by omega) (by omega)).mp y) (by omega)
        exact by_S1 hb' (br_f bs_10 (by_S1 hc (br_f bs_10 (br_f f4 (br_f (nI_ge (a := 40) (b := n) h40 (by omega)) ⟨rfl, bs_rel hd hl⟩)))))
      · have e4 : d = 4 := by omega
        subst e4
        exact by_S1 hb' (br_f bs_10 (by_S1 hc (br_f bs_10 (br_t rfl ⟨rfl, bs_rel hd hl⟩))))
    · exact bx_B0 hc (br_t rfl (by_S1 hb (br_f bs_10 (by_S0 hc (br_t rfl ⟨rfl, bs_rel hd hl⟩)))))
  · exact bx_B0 hb (br_t rfl (by_S0 hb (br_t rfl ⟨rfl, bs_rel hd hl⟩)))
theorem i_vc_compare {k : Nat} {u : SX} {v : SY} (I : i_Rel k u v) (hk : k + 3 ≤ 1536) : wpX_compare (fun r u' => wpY_compare (fun r' v' => r' = r ∧ i_Rel (k + 3) u' v') v) u := by
  obtain ⟨d, c, l, rfl, rfl, hd, hl⟩ := I
  unfold wpX_compare wpY_compare
  dsimp only
  by_cases h2 : d < 2
  · have h : ¬ (2 : Int32) ≤ nI d := nI_ge (a := d) (b := 2) h2 (by decide)
    exact br_f h (br_f h ⟨rfl, bs_rel hd hl⟩)
  · obtain ⟨e, rfl⟩ : ∃ e, d = e + 1 + 1 := ⟨d - 2, by omega⟩
    have h : (2 : Int32) ≤ nI (e + 1 + 1) := nI_le (a := 2) (b := e + 1 + 1) (by omega) (by omega)
    have hx : 6 + e < 11 := by omega
    have hy : 6 + (e + 1) < 11 := by omega
    have es : nI (6 + (e + 1)) - 1 = nI (6 + e) := nI_pred (6 + e)
    have ed : nI (e + 1 + 1) - 2 = nI e := pk_sub (a := e + 1 + 1) (b := 2) (by omega)
    have e6 : 6 + nI e = nI (6 + e) := nI_add 6 e
    have e7 : 7 + nI e = nI (6 + (e + 1)) := (nI_add 7 e).trans (congrArg nI (by omega))
    refine br_t h (bx_top (nm_r ed ?_))
    rw [es]
    refine bx_ord hl hx hy (br_t h (nm_r ed ?_))
    rw [e6, e7]
    exact by_ord hl hx hy ⟨rfl, bs_rel (by omega) hl⟩
theorem i_vc_find {k : Nat} {u : SX} {v : SY} (I : i_Rel k u v) (hk : k + 3 ≤ 1536) (v1 : Int32) (v2 : Int32) : wpX_find (fun r => wpY_find (fun r' => r' = r ∧ i_Rel (k + 3) u v) v v1 v2) u v1 v2 := by
  obtain ⟨d, c, l, rfl, rfl, hd, hl⟩ := I
  unfold wpX_find wpY_find
  dsimp only
  by_cases hu : bs_B 5 v1
  · refine bx_V1 hu (br_f bs_10 ?_)
    by_cases hv : bs_B 5 v2
    · have hu' := hu
      have hv' := hv
      obtain ⟨a, ha, rfl⟩ := hu
      obtain ⟨b, hb, rfl⟩ := hv
      exact bx_V1 hv' (br_f bs_10 ⟨_, bx_fdL hl (by omega) (by omega) (bs_n l a) 0 (by omega) (by_V1 hu' (br_f bs_10 (by_V1 hv' (br_f bs_10 ⟨_, by_fdL hl (by omega) (by omega) (bs_n l a) 0 (by omega) ⟨rfl, bs_rel hd hl⟩⟩))))⟩)
    · exact bx_V0 hv (br_t rfl (by_V1 hu (br_f bs_10 (by_V0 hv (br_t rfl ⟨rfl, bs_rel hd hl⟩)))))
  · exact bx_V0 hu (br_t rfl (by_V0 hu (br_t rfl ⟨rfl, bs_rel hd hl⟩)))
theorem i_vc_setMid {k : Nat} {u : SX} {v : SY} (I : i_Rel k u v) (hk : k + 3 ≤ 1536) (v1 : Int32) (v2 : Int32) : wpX_setMid (fun r u' => wpY_setMid (fun r' v' => r' = r ∧ i_Rel (k + 3) u' v') v v1 v2) u v1 v2 := by
  obtain ⟨d, c, l, rfl, rfl, hd, hl⟩ := I
  unfold wpX_setMid wpY_setMid
  dsimp only
  by_cases hv : bs_B 5 v1
  · refine bx_V1 hv (br_f bs_10 ?_)
    rcases bs_Pc v2 with ⟨a, hp⟩ | ⟨a, _, b, hp⟩ | ⟨a, _, b, hp⟩
    · exact bx_P0 hp (br_t rfl (by_V1 hv (br_f bs_10 (br_t a ⟨rfl, bs_rel hd hl⟩))))
    · exact bx_P0 hp (br_t rfl (by_V1 hv (br_f bs_10 (br_f a (br_f b ⟨rfl, bs_rel hd hl⟩)))))
    · refine bx_P1 hp (br_f bs_10 ?_)
      cases d with
      | zero => exact br_f bs_00 (by_V1 hv (br_f bs_10 (br_f a (br_t b (br_t rfl ⟨rfl, bs_rel hd hl⟩)))))
      | succ e =>
        have hv' := hv
        obtain ⟨w, hw, rfl⟩ := hv
        obtain ⟨j, hj, rfl⟩ := hp
        have ht : 6 + e < 11 := by omega
        have hw' : w < 11 := by omega
        have n1 := bs_n40 hl ht
        have n2 := bs_n40 hl hw'
        have ej : nI w * 40 + nI (j + 1) - 1 = nI (40 * w + j) := by
          rw [bs_40r, nI_add]
          exact nI_pred (40 * w + j)
        refine br_t (bs_1e (by omega)) (bx_top ⟨bs_in ht, ?_⟩)
        rw [ej, nI_pred j, bs_40r, bs_l hl ht]
        refine bx_count hl hw' (by omega) (by omega) (bx_copyCells (by omega) (by omega) (by omega) (fun i hi => by omega) (nm_r (nI_pred e) ?_))
        exact by_V1 hv' (br_f bs_10 (br_f a (br_t b (br_f (bs_0e (by omega)) (nm_r (bs_top5 e) (by_setL hl ht hw' hj ⟨rfl, bs_rel (by omega) hl⟩))))))
  · exact bx_V0 hv (br_t rfl (by_V0 hv (br_t rfl ⟨rfl, bs_rel hd hl⟩)))
theorem i_vc_swap {k : Nat} {u : SX} {v : SY} (I : i_Rel k u v) (hk : k + 3 ≤ 1536) (v1 : Int32) (v2 : Int32) : wpX_swap (fun r u' => wpY_swap (fun r' v' => r' = r ∧ i_Rel (k + 3) u' v') v v1 v2) u v1 v2 := by
  obtain ⟨d, c, l, rfl, rfl, hd, hl⟩ := I
  unfold wpX_swap wpY_swap
  dsimp only
  by_cases hu : bs_B 5 v1
  · refine bx_V1 hu (br_f bs_10 ?_)
    by_cases hv : bs_B 5 v2
    · have hu' := hu
      have hv' := hv
      obtain ⟨a, ha, rfl⟩ := hu
      obtain ⟨b, hb, rfl⟩ := hv
      have ia : a < 11 := by omega
      have ib : b < 11 := by omega
      have na := bs_n40 hl ia
      have nb := bs_n40 hl ib
      refine bx_V1 hv' (br_f bs_10 (bx_swap hl ia ib (by_V1 hu' (br_f bs_10 (by_V1 hv' (br_f bs_10 ⟨bs_in ia, nm_r (bs_l hl ia) ⟨bs_in ib, bs_in ia, nm_r (e' := upd l a (nI (bs_n l b))) ?_ ⟨bs_in ib, nm_r (e' := upd (upd l a (nI (bs_n l b))) b (nI (bs_n l a))) ?_ (by_swap ia ib ⟨rfl, bs_rel hd (bs_lenU (bs_lenU hl _ nb) _ na)⟩)⟩⟩⟩))))))
      · rw [bs_l hl ib, nI_clamp (n := a) (by omega)]
      · rw [nI_clamp (n := b) (by omega)]
    · exact bx_V0 hv (br_t rfl (by_V1 hu (br_f bs_10 (by_V0 hv (br_t rfl ⟨rfl, bs_rel hd hl⟩)))))
  · exact bx_V0 hu (br_t rfl (by_V0 hu (br_t rfl ⟨rfl, bs_rel hd hl⟩)))
theorem i_vc_length {k : Nat} {u : SX} {v : SY} (I : i_Rel k u v) (hk : k + 3 ≤ 1536) (v1 : Int32) : wpX_length (fun r => wpY_length (fun r' => r' = r ∧ i_Rel (k + 3) u v) v v1) u v1 := by
  obtain ⟨d, c, l, rfl, rfl, hd, hl⟩ := I
  unfold wpX_length wpY_length
  dsimp only
  by_cases hv : bs_B 5 v1
  · have hv' := hv
    obtain ⟨a, ha, rfl⟩ := hv
    exact bx_V1 hv' (br_f bs_10 ⟨bs_in (by omega), by_V1 hv' (br_f bs_10 ⟨bs_in (by omega), rfl, bs_rel hd hl⟩)⟩)
  · exact bx_V0 hv (br_t rfl (by_V0 hv (br_t rfl ⟨rfl, bs_rel hd hl⟩)))
theorem i_vc_at {k : Nat} {u : SX} {v : SY} (I : i_Rel k u v) (hk : k + 3 ≤ 1536) (v1 : Int32) (v2 : Int32) : wpX_at (fun r => wpY_at (fun r' => r' = r ∧ i_Rel (k + 3) u v) v v1 v2) u v1 v2 := by
  obtain ⟨d, c, l, rfl, rfl, hd, hl⟩ := I
  unfold wpX_at wpY_at
  dsimp only
  by_cases hv : bs_B 5 v1
  · have hv' := hv
    obtain ⟨a, ha, rfl⟩ := hv
    have ia : a < 11 := by omega
    have na := bs_n40 hl ia
    refine bx_V1 hv' (br_f bs_10 ?_)
    by_cases h1 : v2 < 1
    · exact bx_char0 h1 (by_V1 hv' (br_f bs_10 (br_t h1 ⟨rfl, bs_rel hd hl⟩)))
    · obtain ⟨j, hj, rfl⟩ := bs_pos h1
      have e : 40 * nI a + nI (j + 1) - 1 = nI (40 * a + j) := by
        rw [bs_40l, nI_add]
        exact nI_pred (40 * a + j)
      rw [bs_l hl ia]
      refine bx_char hl ia hj (fun z => by_V1 hv' (br_f bs_10 (br_f h1 ⟨bs_in ia, br_f (nI_nlt z (by omega)) ⟨pk_in (40 * a + j) 440 (by omega) e, ?_, bs_rel hd hl⟩⟩))) (fun z => by_V1 hv' (br_f bs_10 (br_f h1 ⟨bs_in ia, br_t (nI_lt z hj) ⟨rfl, bs_rel hd hl⟩⟩)))
      rw [pk_cl (40 * a + j) e]
  · exact bx_V0 hv (br_t rfl (by_V0 hv (br_t rfl ⟨rfl, bs_rel hd hl⟩)))
theorem i_vc_pile {k : Nat} {u : SX} {v : SY} (I : i_Rel k u v) (hk : k + 3 ≤ 1536) : wpX_pile (fun r => wpY_pile (fun r' => r' = r ∧ i_Rel (k + 3) u v) v) u := by
  obtain ⟨d, c, l, rfl, rfl, hd, hl⟩ := I
  unfold wpX_pile wpY_pile
  dsimp only
  exact ⟨by trivial, bs_rel hd hl⟩
theorem i_vc_topLength {k : Nat} {u : SX} {v : SY} (I : i_Rel k u v) (hk : k + 3 ≤ 1536) : wpX_topLength (fun r => wpY_topLength (fun r' => r' = r ∧ i_Rel (k + 3) u v) v) u := by
  obtain ⟨d, c, l, rfl, rfl, hd, hl⟩ := I
  unfold wpX_topLength wpY_topLength
  dsimp only
  cases d with
  | zero => exact br_f bs_00 (br_t rfl ⟨rfl, bs_rel hd hl⟩)
  | succ e =>
    rw [bs_top5]
    exact br_t (bs_1e (by omega)) (bx_top ⟨bs_in (by omega), br_f (bs_0e (by omega)) ⟨bs_in (by omega), rfl, bs_rel hd hl⟩⟩)
theorem i_vc_topAt {k : Nat} {u : SX} {v : SY} (I : i_Rel k u v) (hk : k + 3 ≤ 1536) (v1 : Int32) : wpX_topAt (fun r => wpY_topAt (fun r' => r' = r ∧ i_Rel (k + 3) u v) v v1) u v1 := by
  obtain ⟨d, c, l, rfl, rfl, hd, hl⟩ := I
  unfold wpX_topAt wpY_topAt
  dsimp only
  cases d with
  | zero => exact br_f bs_00 (br_t (nI_le (a := 0) (b := 0) (Nat.le_refl _) (by decide)) ⟨rfl, bs_rel hd hl⟩)
  | succ e =>
    have ht : 6 + e < 11 := by omega
    have n1 := bs_n40 hl ht
    have h0 : ¬ nI (e + 1) ≤ 0 := nI_nle (by omega) (by omega)
    rw [bs_top5]
    refine br_t (bs_1e (by omega)) (bx_top ?_)
    by_cases h1 : v1 < 1
    · exact bx_char0 h1 (br_f h0 (br_t h1 ⟨rfl, bs_rel hd hl⟩))
    · obtain ⟨j, hj, rfl⟩ := bs_pos h1
      have ee : 40 * nI (6 + e) + nI (j + 1) - 1 = nI (40 * (6 + e) + j) := by
        rw [bs_40l, nI_add]
        exact nI_pred (40 * (6 + e) + j)
      rw [bs_l hl ht]
      refine bx_char hl ht hj (fun z => br_f h0 (br_f h1 ⟨bs_in ht, br_f (nI_nlt z (by omega)) ⟨pk_in (40 * (6 + e) + j) 440 (by omega) ee, ?_, bs_rel hd hl⟩⟩)) (fun z => br_f h0 (br_f h1 ⟨bs_in ht, br_t (nI_lt z hj) ⟨rfl, bs_rel hd hl⟩⟩))
      rw [pk_cl (40 * (6 + e) + j) ee]
theorem i_vc_used {k : Nat} {u : SX} {v : SY} (I : i_Rel k u v) (hk : k + 3 ≤ 1536) : wpX_used (fun r => wpY_used (fun r' => r' = r ∧ i_Rel (k + 3) u v) v) u := by
  obtain ⟨d, c, l, rfl, rfl, hd, hl⟩ := I
  unfold wpX_used
  dsimp only
  exact bx_sum hd hl (by_used hd hl ⟨rfl, bs_rel hd hl⟩)
