/-! one theorem a method -/
theorem i_vc_key {k : Nat} {u : SX} {v : SY} (I : i_Rel k u v) (hk : k + 3 ≤ 1536) (v1 : Int32) : wpX_key (fun r u' => wpY_key (fun r' v' => r' = r ∧ i_Rel (k + 3) u' v') v v1) u v1 := by
  obtain ⟨d, c, l, rfl, rfl, hd, hl⟩ := I
  unfold wpX_key wpY_key
  dsimp only
  by_cases hb : bs_B 255 v1
  · obtain ⟨n, hn, e⟩ := hl 10 (by omega)
    refine bx_B1 hb (br_f bs_10 ?_)
    by_cases z : n = 40
    · subst z
      exact nm_r e (br_f (nI_nlt (a := 40) (b := 40) (Nat.le_refl _) (by decide)) (by_S1 hb (br_f bs_10 (br_t e ⟨rfl, bs_rel hd hl⟩))))
    · have e4 : 400 + nI n = nI (400 + n) := nI_add 400 n
      have z4 : ¬ nI n = 40 := fun y => z ((nI_eq (a := n) (b := 40) (by omega) (by omega)).mp y)
      refine nm_r e (br_t (nI_lt (a := n) (b := 40) (by omega) (by decide)) ⟨pk_in (400 + n) 440 (by omega) e4, nm_r (e' := upd c (400 + n) v1) (by rw [pk_cl (400 + n) e4]) (nm_r (e' := upd l 10 (nI (n + 1))) (by rw [nI_1]) ?_)⟩)
      rw [e]
      exact by_S1 hb (br_f bs_10 (br_f z4 ⟨pk_in (400 + n) 440 (by omega) e4, nm_r (e' := upd c (400 + n) v1) (by rw [pk_cl (400 + n) e4]) (nm_r (e' := upd l 10 (nI (n + 1))) (by rw [nI_1]) ⟨pk_us.trans (nI_1 n).symm, bs_rel hd (bs_lenU hl 10 (by omega))⟩)⟩))
  · exact bx_B0 hb (br_t rfl (by_S0 hb (br_t rfl ⟨rfl, bs_rel hd hl⟩)))
theorem i_vc_newLine {k : Nat} {u : SX} {v : SY} (I : i_Rel k u v) (hk : k + 3 ≤ 1536) : wpX_newLine (fun u' => wpY_newLine (fun v' => i_Rel (k + 3) u' v') v) u := by
  obtain ⟨d, c, l, rfl, rfl, hd, hl⟩ := I
  unfold wpX_newLine wpY_newLine
  dsimp only
  exact nm_e (nm_e (bs_rel hd (bs_lenU hl 10 (n := 0) (by omega))))
theorem bv_put {k d a : Nat} {c l : Nat → Int32} (hd : d ≤ 4) (hl : bs_len l) (ha : a < 11) (hn : d < 4 → a ≠ 6 + d) : wpX_putCopyOf (fun r u' => wpY_pushCopy (fun r' v' => r' = r ∧ i_Rel (k + 3) u' v') (nI d, c, l) (nI a)) (nI d, c, l) (nI a) := by
  have n40 := bs_n40 hl ha
  by_cases h : 4 ≤ d ∨ 100 < bs_sum l (6 + d) + bs_n l a
  · exact bx_put0 hd hl ha h (by_put0 hd hl ha h ⟨rfl, bs_rel hd hl⟩)
  · have h1 : d < 4 := by omega
    have h2 : bs_sum l (6 + d) + bs_n l a ≤ 100 := by omega
    exact bx_put1 h1 hl ha h2 (by_put1 h1 hl ha (hn h1) h2 ⟨rfl, bs_rel (by omega) (bs_lenU hl _ n40)⟩)
theorem i_vc_literal {k : Nat} {u : SX} {v : SY} (I : i_Rel k u v) (hk : k + 3 ≤ 1536) : wpX_literal (fun r u' => wpY_literal (fun r' v' => r' = r ∧ i_Rel (k + 3) u' v') v) u := by
  obtain ⟨d, c, l, rfl, rfl, hd, hl⟩ := I
  unfold wpX_literal wpY_literal
  dsimp only
  exact bv_put (a := 10) hd hl (by omega) (fun _ => by omega)
theorem i_vc_push {k : Nat} {u : SX} {v : SY} (I : i_Rel k u v) (hk : k + 3 ≤ 1536) (v1 : Int32) : wpX_push (fun r u' => wpY_push (fun r' v' => r' = r ∧ i_Rel (k + 3) u' v') v v1) u v1 := by
  obtain ⟨d, c, l, rfl, rfl, hd, hl⟩ := I
  unfold wpX_push wpY_push
  dsimp only
  by_cases hb : bs_B 5 v1
  · obtain ⟨a, ha, rfl⟩ := hb
    have ha' : a < 11 := by omega
    have n40 := bs_n40 hl ha'
    have hb : bs_B 5 (nI a) := ⟨a, ha, rfl⟩
    refine bx_V1 hb (br_f bs_10 ?_)
    by_cases h : 4 ≤ d ∨ 100 < bs_sum l (6 + d) + bs_n l a
    · exact bx_put0 hd hl ha' h (by_V1 hb (br_f bs_10 (by_put0 hd hl ha' h ⟨rfl, bs_rel hd hl⟩)))
    · have h1 : d < 4 := by omega
      have h2 : bs_sum l (6 + d) + bs_n l a ≤ 100 := by omega
      exact bx_put1 h1 hl ha' h2 (by_V1 hb (br_f bs_10 (by_put1 h1 hl ha' (by omega) h2 ⟨rfl, bs_rel (by omega) (bs_lenU hl _ n40)⟩)))
  · exact bx_V0 hb (br_t rfl (by_V0 hb (br_t rfl ⟨rfl, bs_rel hd hl⟩)))
theorem bs_00 : ¬ (1 : Int32) ≤ nI 0 := nI_ge (a := 0) (b := 1) (by omega) (by decide)
theorem bs_1e {e : Nat} (h : e < 4) : (1 : Int32) ≤ nI (e + 1) := nI_le (a := 1) (b := e + 1) (by omega) (by omega)
theorem bs_0e {e : Nat} (h : e < 4) : ¬ nI (e + 1) = 0 := nI_ne0 (by omega) (by omega)
theorem i_vc_let {k : Nat} {u : SX} {v : SY} (I : i_Rel k u v) (hk : k + 3 ≤ 1536) (v1 : Int32) : wpX_let (fun r u' => wpY_let (fun r' v' => r' = r ∧ i_Rel (k + 3) u' v') v v1) u v1 := by
  obtain ⟨d, c, l, rfl, rfl, hd, hl⟩ := I
  unfold wpX_let wpY_let
  dsimp only
  by_cases hb : bs_B 5 v1
  · obtain ⟨a, ha, rfl⟩ := hb
    have ha' : a < 11 := by omega
    have hb : bs_B 5 (nI a) := ⟨a, ha, rfl⟩
    refine bx_V1 hb (br_f bs_10 ?_)
    cases d with
    | zero => exact br_f bs_00 (by_V1 hb (br_f bs_10 (br_t rfl ⟨rfl, bs_rel hd hl⟩)))
    | succ e =>
      have n40 := bs_n40 hl (j := 6 + e) (by omega)
      rw [bs_top5]
      exact br_t (bs_1e (by omega)) (bx_top (bx_copyString hl (by omega) ha' (nm_r (nI_pred e) ⟨bs_in ha', by_V1 hb (br_f bs_10 (br_f (bs_0e (by omega)) (by_copy hl (by omega) ha' (nm_r (nI_pred e) ⟨bs_in ha', rfl, bs_rel (by omega) (bs_lenU hl _ n40)⟩))))⟩)))
  · exact bx_V0 hb (br_t rfl (by_V0 hb (br_t rfl ⟨rfl, bs_rel hd hl⟩)))
theorem i_vc_drop {k : Nat} {u : SX} {v : SY} (I : i_Rel k u v) (hk : k + 3 ≤ 1536) : wpX_drop (fun r u' => wpY_drop (fun r' v' => r' = r ∧ i_Rel (k + 3) u' v') v) u := by
  obtain ⟨d, c, l, rfl, rfl, hd, hl⟩ := I
  unfold wpX_drop wpY_drop
  dsimp only
  cases d with
  | zero => exact br_f bs_00 (br_t rfl ⟨rfl, bs_rel hd hl⟩)
  | succ e =>
    have e6 : 6 + nI e = nI (6 + e) := nI_add 6 e
    refine br_t (bs_1e (by omega)) (bx_top ⟨bs_in (by omega), nm_r (bs_l hl (by omega)) (nm_r (nI_pred e) (br_f (bs_0e (by omega)) (nm_r (nI_pred e) ⟨pk_in (6 + e) 11 (by omega) e6, ?_, bs_rel (by omega) hl⟩)))⟩)
    rw [pk_cl (6 + e) e6]
    exact bs_nE hl (by omega)
theorem i_vc_join {k : Nat} {u : SX} {v : SY} (I : i_Rel k u v) (hk : k + 3 ≤ 1536) : wpX_join (fun r u' => wpY_join (fun r' v' => r' = r ∧ i_Rel (k + 3) u' v') v) u := by
  obtain ⟨d, c, l, rfl, rfl, hd, hl⟩ := I
  unfold wpX_join wpY_join
  dsimp only
  by_cases h2 : d < 2
  · have h : ¬ (2 : Int32) ≤ nI d := nI_ge (a := d) (b := 2) h2 (by decide)
    exact br_f h (br_f h ⟨rfl, bs_rel hd hl⟩)
  · obtain ⟨e, rfl⟩ : ∃ e, d = e + 1 + 1 := ⟨d - 2, by omega⟩
    have h : (2 : Int32) ≤ nI (e + 1 + 1) := nI_le (a := 2) (b := e + 1 + 1) (by omega) (by omega)
    have hx : 6 + e < 11 := by omega
    have hy : 6 + (e + 1) < 11 := by omega
    have nx := bs_n40 hl hx
    have ny := bs_n40 hl hy
    have es : nI (6 + (e + 1)) - 1 = nI (6 + e) := nI_pred (6 + e)
    have el : l (nI (6 + e)).toNatClampNeg + l (nI (6 + (e + 1))).toNatClampNeg = nI (bs_n l (6 + e) + bs_n l (6 + (e + 1))) := by rw [bs_l hl hx, bs_l hl hy, nI_add]
    refine br_t h (bx_top (nm_r es ⟨bs_in hx, bs_in hy, nm_r el (pk_le (bs_n l (6 + e) + bs_n l (6 + (e + 1))) 40 (fun z => ⟨bs_in hx, bs_in hy, ?_⟩) (fun z => ?_))⟩))
    · rw [bs_40r, bs_40r, bs_l hl hx, bs_l hl hy, nI_add]
      refine bx_copyCells (by omega) (by omega) ny (fun i hi => by omega) ⟨bs_in hx, nm_r (e' := upd l (6 + e) (nI (bs_n l (6 + e) + bs_n l (6 + (e + 1))))) ?_ (nm_r (nI_pred (e + 1)) ?_)⟩
      · dsimp only
        rw [nI_clamp (n := 6 + e) (by omega)]
      · exact br_t h (nm_r (bs_top5 (e + 1)) (nm_r es ⟨bs_in hx, bs_in hy, nm_r el (br_t (nI_le (b := 40) z (by omega)) (by_joinL hl hx hy z ⟨rfl, bs_rel (by omega) (bs_lenU hl _ z)⟩))⟩))
    · exact br_t h (nm_r (bs_top5 (e + 1)) (nm_r es ⟨bs_in hx, bs_in hy, nm_r el (br_f (nI_ge (a := 40) z (by omega)) ⟨rfl, bs_rel hd hl⟩)⟩))
theorem bv_cut {k e st n : Nat} {c l : Nat → Int32} (he : e < 4) (hl : bs_len l) : i_Rel (k + 3) (nI (e + 1), bs_cp (40 * (6 + e) + st) (40 * (6 + e)) c (min n (bs_n l (6 + e) - st)), upd l (6 + e) (nI (min n (bs_n l (6 + e) - st)))) (nI (e + 1), bs_cp (40 * (6 + e) + st) (40 * (6 + e)) c (min n (bs_n l (6 + e) - st)), upd l (6 + e) (nI (min n (bs_n l (6 + e) - st)))) := by
  have n40 := bs_n40 hl (j := 6 + e) (by omega)
  exact bs_rel (by omega) (bs_lenU hl _ (by omega))
theorem i_vc_left {k : Nat} {u : SX} {v : SY} (I : i_Rel k u v) (hk : k + 3 ≤ 1536) (v1 : Int32) : wpX_left (fun r u' => wpY_left (fun r' v' => r' = r ∧ i_Rel (k + 3) u' v') v v1) u v1 := by
  obtain ⟨d, c, l, rfl, rfl, hd, hl⟩ := I
  unfold wpX_left wpY_left
  dsimp only
  by_cases hb : bs_B 255 v1
  · refine bx_B1 hb (br_f bs_10 ?_)
    cases d with
    | zero => exact br_f bs_00 (by_S1 hb (br_f bs_10 (br_t rfl ⟨rfl, bs_rel hd hl⟩)))
    | succ e =>
      have hb' := hb
      obtain ⟨n, hn, rfl⟩ := hb
      exact br_t (bs_1e (by omega)) (bx_keep (st := 0) (by omega) hl (by omega) (by omega) (by_S1 hb' (br_f bs_10 (br_f (bs_0e (by omega)) (by_cut (st := 0) (by omega) hl (by omega) (by omega) ⟨rfl, bv_cut (by omega) hl⟩)))))
  · exact bx_B0 hb (br_t rfl (by_S0 hb (br_t rfl ⟨rfl, bs_rel hd hl⟩)))
theorem i_vc_right {k : Nat} {u : SX} {v : SY} (I : i_Rel k u v) (hk : k + 3 ≤ 1536) (v1 : Int32) : wpX_right (fun r u' => wpY_right (fun r' v' => r' = r ∧ i_Rel (k + 3) u' v') v v1) u v1 := by
  obtain ⟨d, c, l, rfl, rfl, hd, hl⟩ := I
  unfold wpX_right wpY_right
  dsimp only
  by_cases hb : bs_B 255 v1
  · refine bx_B1 hb (br_f bs_10 ?_)
    cases d with
    | zero => exact br_f bs_00 (by_S1 hb (br_f bs_10 (br_t rfl ⟨rfl, bs_rel hd hl⟩)))
    | succ e =>
      have hb' := hb
      obtain ⟨n, hn, rfl⟩ := hb
      have ht : 6 + e < 11 := by omega
      have n40 := bs_n40 hl ht
      have el : l (nI (6 + e)).toNatClampNeg = nI (bs_n l (6 + e)) := bs_l hl ht
      rw [bs_top5]
      refine br_t (bs_1e (by omega)) (bx_top ⟨bs_in ht, nm_r el (pk_le (bs_n l (6 + e)) n (fun z => ?_) (fun z => ?_))⟩)
      · refine bx_keep (st := 0) (by omega) hl (by omega) (by omega) (by_S1 hb' (br_f bs_10 (br_f (bs_0e (by omega)) ⟨bs_in ht, nm_r el (br_f (nI_nlt z (by omega)) ?_)⟩)))
        have em : min n (bs_n l (6 + e) - 0) = bs_n l (6 + e) := by omega
        rw [em, show 40 * (6 + e) + 0 = 40 * (6 + e) from rfl, bs_cpI]
        refine ⟨rfl, ?_⟩
        have eu : upd l (6 + e) (nI (bs_n l (6 + e))) = l := by
          rw [← bs_nE hl ht]
          exact bs_updI l (6 + e)
        rw [eu]
        exact bs_rel hd hl
      · rw [pk_sub (Nat.le_of_lt z)]
        exact bx_keep (by omega) hl (by omega) (by omega) (by_S1 hb' (br_f bs_10 (br_f (bs_0e (by omega)) ⟨bs_in ht, nm_r el (br_t (nI_lt z (by omega)) (by rw [pk_sub (Nat.le_of_lt z)]; exact by_cut (by omega) hl (by omega) (by omega) ⟨rfl, bv_cut (by omega) hl⟩))⟩)))
  · exact bx_B0 hb (br_t rfl (by_S0 hb (br_t rfl ⟨rfl, bs_rel hd hl⟩)))
theorem i_vc_mid {k : Nat} {u : SX} {v : SY} (I : i_Rel k u v) (hk : k + 3 ≤ 1536) (v1 : Int32) (v2 : Int32) : wpX_mid (fun r u' => wpY_mid (fun r' v' => r' = r ∧ i_Rel (k + 3) u' v') v v1 v2) u v1 v2 := by
  obtain ⟨d, c, l, rfl, rfl, hd, hl⟩ := I
  unfold wpX_mid wpY_mid
  dsimp only
  rcases bs_Pc v1 with ⟨a, hp⟩ | ⟨a, b, _, hp⟩ | ⟨a, b, _, hp⟩
  · exact bx_P0 hp (br_t rfl (br_t a ⟨rfl, bs_rel hd hl⟩))
  · exact bx_P0 hp (br_t rfl (br_f a (br_t b ⟨rfl, bs_rel hd hl⟩)))
  · refine bx_P1 hp (br_f bs_10 ?_)
    by_cases hb : bs_B 255 v2
    · refine bx_B1 hb (br_f bs_10 ?_)
      cases d with
      | zero => exact br_f bs_00 (br_f a (br_f b (by_S1 hb (br_f bs_10 (br_t rfl ⟨rfl, bs_rel hd hl⟩)))))
      | succ e =>
        have hb' := hb
        obtain ⟨n, hn, rfl⟩ := hb
        obtain ⟨j, hj, rfl⟩ := hp
        rw [nI_pred]
        exact br_t (bs_1e (by omega)) (bx_keep (by omega) hl (by omega) (by omega) (br_f a (br_f b (by_S1 hb' (br_f bs_10 (br_f (bs_0e (by omega)) (by_cut (by omega) hl (by omega) (by omega) ⟨rfl, bv_cut (by omega) hl⟩)))))))
    · exact bx_B0 hb (br_t rfl (br_f a (br_f b (by_S0 hb (br_t rfl ⟨rfl, bs_rel hd hl⟩)))))
