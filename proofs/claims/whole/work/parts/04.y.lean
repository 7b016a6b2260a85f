/-! the reference's own methods, each with a general post -/
theorem by_S1 {post : Int32 → Prop} {x y : Int32} {c l : Nat → Int32} (h : bs_B 255 x) (p : post 1) : wpY_isSmall post (y, c, l) x := by
  obtain ⟨j, hj, rfl⟩ := h
  exact br_f (nI_pos (by omega)) (br_f (nI_nlt (a := 255) (b := j) hj (by decide)) p)
theorem by_S0 {post : Int32 → Prop} {x y : Int32} {c l : Nat → Int32} (h : ¬ bs_B 255 x) (p : post 0) : wpY_isSmall post (y, c, l) x := by
  by_cases a : x < 0
  · exact br_t a p
  · obtain ⟨j, hj, rfl⟩ := nI_of a
    have hn : ¬ j ≤ 255 := fun z => h ⟨j, z, rfl⟩
    exact br_f a (br_t (nI_lt (a := 255) (b := j) (by omega) hj) p)
theorem by_V1 {post : Int32 → Prop} {x y : Int32} {c l : Nat → Int32} (h : bs_B 5 x) (p : post 1) : wpY_isVariable post (y, c, l) x := by
  obtain ⟨j, hj, rfl⟩ := h
  exact br_f (nI_pos (by omega)) (br_f (nI_nlt (a := 5) (b := j) hj (by decide)) p)
theorem by_V0 {post : Int32 → Prop} {x y : Int32} {c l : Nat → Int32} (h : ¬ bs_B 5 x) (p : post 0) : wpY_isVariable post (y, c, l) x := by
  by_cases a : x < 0
  · exact br_t a p
  · obtain ⟨j, hj, rfl⟩ := nI_of a
    have hn : ¬ j ≤ 5 := fun z => h ⟨j, z, rfl⟩
    exact br_f a (br_t (nI_lt (a := 5) (b := j) (by omega) hj) p)
theorem by_usedL {post : Int32 → Prop} {d : Nat} {c l : Nat → Int32} (hd : d ≤ 4) (hl : bs_len l) (p : post (nI (bs_sum l (6 + d)))) : ∀ m s, s + m = 6 + d → wY_used_4 post (nI d) c l (m + 1) (nI (bs_sum l s)) (nI s) := by
  intro m
  induction m with
  | zero =>
    intro s h
    have e : s = 6 + d := h
    subst e
    exact br_t (nI_le (a := 6 + d) (b := 6 + d) (Nat.le_refl _) (by omega) |> fun z => (nI_add 6 d).symm ▸ z) p
  | succ m ih =>
    intro s h
    refine pk_le (6 + d) s (fun z => absurd z (by omega)) (fun _ => ⟨bs_in (by omega), ?_⟩) (nI_add 6 d)
    refine nm_r (e' := nI (bs_sum l (s + 1))) ?_ (nm_r (nI_1 s) (ih (s + 1) (by omega)))
    rw [bs_l hl (by omega), nI_add]
    rfl
theorem by_used {post : Int32 → Prop} {d : Nat} {c l : Nat → Int32} (hd : d ≤ 4) (hl : bs_len l) (p : post (nI (bs_sum l (6 + d)))) : wpY_used post (nI d, c, l) :=
  ⟨6 + d + 1, by_usedL hd hl p (6 + d) 0 (by omega)⟩
theorem by_copy {post : SY → Prop} {x : Int32} {a b : Nat} {c l : Nat → Int32} (hl : bs_len l) (ha : a < 11) (hb : b < 11) (p : post (x, bs_cp (40 * a) (40 * b) c (bs_n l a), upd l b (nI (bs_n l a)))) : wpY_copy post (x, c, l) (nI a) (nI b) := by
  have n40 := bs_n40 hl ha
  refine loop_0 (fun m i s => wY_copy_2 post (nI a) (nI b) x m (nI i) s l) (fun i s => s = bs_cp (40 * a) (40 * b) c i) (bs_n l a) c rfl (fun m s hs => ?_) (fun m i s hi hs k => ?_)
  · subst hs
    refine And.intro (bs_in ha) (pk_le (bs_n l a) (bs_n l a) (fun _ => ⟨bs_in ha, bs_in hb, nm_r ?_ p⟩) (fun z => absurd z (by omega)) (bs_l hl ha))
    rw [bs_l hl ha, nI_clamp (n := b) (by omega)]
  · have e1 : 40 * nI a + nI i = nI (40 * a + i) := by rw [bs_40l, nI_add]
    have e2 : 40 * nI b + nI i = nI (40 * b + i) := by rw [bs_40l, nI_add]
    refine And.intro (bs_in ha) (pk_le (bs_n l a) i (fun z => absurd z (by omega)) (fun _ => ⟨pk_in (40 * a + i) 440 (by omega) e1, pk_in (40 * b + i) 440 (by omega) e2, nm_r (e' := bs_cp (40 * a) (40 * b) c (i + 1)) ?_ (nm_r (nI_1 i) (k _ rfl))⟩) (bs_l hl ha))
    subst hs
    rw [pk_cl (40 * a + i) e1, pk_cl (40 * b + i) e2]
    rfl
theorem by_put0 {post : Int32 → SY → Prop} {d a : Nat} {c l : Nat → Int32} (hd : d ≤ 4) (hl : bs_len l) (ha : a < 11) (h : 4 ≤ d ∨ 100 < bs_sum l (6 + d) + bs_n l a) (p : post (-2) (nI d, c, l)) : wpY_pushCopy post (nI d, c, l) (nI a) := by
  have n40 := bs_n40 hl ha
  have b := bs_sum_le hl (6 + d) (by omega)
  unfold wpY_pushCopy
  dsimp only
  rw [bs_l hl ha]
  exact pk_eq d 4 (fun _ => p) (fun z => by_used hd hl ⟨bs_in ha, pk_le (bs_sum l (6 + d) + bs_n l a) 100 (fun y => absurd y (by omega)) (fun _ => p) (nI_add _ _)⟩)
theorem by_put1 {post : Int32 → SY → Prop} {d a : Nat} {c l : Nat → Int32} (hd : d < 4) (hl : bs_len l) (ha : a < 11) (hn : a ≠ 6 + d) (h : bs_sum l (6 + d) + bs_n l a ≤ 100) (p : post (nI (bs_n l a)) (nI (d + 1), bs_cp (40 * a) (40 * (6 + d)) c (bs_n l a), upd l (6 + d) (nI (bs_n l a)))) : wpY_pushCopy post (nI d, c, l) (nI a) := by
  unfold wpY_pushCopy
  dsimp only
  rw [bs_l hl ha, show (6 : Int32) + nI d = nI (6 + d) from nI_add 6 d]
  refine pk_eq d 4 (fun z => absurd z (by omega)) (fun _ => by_used (by omega) hl ⟨bs_in ha, pk_le (bs_sum l (6 + d) + bs_n l a) 100 (fun _ => by_copy hl ha (by omega) (nm_r (nI_1 d) ⟨bs_in ha, ?_⟩)) (fun z => absurd z (by omega)) (nI_add _ _)⟩)
  dsimp only
  rw [nI_clamp (n := a) (by omega), pk_un hn, bs_nE hl ha]
  exact p
theorem by_cutL {post : Int32 → SY → Prop} {x : Int32} {t st k : Nat} {c l : Nat → Int32} (ht : t < 11) (hk : k ≤ 40) (h : ∀ i, i < k → st + i < 40) (p : post (nI k) (x, bs_cp (40 * t + st) (40 * t) c k, upd l t (nI k))) : ∃ m, wY_cut_43 post (nI st) (nI t) (nI k) x m 0 c l := by
  refine loop_0 (fun m i s => wY_cut_43 post (nI st) (nI t) (nI k) x m (nI i) s l) (fun i s => s = bs_cp (40 * t + st) (40 * t) c i) k c rfl (fun m s hs => ?_) (fun m i s hi hs g => ?_)
  · subst hs
    refine br_t (nI_le (Nat.le_refl _) (by omega)) ⟨bs_in ht, nm_r ?_ p⟩
    rw [nI_clamp (n := t) (by omega)]
  · have hi2 := h i hi
    have e1 : 40 * nI t + nI st + nI i = nI (40 * t + st + i) := by rw [bs_40l, nI_add, nI_add]
    have e2 : 40 * nI t + nI i = nI (40 * t + i) := by rw [bs_40l, nI_add]
    refine br_f (nI_ge hi (by omega)) ⟨pk_in (40 * t + st + i) 440 (by omega) e1, pk_in (40 * t + i) 440 (by omega) e2, nm_r (e' := bs_cp (40 * t + st) (40 * t) c (i + 1)) ?_ (nm_r (nI_1 i) (g _ rfl))⟩
    subst hs
    rw [pk_cl (40 * t + st + i) e1, pk_cl (40 * t + i) e2]
    rfl
theorem by_cut {post : Int32 → SY → Prop} {e st n : Nat} {c l : Nat → Int32} (he : e < 4) (hl : bs_len l) (hs : st < 600) (hn : n < 2 ^ 31) (p : post (nI (min n (bs_n l (6 + e) - st))) (nI (e + 1), bs_cp (40 * (6 + e) + st) (40 * (6 + e)) c (min n (bs_n l (6 + e) - st)), upd l (6 + e) (nI (min n (bs_n l (6 + e) - st))))) : wpY_cut post (nI (e + 1), c, l) (nI st) (nI n) := by
  have n40 := bs_n40 hl (j := 6 + e) (by omega)
  unfold wpY_cut
  dsimp only
  refine nm_r (bs_top5 e) ⟨bs_in (by omega), ?_⟩
  rw [bs_l hl (by omega)]
  by_cases h : st ≤ bs_n l (6 + e)
  · refine nm_r (pk_sub h) (br_t (nI_pos' (by omega)) (pk_le n (bs_n l (6 + e) - st) (fun z => ?_) (fun z => ?_)))
    · rw [Nat.min_eq_left z] at p
      exact by_cutL (by omega) (by omega) (fun i hi => by omega) p
    · rw [Nat.min_eq_right (by omega)] at p
      exact by_cutL (by omega) (by omega) (fun i hi => by omega) p
  · refine nm_e (br_f (Int32.not_le.mpr (pk_sneg (by omega) (by omega))) ?_)
    have e0 : min n (bs_n l (6 + e) - st) = 0 := by omega
    rw [e0] at p
    exact by_cutL (k := 0) (by omega) (by omega) (fun i hi => by omega) p
theorem by_joinL {post : Int32 → SY → Prop} {e t y : Nat} {c l : Nat → Int32} (hl : bs_len l) (ht : t < 11) (hy : y < 11) (h40 : bs_n l t + bs_n l y ≤ 40) (p : post (nI (bs_n l t + bs_n l y)) (nI e, bs_cp (40 * y) (40 * t + bs_n l t) c (bs_n l y), upd l t (nI (bs_n l t + bs_n l y)))) : ∃ m, wY_join_48 post (nI y) (nI t) (nI (bs_n l t + bs_n l y)) (nI (e + 1)) m 0 c l := by
  refine loop_0 (fun m i s => wY_join_48 post (nI y) (nI t) (nI (bs_n l t + bs_n l y)) (nI (e + 1)) m (nI i) s l) (fun i s => s = bs_cp (40 * y) (40 * t + bs_n l t) c i) (bs_n l y) c rfl (fun m s hs => ?_) (fun m i s hi hs g => ?_)
  · subst hs
    refine And.intro (bs_in hy) (pk_le (bs_n l y) (bs_n l y) (fun _ => ⟨bs_in ht, nm_r ?_ (nm_r (nI_pred e) p)⟩) (fun z => absurd z (by omega)) (bs_l hl hy))
    rw [nI_clamp (n := t) (by omega)]
  · have e1 : 40 * nI y + nI i = nI (40 * y + i) := by rw [bs_40l, nI_add]
    have e2 : 40 * nI t + l (nI t).toNatClampNeg + nI i = nI (40 * t + bs_n l t + i) := by rw [bs_l hl ht, bs_40l, nI_add, nI_add]
    refine And.intro (bs_in hy) (pk_le (bs_n l y) i (fun z => absurd z (by omega)) (fun _ => ⟨bs_in ht, pk_in (40 * y + i) 440 (by omega) e1, pk_in (40 * t + bs_n l t + i) 440 (by omega) e2, nm_r (e' := bs_cp (40 * y) (40 * t + bs_n l t) c (i + 1)) ?_ (nm_r (nI_1 i) (g _ rfl))⟩) (bs_l hl hy))
    subst hs
    rw [pk_cl (40 * y + i) e1, pk_cl (40 * t + bs_n l t + i) e2]
    rfl
theorem by_rep {post : Int32 → SY → Prop} {y : Int32} {d t n : Nat} {c l : Nat → Int32} (ht : t < 11) (hn : n ≤ 40) (p : post (nI n) (nI (d + 1), bs_fl (40 * t) y c n, upd l t (nI n))) : ∃ m, wY_repeat_63 post (nI n) y (nI t) (nI d) m 0 c l := by
  refine loop_0 (fun m i s => wY_repeat_63 post (nI n) y (nI t) (nI d) m (nI i) s l) (fun i s => s = bs_fl (40 * t) y c i) n c rfl (fun m s hs => ?_) (fun m i s hi hs k => ?_)
  · subst hs
    refine br_t (nI_le (Nat.le_refl _) (by omega)) ⟨bs_in ht, nm_r ?_ (nm_r (nI_1 d) p)⟩
    rw [nI_clamp (n := t) (by omega)]
  · have e : 40 * nI t + nI i = nI (40 * t + i) := by rw [bs_40l, nI_add]
    refine br_f (nI_ge hi (by omega)) ⟨pk_in (40 * t + i) 440 (by omega) e, nm_r (e' := bs_fl (40 * t) y c (i + 1)) ?_ (nm_r (nI_1 i) (k _ rfl))⟩
    subst hs
    rw [pk_cl (40 * t + i) e]
    rfl
theorem by_ordL {post : Int32 → Prop} {x : Int32} {a b : Nat} {c l : Nat → Int32} (hl : bs_len l) (ha : a < 11) (hb : b < 11) : ∀ m k, k + m = min (bs_n l b) (bs_n l a) → post (bs_ord c (40 * a) (40 * b) (bs_z (bs_n l a) (bs_n l b)) m k) → wY_order_2 post (nI a) (nI b) x c l (m + 1) (nI k) := by
  have n1 := bs_n40 hl ha
  have n2 := bs_n40 hl hb
  intro m
  induction m with
  | zero =>
    intro k h p
    exact And.intro (bs_in ha) (pk_le (bs_n l a) k (fun _ => by_fin hl ha hb p) (fun _ => ⟨bs_in hb, pk_le (bs_n l b) k (fun _ => by_fin hl ha hb p) (fun z => absurd z (by omega)) (bs_l hl hb)⟩) (bs_l hl ha))
  | succ m ih =>
    intro k h p
    have e1 : 40 * nI a + nI k = nI (40 * a + k) := by rw [bs_40l, nI_add]
    have e2 : 40 * nI b + nI k = nI (40 * b + k) := by rw [bs_40l, nI_add]
    have i1 : vp_in (40 * nI a + nI k) 440 := pk_in (40 * a + k) 440 (by omega) e1
    have i2 : vp_in (40 * nI b + nI k) 440 := pk_in (40 * b + k) 440 (by omega) e2
    refine And.intro (bs_in ha) (pk_le (bs_n l a) k (fun z => absurd z (by omega)) (fun _ => ⟨bs_in hb, pk_le (bs_n l b) k (fun z => absurd z (by omega)) (fun _ => ⟨i1, i2, ?_⟩) (bs_l hl hb)⟩) (bs_l hl ha))
    rw [pk_cl (40 * a + k) e1, pk_cl (40 * b + k) e2]
    by_cases z : c (40 * a + k) = c (40 * b + k)
    · refine br_t z (nm_r (nI_1 k) (ih (k + 1) (by omega) ?_))
      rw [bs_ordE z] at p
      exact p
    · by_cases y : c (40 * b + k) ≤ c (40 * a + k)
      · rw [bs_ord2 z y] at p
        exact br_f z ⟨i1, i2, br_t y p⟩
      · rw [bs_ord1 z y] at p
        exact br_f z ⟨i1, i2, br_f y p⟩
theorem by_ord {post : Int32 → Prop} {x : Int32} {a b : Nat} {c l : Nat → Int32} (hl : bs_len l) (ha : a < 11) (hb : b < 11) (p : post (bs_ord c (40 * a) (40 * b) (bs_z (bs_n l a) (bs_n l b)) (min (bs_n l b) (bs_n l a)) 0)) : wpY_order post (x, c, l) (nI a) (nI b) :=
  ⟨_, by_ordL hl ha hb (min (bs_n l b) (bs_n l a)) 0 (by omega) p⟩
theorem by_begL {post : Int32 → Prop} {x : Int32} {u v s : Nat} {c l : Nat → Int32} (hl : bs_len l) (hu : u < 11) (hv : v < 11) (hs : s + bs_n l v ≤ bs_n l u) : ∀ m k, k + m = bs_n l v → post (bs_bg c (40 * u + s) (40 * v) m k) → wY_begins_22 post (nI u) (nI s) (nI v) x c l (m + 1) (nI k) := by
  have n40 := bs_n40 hl hu
  intro m
  induction m with
  | zero =>
    intro k h p
    exact And.intro (bs_in hv) (pk_le (bs_n l v) k (fun _ => p) (fun z => absurd z (by omega)) (bs_l hl hv))
  | succ m ih =>
    intro k h p
    have e1 : 40 * nI u + nI s + nI k = nI (40 * u + s + k) := by rw [bs_40l, nI_add, nI_add]
    have e2 : 40 * nI v + nI k = nI (40 * v + k) := by rw [bs_40l, nI_add]
    refine And.intro (bs_in hv) (pk_le (bs_n l v) k (fun z => absurd z (by omega)) (fun _ => ⟨pk_in (40 * u + s + k) 440 (by omega) e1, pk_in (40 * v + k) 440 (by omega) e2, ?_⟩) (bs_l hl hv))
    rw [pk_cl (40 * u + s + k) e1, pk_cl (40 * v + k) e2]
    by_cases z : c (40 * u + s + k) = c (40 * v + k)
    · refine br_t z (nm_r (nI_1 k) (ih (k + 1) (by omega) ?_))
      have e : bs_bg c (40 * u + s) (40 * v) (m + 1) k = bs_bg c (40 * u + s) (40 * v) m (k + 1) := if_pos z
      rw [e] at p
      exact p
    · refine br_f z ?_
      have e : bs_bg c (40 * u + s) (40 * v) (m + 1) k = 0 := if_neg z
      rw [e] at p
      exact p
theorem by_beg {post : Int32 → Prop} {x : Int32} {u v s : Nat} {c l : Nat → Int32} (hl : bs_len l) (hu : u < 11) (hv : v < 11) (hs : s ≤ 40) (p : post (bs_beg c l u v s)) : wpY_begins post (x, c, l) (nI u) (nI s) (nI v) := by
  have n1 := bs_n40 hl hu
  have n2 := bs_n40 hl hv
  unfold wpY_begins
  dsimp only
  rw [bs_l hl hu, bs_l hl hv]
  refine ⟨bs_in hv, bs_in hu, pk_le (s + bs_n l v) (bs_n l u) (fun z => ?_) (fun z => ?_) (nI_add _ _)⟩
  · have e : bs_beg c l u v s = bs_bg c (40 * u + s) (40 * v) (bs_n l v) 0 := if_neg (by omega)
    rw [e] at p
    exact ⟨_, by_begL hl hu hv z (bs_n l v) 0 (by omega) p⟩
  · have e : bs_beg c l u v s = 0 := if_pos z
    rw [e] at p
    exact p
theorem by_fdL {post : Int32 → Prop} {x : Int32} {u v : Nat} {c l : Nat → Int32} (hl : bs_len l) (hu : u < 11) (hv : v < 11) : ∀ m s, s + m = bs_n l u → post (bs_fd c l u v m s) → wY_find_20 post (nI u) (nI v) x c l (m + 1) (nI s) := by
  have n40 := bs_n40 hl hu
  intro m
  induction m with
  | zero =>
    intro s h p
    exact And.intro (bs_in hu) (pk_le (bs_n l u) s (fun _ => p) (fun z => absurd z (by omega)) (bs_l hl hu))
  | succ m ih =>
    intro s h p
    refine And.intro (bs_in hu) (pk_le (bs_n l u) s (fun z => absurd z (by omega)) (fun _ => by_beg hl hu hv (by omega) ?_) (bs_l hl hu))
    by_cases z : bs_beg c l u v s = 0
    · refine br_t z (nm_r (nI_1 s) (ih (s + 1) (by omega) ?_))
      have e : bs_fd c l u v (m + 1) s = bs_fd c l u v m (s + 1) := if_pos z
      rw [e] at p
      exact p
    · refine br_f z ?_
      have e : bs_fd c l u v (m + 1) s = nI (s + 1) := if_neg z
      rw [e] at p
      rw [nI_1]
      exact p
theorem by_setL {post : Int32 → SY → Prop} {e t v j : Nat} {c l : Nat → Int32} (hl : bs_len l) (ht : t < 11) (hv : v < 11) (hj : j ≤ 254) (p : post (nI (min (bs_n l t) (bs_n l v - j))) (nI e, bs_cp (40 * t) (40 * v + j) c (min (bs_n l t) (bs_n l v - j)), l)) : ∃ m, wY_setMid_45 post (nI v) (nI (j + 1)) (nI t) (nI (e + 1)) m 0 0 c l := by
  have n1 := bs_n40 hl ht
  have n2 := bs_n40 hl hv
  refine loop_0 (fun m i s => wY_setMid_45 post (nI v) (nI (j + 1)) (nI t) (nI (e + 1)) m (nI i) (nI i) s l) (fun i s => s = bs_cp (40 * t) (40 * v + j) c i) (min (bs_n l t) (bs_n l v - j)) c rfl (fun m s hs => ?_) (fun m i s hi hs g => ?_)
  · subst hs
    have e1 : nI (j + 1) - 1 + nI (min (bs_n l t) (bs_n l v - j)) = nI (j + min (bs_n l t) (bs_n l v - j)) := by rw [nI_pred, nI_add]
    exact And.intro (bs_in ht) (pk_le (bs_n l t) (min (bs_n l t) (bs_n l v - j)) (fun _ => nm_r (nI_pred e) p) (fun _ => ⟨bs_in hv, pk_le (bs_n l v) (j + min (bs_n l t) (bs_n l v - j)) (fun _ => nm_r (nI_pred e) p) (fun z => absurd z (by omega)) (bs_l hl hv) e1⟩) (bs_l hl ht))
  · have e1 : nI (j + 1) - 1 + nI i = nI (j + i) := by rw [nI_pred, nI_add]
    have e2 : 40 * nI t + nI i = nI (40 * t + i) := by rw [bs_40l, nI_add]
    have e3 : 40 * nI v + nI (j + 1) - 1 + nI i = nI (40 * v + j + i) := by
      rw [bs_40l, nI_add, show nI (40 * v + (j + 1)) - 1 = nI (40 * v + j) from nI_pred (40 * v + j), nI_add]
    refine And.intro (bs_in ht) (pk_le (bs_n l t) i (fun z => absurd z (by omega)) (fun _ => ⟨bs_in hv, pk_le (bs_n l v) (j + i) (fun z => absurd z (by omega)) (fun _ => ⟨pk_in (40 * t + i) 440 (by omega) e2, pk_in (40 * v + j + i) 440 (by omega) e3, nm_r (e' := bs_cp (40 * t) (40 * v + j) c (i + 1)) ?_ (nm_r (nI_1 i) (nm_r (nI_1 i) (g _ rfl)))⟩) (bs_l hl hv) e1⟩) (bs_l hl ht))
    subst hs
    rw [pk_cl (40 * t + i) e2, pk_cl (40 * v + j + i) e3]
    rfl
theorem by_swap {post : Int32 → SY → Prop} {x : Int32} {u v : Nat} {c l : Nat → Int32} (hu : u < 11) (hv : v < 11) (p : post 0 (x, bs_sw (40 * u) (40 * v) c 40, l)) : ∃ m, wY_swap_47 post (nI u) (nI v) x m 0 c l := by
  refine loop_0 (fun m i s => wY_swap_47 post (nI u) (nI v) x m (nI i) s l) (fun i s => s = bs_sw (40 * u) (40 * v) c i) 40 c rfl (fun m s hs => ?_) (fun m i s hi hs k => ?_)
  · subst hs
    exact br_t (nI_le (a := 40) (b := 40) (Nat.le_refl _) (by omega)) p
  · have e1 : 40 * nI u + nI i = nI (40 * u + i) := by rw [bs_40l, nI_add]
    have e2 : 40 * nI v + nI i = nI (40 * v + i) := by rw [bs_40l, nI_add]
    have i1 : vp_in (40 * nI u + nI i) 440 := pk_in (40 * u + i) 440 (by omega) e1
    have i2 : vp_in (40 * nI v + nI i) 440 := pk_in (40 * v + i) 440 (by omega) e2
    refine br_f (nI_ge (a := i) (b := 40) hi (by omega)) ⟨i1, nm_e ⟨i2, i1, nm_e ⟨i2, nm_r (e' := bs_sw (40 * u) (40 * v) c (i + 1)) ?_ (nm_r (nI_1 i) (k _ rfl))⟩⟩⟩
    subst hs
    rw [pk_cl (40 * u + i) e1, pk_cl (40 * v + i) e2]
    rfl
