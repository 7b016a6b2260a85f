/-! the class's own methods, the second half -/
theorem by_fin {post : Int32 → Prop} {x : Int32} {a b : Nat} {c l : Nat → Int32} (hl : bs_len l) (ha : a < 11) (hb : b < 11) (p : post (bs_z (bs_n l a) (bs_n l b))) : wY_order_84 post (nI a) (nI b) x c l := by
  have n1 := bs_n40 hl ha
  have n2 := bs_n40 hl hb
  unfold wY_order_84
  rw [bs_l hl ha, bs_l hl hb]
  refine ⟨bs_in ha, bs_in hb, pk_eq (bs_n l a) (bs_n l b) (fun z => ?_) (fun z => ⟨bs_in ha, bs_in hb, pk_le (bs_n l b) (bs_n l a) (fun y => ?_) (fun y => ?_)⟩)⟩
  · have e : bs_z (bs_n l a) (bs_n l b) = 0 := if_pos z
    rw [e] at p
    exact p
  · have e : bs_z (bs_n l a) (bs_n l b) = 2 := (if_neg z).trans (if_pos y)
    rw [e] at p
    exact p
  · have e : bs_z (bs_n l a) (bs_n l b) = 1 := (if_neg z).trans (if_neg (by omega))
    rw [e] at p
    exact p
theorem bs_ordE {c : Nat → Int32} {p q : Nat} {z : Int32} {m k : Nat} (h : c (p + k) = c (q + k)) : bs_ord c p q z (m + 1) k = bs_ord c p q z m (k + 1) := if_pos h
theorem bs_ord2 {c : Nat → Int32} {p q : Nat} {z : Int32} {m k : Nat} (h : ¬ c (p + k) = c (q + k)) (h2 : c (q + k) ≤ c (p + k)) : bs_ord c p q z (m + 1) k = 2 := (if_neg h).trans (if_pos h2)
theorem bs_ord1 {c : Nat → Int32} {p q : Nat} {z : Int32} {m k : Nat} (h : ¬ c (p + k) = c (q + k)) (h2 : ¬ c (q + k) ≤ c (p + k)) : bs_ord c p q z (m + 1) k = 1 := (if_neg h).trans (if_neg h2)
theorem bx_ordL {post : Int32 → Prop} {x : Int32} {a b n : Nat} {c l : Nat → Int32} (hl : bs_len l) (ha : a < 11) (hb : b < 11) (hn : n ≤ 40) : ∀ m k, k + m = n → post (bs_ord c (40 * a) (40 * b) (bs_z (bs_n l a) (bs_n l b)) m k) → wX_orderOf_16 post (nI a) (nI b) (nI n) x c l (m + 1) (nI k) := by
  intro m
  induction m with
  | zero =>
    intro k h p
    exact pk_le n k (fun _ => by_fin (x := x) (c := c) hl ha hb p) (fun z => absurd z (by omega))
  | succ m ih =>
    intro k h p
    have e1 : nI a * 40 + nI k = nI (40 * a + k) := by rw [bs_40r, nI_add]
    have e2 : nI b * 40 + nI k = nI (40 * b + k) := by rw [bs_40r, nI_add]
    refine pk_le n k (fun z => absurd z (by omega)) (fun _ => ⟨pk_in (40 * a + k) 440 (by omega) e1, nm_r (e' := c (40 * a + k)) (by rw [pk_cl (40 * a + k) e1]) ⟨pk_in (40 * b + k) 440 (by omega) e2, nm_r (e' := c (40 * b + k)) (by rw [pk_cl (40 * b + k) e2]) ?_⟩⟩)
    by_cases z : c (40 * a + k) = c (40 * b + k)
    · refine br_t z (nm_r (nI_1 k) (ih (k + 1) (by omega) ?_))
      rw [bs_ordE z] at p
      exact p
    · by_cases y : c (40 * b + k) ≤ c (40 * a + k)
      · rw [bs_ord2 z y] at p
        exact br_f z (br_t y p)
      · rw [bs_ord1 z y] at p
        exact br_f z (br_f y p)
theorem bx_ord {post : Int32 → Prop} {x : Int32} {a b : Nat} {c l : Nat → Int32} (hl : bs_len l) (ha : a < 11) (hb : b < 11) (p : post (bs_ord c (40 * a) (40 * b) (bs_z (bs_n l a) (bs_n l b)) (min (bs_n l b) (bs_n l a)) 0)) : wpX_orderOf post (x, c, l) (nI a) (nI b) := by
  have n1 := bs_n40 hl ha
  have n2 := bs_n40 hl hb
  unfold wpX_orderOf
  dsimp only
  rw [bs_l hl hb]
  exact ⟨bs_in hb, bx_count (st := 0) hl ha (by omega) (by omega) ⟨_, bx_ordL hl ha hb (n := min (bs_n l b) (bs_n l a - 0)) (by omega) (min (bs_n l b) (bs_n l a)) 0 (by omega) p⟩⟩
theorem bx_begL {post : Int32 → Prop} {x : Int32} {u v s : Nat} {c l : Nat → Int32} (hl : bs_len l) (hu : u < 11) (hv : v < 11) (hs : s + bs_n l v ≤ bs_n l u) : ∀ m k, k + m = bs_n l v → post (bs_bg c (40 * u + s) (40 * v) m k) → wX_beginsAt_22 post (nI u) (nI s) (nI v) x c l (m + 1) (nI k) := by
  have n40 := bs_n40 hl hu
  intro m
  induction m with
  | zero =>
    intro k h p
    exact And.intro (bs_in hv) (pk_le (bs_n l v) k (fun _ => p) (fun z => absurd z (by omega)) (bs_l hl hv))
  | succ m ih =>
    intro k h p
    have e1 : nI u * 40 + nI s + nI k = nI (40 * u + s + k) := by rw [bs_40r, nI_add, nI_add]
    have e2 : nI v * 40 + nI k = nI (40 * v + k) := by rw [bs_40r, nI_add]
    refine And.intro (bs_in hv) (pk_le (bs_n l v) k (fun z => absurd z (by omega)) (fun _ => ⟨pk_in (40 * u + s + k) 440 (by omega) e1, pk_in (40 * v + k) 440 (by omega) e2, ?_⟩) (bs_l hl hv))
    rw [pk_cl (40 * u + s + k) e1, pk_cl (40 * v + k) e2]
    by_cases z : c (40 * u + s + k) = c (40 * v + k)
    · refine br_t z (nm_r (nI_1 k) (ih (k + 1) (by omega) ?_))
      have e : bs_bg c (40 * u + s) (40 * v) (m + 1) k = bs_bg c (40 * u + s) (40 * v) m (k + 1) := if_pos z
      rw [e] at p
      exact p
    · refine br_f z ?_
      have e : bs_bg c (40 * u + s) (40 * v) (m + 1) k = 0 := if_neg z
      rw [e] at p
      exact p
theorem bx_beg {post : Int32 → Prop} {x : Int32} {u v s : Nat} {c l : Nat → Int32} (hl : bs_len l) (hu : u < 11) (hv : v < 11) (hs : s ≤ 40) (p : post (bs_beg c l u v s)) : wpX_beginsAt post (x, c, l) (nI u) (nI s) (nI v) := by
  have n1 := bs_n40 hl hu
  have n2 := bs_n40 hl hv
  unfold wpX_beginsAt
  dsimp only
  rw [bs_l hl hu, bs_l hl hv]
  refine ⟨bs_in hv, bs_in hu, pk_le (s + bs_n l v) (bs_n l u) (fun z => ?_) (fun z => ?_) (nI_add _ _)⟩
  · have e : bs_beg c l u v s = bs_bg c (40 * u + s) (40 * v) (bs_n l v) 0 := if_neg (by omega)
    rw [e] at p
    exact ⟨_, bx_begL hl hu hv z (bs_n l v) 0 (by omega) p⟩
  · have e : bs_beg c l u v s = 0 := if_pos z
    rw [e] at p
    exact p
theorem bx_fdL {post : Int32 → Prop} {x : Int32} {u v : Nat} {c l : Nat → Int32} (hl : bs_len l) (hu : u < 11) (hv : v < 11) : ∀ m s, s + m = bs_n l u → post (bs_fd c l u v m s) → wX_find_18 post (nI u) (nI v) x c l (m + 1) (nI s) := by
  have n40 := bs_n40 hl hu
  intro m
  induction m with
  | zero =>
    intro s h p
    exact And.intro (bs_in hu) (pk_le (bs_n l u) s (fun _ => p) (fun z => absurd z (by omega)) (bs_l hl hu))
  | succ m ih =>
    intro s h p
    refine And.intro (bs_in hu) (pk_le (bs_n l u) s (fun z => absurd z (by omega)) (fun _ => bx_beg hl hu hv (by omega) ?_) (bs_l hl hu))
    by_cases z : bs_beg c l u v s = 0
    · refine br_t z (nm_r (nI_1 s) (ih (s + 1) (by omega) ?_))
      have e : bs_fd c l u v (m + 1) s = bs_fd c l u v m (s + 1) := if_pos z
      rw [e] at p
      exact p
    · refine br_f z ?_
      have e : bs_fd c l u v (m + 1) s = nI (s + 1) := if_neg z
      rw [e] at p
      rw [nI_1]
      exact p
theorem bx_char0 {post : Int32 → Prop} {x i : Int32} {a : Nat} {c l : Nat → Int32} (hi : i < 1) (p : post 0) : wpX_characterOf post (x, c, l) (nI a) i := br_t hi p
theorem bx_char {post : Int32 → Prop} {x : Int32} {a j : Nat} {c l : Nat → Int32} (hl : bs_len l) (ha : a < 11) (hj : j + 1 < 2 ^ 31) (p1 : j + 1 ≤ bs_n l a → post (c (40 * a + j))) (p0 : bs_n l a < j + 1 → post 0) : wpX_characterOf post (x, c, l) (nI a) (nI (j + 1)) := by
  have n1 := bs_n40 hl ha
  have e : nI a * 40 + nI (j + 1) - 1 = nI (40 * a + j) := by
    rw [bs_40r, nI_add]
    exact nI_pred (40 * a + j)
  unfold wpX_characterOf
  dsimp only
  rw [bs_l hl ha]
  refine br_f (nI_nlt (a := j + 1) (b := 1) (by omega) hj) ⟨bs_in ha, pk_le (j + 1) (bs_n l a) (fun z => ⟨pk_in (40 * a + j) 440 (by omega) e, ?_⟩) p0⟩
  rw [pk_cl (40 * a + j) e]
  exact p1 z
theorem bx_rep {post : Int32 → SX → Prop} {x y : Int32} {t n : Nat} {c l : Nat → Int32} (ht : t < 11) (hn : n ≤ 40) (p : post (nI n) (x, bs_fl (40 * t) y c n, upd l t (nI n))) : ∃ m, wX_repeat_65 post (nI n) y (nI t) x m 0 c l := by
  refine loop_0 (fun m i s => wX_repeat_65 post (nI n) y (nI t) x m (nI i) s l) (fun i s => s = bs_fl (40 * t) y c i) n c rfl (fun m s hs => ?_) (fun m i s hi hs k => ?_)
  · subst hs
    refine br_t (nI_le (Nat.le_refl _) (by omega)) ⟨bs_in ht, nm_r ?_ p⟩
    rw [nI_clamp (n := t) (by omega)]
  · have e : nI t * 40 + nI i = nI (40 * t + i) := by rw [bs_40r, nI_add]
    refine br_f (nI_ge hi (by omega)) ⟨pk_in (40 * t + i) 440 (by omega) e, nm_r (e' := bs_fl (40 * t) y c (i + 1)) ?_ (nm_r (nI_1 i) (k _ rfl))⟩
    subst hs
    rw [pk_cl (40 * t + i) e]
    rfl
theorem bx_swap {post : Int32 → SX → Prop} {x : Int32} {u v : Nat} {c l : Nat → Int32} (hl : bs_len l) (hu : u < 11) (hv : v < 11) (p : post 0 (x, bs_sw (40 * u) (40 * v) c 40, upd (upd l u (nI (bs_n l v))) v (nI (bs_n l u)))) : ∃ m, wX_swap_18 post (nI u) (nI v) x m 0 c l := by
  refine loop_0 (fun m i s => wX_swap_18 post (nI u) (nI v) x m (nI i) s l) (fun i s => s = bs_sw (40 * u) (40 * v) c i) 40 c rfl (fun m s hs => ?_) (fun m i s hi hs k => ?_)
  · subst hs
    refine br_t (nI_le (a := 40) (b := 40) (Nat.le_refl _) (by omega)) ⟨bs_in hu, nm_r (bs_l hl hu) ⟨bs_in hv, bs_in hu, nm_r (e' := upd l u (nI (bs_n l v))) ?_ ⟨bs_in hv, nm_r ?_ p⟩⟩⟩
    · rw [bs_l hl hv, nI_clamp (n := u) (by omega)]
    · rw [nI_clamp (n := v) (by omega)]
  · have e1 : nI u * 40 + nI i = nI (40 * u + i) := by rw [bs_40r, nI_add]
    have e2 : nI v * 40 + nI i = nI (40 * v + i) := by rw [bs_40r, nI_add]
    have i1 : vp_in (nI u * 40 + nI i) 440 := pk_in (40 * u + i) 440 (by omega) e1
    have i2 : vp_in (nI v * 40 + nI i) 440 := pk_in (40 * v + i) 440 (by omega) e2
    refine br_f (nI_ge (a := i) (b := 40) hi (by omega)) ⟨i1, nm_e ⟨i2, i1, nm_e ⟨i2, nm_r (e' := bs_sw (40 * u) (40 * v) c (i + 1)) ?_ (nm_r (nI_1 i) (k _ rfl))⟩⟩⟩
    subst hs
    rw [pk_cl (40 * u + i) e1, pk_cl (40 * v + i) e2]
    rfl
