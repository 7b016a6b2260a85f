/-! the class's own methods, each with a general post -/
theorem bx_B1 {post : Int32 → Prop} {x : Int32} (h : bs_B 255 x) (p : post 1) : wpX_isByte post x := by
  obtain ⟨j, hj, rfl⟩ := h
  exact br_f (nI_pos (by omega)) (br_f (nI_nlt (a := 255) (b := j) hj (by decide)) p)
theorem bx_B0 {post : Int32 → Prop} {x : Int32} (h : ¬ bs_B 255 x) (p : post 0) : wpX_isByte post x := by
  by_cases a : x < 0
  · exact br_t a p
  · obtain ⟨j, hj, rfl⟩ := nI_of a
    have hn : ¬ j ≤ 255 := fun z => h ⟨j, z, rfl⟩
    exact br_f a (br_t (nI_lt (a := 255) (b := j) (by omega) hj) p)
theorem bx_V1 {post : Int32 → Prop} {x : Int32} (h : bs_B 5 x) (p : post 1) : wpX_isVariable post x := by
  obtain ⟨j, hj, rfl⟩ := h
  exact br_f (nI_pos (by omega)) (br_f (nI_ge (a := j) (b := 6) (by omega) (by decide)) p)
theorem bx_V0 {post : Int32 → Prop} {x : Int32} (h : ¬ bs_B 5 x) (p : post 0) : wpX_isVariable post x := by
  by_cases a : x < 0
  · exact br_t a p
  · obtain ⟨j, hj, rfl⟩ := nI_of a
    have hn : ¬ j ≤ 5 := fun z => h ⟨j, z, rfl⟩
    exact br_f a (br_t (nI_le (a := 6) (b := j) (by omega) hj) p)
theorem bx_P1 {post : Int32 → Prop} {x : Int32} (h : bs_P x) (p : post 1) : wpX_isPlace post x := by
  rcases bs_Pc x with ⟨_, z⟩ | ⟨_, _, _, z⟩ | ⟨a, b, _, _⟩
  · exact absurd h z
  · exact absurd h z
  · exact br_f a (br_f b p)
theorem bx_P0 {post : Int32 → Prop} {x : Int32} (h : ¬ bs_P x) (p : post 0) : wpX_isPlace post x := by
  rcases bs_Pc x with ⟨a, _⟩ | ⟨a, b, _, _⟩ | ⟨_, _, _, z⟩
  · exact br_t a p
  · exact br_f a (br_t b p)
  · exact absurd z h
theorem bx_top {post : Int32 → Prop} {e : Nat} {c l : Nat → Int32} (p : post (nI (6 + e))) : wpX_topSlot post (nI (e + 1), c, l) := by
  unfold wpX_topSlot
  dsimp only
  rw [bs_top]
  exact p
theorem bx_sumL {post : Int32 → Prop} {d : Nat} {c l : Nat → Int32} (hd : d ≤ 4) (hl : bs_len l) (p : post (nI (bs_sum l (6 + d)))) : ∀ m s, s + m = 6 + d → wX_sumOfLengths_4 post (nI d) c l (m + 1) (nI (bs_sum l s)) (nI s) := by
  intro m
  induction m with
  | zero =>
    intro s h
    have e : s = 6 + d := h
    subst e
    exact br_t (nI_le (a := 6 + d) (b := 6 + d) (Nat.le_refl _) (by omega) |> fun z => (nI_add 6 d).symm ▸ z) p
  | succ m ih =>
    intro s h
    refine pk_le (6 + d) s (fun z => absurd z (by omega)) (fun _ => ⟨bs_in (by omega), ?_⟩) (nI_add 6 d)
    refine nm_r (e' := nI (bs_sum l (s + 1))) ?_ (nm_r (nI_1 s) (ih (s + 1) (by omega)))
    rw [bs_l hl (by omega), nI_add]
    rfl
theorem bx_sum {post : Int32 → Prop} {d : Nat} {c l : Nat → Int32} (hd : d ≤ 4) (hl : bs_len l) (p : post (nI (bs_sum l (6 + d)))) : wpX_sumOfLengths post (nI d, c, l) :=
  ⟨6 + d + 1, bx_sumL hd hl p (6 + d) 0 (by omega)⟩
theorem bx_room1 {post : Int32 → Prop} {d n : Nat} {c l : Nat → Int32} (hd : d ≤ 4) (hl : bs_len l) (h : bs_sum l (6 + d) + n ≤ 100) (p : post 1) : wpX_hasRoomFor post (nI d, c, l) (nI n) := by
  unfold wpX_hasRoomFor
  dsimp only
  exact bx_sum hd hl (pk_lt 100 (bs_sum l (6 + d) + n) (fun z => absurd z (by omega)) (fun _ => p) rfl (nI_add _ _))
theorem bx_room0 {post : Int32 → Prop} {d n : Nat} {c l : Nat → Int32} (hd : d ≤ 4) (hl : bs_len l) (hn : n ≤ 40) (h : 100 < bs_sum l (6 + d) + n) (p : post 0) : wpX_hasRoomFor post (nI d, c, l) (nI n) := by
  have b := bs_sum_le hl (6 + d) (by omega)
  unfold wpX_hasRoomFor
  dsimp only
  exact bx_sum hd hl (pk_lt 100 (bs_sum l (6 + d) + n) (fun _ => p) (fun z => absurd z (by omega)) rfl (nI_add _ _))
theorem bx_copyCells {post : SX → Prop} {x : Int32} {f t n : Nat} {c l : Nat → Int32} (hf : f < 1000) (ht : t < 1000) (hn : n ≤ 40) (h : ∀ i, i < n → f + i < 440 ∧ t + i < 440) (p : post (x, bs_cp f t c n, l)) : wpX_copyCells post (x, c, l) (nI f) (nI t) (nI n) := by
  refine loop_0 (fun m i s => wX_copyCells_3 post (nI f) (nI t) (nI n) x m (nI i) s l) (fun i s => s = bs_cp f t c i) n c rfl (fun m s hs => ?_) (fun m i s hi hs k => ?_)
  · subst hs
    exact br_t (nI_le (Nat.le_refl _) (by omega)) p
  · refine br_f (nI_ge hi (by omega)) ⟨pk_in (f + i) 440 (h i hi).1 (nI_add f i), pk_in (t + i) 440 (h i hi).2 (nI_add t i), ?_⟩
    refine nm_r (e' := bs_cp f t c (i + 1)) ?_ (nm_r (nI_1 i) (k _ rfl))
    subst hs
    rw [pk_cl (t + i) (nI_add t i), pk_cl (f + i) (nI_add f i)]
    rfl
theorem bx_copyString {post : SX → Prop} {x : Int32} {a b : Nat} {c l : Nat → Int32} (hl : bs_len l) (ha : a < 11) (hb : b < 11) (p : post (x, bs_cp (40 * a) (40 * b) c (bs_n l a), upd l b (nI (bs_n l a)))) : wpX_copyString post (x, c, l) (nI a) (nI b) := by
  have n40 := bs_n40 hl ha
  unfold wpX_copyString
  dsimp only
  rw [bs_40r, bs_40r, bs_l hl ha]
  refine ⟨bs_in ha, bx_copyCells (by omega) (by omega) n40 (fun i hi => by omega) ⟨bs_in ha, bs_in hb, nm_r ?_ p⟩⟩
  dsimp only
  rw [bs_l hl ha, nI_clamp (n := b) (by omega)]
theorem bx_put0 {post : Int32 → SX → Prop} {d a : Nat} {c l : Nat → Int32} (hd : d ≤ 4) (hl : bs_len l) (ha : a < 11) (h : 4 ≤ d ∨ 100 < bs_sum l (6 + d) + bs_n l a) (p : post (-2) (nI d, c, l)) : wpX_putCopyOf post (nI d, c, l) (nI a) := by
  have n40 := bs_n40 hl ha
  unfold wpX_putCopyOf
  dsimp only
  rw [bs_l hl ha]
  refine pk_le 4 d (fun _ => p) (fun z => ⟨bs_in ha, bx_room0 hd hl n40 ?_ (br_t rfl p)⟩)
  omega
theorem bx_put1 {post : Int32 → SX → Prop} {d a : Nat} {c l : Nat → Int32} (hd : d < 4) (hl : bs_len l) (ha : a < 11) (h : bs_sum l (6 + d) + bs_n l a ≤ 100) (p : post (nI (bs_n l a)) (nI (d + 1), bs_cp (40 * a) (40 * (6 + d)) c (bs_n l a), upd l (6 + d) (nI (bs_n l a)))) : wpX_putCopyOf post (nI d, c, l) (nI a) := by
  unfold wpX_putCopyOf
  dsimp only
  rw [bs_l hl ha]
  refine br_f (nI_ge (a := d) (b := 4) hd (by decide)) ⟨bs_in ha, bx_room1 (by omega) hl h (br_f bs_10 (nm_r (nI_1 d) (bx_top (bx_copyString hl ha (by omega) ⟨bs_in (by omega), ?_⟩))))⟩
  dsimp only
  rw [nI_clamp (n := 6 + d) (by omega), pk_us]
  exact p
theorem bx_count {post : Int32 → Prop} {x : Int32} {a st n : Nat} {c l : Nat → Int32} (hl : bs_len l) (ha : a < 11) (hs : st < 2 ^ 30) (hn : n < 2 ^ 31) (p : post (nI (min n (bs_n l a - st)))) : wpX_countFrom post (x, c, l) (nI a) (nI st) (nI n) := by
  have n40 := bs_n40 hl ha
  unfold wpX_countFrom
  dsimp only
  rw [bs_l hl ha]
  refine ⟨bs_in ha, ?_⟩
  by_cases h : st ≤ bs_n l a
  · refine nm_r (pk_sub h) (br_t (nI_pos' (by omega)) (pk_le (bs_n l a - st) n (fun z => ?_) (fun z => ?_)))
    · rw [Nat.min_eq_right z] at p
      exact p
    · rw [Nat.min_eq_left (by omega)] at p
      exact p
  · refine nm_e (br_f (Int32.not_le.mpr (pk_sneg hs (by omega))) ?_)
    have e : min n (bs_n l a - st) = 0 := by omega
    rw [e] at p
    exact p
theorem bx_keep {post : Int32 → SX → Prop} {e st n : Nat} {c l : Nat → Int32} (he : e < 4) (hl : bs_len l) (hs : st < 600) (hn : n < 2 ^ 31) (p : post (nI (min n (bs_n l (6 + e) - st))) (nI (e + 1), bs_cp (40 * (6 + e) + st) (40 * (6 + e)) c (min n (bs_n l (6 + e) - st)), upd l (6 + e) (nI (min n (bs_n l (6 + e) - st))))) : wpX_keepOfTop post (nI (e + 1), c, l) (nI st) (nI n) := by
  have n40 := bs_n40 hl (j := 6 + e) (by omega)
  unfold wpX_keepOfTop
  dsimp only
  refine bx_top (bx_count hl (by omega) (by omega) hn ?_)
  rw [bs_40r, nI_add]
  refine bx_copyCells (by omega) (by omega) (by omega) (fun i hi => by omega) ⟨bs_in (by omega), nm_r ?_ p⟩
  dsimp only
  rw [nI_clamp (n := 6 + e) (by omega)]
