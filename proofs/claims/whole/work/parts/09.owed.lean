/-! ===== what is owed ===== -/
theorem cd_rng (x : Int32) : x < 0 ∨ (¬ x < 0 ∧ 7 ≤ x ∧ 6 < x) ∨ ∃ j, j < 7 ∧ x = nI j := by
  by_cases h : x < 0
  · exact .inl h
  · obtain ⟨j, hj, rfl⟩ := nI_of h
    rcases Nat.lt_or_ge j 7 with h7 | h7
    · exact .inr (.inr ⟨j, h7, rfl⟩)
    · exact .inr (.inl ⟨h, nI_le (a := 7) h7 hj, nI_lt (a := 6) (by omega) hj⟩)
theorem cd_rng2 (x : Int32) : x < 0 ∨ (¬ x < 0 ∧ 127 < x) ∨ ∃ j, j < 128 ∧ x = nI j := by
  by_cases h : x < 0
  · exact .inl h
  · obtain ⟨j, hj, rfl⟩ := nI_of h
    rcases Nat.lt_or_ge j 128 with h7 | h7
    · exact .inr (.inr ⟨j, h7, rfl⟩)
    · exact .inr (.inl ⟨h, nI_lt (a := 127) (by omega) hj⟩)
theorem cd_n6 {j : Nat} (h : j < 7) : ¬ (6 : Int32) < nI j := nI_nlt (a := 6) (by omega) (by decide)
theorem cd_isv1 {post : Int32 → Prop} {j : Nat} (hj : j < 7) (h : post 1) : wpX_isVertex post (nI j) := br_f (cd_n0 (by omega)) (br_f (cd_g7 hj) h)
theorem cd_isv0 {post : Int32 → Prop} {x : Int32} (hx : x < 0 ∨ (¬ x < 0 ∧ 7 ≤ x ∧ 6 < x)) (h : post 0) : wpX_isVertex post x :=
  hx.elim (fun z => br_t z h) (fun z => br_f z.1 (br_t z.2.1 h))
/-- the two hold the same arrays; who is joined to whom is the same from both ends, and nobody to himself -/
def i_Rel (k : Nat) (u : SX) (v : SY) : Prop := u = v ∧ cd_G u.1
theorem i_up {k : Nat} {u : SX} {v : SY} (h : i_Rel k u v) : i_Rel (k + 4) u v := h
theorem i_vc0 : wpX_init (fun u => wpY_init (fun v => i_Rel 0 u v)) :=
  ⟨rfl, fun i j _ _ => (b_0 j).trans (b_0 i).symm, fun i _ => b_0 i⟩
theorem cd_ypair0 {post : Int32 → Prop} {u : SY} {x y : Int32} (h : x = y ∨ (x < 0 ∨ (¬ x < 0 ∧ 7 ≤ x ∧ 6 < x)) ∨ (y < 0 ∨ (¬ y < 0 ∧ 7 ≤ y ∧ 6 < y))) (hp : post 0) : wpY_pair post u x y := by
  obtain ⟨a, t⟩ := u
  refine br_c (fun _ => hp) (fun e => br_c (fun _ => hp) (fun e1 => br_c (fun _ => hp) (fun e2 => br_c (fun _ => hp) (fun e3 => br_c (fun _ => hp) (fun e4 => ?_)))))
  rcases h with h | (h | h) | (h | h)
  · exact absurd h e
  · exact absurd h e1
  · exact absurd h.2.2 e2
  · exact absurd h e3
  · exact absurd h.2.2 e4
theorem cd_ypair1 {post : Int32 → Prop} {u : SY} {i j : Nat} (hi : i < 7) (hj : j < 7) (ne : ¬ nI i = nI j) (hp : post 1) : wpY_pair post u (nI i) (nI j) :=
  br_f ne (br_f (cd_n0 (by omega)) (br_f (cd_n6 hi) (br_f (cd_n0 (by omega)) (br_f (cd_n6 hj) hp))))
theorem cd_yjoined {post : Int32 → Prop} {a t : Nat → Int32} {i j : Nat} (hi : i < 7) (hj : j < 7) (h : post (cd_cb (bt (a i) j))) : wpY_joined post (a, t) (nI i) (nI j) := by
  refine ⟨cd_in7 hi, ?_⟩
  rw [cd_cl (by omega)]
  exact cd_b1 (by omega) (fun e => by rw [e] at h; exact h) (fun e => by rw [e] at h; exact h)
theorem cd_yj0 {post : Int32 → SY → Prop} {a t : Nat → Int32} {x y z : Int32} (h : x = y ∨ (x < 0 ∨ (¬ x < 0 ∧ 7 ≤ x ∧ 6 < x)) ∨ (y < 0 ∨ (¬ y < 0 ∧ 7 ≤ y ∧ 6 < y))) (hp : post 0 (a, t)) : wpY_join post (a, t) x y z := by
  unfold wpY_join
  dsimp only
  exact cd_ypair0 h (br_t rfl hp)
theorem cd_yj1 {post : Int32 → SY → Prop} {a t : Nat → Int32} {i j : Nat} {z : Int32} (hi : i < 7) (hj : j < 7) (ne : ¬ nI i = nI j) (h1 : cd_cb (bt (a i) j) = z → post 1 (a, t)) (h2 : ¬ cd_cb (bt (a i) j) = z → post 1 (cd_flip a i j, t)) : wpY_join post (a, t) (nI i) (nI j) z := by
  unfold wpY_join
  dsimp only
  exact cd_ypair1 hi hj ne (br_f (by decide) (cd_yjoined hi hj (br_c h1 (fun e => cd_yflip hi hj (h2 e)))))
theorem cd_xj0 {post : Int32 → SX → Prop} {a t : Nat → Int32} {x y z : Int32} (h : x = y ∨ (x < 0 ∨ (¬ x < 0 ∧ 7 ≤ x ∧ 6 < x)) ∨ ((∃ i, i < 7 ∧ x = nI i) ∧ (y < 0 ∨ (¬ y < 0 ∧ 7 ≤ y ∧ 6 < y)))) (hp : post 0 (a, t)) : wpX_join post (a, t) x y z := by
  unfold wpX_join
  dsimp only
  refine br_c (fun _ => hp) (fun e => ?_)
  rcases h with h | h | ⟨⟨i, hi, rfl⟩, h⟩
  · exact absurd h e
  · exact cd_isv0 h (br_t rfl hp)
  · exact cd_isv1 hi (br_f (by decide) (cd_isv0 h (br_t rfl hp)))
theorem cd_xj1 {post : Int32 → SX → Prop} {a t : Nat → Int32} {i j : Nat} {z : Int32} (G : cd_G a) (hi : i < 7) (hj : j < 7) (ne : ¬ nI i = nI j) (hz : z = 0 ∨ z = 1) (h1 : cd_cb (bt (a i) j) = z → post 1 (a, t)) (h2 : ¬ cd_cb (bt (a i) j) = z → post 1 (cd_flip a i j, t)) : wpX_join post (a, t) (nI i) (nI j) z := by
  have ne' : i ≠ j := fun y => ne (by rw [y])
  unfold wpX_join
  dsimp only
  refine br_f ne (cd_isv1 hi (br_f (by decide) (cd_isv1 hj (br_f (by decide) ?_))))
  rcases hz with rfl | rfl
  · refine br_t rfl ?_
    cases hb : bt (a i) j
    · exact cd_part0 G hi hj hb (h1 (by rw [hb]; rfl))
    · exact cd_part1 G hi hj ne' hb (h2 (by rw [hb]; decide))
  · refine br_f (by decide) ?_
    cases hb : bt (a i) j
    · exact cd_link0 G hi hj ne' hb (h2 (by rw [hb]; decide))
    · exact cd_link1 G hi hj hb (h1 (by rw [hb]; rfl))
theorem i_vc_join {k : Nat} {u : SX} {v : SY} (I : i_Rel k u v) (hk : k + 4 ≤ 2048) (v1 : Int32) (v2 : Int32) (v3 : Int32) : wpX_join (fun r u' => wpY_join (fun r' v' => r' = r ∧ i_Rel (k + 4) u' v') v v1 v2 (lw_bz v3)) u v1 v2 (lw_bz v3) := by
  obtain ⟨rfl, G⟩ := I
  obtain ⟨a, t⟩ := u
  by_cases e : v1 = v2
  · exact cd_xj0 (.inl e) (cd_yj0 (.inl e) ⟨rfl, rfl, G⟩)
  rcases cd_rng v1 with h1 | h1 | ⟨i, hi, e1⟩
  · exact cd_xj0 (.inr (.inl (.inl h1))) (cd_yj0 (.inr (.inl (.inl h1))) ⟨rfl, rfl, G⟩)
  · exact cd_xj0 (.inr (.inl (.inr h1))) (cd_yj0 (.inr (.inl (.inr h1))) ⟨rfl, rfl, G⟩)
  rcases cd_rng v2 with h2 | h2 | ⟨j, hj, e2⟩
  · exact cd_xj0 (.inr (.inr ⟨⟨i, hi, e1⟩, .inl h2⟩)) (cd_yj0 (.inr (.inr (.inl h2))) ⟨rfl, rfl, G⟩)
  · exact cd_xj0 (.inr (.inr ⟨⟨i, hi, e1⟩, .inr h2⟩)) (cd_yj0 (.inr (.inr (.inr h2))) ⟨rfl, rfl, G⟩)
  subst e1 e2
  have ne : i ≠ j := fun z => e (by rw [z])
  exact cd_xj1 G hi hj e (lw_bz_01 v3) (fun z => cd_yj1 hi hj e (fun _ => ⟨rfl, rfl, G⟩) (fun y => absurd z y)) (fun z => cd_yj1 hi hj e (fun y => absurd y z) (fun _ => ⟨rfl, rfl, cd_flipG G hi hj ne⟩))
theorem i_vc_neighbours {k : Nat} {u : SX} {v : SY} (I : i_Rel k u v) (hk : k + 4 ≤ 2048) (v1 : Int32) : wpX_neighbours (fun r => wpY_neighbours (fun r' => r' = r ∧ i_Rel (k + 4) u v) v v1) u v1 := by
  obtain ⟨rfl, G⟩ := I
  obtain ⟨a, t⟩ := u
  unfold wpX_neighbours wpY_neighbours
  dsimp only
  rcases cd_rng v1 with h1 | h1 | ⟨i, hi, rfl⟩
  · exact cd_isv0 (.inl h1) (br_t rfl (br_t h1 ⟨rfl, rfl, G⟩))
  · exact cd_isv0 (.inr h1) (br_t rfl (br_f h1.1 (br_t h1.2.2 ⟨rfl, rfl, G⟩)))
  · exact cd_isv1 hi (br_f (by decide) ⟨cd_in7 hi, br_f (cd_n0 (by omega)) (br_f (cd_n6 hi) ⟨cd_in7 hi, rfl, rfl, G⟩)⟩)
theorem i_vc_joins {k : Nat} {u : SX} {v : SY} (I : i_Rel k u v) (hk : k + 4 ≤ 2048) : wpX_joins (fun r => wpY_joins (fun r' => r' = r ∧ i_Rel (k + 4) u v) v) u := by
  obtain ⟨rfl, G⟩ := I
  obtain ⟨a, t⟩ := u
  exact cd_xjoins (cd_yjoins G ⟨rfl, rfl, G⟩)
theorem i_vc_clique {k : Nat} {u : SX} {v : SY} (I : i_Rel k u v) (hk : k + 4 ≤ 2048) (v1 : Int32) : wpX_clique (fun r => wpY_clique (fun r' => r' = r ∧ i_Rel (k + 4) u v) v v1) u v1 := by
  obtain ⟨rfl, G⟩ := I
  obtain ⟨a, t⟩ := u
  rcases cd_rng2 v1 with h1 | h1 | ⟨s, hs, rfl⟩
  · refine br_t h1 (br_t h1 ⟨8, cd_yclq G 7 0 false rfl ?_⟩)
    rw [Bool.false_and]
    exact ⟨rfl, rfl, G⟩
  · refine br_f h1.1 (br_t h1.2 (br_f h1.1 (br_t h1.2 ⟨8, cd_yclq G 7 0 false rfl ?_⟩)))
    rw [Bool.false_and]
    exact ⟨rfl, rfl, G⟩
  · refine br_f (cd_n0 hs) (br_f (cd_n127 hs) (cd_xall (cd_c0 (fun e => cd_yclique G hs ?_) (fun e => cd_yclique G hs ?_))))
    · rw [e]
      exact ⟨rfl, rfl, G⟩
    · rw [e]
      exact ⟨rfl, rfl, G⟩
theorem i_vc_neat {k : Nat} {u : SX} {v : SY} (I : i_Rel k u v) (hk : k + 4 ≤ 2048) : wpX_neat (fun r => wpY_neat (fun r' => r' = r ∧ i_Rel (k + 4) u v) v) u := by
  obtain ⟨rfl, G⟩ := I
  obtain ⟨a, t⟩ := u
  exact cd_xneat (cd_yneat ⟨rfl, rfl, G⟩)
theorem i_vc_easy {k : Nat} {u : SX} {v : SY} (I : i_Rel k u v) (hk : k + 4 ≤ 2048) : wpX_easy (fun r => wpY_easy (fun r' => r' = r ∧ i_Rel (k + 4) u v) v) u := by
  obtain ⟨rfl, G⟩ := I
  obtain ⟨a, t⟩ := u
  exact cd_xeasys (cd_yeasys G ⟨rfl, rfl, G⟩)
theorem i_vc_core {k : Nat} {u : SX} {v : SY} (I : i_Rel k u v) (hk : k + 4 ≤ 2048) : wpX_core (fun r => wpY_core (fun r' => r' = r ∧ i_Rel (k + 4) u v) v) u := by
  obtain ⟨rfl, G⟩ := I
  obtain ⟨a, t⟩ := u
  exact cd_xcore (cd_ycore G ⟨rfl, rfl, G⟩)
theorem i_vc_largestClique {k : Nat} {u : SX} {v : SY} (I : i_Rel k u v) (hk : k + 4 ≤ 2048) : wpX_largestClique (fun r => wpY_largestClique (fun r' => r' = r ∧ i_Rel (k + 4) u v) v) u := by
  obtain ⟨rfl, G⟩ := I
  obtain ⟨a, t⟩ := u
  exact cd_xlclq (cd_ylclq G ⟨rfl, rfl, G⟩)
theorem i_vc_fullCliques {k : Nat} {u : SX} {v : SY} (I : i_Rel k u v) (hk : k + 4 ≤ 2048) : wpX_fullCliques (fun r => wpY_fullCliques (fun r' => r' = r ∧ i_Rel (k + 4) u v) v) u := by
  obtain ⟨rfl, G⟩ := I
  obtain ⟨a, t⟩ := u
  exact cd_xfull (cd_yfull G ⟨rfl, rfl, G⟩)
theorem i_vc_largestApart {k : Nat} {u : SX} {v : SY} (I : i_Rel k u v) (hk : k + 4 ≤ 2048) : wpX_largestApart (fun r => wpY_largestApart (fun r' => r' = r ∧ i_Rel (k + 4) u v) v) u := by
  obtain ⟨rfl, G⟩ := I
  obtain ⟨a, t⟩ := u
  exact cd_xlap (cd_ylap ⟨rfl, rfl, G⟩)
theorem i_vc_colours {k : Nat} {u : SX} {v : SY} (I : i_Rel k u v) (hk : k + 4 ≤ 2048) : wpX_colours (fun r u' => wpY_colours (fun r' v' => r' = r ∧ i_Rel (k + 4) u' v') v) u := by
  obtain ⟨rfl, G⟩ := I
  obtain ⟨a, t⟩ := u
  exact cd_xcol (cd_ycol ⟨rfl, rfl, G⟩)
theorem i_vc_orders {k : Nat} {u : SX} {v : SY} (I : i_Rel k u v) (hk : k + 4 ≤ 2048) : wpX_orders (fun r u' => wpY_orders (fun r' v' => r' = r ∧ i_Rel (k + 4) u' v') v) u := by
  obtain ⟨rfl, G⟩ := I
  obtain ⟨a, t⟩ := u
  exact cd_xord (cd_yord G ⟨rfl, rfl, G⟩)
theorem i_vc_smallestHole {k : Nat} {u : SX} {v : SY} (I : i_Rel k u v) (hk : k + 4 ≤ 2048) : wpX_smallestHole (fun r => wpY_smallestHole (fun r' => r' = r ∧ i_Rel (k + 4) u v) v) u := by
  obtain ⟨rfl, G⟩ := I
  obtain ⟨a, t⟩ := u
  exact cd_xsmall (cd_ysmall ⟨rfl, rfl, G⟩)
theorem i_vc_neatJoins {k : Nat} {u : SX} {v : SY} (I : i_Rel k u v) (hk : k + 4 ≤ 2048) : wpX_neatJoins (fun r u' => wpY_neatJoins (fun r' v' => r' = r ∧ i_Rel (k + 4) u' v') v) u := by
  obtain ⟨rfl, G⟩ := I
  obtain ⟨a, t⟩ := u
  exact cd_xnj G (cd_ynj ⟨rfl, rfl, G⟩)
theorem i_vc_fill {k : Nat} {u : SX} {v : SY} (I : i_Rel k u v) (hk : k + 4 ≤ 2048) : wpX_fill (fun r u' => wpY_fill (fun r' v' => r' = r ∧ i_Rel (k + 4) u' v') v) u := by
  obtain ⟨rfl, G⟩ := I
  obtain ⟨a, t⟩ := u
  exact cd_xfill G (cd_yfill ⟨rfl, rfl, G⟩)
