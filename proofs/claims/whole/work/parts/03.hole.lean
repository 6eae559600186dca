/-! ===== hangsTogether, isHole, neat of X; hole, neat of Y ===== -/
def cd_rf (a : Nat → Int32) (s : Int32) (v : Nat) (r : Int32) : Int32 := if bt r v then r ||| (a v &&& s) else r
def cd_rin (a : Nat → Int32) (s r : Int32) : Int32 := cd_fold (cd_rf a s) 7 0 r
def cd_reach (a : Nat → Int32) (s r : Int32) : Int32 := cd_fold (fun _ r => cd_rin a s r) 7 0 r
theorem cd_rf0 {a : Nat → Int32} {s : Int32} {v : Nat} {r : Int32} (h : bt r v = false) : cd_rf a s v r = r := by unfold cd_rf; rw [h]; rfl
theorem cd_rf1 {a : Nat → Int32} {s : Int32} {v : Nat} {r : Int32} (h : bt r v = true) : cd_rf a s v r = r ||| (a v &&& s) := by unfold cd_rf; rw [h]; rfl
theorem cd_xin {post : Int32 → Prop} {J : Int32 → Int32 → Prop} {a t : Nat → Int32} {s r : Int32} {i : Nat} (h : J (cd_rin a s r) (nI (i + 1))) : wX_hangsTogether_16 post J s (nI i) a t 8 r 0 := by
  refine cd_loop (W := fun n v r => wX_hangsTogether_16 post J s (nI i) a t n r (nI v)) (f := cd_rf a s) (post := fun r => J r (nI (i + 1))) (fun _ => True) 7
    (fun _ _ _ _ => trivial) (fun n x _ hp => br_t cd_l7 (nm_r (nI_1 i) hp)) ?_ 7 0 r rfl trivial h
  intro n v r hv _ hW
  refine br_f (cd_g7 hv) (cd_b0 (by omega) (fun e => nm_r (nI_1 v) ?_) (fun e => ⟨cd_in7 hv, nm_e (nm_r (nI_1 v) ?_)⟩))
  · rw [cd_rf0 e] at hW; exact hW
  · rw [cd_rf1 e] at hW; rw [cd_cl (by omega)]; exact hW
theorem cd_yin {post : Int32 → Prop} {J : Int32 → Int32 → Prop} {a t : Nat → Int32} {s r x2 : Int32} {i : Nat} (h : J (cd_rin a s r) (nI (i + 1))) : wY_hole_115 post J s x2 (nI i) a t 8 r 0 := by
  refine cd_loop (W := fun n v r => wY_hole_115 post J s x2 (nI i) a t n r (nI v)) (f := cd_rf a s) (post := fun r => J r (nI (i + 1))) (fun _ => True) 7
    (fun _ _ _ _ => trivial) (fun n x _ hp => br_t cd_l7 (nm_r (nI_1 i) hp)) ?_ 7 0 r rfl trivial h
  intro n v r hv _ hW
  refine br_f (cd_g7 hv) (cd_b1 (by omega) (fun e => ⟨cd_in7 hv, nm_e (nm_r (nI_1 v) ?_)⟩) (fun e => nm_r (nI_1 v) ?_))
  · rw [cd_rf1 e] at hW; rw [cd_cl (by omega)]; exact hW
  · rw [cd_rf0 e] at hW; exact hW
theorem cd_if {c : Prop} {d : Decidable c} {post : Int32 → Prop} (h : post (cd_cb (decide c))) : (c → post 1) ∧ (¬ c → post 0) := by
  by_cases z : c
  · rw [decide_eq_true z] at h
    exact br_t z h
  · rw [decide_eq_false z] at h
    exact br_f z h
theorem cd_xhang {post : Int32 → Prop} {a t : Nat → Int32} {s : Int32} (h : post (cd_cb (decide (cd_reach a s (s &&& (-s)) = s)))) : wpX_hangsTogether post (a, t) s := by
  refine nm_e ⟨8, cd_loop (W := fun n i r => wX_hangsTogether_7 post s a t n r (nI i)) (f := fun _ r => cd_rin a s r) (post := fun r => post (cd_cb (decide (r = s)))) (fun _ => True) 7
    (fun _ _ _ _ => trivial) (fun n r _ hp => br_t cd_l7 (cd_if hp)) ?_ 7 0 (s &&& (-s)) rfl trivial h⟩
  intro n i r hi _ hW
  exact br_f (cd_g7 hi) ⟨8, cd_xin hW⟩
def cd_hp (a : Nat → Int32) (s : Int32) (v : Nat) : Bool := !bt s v || decide (cd_sz (a v &&& s) = 2)
def cd_hole (a : Nat → Int32) (s : Int32) : Bool := decide (4 ≤ cd_sz s) && (cd_all (cd_hp a s) 7 0 && decide (cd_reach a s (s &&& (-s)) = s))
theorem cd_xhole {post : Int32 → Prop} {a t : Nat → Int32} {s : Int32} (h : post (cd_cb (cd_hole a s))) : wpX_isHole post (a, t) s := by
  unfold cd_hole at h
  refine cd_xsize (br_c (fun h4 => ?_) (fun h4 => ?_))
  · rw [decide_eq_true h4, Bool.true_and] at h
    refine ⟨8, cd_loopB (W := fun n i => wX_isHole_12 post s a t n (nI i)) (p := cd_hp a s) (A := wpX_hangsTogether (fun r => narrow .boolean (.int r) = .int r ∧ post r) (a, t) s) (B := post 0) 7
      (fun n hp => br_t cd_l7 hp) ?_ ?_ 7 0 rfl ?_ ?_⟩
    · intro n i hi hp hW
      refine br_f (cd_g7 hi) (cd_xhas hi (cd_c0 (fun _ => nm_r (nI_1 i) hW) (fun hb => ⟨cd_in7 hi, nm_e (cd_xsize ?_)⟩)))
      rw [cd_cl (by omega)]
      have e : cd_sz (a i &&& s) = 2 := by
        unfold cd_hp at hp
        rw [hb] at hp
        simpa using hp
      exact br_t e (nm_r (nI_1 i) hW)
    · intro n i hi hp h0
      unfold cd_hp at hp
      have hb : bt s i = true := by
        cases hh : bt s i
        · rw [hh] at hp; simp at hp
        · rfl
      have e : ¬ cd_sz (a i &&& s) = 2 := by
        rw [hb] at hp
        simpa using hp
      refine br_f (cd_g7 hi) (cd_xhas hi (cd_c0 (fun z => ?_) (fun _ => ⟨cd_in7 hi, nm_e (cd_xsize ?_)⟩)))
      · rw [hb] at z; cases z
      · rw [cd_cl (by omega)]
        exact br_f e h0
    · intro z
      rw [z, Bool.true_and] at h
      exact cd_xhang ⟨cd_nar _, h⟩
    · intro z
      rw [z, Bool.false_and] at h
      exact h
  · rw [decide_eq_false h4, Bool.false_and] at h
    exact h
def cd_first (s : Int32) : Nat → Int32 → Int32
  | 0, f => f
  | m + 1, f => cd_first s m (if bt s m then nI m else f)
def cd_dn (p : Nat → Bool) : Nat → Bool → Bool
  | 0, b => b
  | m + 1, b => cd_dn p m (b && p m)
theorem cd_dn7 (p : Nat → Bool) (b : Bool) : cd_dn p 7 b = (b && cd_all p 7 0) := by
  show ((((((((b && p 6) && p 5) && p 4) && p 3) && p 2) && p 1) && p 0)) = (b && (p 0 && (p 1 && (p 2 && (p 3 && (p 4 && (p 5 && (p 6 && true))))))))
  generalize p 0 = b0
  generalize p 1 = b1
  generalize p 2 = b2
  generalize p 3 = b3
  generalize p 4 = b4
  generalize p 5 = b5
  generalize p 6 = b6
  revert b b0 b1 b2 b3 b4 b5 b6
  decide +kernel
theorem cd_low : ∀ k, k < 128 → 0 < k → (1 : Int32) <<< (cd_first (nI k) 7 0 &&& 31) = nI k &&& (-(nI k)) := by decide +kernel
theorem cd_m1 (n : Nat) : nI (n + 1) + (-1) = nI n := by
  rw [nI_succ, Int32.add_assoc, show (1 : Int32) + (-1) = 0 from by decide, Int32.add_zero]
theorem cd_y74 {post : Int32 → Prop} {J : Int32 → Int32 → Int32 → Prop} {a t : Nat → Int32} {s x3 x4 : Int32} {b c : Bool} (h : J (cd_cb b) (if c then x4 else x3) (x4 + (-1))) : wY_hole_74 post J s x3 x4 (cd_cb c) (cd_cb b) a t :=
  cd_c0 (fun e => nm_e (by rw [e] at h; exact h)) (fun e => nm_e (by rw [e] at h; exact h))
theorem cd_y41 {post : Int32 → Prop} {J : Int32 → Int32 → Int32 → Prop} {a t : Nat → Int32} {s f : Int32} {b : Bool} {m : Nat} (hm : m < 7) (h : J (cd_cb (b && cd_hp a s m)) (if bt s m then nI m else f) (nI m + (-1))) : wY_hole_41 post J s (cd_cb b) f (nI m) (cd_cb (bt s m)) a t := by
  unfold cd_hp at h
  refine cd_c0 (fun e => ?_) (fun e => cd_c0 (fun e2 => ?_) (fun e2 => ⟨cd_in7 hm, cd_ycount ?_⟩))
  · rw [e, Bool.false_and] at h
    exact cd_y74 (b := false) h
  · rw [e, e2] at h
    rw [e2]
    exact cd_y74 (b := true) (c := false) h
  · rw [cd_cl (by omega)]
    refine br_c (fun h2 => ?_) (fun h2 => ?_)
    · rw [e, decide_eq_true h2, Bool.or_true] at h
      exact cd_y74 (b := true) h
    · rw [e, e2, decide_eq_false h2] at h
      rw [e2]
      exact cd_y74 (b := false) (c := true) h
theorem cd_y21 {post : Int32 → Prop} {a t : Nat → Int32} {s : Int32} : ∀ m b f, m ≤ 7 → (∃ n, wY_hole_101 post s (cd_cb (cd_dn (cd_hp a s) m b)) a t n ((1 : Int32) <<< (cd_first s m f &&& 31)) 0) → wY_hole_21 post s a t (m + 1) (cd_cb b) f (nI m + (-1)) := by
  intro m
  induction m with
  | zero =>
    intro b f _ h
    exact br_t (by decide) (nm_e h)
  | succ m ih =>
    intro b f hm h
    rw [cd_m1]
    refine br_f (nI_pos (by omega)) (cd_b1 (by omega) (fun e => ?_) (fun e => ?_))
    · have k := cd_y41 (post := post) (t := t) (J := wY_hole_21 post s a t (m + 1)) (b := b) (f := f) (by omega : m < 7) (ih _ _ (by omega) h)
      rw [e] at k
      exact k
    · have k := cd_y41 (post := post) (t := t) (J := wY_hole_21 post s a t (m + 1)) (b := b) (f := f) (by omega : m < 7) (ih _ _ (by omega) h)
      rw [e] at k
      exact k
theorem cd_y101f {post : Int32 → Prop} {a t : Nat → Int32} {s r : Int32} (h : post 0) : ∃ n, wY_hole_101 post s (cd_cb false) a t n r 0 :=
  ⟨1, br_f (by decide) (br_t rfl (br_t rfl h))⟩
theorem cd_y101t {post : Int32 → Prop} {a t : Nat → Int32} {s r : Int32} (h : post (cd_cb (decide (cd_reach a s r = s)))) : ∃ n, wY_hole_101 post s (cd_cb true) a t n r 0 := by
  refine ⟨8, cd_loop (W := fun n i r => wY_hole_101 post s (cd_cb true) a t n r (nI i)) (f := fun _ r => cd_rin a s r) (post := fun r => post (cd_cb (decide (r = s)))) (fun _ => True) 7
    (fun _ _ _ _ => trivial) (fun n r _ hp => br_t cd_l7 (br_f (by decide) (cd_if hp))) ?_ 7 0 r rfl trivial h⟩
  intro n i r hi _ hW
  exact br_f (cd_g7 hi) (br_f (by decide) ⟨8, cd_yin hW⟩)
theorem cd_6 : (6 : Int32) = nI 7 + (-1) := by decide
theorem cd_sz0 : cd_sz (nI 0) = 0 := by decide +kernel
theorem cd_yhole {post : Int32 → Prop} {a t : Nat → Int32} {k : Nat} (hk : k < 128) (h : post (cd_cb (cd_hole a (nI k)))) : wpY_hole post (a, t) (nI k) := by
  unfold cd_hole at h
  refine cd_ycount (br_c (fun h4 => ⟨8, ?_⟩) (fun h4 => ⟨8, ?_⟩))
  · rw [decide_eq_false (Int32.not_le.mpr h4), Bool.false_and] at h
    rw [cd_6]
    refine cd_y21 7 false 0 (by omega) ?_
    rw [cd_dn7, Bool.false_and]
    exact cd_y101f h
  · have h5 : (4 : Int32) ≤ cd_sz (nI k) := Int32.not_lt.mp h4
    rw [decide_eq_true h5, Bool.true_and] at h
    rw [cd_6]
    refine cd_y21 7 true 0 (by omega) ?_
    rw [cd_dn7, Bool.true_and]
    have k0 : 0 < k := by
      rcases Nat.eq_zero_or_pos k with z | z
      · subst z
        rw [cd_sz0] at h5
        exact absurd h5 (by decide)
      · exact z
    rw [cd_low k hk k0]
    cases e : cd_all (cd_hp a (nI k)) 7 0
    · rw [e, Bool.false_and] at h
      exact cd_y101f h
    · rw [e, Bool.true_and] at h
      exact cd_y101t h
def cd_neat (a : Nat → Int32) : Bool := cd_all (fun k => !cd_hole a (nI k)) 128 0
theorem cd_xneat {post : Int32 → Prop} {a t : Nat → Int32} (h : post (cd_cb (cd_neat a))) : wpX_neat post (a, t) := by
  refine ⟨129, cd_loopB (W := fun n i => wX_neat_2 post a t n (nI i)) (p := fun k => !cd_hole a (nI k)) (A := post 1) (B := post 0) 128
    (fun n hp => br_t cd_l128 hp) ?_ ?_ 128 0 rfl (cd_post h).1 (cd_post h).2⟩
  · intro n i hi hp hW
    refine br_f (cd_g128 hi) (cd_xhole (cd_c0 (fun _ => nm_r (nI_1 i) hW) (fun e => ?_)))
    rw [e] at hp; cases hp
  · intro n i hi hp h0
    refine br_f (cd_g128 hi) (cd_xhole (cd_c0 (fun e => ?_) (fun e => h0)))
    rw [e] at hp; cases hp
theorem cd_yneatL {post : Int32 → Prop} {a t : Nat → Int32} {p : Nat → Bool} (hp' : ∀ k, k < 128 → p k = !cd_hole a (nI k)) : ∀ d i b, i + d = 128 → post (cd_cb (!b && cd_all p d i)) → wY_neat_4 post a t (d + 1) (cd_cb b) (nI i) := by
  intro d
  induction d with
  | zero =>
    intro i b hi hp
    have : i = 128 := by omega
    subst this
    refine br_t cd_l128 ?_
    cases b
    · exact br_t rfl hp
    · exact br_f (by decide) hp
  | succ d ih =>
    intro i b hi hp
    refine br_f (cd_g128 (by omega)) (cd_c0 (fun e => ?_) (fun e => ?_))
    · subst e
      refine cd_yhole (by omega) (nm_r (nI_1 i) (ih (i + 1) _ (by omega) ?_))
      rw [Bool.not_false, Bool.true_and] at hp
      rw [← hp' i (by omega)]
      exact hp
    · subst e
      rw [Bool.not_true, Bool.false_and] at hp
      exact br_f (by decide) hp
theorem cd_yneat {post : Int32 → Prop} {a t : Nat → Int32} (h : post (cd_cb (cd_neat a))) : wpY_neat post (a, t) := by
  refine ⟨129, cd_yneatL (p := fun k => !cd_hole a (nI k)) (fun _ _ => rfl) 128 0 false rfl ?_⟩
  rw [Bool.not_false, Bool.true_and]
  exact h
