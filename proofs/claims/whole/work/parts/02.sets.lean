/-! ===== has, size, allJoined, noneJoined, isEasy, canGrow of X; count, clique, apart, easyIn of Y ===== -/
def cd_G (a : Nat → Int32) : Prop := (∀ i j, i < 7 → j < 7 → bt (a i) j = bt (a j) i) ∧ ∀ i, i < 7 → bt (a i) i = false
theorem cd_xhas {post : Int32 → Prop} {s : Int32} {v : Nat} (hv : v < 7) (h : post (cd_cb (bt s v))) : wpX_has post s (nI v) :=
  cd_b0 (Nat.lt_trans hv (by decide)) (fun e => by rw [e] at h; exact h) (fun e => by rw [e] at h; exact h)
def cd_sz (s : Int32) : Int32 := cd_fold (fun i n => n + ((s >>> (nI i &&& 31)) &&& 1)) 7 0 0
theorem cd_xsize {post : Int32 → Prop} {s : Int32} (h : post (cd_sz s)) : wpX_size post s :=
  ⟨8, cd_loop (W := fun n i x => wX_size_4 post s n x (nI i)) (f := fun i n => n + ((s >>> (nI i &&& 31)) &&& 1)) (post := post) (fun _ => True) 7
    (fun _ _ _ _ => trivial) (fun n x _ hp => br_t cd_l7 hp)
    (fun n i x hi _ hW => br_f (cd_g7 hi) (nm_e (nm_r (nI_1 i) hW))) 7 0 0 rfl trivial h⟩
theorem cd_ycount {post : Int32 → Prop} {a t : Nat → Int32} {s : Int32} (h : post (cd_sz s)) : wpY_count post (a, t) s :=
  ⟨8, cd_loop (W := fun n i x => wY_count_4 post s a t n x (nI i)) (f := fun i n => n + ((s >>> (nI i &&& 31)) &&& 1)) (post := post) (fun _ => True) 7
    (fun _ _ _ _ => trivial) (fun n x _ hp => br_t cd_l7 hp)
    (fun n i x hi _ hW => br_f (cd_g7 hi) (nm_e (nm_r (nI_1 i) hW))) 7 0 0 rfl trivial h⟩
/-- v is no bar to s being a clique -/
def cd_jp (a : Nat → Int32) (s : Int32) (v : Nat) : Bool := !bt s v || decide ((s &&& (a v ^^^ (-1))) = cd_m v)
def cd_aj (a : Nat → Int32) (s : Int32) : Bool := cd_all (cd_jp a s) 7 0
theorem cd_post {b : Bool} {post : Int32 → Prop} (h : post (cd_cb b)) : (b = true → post 1) ∧ (b = false → post 0) := by
  cases b
  · exact ⟨fun z => (nomatch z), fun _ => h⟩
  · exact ⟨fun _ => h, fun z => (nomatch z)⟩
theorem cd_xall {post : Int32 → Prop} {a t : Nat → Int32} {s : Int32} (h : post (cd_cb (cd_aj a s))) : wpX_allJoined post (a, t) s := by
  refine ⟨8, cd_loopB (W := fun n i => wX_allJoined_2 post s a t n (nI i)) (p := cd_jp a s) (A := post 1) (B := post 0) 7
    (fun n hp => br_t cd_l7 hp) ?_ ?_ 7 0 rfl (cd_post h).1 (cd_post h).2⟩
  · intro n i hi hp hW
    refine br_f (cd_g7 hi) (cd_xhas hi (cd_c0 (fun _ => nm_r (nI_1 i) hW) (fun hb => ⟨cd_in7 hi, ?_⟩)))
    rw [cd_cl (by omega)]
    have e : (s &&& (a i ^^^ (-1))) = cd_m i := by
      unfold cd_jp at hp
      rw [hb] at hp
      simpa using hp
    exact br_t e (nm_r (nI_1 i) hW)
  · intro n i hi hp h0
    unfold cd_jp at hp
    have hb : bt s i = true := by
      cases hh : bt s i
      · rw [hh] at hp; simp at hp
      · rfl
    have e : ¬ (s &&& (a i ^^^ (-1))) = cd_m i := by
      rw [hb] at hp
      simpa using hp
    refine br_f (cd_g7 hi) (cd_xhas hi (cd_c0 (fun z => ?_) (fun _ => ⟨cd_in7 hi, ?_⟩)))
    · rw [hb] at z; cases z
    · rw [cd_cl (by omega)]
      exact br_f e h0
/-- Y's condition is the same where v isn't its own neighbour -/
theorem cd_m0 {s x : Int32} {v : Nat} (hv : v < 32) (hs : bt s v = true) (hx : bt x v = false) : ((s &&& (x ^^^ (-1))) &&& (cd_m v ^^^ (-1))) = 0 ↔ (s &&& (x ^^^ (-1))) = cd_m v := by
  constructor
  · intro h
    apply b_ext
    intro i hi
    have h1 : bt ((s &&& (x ^^^ (-1))) &&& (cd_m v ^^^ (-1))) i = false := by rw [h]; exact b_0 i
    rw [b_and, b_xor, b_m1 i hi, cd_btm hv hi] at h1
    rw [cd_btm hv hi]
    by_cases e : i = v
    · subst e
      rw [b_and, b_xor, b_m1 i hi, hs, hx]
      simp
    · simp [e] at h1 ⊢
      exact h1
  · intro h
    rw [h]
    apply b_ext
    intro i hi
    rw [b_and, b_xor, b_m1 i hi, b_0, Bool.xor_true, Bool.and_not_self]
theorem cd_yclq {post : Int32 → Prop} {a t : Nat → Int32} {s : Int32} (G : cd_G a) : ∀ d i b, i + d = 7 → post (cd_cb (b && cd_all (cd_jp a s) d i)) → wY_clique_18 post s a t (d + 1) (cd_cb b) (nI i) := by
  intro d
  induction d with
  | zero =>
    intro i b hi hp
    have : i = 7 := by omega
    subst this
    have e : (b && cd_all (cd_jp a s) 0 7) = b := by simp [cd_all]
    rw [e] at hp
    exact br_t cd_l7 ⟨cd_nar b, hp⟩
  | succ d ih =>
    intro i b hi hp
    have i7 : i < 7 := by omega
    refine br_f (cd_g7 i7) (cd_c0 (fun hb => nm_r (nI_1 i) ?_) (fun hb => ?_))
    · subst hb
      refine ih (i + 1) false (by omega) ?_
      rw [Bool.false_and] at hp ⊢
      exact hp
    · subst hb
      rw [Bool.true_and] at hp
      refine cd_b0 (by omega) (fun hs => nm_r (nI_1 i) (ih (i + 1) true (by omega) ?_)) (fun hs => ⟨cd_in7 i7, ?_⟩)
      · have e : cd_all (cd_jp a s) (d + 1) i = cd_all (cd_jp a s) d (i + 1) := by simp [cd_all, cd_jp, hs]
        rw [e] at hp
        rw [Bool.true_and]
        exact hp
      · rw [cd_cl (by omega)]
        refine br_c (fun h0 => nm_r (nI_1 i) (ih (i + 1) true (by omega) ?_)) (fun h0 => nm_r (nI_1 i) (ih (i + 1) false (by omega) ?_))
        · have hm := (cd_m0 (by omega) hs (G.2 i i7)).mp h0
          have e : cd_all (cd_jp a s) (d + 1) i = cd_all (cd_jp a s) d (i + 1) := by show (cd_jp a s i && _) = _; unfold cd_jp; rw [decide_eq_true hm, Bool.or_true, Bool.true_and]
          rw [e] at hp
          rw [Bool.true_and]
          exact hp
        · have hm : ¬ (s &&& (a i ^^^ (-1))) = cd_m i := fun z => h0 ((cd_m0 (by omega) hs (G.2 i i7)).mpr z)
          have e : cd_all (cd_jp a s) (d + 1) i = false := by show (cd_jp a s i && _) = _; unfold cd_jp; rw [hs, decide_eq_false hm]; rfl
          rw [e] at hp
          rw [Bool.false_and]
          exact hp
theorem cd_n0 {k : Nat} (hk : k < 128) : ¬ nI k < 0 := nI_pos (by omega)
theorem cd_n127 {k : Nat} (hk : k < 128) : ¬ (127 : Int32) < nI k := nI_nlt (a := 127) (by omega) (by decide)
theorem cd_yclique {post : Int32 → Prop} {a t : Nat → Int32} {k : Nat} (G : cd_G a) (hk : k < 128) (h : post (cd_cb (cd_aj a (nI k)))) : wpY_clique post (a, t) (nI k) :=
  br_f (cd_n0 hk) (br_f (cd_n127 hk) ⟨8, cd_yclq G 7 0 true rfl (by rw [Bool.true_and]; exact h)⟩)
theorem cd_xeasy {post : Int32 → Prop} {a t : Nat → Int32} {v : Nat} {s : Int32} (hv : v < 7) (h : post (cd_cb (cd_aj a (a v &&& s)))) : wpX_isEasy post (a, t) (nI v) s := by
  refine ⟨cd_in7 hv, ?_⟩
  rw [cd_cl (by omega)]
  exact cd_xall ⟨cd_nar _, h⟩
theorem cd_yeasy {post : Int32 → Prop} {a t : Nat → Int32} {v k : Nat} (G : cd_G a) (hv : v < 7) (hk : k < 128) (h : post (cd_cb (cd_aj a (a v &&& nI k)))) : wpY_easyIn post (a, t) (nI v) (nI k) := by
  refine ⟨cd_in7 hv, ?_⟩
  rw [cd_cl (by omega)]
  obtain ⟨j, hj, e⟩ := cd_andN (a v) hk
  rw [e] at h ⊢
  exact cd_yclique G hj ⟨cd_nar _, h⟩
/-- no two of s are joined -/
def cd_np (a : Nat → Int32) (s : Int32) (v : Nat) : Bool := !bt s v || decide ((s &&& a v) = 0)
def cd_ap (a : Nat → Int32) (s : Int32) : Bool := cd_all (cd_np a s) 7 0
theorem cd_xnone {post : Int32 → Prop} {a t : Nat → Int32} {s : Int32} (h : post (cd_cb (cd_ap a s))) : wpX_noneJoined post (a, t) s := by
  refine ⟨8, cd_loopB (W := fun n i => wX_noneJoined_2 post s a t n (nI i)) (p := cd_np a s) (A := post 1) (B := post 0) 7
    (fun n hp => br_t cd_l7 hp) ?_ ?_ 7 0 rfl (cd_post h).1 (cd_post h).2⟩
  · intro n i hi hp hW
    refine br_f (cd_g7 hi) (cd_xhas hi (cd_c0 (fun _ => nm_r (nI_1 i) hW) (fun hb => ⟨cd_in7 hi, ?_⟩)))
    rw [cd_cl (by omega)]
    have e : (s &&& a i) = 0 := by
      unfold cd_np at hp
      rw [hb] at hp
      simpa using hp
    exact br_t e (nm_r (nI_1 i) hW)
  · intro n i hi hp h0
    unfold cd_np at hp
    have hb : bt s i = true := by
      cases hh : bt s i
      · rw [hh] at hp; simp at hp
      · rfl
    have e : ¬ (s &&& a i) = 0 := by
      rw [hb] at hp
      simpa using hp
    refine br_f (cd_g7 hi) (cd_xhas hi (cd_c0 (fun z => ?_) (fun _ => ⟨cd_in7 hi, ?_⟩)))
    · rw [hb] at z; cases z
    · rw [cd_cl (by omega)]
      exact br_f e h0
theorem cd_yap {post : Int32 → Prop} {a t : Nat → Int32} {s : Int32} : ∀ d i b, i + d = 7 → post (cd_cb (b && cd_all (cd_np a s) d i)) → wY_apart_4 post s a t (d + 1) (cd_cb b) (nI i) := by
  intro d
  induction d with
  | zero =>
    intro i b hi hp
    have : i = 7 := by omega
    subst this
    have e : (b && cd_all (cd_np a s) 0 7) = b := by simp [cd_all]
    rw [e] at hp
    exact br_t cd_l7 ⟨cd_nar b, hp⟩
  | succ d ih =>
    intro i b hi hp
    have i7 : i < 7 := by omega
    refine br_f (cd_g7 i7) (cd_c0 (fun hb => nm_r (nI_1 i) ?_) (fun hb => ?_))
    · subst hb
      refine ih (i + 1) false (by omega) ?_
      rw [Bool.false_and] at hp ⊢
      exact hp
    · subst hb
      rw [Bool.true_and] at hp
      refine cd_b0 (by omega) (fun hs => nm_r (nI_1 i) (ih (i + 1) true (by omega) ?_)) (fun hs => ⟨cd_in7 i7, ?_⟩)
      · have e : cd_all (cd_np a s) (d + 1) i = cd_all (cd_np a s) d (i + 1) := by simp [cd_all, cd_np, hs]
        rw [e] at hp
        rw [Bool.true_and]
        exact hp
      · rw [cd_cl (by omega)]
        refine br_c (fun h0 => nm_r (nI_1 i) (ih (i + 1) true (by omega) ?_)) (fun h0 => nm_r (nI_1 i) (ih (i + 1) false (by omega) ?_))
        · have e : cd_all (cd_np a s) (d + 1) i = cd_all (cd_np a s) d (i + 1) := by simp [cd_all, cd_np, h0]
          rw [e] at hp
          rw [Bool.true_and]
          exact hp
        · have e : cd_all (cd_np a s) (d + 1) i = false := by simp [cd_all, cd_np, hs, h0]
          rw [e] at hp
          rw [Bool.false_and]
          exact hp
theorem cd_yapart {post : Int32 → Prop} {a t : Nat → Int32} {s : Int32} (h : post (cd_cb (cd_ap a s))) : wpY_apart post (a, t) s :=
  ⟨8, cd_yap 7 0 true rfl (by rw [Bool.true_and]; exact h)⟩
/-- v can't be added to s -/
def cd_gp (a : Nat → Int32) (s : Int32) (v : Nat) : Bool := bt s v || !decide ((s &&& (a v ^^^ (-1))) = 0)
theorem cd_xgrow {post : Int32 → Prop} {a t : Nat → Int32} {s : Int32} (h : post (cd_cb (!cd_all (cd_gp a s) 7 0))) : wpX_canGrow post (a, t) s := by
  have h1 : cd_all (cd_gp a s) 7 0 = true → post 0 := fun z => (cd_post h).2 (by rw [z]; rfl)
  have h2 : cd_all (cd_gp a s) 7 0 = false → post 1 := fun z => (cd_post h).1 (by rw [z]; rfl)
  refine ⟨8, cd_loopB (W := fun n i => wX_canGrow_2 post s a t n (nI i)) (p := cd_gp a s) (A := post 0) (B := post 1) 7
    (fun n hp => br_t cd_l7 hp) ?_ ?_ 7 0 rfl h1 h2⟩
  · intro n i hi hp hW
    refine br_f (cd_g7 hi) (cd_xhas hi (cd_c0 (fun hb => ⟨cd_in7 hi, ?_⟩) (fun _ => nm_r (nI_1 i) hW)))
    rw [cd_cl (by omega)]
    have e : ¬ (s &&& (a i ^^^ (-1))) = 0 := by
      unfold cd_gp at hp
      rw [hb] at hp
      simpa using hp
    exact br_f e (nm_r (nI_1 i) hW)
  · intro n i hi hp h0
    unfold cd_gp at hp
    have hb : bt s i = false := by
      cases hh : bt s i
      · rfl
      · rw [hh] at hp; simp at hp
    have e : (s &&& (a i ^^^ (-1))) = 0 := by
      rw [hb] at hp
      simpa using hp
    refine br_f (cd_g7 hi) (cd_xhas hi (cd_c0 (fun _ => ⟨cd_in7 hi, ?_⟩) (fun z => ?_)))
    · rw [cd_cl (by omega)]
      exact br_t e h0
    · rw [hb] at z; cases z
