/-! ===== easy, core, largestClique, largestApart, smallestHole, fullCliques, joins ===== -/
def cd_ef (a : Nat → Int32) (v : Nat) (x : Int32) : Int32 := if cd_aj a (a v &&& 127) then x ||| cd_m v else x
def cd_easy (a : Nat → Int32) : Int32 := cd_fold (cd_ef a) 7 0 0
theorem cd_ef0 {a : Nat → Int32} {v : Nat} {x : Int32} (h : cd_aj a (a v &&& 127) = false) : cd_ef a v x = x := by unfold cd_ef; rw [h]; rfl
theorem cd_ef1 {a : Nat → Int32} {v : Nat} {x : Int32} (h : cd_aj a (a v &&& 127) = true) : cd_ef a v x = x ||| cd_m v := by unfold cd_ef; rw [h]; rfl
theorem cd_xeasys {post : Int32 → Prop} {a t : Nat → Int32} (h : post (cd_easy a)) : wpX_easy post (a, t) := by
  refine ⟨8, cd_loop (W := fun n i x => wX_easy_4 post a t n x (nI i)) (f := cd_ef a) (post := post) (fun _ => True) 7
    (fun _ _ _ _ => trivial) (fun n x _ hp => br_t cd_l7 hp) ?_ 7 0 0 rfl trivial h⟩
  intro n i x hi _ hW
  refine br_f (cd_g7 hi) (cd_xeasy hi (cd_c0 (fun e => nm_r (nI_1 i) ?_) (fun e => nm_e (nm_r (nI_1 i) ?_))))
  · rw [cd_ef0 e] at hW; exact hW
  · rw [cd_ef1 e] at hW; exact hW
theorem cd_yeasys {post : Int32 → Prop} {a t : Nat → Int32} (G : cd_G a) (h : post (cd_easy a)) : wpY_easy post (a, t) := by
  refine ⟨8, cd_loop (W := fun n i x => wY_easy_4 post a t n x (nI i)) (f := cd_ef a) (post := post) (fun _ => True) 7
    (fun _ _ _ _ => trivial) (fun n x _ hp => br_t cd_l7 hp) ?_ 7 0 0 rfl trivial h⟩
  intro n i x hi _ hW
  refine br_f (cd_g7 hi) (cd_yeasy (k := 127) G hi (by omega) (cd_c0 (fun e => nm_r (nI_1 i) ?_) (fun e => nm_e (nm_r (nI_1 i) ?_))))
  · rw [cd_ef0 e] at hW; exact hW
  · rw [cd_ef1 e] at hW; exact hW
/-! core -/
def cd_kf (a : Nat → Int32) (v : Nat) (x : Int32) : Int32 := if bt x v && cd_aj a (a v &&& x) then x &&& (cd_m v ^^^ (-1)) else x
def cd_kin (a : Nat → Int32) (x : Int32) : Int32 := cd_fold (cd_kf a) 7 0 x
def cd_core (a : Nat → Int32) : Int32 := cd_fold (fun _ x => cd_kin a x) 7 0 127
def cd_R (x : Int32) : Prop := ∃ k, k < 128 ∧ x = nI k
theorem cd_kf0 {a : Nat → Int32} {v : Nat} {x : Int32} (h : (bt x v && cd_aj a (a v &&& x)) = false) : cd_kf a v x = x := by unfold cd_kf; rw [h]; rfl
theorem cd_kf1 {a : Nat → Int32} {v : Nat} {x : Int32} (h : (bt x v && cd_aj a (a v &&& x)) = true) : cd_kf a v x = x &&& (cd_m v ^^^ (-1)) := by unfold cd_kf; rw [h]; rfl
theorem cd_kfR {a : Nat → Int32} {v : Nat} {x : Int32} (h : cd_R x) : cd_R (cd_kf a v x) := by
  cases e : (bt x v && cd_aj a (a v &&& x))
  · rw [cd_kf0 e]; exact h
  · rw [cd_kf1 e]
    obtain ⟨k, hk, rfl⟩ := h
    exact cd_andL hk _
theorem cd_kinR {a : Nat → Int32} {x : Int32} (h : cd_R x) : cd_R (cd_kin a x) := cd_foldI cd_R 7 (fun _ _ _ hs => cd_kfR hs) 7 0 x rfl h
theorem cd_xkin {post : Int32 → Prop} {J : Int32 → Int32 → Prop} {a t : Nat → Int32} {x : Int32} {i : Nat} (h : J (cd_kin a x) (nI (i + 1))) : wX_core_13 post J (nI i) a t 8 x 0 := by
  refine cd_loop (W := fun n v x => wX_core_13 post J (nI i) a t n x (nI v)) (f := cd_kf a) (post := fun x => J x (nI (i + 1))) (fun _ => True) 7
    (fun _ _ _ _ => trivial) (fun n x _ hp => br_t cd_l7 (nm_r (nI_1 i) hp)) ?_ 7 0 x rfl trivial h
  intro n v x hv _ hW
  refine br_f (cd_g7 hv) (cd_xhas hv (cd_c0 (fun e => nm_r (nI_1 v) ?_) (fun e => cd_xeasy hv (cd_c0 (fun e2 => nm_r (nI_1 v) ?_) (fun e2 => nm_e (nm_r (nI_1 v) ?_))))))
  · rw [cd_kf0 (by rw [e, Bool.false_and])] at hW; exact hW
  · rw [cd_kf0 (by rw [e2, Bool.and_false])] at hW; exact hW
  · rw [cd_kf1 (by rw [e, e2]; rfl)] at hW; exact hW
theorem cd_ykin {post : Int32 → Prop} {J : Int32 → Int32 → Prop} {a t : Nat → Int32} {x : Int32} {i : Nat} (G : cd_G a) (hx : cd_R x) (h : J (cd_kin a x) (nI (i + 1))) : wY_core_13 post J (nI i) a t 8 x 0 := by
  refine cd_loop (W := fun n v x => wY_core_13 post J (nI i) a t n x (nI v)) (f := cd_kf a) (post := fun x => J x (nI (i + 1))) cd_R 7
    (fun _ _ _ hs => cd_kfR hs) (fun n x _ hp => br_t cd_l7 (nm_r (nI_1 i) hp)) ?_ 7 0 x rfl hx h
  intro n v x hv hR hW
  obtain ⟨k, hk, rfl⟩ := hR
  refine br_f (cd_g7 hv) (cd_b1 (by omega) (fun e => cd_yeasy G hv hk (cd_c0 (fun e2 => ?_) (fun e2 => ?_))) (fun e => ?_))
  · rw [cd_kf0 (by rw [e2, Bool.and_false])] at hW
    exact br_t rfl (nm_r (nI_1 v) hW)
  · rw [cd_kf1 (by rw [e, e2]; rfl)] at hW
    exact br_f (by decide) (nm_e (nm_r (nI_1 v) hW))
  · rw [cd_kf0 (by rw [e, Bool.false_and])] at hW
    exact br_t rfl (nm_r (nI_1 v) hW)
theorem cd_xcore {post : Int32 → Prop} {a t : Nat → Int32} (h : post (cd_core a)) : wpX_core post (a, t) := by
  refine ⟨8, cd_loop (W := fun n i x => wX_core_5 post a t n x (nI i)) (f := fun _ x => cd_kin a x) (post := post) (fun _ => True) 7
    (fun _ _ _ _ => trivial) (fun n x _ hp => br_t cd_l7 hp) ?_ 7 0 127 rfl trivial h⟩
  intro n i x hi _ hW
  exact br_f (cd_g7 hi) ⟨8, cd_xkin hW⟩
theorem cd_ycore {post : Int32 → Prop} {a t : Nat → Int32} (G : cd_G a) (h : post (cd_core a)) : wpY_core post (a, t) := by
  refine ⟨8, cd_loop (W := fun n i x => wY_core_5 post a t n x (nI i)) (f := fun _ x => cd_kin a x) (post := post) cd_R 7
    (fun _ _ _ hs => cd_kinR hs) (fun n x _ hp => br_t cd_l7 hp) ?_ 7 0 127 rfl ⟨127, by omega, by decide⟩ h⟩
  intro n i x hi hR hW
  exact br_f (cd_g7 hi) ⟨8, cd_ykin G hR hW⟩
/-! the largest of a kind -/
def cd_lf (q : Nat → Bool) (k : Nat) (x : Int32) : Int32 := if q k then (if cd_sz (nI k) ≤ x then x else cd_sz (nI k)) else x
theorem cd_lf0 {q : Nat → Bool} {k : Nat} {x : Int32} (h : q k = false) : cd_lf q k x = x := by unfold cd_lf; rw [h]; rfl
theorem cd_lfl {q : Nat → Bool} {k : Nat} {x : Int32} (h : cd_sz (nI k) ≤ x) : cd_lf q k x = x := by unfold cd_lf; rw [if_pos h]; cases q k <;> rfl
theorem cd_lf1 {q : Nat → Bool} {k : Nat} {x : Int32} (h : q k = true) (h2 : ¬ cd_sz (nI k) ≤ x) : cd_lf q k x = cd_sz (nI k) := by unfold cd_lf; rw [h, if_neg h2]; rfl
def cd_lclq (a : Nat → Int32) : Int32 := cd_fold (cd_lf (fun k => cd_aj a (nI k))) 128 0 0
def cd_lap (a : Nat → Int32) : Int32 := cd_fold (cd_lf (fun k => cd_ap a (nI k))) 128 0 0
theorem cd_xlclq {post : Int32 → Prop} {a t : Nat → Int32} (h : post (cd_lclq a)) : wpX_largestClique post (a, t) := by
  refine ⟨129, cd_loop (W := fun n i x => wX_largestClique_4 post a t n x (nI i)) (f := cd_lf (fun k => cd_aj a (nI k))) (post := post) (fun _ => True) 128
    (fun _ _ _ _ => trivial) (fun n x _ hp => br_t cd_l128 hp) ?_ 128 0 0 rfl trivial h⟩
  intro n i x hi _ hW
  refine br_f (cd_g128 hi) (cd_xsize (br_c (fun e => nm_r (nI_1 i) ?_) (fun e => cd_xall (cd_c0 (fun e2 => nm_r (nI_1 i) ?_) (fun e2 => nm_r (nI_1 i) ?_)))))
  · rw [cd_lfl e] at hW; exact hW
  · rw [cd_lf0 (q := fun k => cd_aj a (nI k)) (k := i) e2] at hW; exact hW
  · rw [cd_lf1 (q := fun k => cd_aj a (nI k)) (k := i) e2 e] at hW; exact hW
theorem cd_ylclq {post : Int32 → Prop} {a t : Nat → Int32} (G : cd_G a) (h : post (cd_lclq a)) : wpY_largestClique post (a, t) := by
  refine ⟨129, cd_loop (W := fun n i x => wY_largestClique_4 post a t n x (nI i)) (f := cd_lf (fun k => cd_aj a (nI k))) (post := post) (fun _ => True) 128
    (fun _ _ _ _ => trivial) (fun n x _ hp => br_t cd_l128 hp) ?_ 128 0 0 rfl trivial h⟩
  intro n i x hi _ hW
  refine br_f (cd_g128 hi) (cd_ycount (cd_yclique G hi (cd_c0 (fun e2 => nm_r (nI_1 i) ?_) (fun e2 => br_c (fun e => nm_r (nI_1 i) ?_) (fun e => nm_r (nI_1 i) ?_)))))
  · rw [cd_lf0 (q := fun k => cd_aj a (nI k)) (k := i) e2] at hW; exact hW
  · rw [cd_lfl e] at hW; exact hW
  · rw [cd_lf1 (q := fun k => cd_aj a (nI k)) (k := i) e2 e] at hW; exact hW
theorem cd_xlap {post : Int32 → Prop} {a t : Nat → Int32} (h : post (cd_lap a)) : wpX_largestApart post (a, t) := by
  refine ⟨129, cd_loop (W := fun n i x => wX_largestApart_4 post a t n x (nI i)) (f := cd_lf (fun k => cd_ap a (nI k))) (post := post) (fun _ => True) 128
    (fun _ _ _ _ => trivial) (fun n x _ hp => br_t cd_l128 hp) ?_ 128 0 0 rfl trivial h⟩
  intro n i x hi _ hW
  refine br_f (cd_g128 hi) (cd_xsize (br_c (fun e => nm_r (nI_1 i) ?_) (fun e => cd_xnone (cd_c0 (fun e2 => nm_r (nI_1 i) ?_) (fun e2 => nm_r (nI_1 i) ?_)))))
  · rw [cd_lfl e] at hW; exact hW
  · rw [cd_lf0 (q := fun k => cd_ap a (nI k)) (k := i) e2] at hW; exact hW
  · rw [cd_lf1 (q := fun k => cd_ap a (nI k)) (k := i) e2 e] at hW; exact hW
theorem cd_ylap {post : Int32 → Prop} {a t : Nat → Int32} (h : post (cd_lap a)) : wpY_largestApart post (a, t) := by
  refine ⟨129, cd_loop (W := fun n i x => wY_largestApart_4 post a t n x (nI i)) (f := cd_lf (fun k => cd_ap a (nI k))) (post := post) (fun _ => True) 128
    (fun _ _ _ _ => trivial) (fun n x _ hp => br_t cd_l128 hp) ?_ 128 0 0 rfl trivial h⟩
  intro n i x hi _ hW
  refine br_f (cd_g128 hi) (cd_ycount (cd_yapart (cd_c0 (fun e2 => nm_r (nI_1 i) ?_) (fun e2 => br_c (fun e => nm_r (nI_1 i) ?_) (fun e => nm_r (nI_1 i) ?_)))))
  · rw [cd_lf0 (q := fun k => cd_ap a (nI k)) (k := i) e2] at hW; exact hW
  · rw [cd_lfl e] at hW; exact hW
  · rw [cd_lf1 (q := fun k => cd_ap a (nI k)) (k := i) e2 e] at hW; exact hW
/-! smallestHole -/
def cd_sf (a : Nat → Int32) (k : Nat) (x : Int32) : Int32 := if cd_hole a (nI k) then (if x = -1 then cd_sz (nI k) else if x ≤ cd_sz (nI k) then x else cd_sz (nI k)) else x
def cd_S (x : Int32) : Prop := x = -1 ∨ ¬ x < 0
theorem cd_szn : ∀ k, k < 128 → ¬ cd_sz (nI k) < 0 := by decide +kernel
theorem cd_sf0 {a : Nat → Int32} {k : Nat} {x : Int32} (h : cd_hole a (nI k) = false) : cd_sf a k x = x := by unfold cd_sf; rw [h]; rfl
theorem cd_sf1 {a : Nat → Int32} {k : Nat} {x : Int32} (h : cd_hole a (nI k) = true) (h1 : x = -1) : cd_sf a k x = cd_sz (nI k) := by unfold cd_sf; rw [h, if_pos h1]; rfl
theorem cd_sf2 {a : Nat → Int32} {k : Nat} {x : Int32} (h : cd_hole a (nI k) = true) (h1 : ¬ x = -1) (h2 : x ≤ cd_sz (nI k)) : cd_sf a k x = x := by unfold cd_sf; rw [h, if_neg h1, if_pos h2]; rfl
theorem cd_sf3 {a : Nat → Int32} {k : Nat} {x : Int32} (h : cd_hole a (nI k) = true) (h1 : ¬ x = -1) (h2 : ¬ x ≤ cd_sz (nI k)) : cd_sf a k x = cd_sz (nI k) := by unfold cd_sf; rw [h, if_neg h1, if_neg h2]; rfl
theorem cd_sfS {a : Nat → Int32} {k : Nat} {x : Int32} (hk : k < 128) (hx : cd_S x) : cd_S (cd_sf a k x) := by
  cases h : cd_hole a (nI k)
  · rw [cd_sf0 h]; exact hx
  · by_cases h1 : x = -1
    · rw [cd_sf1 h h1]; exact .inr (cd_szn k hk)
    · by_cases h2 : x ≤ cd_sz (nI k)
      · rw [cd_sf2 h h1 h2]; exact hx
      · rw [cd_sf3 h h1 h2]; exact .inr (cd_szn k hk)
def cd_small (a : Nat → Int32) : Int32 := cd_fold (cd_sf a) 128 0 (-1)
theorem cd_xsmall {post : Int32 → Prop} {a t : Nat → Int32} (h : post (cd_small a)) : wpX_smallestHole post (a, t) := by
  refine ⟨129, cd_loop (W := fun n i x => wX_smallestHole_4 post a t n x (nI i)) (f := cd_sf a) (post := post) (fun _ => True) 128
    (fun _ _ _ _ => trivial) (fun n x _ hp => br_t cd_l128 hp) ?_ 128 0 (-1) rfl trivial h⟩
  intro n i x hi _ hW
  refine br_f (cd_g128 hi) (cd_xhole (cd_c0 (fun e => nm_r (nI_1 i) ?_) (fun e => cd_xsize (br_c (fun e1 => nm_r (nI_1 i) ?_) (fun e1 => br_c (fun e2 => nm_r (nI_1 i) ?_) (fun e2 => nm_r (nI_1 i) ?_))))))
  · rw [cd_sf0 e] at hW; exact hW
  · rw [cd_sf1 e e1] at hW; exact hW
  · rw [cd_sf2 e e1 e2] at hW; exact hW
  · rw [cd_sf3 e e1 e2] at hW; exact hW
theorem cd_ysmall {post : Int32 → Prop} {a t : Nat → Int32} (h : post (cd_small a)) : wpY_smallestHole post (a, t) := by
  refine ⟨129, cd_loop (W := fun n i x => wY_smallestHole_4 post a t n x (nI i)) (f := cd_sf a) (post := post) cd_S 128
    (fun _ _ hi hs => cd_sfS hi hs) (fun n x _ hp => br_t cd_l128 hp) ?_ 128 0 (-1) rfl (.inl rfl) h⟩
  intro n i x hi hx hW
  have s1 : x < 0 → x = -1 := fun z => hx.elim id (fun y => absurd z y)
  have s2 : ¬ x < 0 → ¬ x = -1 := fun z y => z (by rw [y]; decide)
  refine br_f (cd_g128 hi) (cd_ycount (cd_yhole hi (cd_c0 (fun e => nm_r (nI_1 i) ?_) (fun e => br_c (fun e1 => nm_r (nI_1 i) ?_) (fun e1 => br_c (fun e2 => nm_r (nI_1 i) ?_) (fun e2 => nm_r (nI_1 i) ?_))))))
  · rw [cd_sf0 e] at hW; exact hW
  · rw [cd_sf1 e (s1 e1)] at hW; exact hW
  · rw [cd_sf2 e (s2 e1) e2] at hW; exact hW
  · rw [cd_sf3 e (s2 e1) e2] at hW; exact hW
