/-! ===== colours, orders ===== -/
def cd_ix (k : Nat) (m : Int32) : Nat := (nI k &&& (m ^^^ (-1))).toNatClampNeg
theorem cd_ixE {k : Nat} (hk : k < 128) (m : Int32) : nI k &&& (m ^^^ (-1)) = nI (cd_ix k m) ∧ cd_ix k m < 128 := by
  obtain ⟨j, hj, e⟩ := cd_andL hk (m ^^^ (-1))
  have e2 : cd_ix k m = j := by unfold cd_ix; rw [e]; exact cd_cl hj
  rw [e2]
  exact ⟨e, hj⟩
theorem cd_ixIn {k : Nat} (hk : k < 128) (m : Int32) : vp_in (nI k &&& (m ^^^ (-1))) 128 := by
  rw [(cd_ixE hk m).1]
  exact cd_in128 (cd_ixE hk m).2
/-- a set without a vertex of its own is another set -/
theorem cd_ixne {k v : Nat} {m : Int32} (hk : k < 128) (hv : v < 32) (h1 : bt (nI k) v = true) (h2 : bt m v = true) : cd_ix k m ≠ k := by
  intro z
  have e := (cd_ixE hk m).1
  rw [z] at e
  have e3 : bt (nI k &&& (m ^^^ (-1))) v = bt (nI k) v := by rw [e]
  rw [b_and, b_xor, b_m1 v hv, h1, h2] at e3
  cases e3
theorem cd_ixneS {k j : Nat} (hk : k < 128) (h0 : 0 < j) (hj : j < 128) (hs : (nI j &&& (nI k ^^^ (-1))) = 0) : cd_ix k (nI j) ≠ k := by
  intro z
  have e := (cd_ixE hk (nI j)).1
  rw [z] at e
  have j0 : nI j = 0 := by
    rw [cd_zero] at hs ⊢
    intro i hi
    have s1 := hs i hi
    have e3 : bt (nI k &&& (nI j ^^^ (-1))) i = bt (nI k) i := by rw [e]
    rw [b_and, b_xor, b_m1 i hi] at s1 e3
    cases hk' : bt (nI k) i
    · rw [hk'] at s1
      simpa using s1
    · rw [hk'] at e3
      simpa using e3
  exact nI_ne0 h0 (by omega) j0
def cd_cf (a t : Nat → Int32) (k j : Nat) (x : Int32) : Int32 := if decide ((nI j &&& (nI k ^^^ (-1))) = 0) && cd_ap a (nI j) then (if x ≤ t (cd_ix k (nI j)) + 1 then x else t (cd_ix k (nI j)) + 1) else x
def cd_colOf (a t : Nat → Int32) (k : Nat) : Int32 := cd_fold (cd_cf a t k) k 1 7
theorem cd_cf0 {a t : Nat → Int32} {k j : Nat} {x : Int32} (h : (decide ((nI j &&& (nI k ^^^ (-1))) = 0) && cd_ap a (nI j)) = false) : cd_cf a t k j x = x := by unfold cd_cf; rw [h]; rfl
theorem cd_cf1 {a t : Nat → Int32} {k j : Nat} {x : Int32} (h : (decide ((nI j &&& (nI k ^^^ (-1))) = 0) && cd_ap a (nI j)) = true) (h2 : x ≤ t (cd_ix k (nI j)) + 1) : cd_cf a t k j x = x := by unfold cd_cf; rw [h, if_pos h2]; rfl
theorem cd_cf2 {a t : Nat → Int32} {k j : Nat} {x : Int32} (h : (decide ((nI j &&& (nI k ^^^ (-1))) = 0) && cd_ap a (nI j)) = true) (h2 : ¬ x ≤ t (cd_ix k (nI j)) + 1) : cd_cf a t k j x = t (cd_ix k (nI j)) + 1 := by unfold cd_cf; rw [h, if_neg h2]; rfl
theorem cd_xcolOf {post : Int32 → Prop} {a t : Nat → Int32} {k : Nat} (hk : k < 128) (h : post (cd_colOf a t k)) : wpX_coloursOf post (a, t) (nI k) := by
  refine ⟨k + 1, cd_loopL (W := fun n j x => wX_coloursOf_5 post (nI k) a t n x (nI j)) (f := cd_cf a t k) (post := post) 1 (k + 1)
    (fun n x hp => br_t (nI_lt (by omega) (by omega)) hp) ?_ k 1 7 (by omega) (by omega) h⟩
  intro n j x hl hj hW
  refine br_f (nI_nlt (by omega) (by omega)) (br_c (fun e1 => cd_xnone (cd_c0 (fun e2 => nm_r (nI_1 j) ?_) (fun e2 => ⟨cd_ixIn hk _, nm_e (br_c (fun e3 => nm_r (nI_1 j) ?_) (fun e3 => nm_r (nI_1 j) ?_))⟩))) (fun e1 => nm_r (nI_1 j) ?_))
  · rw [cd_cf0 (by rw [e2, Bool.and_false])] at hW
    exact hW
  · rw [cd_cf1 (by rw [decide_eq_true e1, e2]; rfl) e3] at hW
    exact hW
  · rw [cd_cf2 (by rw [decide_eq_true e1, e2]; rfl) e3] at hW
    exact hW
  · rw [cd_cf0 (by rw [decide_eq_false e1, Bool.false_and])] at hW
    exact hW
theorem cd_y52z {post : Int32 → SY → Prop} {J9 J26 : Int32 → (Nat → Int32) → (Nat → Int32) → Prop} {a t : Nat → Int32} {k j : Nat} (hk : k < 128) (h : J26 (nI (j + 1)) a t) : wY_colours_52 post J9 J26 (nI k) (nI j) 0 a t := by
  refine br_t rfl ⟨cd_in128 hk, cd_in128 hk, nm_r (cd_usame t _) (nm_r (nI_1 j) h)⟩
theorem cd_y26 {post : Int32 → SY → Prop} {J : Int32 → (Nat → Int32) → (Nat → Int32) → Prop} {a t : Nat → Int32} {k : Nat} (hk : k < 128) (x : Int32) (h : J (nI (k + 1)) a (upd t k (cd_fold (cd_cf a t k) k 1 x))) : wY_colours_26 post J (nI k) (k + 1) (nI 1) a (upd t k x) := by
  refine cd_loopL (W := fun n j x => wY_colours_26 post J (nI k) n (nI j) a (upd t k x)) (f := cd_cf a t k) (post := fun x => J (nI (k + 1)) a (upd t k x)) 1 (k + 1)
    (fun n x hp => br_t (nI_lt (by omega) (by omega)) (nm_r (nI_1 k) hp)) ?_ k 1 x (by omega) (by omega) h
  intro n j x hl hj hW
  refine br_f (nI_nlt (by omega) (by omega)) (br_c (fun e1 => cd_yapart (cd_c0 (fun e2 => cd_y52z hk ?_) (fun e2 => br_f (by decide) ⟨cd_ixIn hk _, cd_in128 hk, ?_⟩))) (fun e1 => cd_y52z hk ?_))
  · rw [cd_cf0 (by rw [e2, Bool.and_false])] at hW
    exact hW
  · have ne := cd_ixneS hk (by omega) (by omega : j < 128) e1
    have u1 : upd t k x (nI k).toNatClampNeg = x := by rw [cd_cl hk]; exact cd_us
    have u2 : upd t k x (nI k &&& (nI j ^^^ (-1))).toNatClampNeg = t (cd_ix k (nI j)) := cd_un ne
    rw [u1, u2]
    refine br_c (fun e3 => ⟨cd_in128 hk, cd_in128 hk, nm_r (e' := upd t k x) ?_ (nm_r (nI_1 j) ?_)⟩) (fun e3 => ⟨cd_ixIn hk _, cd_in128 hk, nm_r (e' := upd t k (t (cd_ix k (nI j)) + 1)) ?_ (nm_r (nI_1 j) ?_)⟩)
    · rw [cd_cl hk, cd_uu]
    · rw [cd_cf1 (by rw [decide_eq_true e1, e2]; rfl) e3] at hW
      exact hW
    · rw [cd_cl hk, cd_uu]
    · rw [cd_cf2 (by rw [decide_eq_true e1, e2]; rfl) e3] at hW
      exact hW
  · rw [cd_cf0 (by rw [decide_eq_false e1, Bool.false_and])] at hW
    exact hW
def cd_col (a t : Nat → Int32) : Nat → Int32 := cd_fold (fun k t => upd t k (cd_colOf a t k)) 127 1 (upd t 0 0)
theorem cd_xcol {post : Int32 → SX → Prop} {a t : Nat → Int32} (h : post (cd_col a t 127) (a, cd_col a t)) : wpX_colours post (a, t) := by
  refine nm_e ⟨128, cd_loopL (W := fun n k t => wX_colours_9 post n (nI k) a t) (f := fun k t => upd t k (cd_colOf a t k)) (post := fun t => post (t 127) (a, t)) 1 128
    (fun n x hp => br_t cd_l128 hp) ?_ 127 1 (upd t 0 0) (by omega) (by omega) h⟩
  intro n k t hl hk hW
  refine br_f (cd_g128 hk) (cd_xcolOf hk ⟨cd_in128 hk, nm_r (e' := upd t k (cd_colOf a t k)) ?_ (nm_r (nI_1 k) hW)⟩)
  rw [cd_cl hk]
theorem cd_ycol {post : Int32 → SY → Prop} {a t : Nat → Int32} (h : post (cd_col a t 127) (a, cd_col a t)) : wpY_colours post (a, t) := by
  refine nm_e ⟨128, cd_loopL (W := fun n k t => wY_colours_9 post n (nI k) a t) (f := fun k t => upd t k (cd_colOf a t k)) (post := fun t => post (t 127) (a, t)) 1 128
    (fun n x hp => br_t cd_l128 hp) ?_ 127 1 (upd t 0 0) (by omega) (by omega) h⟩
  intro n k t hl hk hW
  refine br_f (cd_g128 hk) ⟨cd_in128 hk, nm_r (e' := upd t k 7) ?_ ⟨k + 1, cd_y26 hk 7 hW⟩⟩
  rw [cd_cl hk]
/-! orders -/
def cd_of (a t : Nat → Int32) (k v : Nat) (x : Int32) : Int32 := if bt (nI k) v && cd_aj a (a v &&& nI k) then x + t (cd_ix k (cd_m v)) else x
def cd_ordOf (a t : Nat → Int32) (k : Nat) : Int32 := cd_fold (cd_of a t k) 7 0 0
theorem cd_of0 {a t : Nat → Int32} {k v : Nat} {x : Int32} (h : (bt (nI k) v && cd_aj a (a v &&& nI k)) = false) : cd_of a t k v x = x := by unfold cd_of; rw [h]; rfl
theorem cd_of1 {a t : Nat → Int32} {k v : Nat} {x : Int32} (h : (bt (nI k) v && cd_aj a (a v &&& nI k)) = true) : cd_of a t k v x = x + t (cd_ix k (cd_m v)) := by unfold cd_of; rw [h]; rfl
theorem cd_xordOf {post : Int32 → Prop} {a t : Nat → Int32} {k : Nat} (hk : k < 128) (h : post (cd_ordOf a t k)) : wpX_ordersOf post (a, t) (nI k) := by
  refine ⟨8, cd_loopL (W := fun n v x => wX_ordersOf_4 post (nI k) a t n x (nI v)) (f := cd_of a t k) (post := post) 0 7
    (fun n x hp => br_t cd_l7 hp) ?_ 7 0 0 (by omega) (by omega) h⟩
  intro n v x _ hv hW
  refine br_f (cd_g7 hv) (cd_xhas hv (cd_c0 (fun e => nm_r (nI_1 v) ?_) (fun e => cd_xeasy hv (cd_c0 (fun e2 => nm_r (nI_1 v) ?_) (fun e2 => ⟨cd_ixIn hk _, nm_e (nm_r (nI_1 v) ?_)⟩)))))
  · rw [cd_of0 (by rw [e, Bool.false_and])] at hW
    exact hW
  · rw [cd_of0 (by rw [e2, Bool.and_false])] at hW
    exact hW
  · rw [cd_of1 (by rw [e, e2]; rfl)] at hW
    exact hW
theorem cd_y54z {post : Int32 → SY → Prop} {J9 J25 : Int32 → (Nat → Int32) → (Nat → Int32) → Prop} {a t : Nat → Int32} {k j : Nat} (hk : k < 128) (h : J25 (nI (j + 1)) a t) : wY_orders_54 post J9 J25 (nI k) (nI j) 0 a t := by
  refine br_t rfl ⟨cd_in128 hk, cd_in128 hk, nm_r (cd_usame t _) (nm_r (nI_1 j) h)⟩
theorem cd_y25 {post : Int32 → SY → Prop} {J : Int32 → (Nat → Int32) → (Nat → Int32) → Prop} {a t : Nat → Int32} {k : Nat} (G : cd_G a) (hk : k < 128) (x : Int32) (h : J (nI (k + 1)) a (upd t k (cd_fold (cd_of a t k) 7 0 x))) : wY_orders_25 post J (nI k) 8 (nI 0) a (upd t k x) := by
  refine cd_loopL (W := fun n j x => wY_orders_25 post J (nI k) n (nI j) a (upd t k x)) (f := cd_of a t k) (post := fun x => J (nI (k + 1)) a (upd t k x)) 0 7
    (fun n x hp => br_t cd_l7 (nm_r (nI_1 k) hp)) ?_ 7 0 x (by omega) (by omega) h
  intro n v x _ hv hW
  refine br_f (cd_g7 hv) (cd_b1 (by omega) (fun e => cd_yeasy G hv hk (cd_c0 (fun e2 => cd_y54z hk ?_) (fun e2 => br_f (by decide) ⟨cd_in128 hk, cd_ixIn hk _, cd_in128 hk, nm_r (e' := upd t k (x + t (cd_ix k (cd_m v)))) ?_ (nm_r (nI_1 v) ?_)⟩))) (fun e => cd_y54z hk ?_))
  · rw [cd_of0 (by rw [e2, Bool.and_false])] at hW
    exact hW
  · have ne := cd_ixne (m := cd_m v) hk (by omega : v < 32) e (by rw [cd_btm (by omega) (by omega)]; simp)
    have u1 : upd t k x (nI k).toNatClampNeg = x := by rw [cd_cl hk]; exact cd_us
    have u2 : upd t k x (nI k &&& (cd_m v ^^^ (-1))).toNatClampNeg = t (cd_ix k (cd_m v)) := cd_un ne
    show upd (upd t k x) (nI k).toNatClampNeg (upd t k x (nI k).toNatClampNeg + upd t k x (nI k &&& (cd_m v ^^^ (-1))).toNatClampNeg) = _
    rw [u1, u2, cd_cl hk, cd_uu]
  · rw [cd_of1 (by rw [e, e2]; rfl)] at hW
    exact hW
  · rw [cd_of0 (by rw [e, Bool.false_and])] at hW
    exact hW
def cd_ord (a t : Nat → Int32) : Nat → Int32 := cd_fold (fun k t => upd t k (cd_ordOf a t k)) 127 1 (upd t 0 1)
theorem cd_xord {post : Int32 → SX → Prop} {a t : Nat → Int32} (h : post (cd_ord a t 127) (a, cd_ord a t)) : wpX_orders post (a, t) := by
  refine nm_e ⟨128, cd_loopL (W := fun n k t => wX_orders_9 post n (nI k) a t) (f := fun k t => upd t k (cd_ordOf a t k)) (post := fun t => post (t 127) (a, t)) 1 128
    (fun n x hp => br_t cd_l128 hp) ?_ 127 1 (upd t 0 1) (by omega) (by omega) h⟩
  intro n k t hl hk hW
  refine br_f (cd_g128 hk) (cd_xordOf hk ⟨cd_in128 hk, nm_r (e' := upd t k (cd_ordOf a t k)) ?_ (nm_r (nI_1 k) hW)⟩)
  rw [cd_cl hk]
theorem cd_yord {post : Int32 → SY → Prop} {a t : Nat → Int32} (G : cd_G a) (h : post (cd_ord a t 127) (a, cd_ord a t)) : wpY_orders post (a, t) := by
  refine nm_e ⟨128, cd_loopL (W := fun n k t => wY_orders_9 post n (nI k) a t) (f := fun k t => upd t k (cd_ordOf a t k)) (post := fun t => post (t 127) (a, t)) 1 128
    (fun n x hp => br_t cd_l128 hp) ?_ 127 1 (upd t 0 1) (by omega) (by omega) h⟩
  intro n k t hl hk hW
  refine br_f (cd_g128 hk) ⟨cd_in128 hk, nm_r (e' := upd t k 0) ?_ ⟨8, cd_y25 G hk 0 hW⟩⟩
  rw [cd_cl hk]
