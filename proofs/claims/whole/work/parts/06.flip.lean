/-! ===== joins; link, part, flip; join, clique, neighbours ===== -/
theorem cd_sub {a b : Nat} (h : b ≤ a) : nI a - nI b = nI (a - b) := by
  obtain ⟨c, rfl⟩ : ∃ c, a = c + b := ⟨a - b, by omega⟩
  rw [← nI_add, Int32.add_sub_cancel, Nat.add_sub_cancel]
theorem cd_mul (a b : Nat) : nI a * nI b = nI (a * b) := (Int32.ofNat_mul a b).symm
theorem cd_div {a d : Nat} (ha : a < 2 ^ 31) (h0 : 0 < d) (hd : d < 2 ^ 31) : nI a / nI d = nI (a / d) := by
  apply Int32.toInt_inj.mp
  rw [lg_idiv_nonneg (by rw [nI_toInt ha]; omega) (by rw [nI_toInt hd]; omega), nI_toInt ha, nI_toInt hd, nI_toInt (Nat.lt_of_le_of_lt (Nat.div_le_self a d) ha)]
  first | rfl | exact (Int.natCast_ediv _ _).symm
theorem cd_rem {a d : Nat} (ha : a < 2 ^ 31) (h0 : 0 < d) (hd : d < 2 ^ 31) : nI a - nI a / nI d * nI d = nI (a % d) := by
  rw [cd_div ha h0 hd, cd_mul, cd_sub (Nat.div_mul_le_self a d)]
  exact congrArg nI (by have := Nat.div_add_mod' a d; omega)
theorem cd_foldN {f : Nat → Int32 → Int32} {h : Nat → Nat → Nat} (e : Nat) (hh : ∀ i m, i < e → f i (nI m) = nI (h i m)) : ∀ d i m, i + d = e → cd_fold f d i (nI m) = nI (cd_fold h d i m) := by
  intro d
  induction d with
  | zero => intro i m _; rfl
  | succ d ih =>
    intro i m hi
    show cd_fold f d (i + 1) (f i (nI m)) = nI (cd_fold h d (i + 1) (h i m))
    rw [hh i m (by omega)]
    exact ih (i + 1) (h i m) (by omega)
theorem cd_cbN (b : Bool) : cd_cb b = nI b.toNat := by cases b <;> rfl
def cd_xj (t : Nat → Nat → Nat) : Nat := cd_fold (fun i m => cd_fold (fun b m => m + t i b) (6 - i) (i + 1) m) 7 0 0
def cd_yj (t : Nat → Nat → Nat) : Nat := cd_fold (fun i m => m + cd_fold (fun b m => m + t i b) 7 0 0) 7 0 0
theorem cd_jsum (t : Nat → Nat → Nat) (hs : ∀ i j, i < 7 → j < 7 → t i j = t j i) (h0 : ∀ i, i < 7 → t i i = 0) (h1 : ∀ i j, t i j ≤ 1) : cd_yj t = 2 * cd_xj t ∧ cd_xj t ≤ 21 := by
  unfold cd_yj cd_xj
  simp only [cd_fold, Nat.reduceAdd, Nat.reduceSub]
  have z0 := h0 0 (by omega)
  have z1 := h0 1 (by omega)
  have z2 := h0 2 (by omega)
  have z3 := h0 3 (by omega)
  have z4 := h0 4 (by omega)
  have z5 := h0 5 (by omega)
  have z6 := h0 6 (by omega)
  have s01 := hs 0 1 (by omega) (by omega)
  have l01 := h1 0 1
  have s02 := hs 0 2 (by omega) (by omega)
  have l02 := h1 0 2
  have s03 := hs 0 3 (by omega) (by omega)
  have l03 := h1 0 3
  have s04 := hs 0 4 (by omega) (by omega)
  have l04 := h1 0 4
  have s05 := hs 0 5 (by omega) (by omega)
  have l05 := h1 0 5
  have s06 := hs 0 6 (by omega) (by omega)
  have l06 := h1 0 6
  have s12 := hs 1 2 (by omega) (by omega)
  have l12 := h1 1 2
  have s13 := hs 1 3 (by omega) (by omega)
  have l13 := h1 1 3
  have s14 := hs 1 4 (by omega) (by omega)
  have l14 := h1 1 4
  have s15 := hs 1 5 (by omega) (by omega)
  have l15 := h1 1 5
  have s16 := hs 1 6 (by omega) (by omega)
  have l16 := h1 1 6
  have s23 := hs 2 3 (by omega) (by omega)
  have l23 := h1 2 3
  have s24 := hs 2 4 (by omega) (by omega)
  have l24 := h1 2 4
  have s25 := hs 2 5 (by omega) (by omega)
  have l25 := h1 2 5
  have s26 := hs 2 6 (by omega) (by omega)
  have l26 := h1 2 6
  have s34 := hs 3 4 (by omega) (by omega)
  have l34 := h1 3 4
  have s35 := hs 3 5 (by omega) (by omega)
  have l35 := h1 3 5
  have s36 := hs 3 6 (by omega) (by omega)
  have l36 := h1 3 6
  have s45 := hs 4 5 (by omega) (by omega)
  have l45 := h1 4 5
  have s46 := hs 4 6 (by omega) (by omega)
  have l46 := h1 4 6
  have s56 := hs 5 6 (by omega) (by omega)
  have l56 := h1 5 6
  constructor <;> omega
def cd_joins (a : Nat → Int32) : Int32 := nI (cd_xj (fun i j => (bt (a i) j).toNat))
theorem cd_loopL {σ : Type} {W : Nat → Nat → σ → Prop} {f : Nat → σ → σ} {post : σ → Prop} (lo e : Nat)
    (hx : ∀ n s, post s → W (n + 1) e s) (hs : ∀ n i s, lo ≤ i → i < e → W n (i + 1) (f i s) → W (n + 1) i s) :
    ∀ d i s, lo ≤ i → i + d = e → post (cd_fold f d i s) → W (d + 1) i s := by
  intro d
  induction d with
  | zero =>
    intro i s _ hi hp
    have : i = e := by omega
    subst this
    exact hx 0 s hp
  | succ d ih =>
    intro i s hl hi hp
    exact hs (d + 1) i s hl (by omega) (ih (i + 1) (f i s) (by omega) (by omega) hp)
theorem cd_xj14 {post : Int32 → Prop} {J : Int32 → Int32 → Prop} {a t : Nat → Int32} {i m : Nat} (hi : i < 7) (h : J (nI (cd_fold (fun b m => m + (bt (a i) b).toNat) (6 - i) (i + 1) m)) (nI (i + 1))) : wX_joins_14 post J (nI i) a t (6 - i + 1) (nI m) (nI (i + 1)) := by
  refine cd_loopL (W := fun n b m => wX_joins_14 post J (nI i) a t n (nI m) (nI b)) (f := fun b m => m + (bt (a i) b).toNat) (post := fun m => J (nI m) (nI (i + 1))) 0 7
    (fun n m hp => br_t cd_l7 (nm_r (nI_1 i) hp)) ?_ (6 - i) (i + 1) m (by omega) (by omega) h
  intro n b m _ hb hW
  refine br_f (cd_g7 hb) ⟨cd_in7 hi, cd_xhas hb ?_⟩
  rw [cd_cl (by omega)]
  refine cd_c0 (fun e => nm_r (nI_1 b) ?_) (fun e => nm_r (nI_1 m) (nm_r (nI_1 b) ?_))
  · rw [e] at hW; exact hW
  · rw [e] at hW; exact hW
theorem cd_xjoins {post : Int32 → Prop} {a t : Nat → Int32} (h : post (cd_joins a)) : wpX_joins post (a, t) := by
  refine ⟨8, cd_loopL (W := fun n i m => wX_joins_4 post a t n (nI m) (nI i)) (f := fun i m => cd_fold (fun b m => m + (bt (a i) b).toNat) (6 - i) (i + 1) m) (post := fun m => post (nI m)) 0 7
    (fun n m hp => br_t cd_l7 hp) ?_ 7 0 0 (by omega) rfl h⟩
  intro n i m _ hi hW
  exact br_f (cd_g7 hi) (nm_r (nI_1 i) ⟨6 - i + 1, cd_xj14 hi hW⟩)
theorem cd_szN (s : Int32) : cd_sz s = nI (cd_fold (fun b m => m + (bt s b).toNat) 7 0 0) := by
  refine cd_foldN 7 (fun i m hi => ?_) 7 0 0 rfl
  rw [cd_bit s (by omega), cd_cbN, nI_add]
theorem cd_yjoins {post : Int32 → Prop} {a t : Nat → Int32} (G : cd_G a) (h : post (cd_joins a)) : wpY_joins post (a, t) := by
  have hs := cd_jsum (fun i j => (bt (a i) j).toNat) (fun i j hi hj => congrArg Bool.toNat (G.1 i j hi hj)) (fun i hi => congrArg Bool.toNat (G.2 i hi)) (fun i j => Bool.toNat_le _)
  refine ⟨8, cd_loopL (W := fun n i m => wY_joins_4 post a t n (nI m) (nI i)) (f := fun i m => m + cd_fold (fun b m => m + (bt (a i) b).toNat) 7 0 0) (post := fun m => post (nI m / 2)) 0 7
    (fun n m hp => br_t cd_l7 ⟨by decide, hp⟩) ?_ 7 0 0 (by omega) rfl ?_⟩
  · intro n i m _ hi hW
    refine br_f (cd_g7 hi) ⟨cd_in7 hi, cd_ycount ?_⟩
    rw [cd_cl (by omega), cd_szN]
    exact nm_r (nI_add _ _) (nm_r (nI_1 i) hW)
  · have e : nI (cd_yj (fun i j => (bt (a i) j).toNat)) / nI 2 = cd_joins a := by
      rw [cd_div (by omega) (by omega) (by omega), hs.1, Nat.mul_div_cancel_left _ (by omega : 0 < 2)]
      rfl
    have h' : post (nI (cd_yj (fun i j => (bt (a i) j).toNat)) / nI 2) := by rw [e]; exact h
    exact h'
/-! link, part, flip -/
def cd_flip (a : Nat → Int32) (i j : Nat) : Nat → Int32 := upd (upd a i (a i ^^^ cd_m j)) j (upd a i (a i ^^^ cd_m j) j ^^^ cd_m i)
theorem cd_orx {x : Int32} {v : Nat} (hv : v < 32) (h : bt x v = false) : x ||| cd_m v = x ^^^ cd_m v := by
  apply b_ext
  intro i hi
  rw [b_or, b_xor, cd_btm hv hi]
  by_cases e : i = v
  · subst e; rw [h, decide_eq_true (rfl : i = i)]; rfl
  · rw [decide_eq_false e]; simp
theorem cd_ort {x : Int32} {v : Nat} (hv : v < 32) (h : bt x v = true) : x ||| cd_m v = x := by
  apply b_ext
  intro i hi
  rw [b_or, cd_btm hv hi]
  by_cases e : i = v
  · subst e; rw [h]; rfl
  · rw [decide_eq_false e]; simp
theorem cd_anx {x : Int32} {v : Nat} (hv : v < 32) (h : bt x v = true) : x &&& (cd_m v ^^^ (-1)) = x ^^^ cd_m v := by
  apply b_ext
  intro i hi
  rw [b_and, b_xor, b_xor, cd_btm hv hi, b_m1 i hi]
  by_cases e : i = v
  · subst e; rw [h, decide_eq_true rfl]; rfl
  · rw [decide_eq_false e]; simp
theorem cd_ant {x : Int32} {v : Nat} (hv : v < 32) (h : bt x v = false) : x &&& (cd_m v ^^^ (-1)) = x := by
  apply b_ext
  intro i hi
  rw [b_and, b_xor, cd_btm hv hi, b_m1 i hi]
  by_cases e : i = v
  · subst e; rw [h]; rfl
  · rw [decide_eq_false e]; simp
theorem cd_us {f : Nat → Int32} {k : Nat} {x : Int32} : upd f k x k = x := if_pos rfl
theorem cd_un {f : Nat → Int32} {k j : Nat} {x : Int32} (h : j ≠ k) : upd f k x j = f j := if_neg h
theorem cd_usame (f : Nat → Int32) (k : Nat) : upd f k (f k) = f := by
  funext j
  by_cases h : j = k
  · subst h; exact cd_us
  · exact cd_un h
theorem cd_uu (f : Nat → Int32) (k : Nat) (x y : Int32) : upd (upd f k x) k y = upd f k y := by
  funext j
  by_cases h : j = k
  · subst h; rw [cd_us, cd_us]
  · rw [cd_un h, cd_un h, cd_un h]
theorem cd_yflip {post : SY → Prop} {a t : Nat → Int32} {i j : Nat} (hi : i < 7) (hj : j < 7) (h : post (cd_flip a i j, t)) : wpY_flip post (a, t) (nI i) (nI j) := by
  unfold wpY_flip
  dsimp only
  rw [cd_cl (by omega : i < 128), cd_cl (by omega : j < 128)]
  exact ⟨cd_in7 hi, cd_in7 hi, nm_e ⟨cd_in7 hj, cd_in7 hj, nm_e h⟩⟩
theorem cd_xlink {post : SX → Prop} {a t : Nat → Int32} {i j : Nat} (hi : i < 7) (hj : j < 7) (h : post (upd (upd a i (a i ||| cd_m j)) j (upd a i (a i ||| cd_m j) j ||| cd_m i), t)) : wpX_link post (a, t) (nI i) (nI j) := by
  unfold wpX_link
  dsimp only
  rw [cd_cl (by omega : i < 128), cd_cl (by omega : j < 128)]
  exact ⟨cd_in7 hi, cd_in7 hi, nm_e ⟨cd_in7 hj, cd_in7 hj, nm_e h⟩⟩
theorem cd_xpart {post : SX → Prop} {a t : Nat → Int32} {i j : Nat} (hi : i < 7) (hj : j < 7) (h : post (upd (upd a i (a i &&& (cd_m j ^^^ (-1)))) j (upd a i (a i &&& (cd_m j ^^^ (-1))) j &&& (cd_m i ^^^ (-1))), t)) : wpX_part post (a, t) (nI i) (nI j) := by
  unfold wpX_part
  dsimp only
  rw [cd_cl (by omega : i < 128), cd_cl (by omega : j < 128)]
  exact ⟨cd_in7 hi, cd_in7 hi, nm_e ⟨cd_in7 hj, cd_in7 hj, nm_e h⟩⟩
theorem cd_link0 {post : SX → Prop} {a t : Nat → Int32} {i j : Nat} (G : cd_G a) (hi : i < 7) (hj : j < 7) (ne : i ≠ j) (hb : bt (a i) j = false) (h : post (cd_flip a i j, t)) : wpX_link post (a, t) (nI i) (nI j) := by
  refine cd_xlink hi hj ?_
  rw [cd_orx (by omega) hb, cd_un (Ne.symm ne), cd_orx (by omega) (by rw [← G.1 i j hi hj]; exact hb)]
  unfold cd_flip at h
  rw [cd_un (Ne.symm ne)] at h
  exact h
theorem cd_link1 {post : SX → Prop} {a t : Nat → Int32} {i j : Nat} (G : cd_G a) (hi : i < 7) (hj : j < 7) (hb : bt (a i) j = true) (h : post (a, t)) : wpX_link post (a, t) (nI i) (nI j) := by
  refine cd_xlink hi hj ?_
  rw [cd_ort (by omega) hb, cd_usame, cd_ort (by omega) (by rw [← G.1 i j hi hj]; exact hb), cd_usame]
  exact h
theorem cd_part1 {post : SX → Prop} {a t : Nat → Int32} {i j : Nat} (G : cd_G a) (hi : i < 7) (hj : j < 7) (ne : i ≠ j) (hb : bt (a i) j = true) (h : post (cd_flip a i j, t)) : wpX_part post (a, t) (nI i) (nI j) := by
  refine cd_xpart hi hj ?_
  rw [cd_anx (by omega) hb, cd_un (Ne.symm ne), cd_anx (by omega) (by rw [← G.1 i j hi hj]; exact hb)]
  unfold cd_flip at h
  rw [cd_un (Ne.symm ne)] at h
  exact h
theorem cd_part0 {post : SX → Prop} {a t : Nat → Int32} {i j : Nat} (G : cd_G a) (hi : i < 7) (hj : j < 7) (hb : bt (a i) j = false) (h : post (a, t)) : wpX_part post (a, t) (nI i) (nI j) := by
  refine cd_xpart hi hj ?_
  rw [cd_ant (by omega) hb, cd_usame, cd_ant (by omega) (by rw [← G.1 i j hi hj]; exact hb), cd_usame]
  exact h
theorem cd_flipb {a : Nat → Int32} {i j k l : Nat} (hi : i < 7) (hj : j < 7) (ne : i ≠ j) (hl : l < 32) : bt (cd_flip a i j k) l = (bt (a k) l ^^ decide ((k = i ∧ l = j) ∨ (k = j ∧ l = i))) := by
  unfold cd_flip
  by_cases h1 : k = j
  · subst h1
    rw [cd_us, cd_un (Ne.symm ne), b_xor, cd_btm (by omega) hl]
    have e : ((k = i ∧ l = k) ∨ (k = k ∧ l = i)) ↔ l = i := ⟨fun z => z.elim (fun y => absurd y.1.symm ne) (fun y => y.2), fun z => .inr ⟨rfl, z⟩⟩
    rw [decide_eq_decide.mpr e]
  · rw [cd_un h1]
    by_cases h2 : k = i
    · subst h2
      rw [cd_us, b_xor, cd_btm (by omega) hl]
      have e : ((k = k ∧ l = j) ∨ (k = j ∧ l = k)) ↔ l = j := ⟨fun z => z.elim (fun y => y.2) (fun y => absurd y.1 h1), fun z => .inl ⟨rfl, z⟩⟩
      rw [decide_eq_decide.mpr e]
    · rw [cd_un h2, decide_eq_false (fun z => z.elim (fun y => h2 y.1) (fun y => h1 y.1)), Bool.xor_false]
theorem cd_flipG {a : Nat → Int32} {i j : Nat} (G : cd_G a) (hi : i < 7) (hj : j < 7) (ne : i ≠ j) : cd_G (cd_flip a i j) := by
  constructor
  · intro k l hk hl
    rw [cd_flipb hi hj ne (by omega), cd_flipb hi hj ne (by omega), G.1 k l hk hl]
    have e : ((k = i ∧ l = j) ∨ (k = j ∧ l = i)) ↔ ((l = i ∧ k = j) ∨ (l = j ∧ k = i)) := ⟨fun z => z.elim (fun y => .inr ⟨y.2, y.1⟩) (fun y => .inl ⟨y.2, y.1⟩), fun z => z.elim (fun y => .inr ⟨y.2, y.1⟩) (fun y => .inl ⟨y.2, y.1⟩)⟩
    rw [decide_eq_decide.mpr e]
  · intro k hk
    rw [cd_flipb hi hj ne (by omega), G.2 k hk, decide_eq_false (fun z => z.elim (fun y => ne (y.1.symm.trans y.2)) (fun y => ne (y.2.symm.trans y.1)))]
    rfl
theorem cd_flip1 {a : Nat → Int32} {i j : Nat} (hi : i < 7) (hj : j < 7) (ne : i ≠ j) : bt (cd_flip a i j i) j = !bt (a i) j := by
  rw [cd_flipb hi hj ne (by omega), decide_eq_true (.inl ⟨rfl, rfl⟩), Bool.xor_true]
theorem cd_flip2 {a : Nat → Int32} {i j : Nat} (hi : i < 7) (hj : j < 7) (ne : i ≠ j) : cd_flip (cd_flip a i j) i j = a := by
  funext k
  apply b_ext
  intro l hl
  rw [cd_flipb hi hj ne hl, cd_flipb hi hj ne hl, Bool.xor_assoc, Bool.xor_self, Bool.xor_false]
