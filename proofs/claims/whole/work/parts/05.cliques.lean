/-! ===== fullCliques, joins, clique ===== -/
theorem cd_zero {x : Int32} : x = 0 ↔ ∀ j, j < 32 → bt x j = false := by
  constructor
  · intro h j _
    rw [h]; exact b_0 j
  · intro h
    apply b_ext
    intro j hj
    rw [h j hj, b_0]
theorem cd_gpP {a : Nat → Int32} {s : Int32} {v : Nat} (hs : ∀ j, 7 ≤ j → bt s j = false) : (s &&& (a v ^^^ (-1))) = 0 ↔ ∀ j, j < 7 → bt s j = true → bt (a v) j = true := by
  rw [cd_zero]
  constructor
  · intro h j hj e
    have k := h j (by omega)
    rw [b_and, b_xor, b_m1 j (by omega), e] at k
    simpa using k
  · intro h j hj
    rw [b_and, b_xor, b_m1 j hj]
    rcases Nat.lt_or_ge j 7 with h7 | h7
    · cases e : bt s j
      · rfl
      · rw [h j h7 e]; rfl
    · rw [hs j h7]; rfl
theorem cd_jpP {a : Nat → Int32} {s : Int32} {i : Nat} (G : cd_G a) (hi : i < 7) (hs : ∀ j, 7 ≤ j → bt s j = false) : cd_jp a s i = true ↔ (bt s i = true → ∀ j, j < 7 → j ≠ i → bt s j = true → bt (a i) j = true) := by
  unfold cd_jp
  cases e : bt s i
  · exact ⟨fun _ z => (nomatch z), fun _ => rfl⟩
  · rw [Bool.not_true, Bool.false_or, decide_eq_true_iff]
    constructor
    · intro h _ j hj hne hb
      have k : bt (s &&& (a i ^^^ (-1))) j = bt (cd_m i) j := by rw [h]
      rw [b_and, b_xor, b_m1 j (by omega), cd_btm (by omega) (by omega), hb, decide_eq_false hne] at k
      simpa using k
    · intro h
      apply b_ext
      intro j hj
      rw [b_and, b_xor, b_m1 j hj, cd_btm (by omega) hj]
      by_cases hne : j = i
      · subst hne
        rw [e, G.2 j hi, decide_eq_true rfl]; rfl
      · rw [decide_eq_false hne]
        rcases Nat.lt_or_ge j 7 with h7 | h7
        · cases e2 : bt s j
          · rfl
          · rw [h rfl j h7 hne e2]; rfl
        · rw [hs j h7]; rfl
theorem cd_ajP {a : Nat → Int32} {s : Int32} (G : cd_G a) (hs : ∀ j, 7 ≤ j → bt s j = false) : cd_aj a s = true ↔ ∀ i, i < 7 → bt s i = true → ∀ j, j < 7 → j ≠ i → bt s j = true → bt (a i) j = true := by
  unfold cd_aj
  rw [cd_allT]
  constructor
  · intro h i hi
    exact (cd_jpP G hi hs).mp (h i (by omega) (by omega))
  · intro h i _ hi
    exact (cd_jpP G (by omega) hs).mpr (h i (by omega))
theorem cd_orN : ∀ k, k < 128 → ∀ v, v < 7 → k ||| 2 ^ v < 128 ∧ (nI k ||| cd_m v) = nI (k ||| 2 ^ v) := by decide +kernel
theorem cd_ajm {a : Nat → Int32} (G : cd_G a) {k v : Nat} (hk : k < 128) (hv : v < 7) (hb : bt (nI k) v = false) (hc : cd_aj a (nI k) = true) : cd_aj a (nI k ||| cd_m v) = decide ((nI k &&& (a v ^^^ (-1))) = 0) := by
  have hs : ∀ j, 7 ≤ j → bt (nI k) j = false := fun j hj => cd_btn hk hj
  have ho := cd_orN k hk v hv
  have hs2 : ∀ j, 7 ≤ j → bt (nI k ||| cd_m v) j = false := fun j hj => by rw [ho.2]; exact cd_btn ho.1 hj
  have hor : ∀ j, j < 7 → bt (nI k ||| cd_m v) j = (bt (nI k) j || decide (j = v)) := fun j hj => by rw [b_or, cd_btm (by omega) (by omega)]
  rw [Bool.eq_iff_iff, decide_eq_true_iff, cd_gpP hs, cd_ajP G hs2]
  rw [cd_ajP G hs] at hc
  constructor
  · intro h j hj e
    have hne : j ≠ v := fun z => by rw [z, hb] at e; cases e
    exact h v hv (by rw [hor v hv]; simp) j hj hne (by rw [hor j hj, e]; rfl)
  · intro h i hi ei j hj hne ej
    rw [hor i hi] at ei
    rw [hor j hj] at ej
    by_cases hiv : i = v
    · subst hiv
      rw [decide_eq_false hne, Bool.or_false] at ej
      exact h j hj ej
    · rw [decide_eq_false hiv, Bool.or_false] at ei
      by_cases hjv : j = v
      · subst hjv
        rw [G.1 i j hi hj]
        exact h i hi ei
      · rw [decide_eq_false hjv, Bool.or_false] at ej
        exact hc i hi ei j hj hne ej
def cd_ff (a : Nat → Int32) (k : Nat) (n : Int32) : Int32 := if cd_aj a (nI k) && cd_all (cd_gp a (nI k)) 7 0 then n + 1 else n
def cd_full (a : Nat → Int32) : Int32 := cd_fold (cd_ff a) 128 0 0
theorem cd_ff0 {a : Nat → Int32} {k : Nat} {x : Int32} (h : (cd_aj a (nI k) && cd_all (cd_gp a (nI k)) 7 0) = false) : cd_ff a k x = x := by unfold cd_ff; rw [h]; rfl
theorem cd_ff1 {a : Nat → Int32} {k : Nat} {x : Int32} (h : (cd_aj a (nI k) && cd_all (cd_gp a (nI k)) 7 0) = true) : cd_ff a k x = x + 1 := by unfold cd_ff; rw [h]; rfl
theorem cd_not0 {b : Bool} (h : (!b) = false) : b = true := by cases b; cases h; rfl
theorem cd_not1 {b : Bool} (h : (!b) = true) : b = false := by cases b; rfl; cases h
theorem cd_xfull {post : Int32 → Prop} {a t : Nat → Int32} (h : post (cd_full a)) : wpX_fullCliques post (a, t) := by
  refine ⟨129, cd_loop (W := fun n i x => wX_fullCliques_4 post a t n x (nI i)) (f := cd_ff a) (post := post) (fun _ => True) 128
    (fun _ _ _ _ => trivial) (fun n x _ hp => br_t cd_l128 hp) ?_ 128 0 0 rfl trivial h⟩
  intro n i x hi _ hW
  refine br_f (cd_g128 hi) (cd_xall (cd_c0 (fun e => nm_r (nI_1 i) ?_) (fun e => cd_xgrow (cd_c0 (fun e2 => nm_e (nm_r (nI_1 i) ?_)) (fun e2 => nm_r (nI_1 i) ?_)))))
  · rw [cd_ff0 (by rw [e, Bool.false_and])] at hW; exact hW
  · rw [cd_ff1 (by rw [e, cd_not0 e2]; rfl)] at hW; exact hW
  · rw [cd_ff0 (by rw [cd_not1 e2, Bool.and_false])] at hW; exact hW
def cd_fq (a : Nat → Int32) (k v : Nat) : Bool := bt (nI k) v || !cd_aj a (nI k ||| cd_m v)
theorem cd_y20 {post : Int32 → Prop} {J : Int32 → Int32 → Prop} {a t : Nat → Int32} {k : Nat} {x : Int32} (G : cd_G a) (hk : k < 128) : ∀ d i b, i + d = 7 → ((b && cd_all (cd_fq a k) d i) = true → J (x + 1) (nI (k + 1))) → ((b && cd_all (cd_fq a k) d i) = false → J x (nI (k + 1))) → wY_fullCliques_20 post J x (nI k) a t (d + 1) (cd_cb b) (nI i) := by
  intro d
  induction d with
  | zero =>
    intro i b hi h1 h0
    have : i = 7 := by omega
    subst this
    have e0 : (b && cd_all (cd_fq a k) 0 7) = b := by simp [cd_all]
    rw [e0] at h1 h0
    exact br_t cd_l7 (cd_c0 (fun e => nm_r (nI_1 k) (h0 e)) (fun e => nm_e (nm_r (nI_1 k) (h1 e))))
  | succ d ih =>
    intro i b hi h1 h0
    have i7 : i < 7 := by omega
    have st : cd_fq a k i = true → cd_all (cd_fq a k) (d + 1) i = cd_all (cd_fq a k) d (i + 1) := fun z => by
      show (cd_fq a k i && _) = _
      rw [z, Bool.true_and]
    have sf : cd_fq a k i = false → cd_all (cd_fq a k) (d + 1) i = false := fun z => by
      show (cd_fq a k i && _) = _
      rw [z, Bool.false_and]
    refine br_f (cd_g7 i7) (cd_c0 (fun hb => nm_r (nI_1 i) ?_) (fun hb => ?_))
    · subst hb
      rw [Bool.false_and] at h1 h0
      refine ih (i + 1) false (by omega) ?_ ?_
      · rw [Bool.false_and]; exact h1
      · rw [Bool.false_and]; exact h0
    · subst hb
      rw [Bool.true_and] at h1 h0
      have goT : cd_fq a k i = true → wY_fullCliques_20 post J x (nI k) a t (d + 1) (cd_cb true) (nI (i + 1)) := fun z => by
        rw [st z] at h1 h0
        refine ih (i + 1) true (by omega) ?_ ?_
        · rw [Bool.true_and]; exact h1
        · rw [Bool.true_and]; exact h0
      have goF : cd_fq a k i = false → wY_fullCliques_20 post J x (nI k) a t (d + 1) (cd_cb false) (nI (i + 1)) := fun z => by
        rw [sf z] at h1 h0
        refine ih (i + 1) false (by omega) ?_ ?_
        · rw [Bool.false_and]; exact h1
        · rw [Bool.false_and]; exact h0
      refine cd_b1 (by omega) (fun hs => nm_r (nI_1 i) (goT ?_)) (fun hs => ?_)
      · unfold cd_fq; rw [hs, Bool.true_or]
      · have ho := cd_orN k hk i i7
        have key : wpY_clique (fun r => (r = 0 → ∀ x4 : Int32, x4 = nI i + 1 → wY_fullCliques_20 post J x (nI k) a t (d + 1) 1 x4) ∧ (¬ r = 0 → ∀ x4 : Int32, x4 = nI i + 1 → wY_fullCliques_20 post J x (nI k) a t (d + 1) 0 x4)) (a, t) (nI k ||| cd_m i) := by
          have hq : cd_fq a k i = !cd_aj a (nI k ||| cd_m i) := by unfold cd_fq; rw [hs, Bool.false_or]
          rw [hq] at goT goF
          rw [ho.2] at goT goF ⊢
          refine cd_yclique G ho.1 (cd_c0 (fun e => nm_r (nI_1 i) (goT ?_)) (fun e => nm_r (nI_1 i) (goF ?_)))
          · rw [e]; rfl
          · rw [e]; rfl
        exact key
theorem cd_yfull {post : Int32 → Prop} {a t : Nat → Int32} (G : cd_G a) (h : post (cd_full a)) : wpY_fullCliques post (a, t) := by
  refine ⟨129, cd_loop (W := fun n i x => wY_fullCliques_4 post a t n x (nI i)) (f := cd_ff a) (post := post) (fun _ => True) 128
    (fun _ _ _ _ => trivial) (fun n x _ hp => br_t cd_l128 hp) ?_ 128 0 0 rfl trivial h⟩
  intro n k x hk _ hW
  have key : (cd_aj a (nI k) && cd_all (cd_fq a k) 7 0) = (cd_aj a (nI k) && cd_all (cd_gp a (nI k)) 7 0) := by
    cases e : cd_aj a (nI k)
    · rfl
    · rw [Bool.true_and, Bool.true_and]
      refine cd_allC 7 (fun v hv => ?_) 7 0 rfl
      unfold cd_fq cd_gp
      cases eb : bt (nI k) v
      · rw [cd_ajm G hk hv eb e]
      · rfl
  refine br_f (cd_g128 hk) (cd_yclique G hk ⟨8, cd_y20 G hk 7 0 _ rfl (fun z => ?_) (fun z => ?_)⟩)
  · rw [key] at z
    rw [cd_ff1 z] at hW; exact hW
  · rw [key] at z
    rw [cd_ff0 z] at hW; exact hW
