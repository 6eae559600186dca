/-! ===== neatJoins, fill ===== -/
def cd_op (a : Nat → Int32) (c : Nat) : Bool := decide (c / 7 < c % 7) && !bt (a (c / 7)) (c % 7)
def cd_nf (a : Nat → Int32) (c : Nat) (n : Int32) : Int32 := if cd_op a c && cd_neat (cd_flip a (c / 7) (c % 7)) then n + 1 else n
def cd_nj (a : Nat → Int32) : Int32 := cd_fold (cd_nf a) 49 0 0
theorem cd_nf0 {a : Nat → Int32} {c : Nat} {x : Int32} (h : (cd_op a c && cd_neat (cd_flip a (c / 7) (c % 7))) = false) : cd_nf a c x = x := by unfold cd_nf; rw [h]; rfl
theorem cd_nf1 {a : Nat → Int32} {c : Nat} {x : Int32} (h : (cd_op a c && cd_neat (cd_flip a (c / 7) (c % 7))) = true) : cd_nf a c x = x + 1 := by unfold cd_nf; rw [h]; rfl
theorem cd_d7 {c : Nat} (hc : c < 49) : nI c / 7 = nI (c / 7) := cd_div (d := 7) (by omega) (by omega) (by omega)
theorem cd_r7 {c : Nat} (hc : c < 49) : nI c - nI c / 7 * 7 = nI (c % 7) := cd_rem (d := 7) (by omega) (by omega) (by omega)
theorem cd_opT {a : Nat → Int32} {c : Nat} (h : cd_op a c = true) : c / 7 < c % 7 ∧ bt (a (c / 7)) (c % 7) = false := by
  unfold cd_op at h
  rw [Bool.and_eq_true, decide_eq_true_iff] at h
  exact ⟨h.1, cd_not1 h.2⟩
theorem cd_yop {post : Int32 → Prop} {a t : Nat → Int32} {c : Nat} (hc : c < 49) (h : post (cd_cb (cd_op a c))) : wpY_open post (a, t) (nI c) := by
  have h6 : c / 7 < 7 := by omega
  have h7 : c % 7 < 7 := by omega
  unfold wpY_open
  dsimp only
  rw [cd_r7 hc, cd_d7 hc]
  unfold cd_op at h
  refine ⟨by decide, by decide, br_c (fun e => ?_) (fun e => ⟨by decide, by decide, cd_in7 h6, ?_⟩)⟩
  · rw [nI_leI (by omega) (by omega)] at e
    rw [decide_eq_false (by omega), Bool.false_and] at h
    exact h
  · rw [nI_leI (by omega) (by omega)] at e
    rw [decide_eq_true (by omega), Bool.true_and] at h
    rw [cd_cl (by omega)]
    refine cd_b1 (by omega) (fun e2 => ?_) (fun e2 => ?_)
    · rw [e2] at h
      exact br_f (by decide) h
    · rw [e2] at h
      exact br_t rfl h
theorem cd_y44 {post : Int32 → SY → Prop} {J : Int32 → Int32 → (Nat → Int32) → (Nat → Int32) → Prop} {a t : Nat → Int32} {c : Nat} {z : Int32} (hc : c < 49) (h : J z (nI (c + 1)) (cd_flip a (c / 7) (c % 7)) t) : wY_neatJoins_44 post J (nI c) z a t := by
  unfold wY_neatJoins_44
  rw [cd_r7 hc, cd_d7 hc]
  exact ⟨by decide, by decide, cd_yflip (by omega) (by omega) (nm_r (nI_1 c) h)⟩
theorem cd_ynj4 {post : Int32 → SY → Prop} {a t : Nat → Int32} {n c : Nat} {x : Int32} (hc : c < 49) (hW : wY_neatJoins_4 post n (cd_nf a c x) (nI (c + 1)) a t) : wY_neatJoins_4 post (n + 1) x (nI c) a t := by
  refine br_f (cd_g49 hc) (cd_yop hc (cd_c0 (fun e => nm_r (nI_1 c) ?_) (fun e => ⟨by decide, by decide, ?_⟩)))
  · rw [cd_nf0 (by rw [e, Bool.false_and])] at hW
    exact hW
  · rw [cd_r7 hc, cd_d7 hc]
    have ho := cd_opT e
    have f2 : cd_flip (cd_flip a (c / 7) (c % 7)) (c / 7) (c % 7) = a := cd_flip2 (by omega) (by omega) (by omega)
    refine cd_yflip (by omega) (by omega) (cd_yneat (cd_c0 (fun e2 => cd_y44 hc ?_) (fun e2 => cd_y44 hc ?_)))
    · rw [cd_nf0 (by rw [e2, Bool.and_false])] at hW
      rw [f2]
      exact hW
    · rw [cd_nf1 (by rw [e, e2]; rfl)] at hW
      rw [f2]
      exact hW
theorem cd_ynj {post : Int32 → SY → Prop} {a t : Nat → Int32} (h : post (cd_nj a) (a, t)) : wpY_neatJoins post (a, t) :=
  ⟨50, cd_loop (W := fun n c x => wY_neatJoins_4 post n x (nI c) a t) (f := cd_nf a) (post := fun x => post x (a, t)) (fun _ => True) 49
    (fun _ _ _ _ => trivial) (fun n x _ hp => br_t cd_l49 hp) (fun n c x hc _ hW => cd_ynj4 hc hW) 49 0 0 rfl trivial h⟩
theorem cd_foldS {σ : Type} (g : Nat → σ → σ) (c : Nat) : ∀ d i s, cd_fold (fun b => g (c + b)) d i s = cd_fold g d (c + i) s := by
  intro d
  induction d with
  | zero => intro i s; rfl
  | succ d ih => intro i s; exact ih (i + 1) (g (c + i) s)
theorem cd_fold0 {σ : Type} {g : Nat → σ → σ} : ∀ d i s, (∀ c s, i ≤ c → c < i + d → g c s = s) → cd_fold g d i s = s := by
  intro d
  induction d with
  | zero => intro i s _; rfl
  | succ d ih =>
    intro i s h
    show cd_fold g d (i + 1) (g i s) = s
    rw [h i s (by omega) (by omega)]
    exact ih (i + 1) s (fun c s h1 h2 => h c s (by omega) (by omega))
theorem cd_opF {a : Nat → Int32} {i c : Nat} (h1 : 7 * i ≤ c) (h2 : c < 7 * i + (i + 1)) (hi : i < 7) : cd_op a c = false := by
  unfold cd_op
  rw [decide_eq_false (by omega), Bool.false_and]
theorem cd_opR {a : Nat → Int32} {i b : Nat} (hb : b < 7) (hl : i < b) : cd_op a (7 * i + b) = !bt (a i) b := by
  unfold cd_op
  rw [show (7 * i + b) / 7 = i by omega, show (7 * i + b) % 7 = b by omega, decide_eq_true hl, Bool.true_and]
theorem cd_row (a : Nat → Int32) {i : Nat} (hi : i < 7) (x : Int32) : cd_fold (fun b => cd_nf a (7 * i + b)) (6 - i) (i + 1) x = cd_fold (cd_nf a) 7 (7 * i) x := by
  rw [cd_foldS, show (7 : Nat) = (i + 1) + (6 - i) by omega, cd_foldA]
  rw [show (i + 1) + (6 - i) = 7 by omega]
  rw [cd_fold0 (i + 1) (7 * i) x (fun c s h1 h2 => cd_nf0 (by rw [cd_opF h1 h2 hi, Bool.false_and]))]
theorem cd_rows {σ : Type} (g : Nat → σ → σ) (s : σ) : cd_fold (fun i s => cd_fold g 7 (7 * i) s) 7 0 s = cd_fold g 49 0 s := rfl
theorem cd_x49 {post : Int32 → SX → Prop} {J4 J14 : Int32 → Int32 → (Nat → Int32) → (Nat → Int32) → Prop} {a t : Nat → Int32} {i b : Nat} {x : Int32} (G : cd_G a) (hi : i < 7) (hb : b < 7) (ne : i ≠ b) (e : bt (a i) b = false) (h : J14 x (nI (b + 1)) a t) : wX_neatJoins_49 post J4 J14 x (nI i) (nI b) (cd_flip a i b) t := by
  refine cd_part1 (cd_flipG G hi hb ne) hi hb ne (by rw [cd_flip1 hi hb ne, e]; rfl) (nm_r (nI_1 b) ?_)
  rw [cd_flip2 hi hb ne]
  exact h
theorem cd_xnj14 {post : Int32 → SX → Prop} {J : Int32 → Int32 → (Nat → Int32) → (Nat → Int32) → Prop} {a t : Nat → Int32} {i : Nat} {x : Int32} (G : cd_G a) (hi : i < 7) (h : J (cd_fold (cd_nf a) 7 (7 * i) x) (nI (i + 1)) a t) : wX_neatJoins_14 post J (nI i) (6 - i + 1) x (nI (i + 1)) a t := by
  rw [← cd_row a hi] at h
  refine cd_loopL (W := fun n b x => wX_neatJoins_14 post J (nI i) n x (nI b) a t) (f := fun b => cd_nf a (7 * i + b)) (post := fun x => J x (nI (i + 1)) a t) (i + 1) 7
    (fun n x hp => br_t cd_l7 (nm_r (nI_1 i) hp)) ?_ (6 - i) (i + 1) x (by omega) (by omega) h
  intro n b x hl hb hW
  have ne : i ≠ b := by omega
  have hr := cd_opR (a := a) hb hl
  have q1 : (7 * i + b) / 7 = i := by omega
  have q2 : (7 * i + b) % 7 = b := by omega
  refine br_f (cd_g7 hb) ⟨cd_in7 hi, cd_xhas hb ?_⟩
  rw [cd_cl (by omega)]
  refine cd_c0 (fun e => cd_link0 G hi hb ne e (cd_xneat (cd_c0 (fun e2 => cd_x49 G hi hb ne e ?_) (fun e2 => nm_e (cd_x49 G hi hb ne e ?_))))) (fun e => nm_r (nI_1 b) ?_)
  · rw [cd_nf0 (by rw [q1, q2, e2, Bool.and_false])] at hW
    exact hW
  · rw [cd_nf1 (by rw [hr, q1, q2, e, e2]; rfl)] at hW
    exact hW
  · rw [cd_nf0 (by rw [hr, e]; rfl)] at hW
    exact hW
theorem cd_xnj {post : Int32 → SX → Prop} {a t : Nat → Int32} (G : cd_G a) (h : post (cd_nj a) (a, t)) : wpX_neatJoins post (a, t) := by
  unfold cd_nj at h
  rw [← cd_rows] at h
  refine ⟨8, cd_loop (W := fun n i x => wX_neatJoins_4 post n x (nI i) a t) (f := fun i x => cd_fold (cd_nf a) 7 (7 * i) x) (post := fun x => post x (a, t)) (fun _ => True) 7
    (fun _ _ _ _ => trivial) (fun n x _ hp => br_t cd_l7 hp) ?_ 7 0 0 rfl trivial h⟩
  intro n i x hi _ hW
  exact br_f (cd_g7 hi) (nm_r (nI_1 i) ⟨6 - i + 1, cd_xnj14 G hi hW⟩)
/-! fill -/
/-- cell c doesn't lead to a neat graph by one pair more -/
def cd_fp (a : Nat → Int32) (c : Nat) : Bool := !(cd_op a c && !decide (cd_nj (cd_flip a (c / 7) (c % 7)) ≤ 0))
def cd_fill (a : Nat → Int32) : Int32 := if cd_neat a then 0 else if cd_nj a ≤ 0 then (if cd_all (cd_fp a) 49 0 then 3 else 2) else 1
theorem cd_yf64 {post : Int32 → SY → Prop} {J : Int32 → Int32 → (Nat → Int32) → (Nat → Int32) → Prop} {a t : Nat → Int32} {c : Nat} {z : Int32} (hc : c < 49) (h : J z (nI (c + 1)) (cd_flip a (c / 7) (c % 7)) t) : wY_fill_64 post J (nI c) z a t := by
  unfold wY_fill_64
  rw [cd_r7 hc, cd_d7 hc]
  exact ⟨by decide, by decide, cd_yflip (by omega) (by omega) (nm_r (nI_1 c) h)⟩
theorem cd_yf22 {post : Int32 → SY → Prop} {a t : Nat → Int32} : ∀ d c b, c + d = 49 → ((!b && cd_all (cd_fp a) d c) = true → post 3 (a, t)) → ((!b && cd_all (cd_fp a) d c) = false → post 2 (a, t)) → wY_fill_22 post (d + 1) (cd_cb b) (nI c) a t := by
  intro d
  induction d with
  | zero =>
    intro c b hc h3 h2
    have : c = 49 := by omega
    subst this
    refine br_t cd_l49 (cd_c0 (fun e => h3 ?_) (fun e => h2 ?_))
    · rw [e]; rfl
    · rw [e]; rfl
  | succ d ih =>
    intro c b hc h3 h2
    have c49 : c < 49 := by omega
    refine br_f (cd_g49 c49) (cd_c0 (fun e => ?_) (fun e => br_f (by rw [e]; decide) (h2 (by rw [e]; rfl))))
    subst e
    rw [Bool.not_false, Bool.true_and] at h3 h2
    have goT : cd_fp a c = true → wY_fill_22 post (d + 1) (cd_cb false) (nI (c + 1)) a t := fun z => by
      have e : cd_all (cd_fp a) (d + 1) c = cd_all (cd_fp a) d (c + 1) := by
        show (cd_fp a c && _) = _
        rw [z, Bool.true_and]
      rw [e] at h3 h2
      refine ih (c + 1) false (by omega) ?_ ?_
      · rw [Bool.not_false, Bool.true_and]; exact h3
      · rw [Bool.not_false, Bool.true_and]; exact h2
    have goF : cd_fp a c = false → wY_fill_22 post (d + 1) (cd_cb true) (nI (c + 1)) a t := fun z => by
      have e : cd_all (cd_fp a) (d + 1) c = false := by
        show (cd_fp a c && _) = _
        rw [z, Bool.false_and]
      rw [e] at h2
      refine ih (c + 1) true (by omega) (fun y => ?_) (fun _ => h2 rfl)
      rw [Bool.not_true, Bool.false_and] at y
      cases y
    refine cd_yop c49 (cd_c0 (fun e => nm_r (nI_1 c) (goT ?_)) (fun e => ⟨by decide, by decide, ?_⟩))
    · unfold cd_fp; rw [e]; rfl
    · rw [cd_r7 c49, cd_d7 c49]
      have ho := cd_opT e
      have f2 : cd_flip (cd_flip a (c / 7) (c % 7)) (c / 7) (c % 7) = a := cd_flip2 (by omega) (by omega) (by omega)
      refine cd_yflip (by omega) (by omega) (cd_ynj (br_c (fun e2 => cd_yf64 c49 ?_) (fun e2 => cd_yf64 c49 ?_)))
      · rw [f2]
        refine goT ?_
        unfold cd_fp
        rw [e, decide_eq_true e2]; rfl
      · rw [f2]
        refine goF ?_
        unfold cd_fp
        rw [e, decide_eq_false e2]; rfl
theorem cd_yfill {post : Int32 → SY → Prop} {a t : Nat → Int32} (h : post (cd_fill a) (a, t)) : wpY_fill post (a, t) := by
  unfold cd_fill at h
  refine cd_yneat (cd_c0 (fun e => cd_ynj (br_c (fun e2 => ⟨50, cd_yf22 49 0 false rfl (fun z => ?_) (fun z => ?_)⟩) (fun e2 => ?_))) (fun e => ?_))
  · rw [Bool.not_false, Bool.true_and] at z
    rw [e, if_pos e2, z] at h
    exact h
  · rw [Bool.not_false, Bool.true_and] at z
    rw [e, if_pos e2, z] at h
    exact h
  · rw [e, if_neg e2] at h
    exact h
  · rw [e] at h
    exact h
theorem cd_loopBL {W : Nat → Nat → Prop} {p : Nat → Bool} {A B : Prop} (lo e : Nat) (hx : ∀ n, A → W (n + 1) e)
    (ht : ∀ n i, lo ≤ i → i < e → p i = true → W n (i + 1) → W (n + 1) i)
    (hf : ∀ n i, lo ≤ i → i < e → p i = false → B → W (n + 1) i) :
    ∀ d i, lo ≤ i → i + d = e → (cd_all p d i = true → A) → (cd_all p d i = false → B) → W (d + 1) i := by
  intro d
  induction d with
  | zero =>
    intro i _ hi ha hb
    have : i = e := by omega
    subst this
    exact hx 0 (ha rfl)
  | succ d ih =>
    intro i hl hi ha hb
    cases h : p i with
    | true =>
      have e1 : cd_all p (d + 1) i = cd_all p d (i + 1) := by simp [cd_all, h]
      exact ht (d + 1) i hl (by omega) h (ih (i + 1) (by omega) (by omega) (fun z => ha (e1.trans z)) (fun z => hb (e1.trans z)))
    | false =>
      exact hf (d + 1) i hl (by omega) h (hb (by simp [cd_all, h]))
theorem cd_frow (a : Nat → Int32) {i : Nat} (hi : i < 7) : cd_all (fun b => cd_fp a (7 * i + b)) (6 - i) (i + 1) = cd_all (cd_fp a) 7 (7 * i) := by
  rw [Bool.eq_iff_iff, cd_allT, cd_allT]
  constructor
  · intro h c h1 h2
    by_cases hc : c < 7 * i + (i + 1)
    · unfold cd_fp
      rw [cd_opF h1 hc hi]
      rfl
    · have k := h (c - 7 * i) (by omega) (by omega)
      rw [show 7 * i + (c - 7 * i) = c by omega] at k
      exact k
  · intro h b h1 h2
    exact h (7 * i + b) (by omega) (by omega)
theorem cd_frows (p : Nat → Bool) : cd_all (fun i => cd_all p 7 (7 * i)) 7 0 = cd_all p 49 0 := by
  rw [Bool.eq_iff_iff, cd_allT, cd_allT]
  constructor
  · intro h c _ h2
    have k := h (c / 7) (by omega) (by omega)
    rw [cd_allT] at k
    exact k c (by omega) (by omega)
  · intro h i _ h2
    rw [cd_allT]
    intro c h3 h4
    exact h c (by omega) (by omega)
theorem cd_xf30 {post : Int32 → SX → Prop} {J : Int32 → (Nat → Int32) → (Nat → Int32) → Prop} {a t : Nat → Int32} {i : Nat} (G : cd_G a) (hi : i < 7) (h1 : cd_all (cd_fp a) 7 (7 * i) = true → J (nI (i + 1)) a t) (h0 : cd_all (cd_fp a) 7 (7 * i) = false → post 2 (a, t)) : wX_fill_30 post J (nI i) (6 - i + 1) (nI (i + 1)) a t := by
  rw [← cd_frow a hi] at h1 h0
  refine cd_loopBL (W := fun n b => wX_fill_30 post J (nI i) n (nI b) a t) (p := fun b => cd_fp a (7 * i + b)) (A := J (nI (i + 1)) a t) (B := post 2 (a, t)) (i + 1) 7
    (fun n hp => br_t cd_l7 (nm_r (nI_1 i) hp)) ?_ ?_ (6 - i) (i + 1) (by omega) (by omega) h1 h0
  · intro n b hl hb hp hW
    have ne : i ≠ b := by omega
    unfold cd_fp at hp
    rw [cd_opR hb hl, show (7 * i + b) / 7 = i by omega, show (7 * i + b) % 7 = b by omega] at hp
    refine br_f (cd_g7 hb) ⟨cd_in7 hi, cd_xhas hb ?_⟩
    rw [cd_cl (by omega)]
    refine cd_c0 (fun e => cd_link0 G hi hb ne e (cd_xnj (cd_flipG G hi hb ne) (cd_part1 (cd_flipG G hi hb ne) hi hb ne (by rw [cd_flip1 hi hb ne, e]; rfl) ?_))) (fun e => nm_r (nI_1 b) hW)
    rw [cd_flip2 hi hb ne]
    have e2 : cd_nj (cd_flip a i b) ≤ 0 := by
      rw [e] at hp
      simpa using hp
    exact br_t e2 (nm_r (nI_1 b) hW)
  · intro n b hl hb hp h2
    have ne : i ≠ b := by omega
    unfold cd_fp at hp
    rw [cd_opR hb hl, show (7 * i + b) / 7 = i by omega, show (7 * i + b) % 7 = b by omega] at hp
    refine br_f (cd_g7 hb) ⟨cd_in7 hi, cd_xhas hb ?_⟩
    rw [cd_cl (by omega)]
    refine cd_c0 (fun e => cd_link0 G hi hb ne e (cd_xnj (cd_flipG G hi hb ne) (cd_part1 (cd_flipG G hi hb ne) hi hb ne (by rw [cd_flip1 hi hb ne, e]; rfl) ?_))) (fun e => ?_)
    · rw [cd_flip2 hi hb ne]
      have e2 : ¬ cd_nj (cd_flip a i b) ≤ 0 := by
        intro z
        rw [e, decide_eq_true z] at hp
        cases hp
      exact br_f e2 h2
    · rw [e] at hp
      cases hp
theorem cd_xfill {post : Int32 → SX → Prop} {a t : Nat → Int32} (G : cd_G a) (h : post (cd_fill a) (a, t)) : wpX_fill post (a, t) := by
  unfold cd_fill at h
  refine cd_xneat (cd_c0 (fun e => cd_xnj G (br_c (fun e2 => ⟨8, ?_⟩) (fun e2 => ?_))) (fun e => ?_))
  · rw [e, if_pos e2, ← cd_frows] at h
    refine cd_loopB (W := fun n i => wX_fill_20 post n (nI i) a t) (p := fun i => cd_all (cd_fp a) 7 (7 * i)) (A := post 3 (a, t)) (B := post 2 (a, t)) 7
      (fun n hp => br_t cd_l7 hp) ?_ ?_ 7 0 rfl (fun z => ?_) (fun z => ?_)
    · intro n i hi hp hW
      refine br_f (cd_g7 hi) (nm_r (nI_1 i) ⟨6 - i + 1, cd_xf30 G hi (fun _ => hW) (fun z => ?_)⟩)
      rw [hp] at z; cases z
    · intro n i hi hp h2
      refine br_f (cd_g7 hi) (nm_r (nI_1 i) ⟨6 - i + 1, cd_xf30 G hi (fun z => ?_) (fun _ => h2)⟩)
      rw [hp] at z; cases z
    · rw [z] at h; exact h
    · rw [z] at h; exact h
  · rw [e, if_neg e2] at h
    exact h
  · rw [e] at h
    exact h
