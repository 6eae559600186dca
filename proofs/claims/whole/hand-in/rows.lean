section
def bt (x : Int32) (i : Nat) : Bool := x.toBitVec.getLsbD i
theorem b_ext {x y : Int32} (h : ∀ i, i < 32 → bt x i = bt y i) : x = y := Int32.toBitVec_inj.mp (BitVec.eq_of_getLsbD_eq (fun i hi => h i hi))
theorem b_or (x y : Int32) (i : Nat) : bt (x ||| y) i = (bt x i || bt y i) := by unfold bt; rw [Int32.toBitVec_or, BitVec.getLsbD_or]
theorem b_and (x y : Int32) (i : Nat) : bt (x &&& y) i = (bt x i && bt y i) := by unfold bt; rw [Int32.toBitVec_and, BitVec.getLsbD_and]
theorem b_xor (x y : Int32) (i : Nat) : bt (x ^^^ y) i = (bt x i ^^ bt y i) := by unfold bt; rw [Int32.toBitVec_xor, BitVec.getLsbD_xor]
theorem b_big {x : Int32} {i : Nat} (h : 32 ≤ i) : bt x i = false := BitVec.getLsbD_of_ge _ _ h
theorem b_m1 : ∀ i, i < 32 → bt (-1) i = true := by decide +kernel
theorem b_0 (i : Nat) : bt 0 i = false := BitVec.getLsbD_zero
theorem s_l : ∀ n, n < 32 → ((nI n &&& 31).toBitVec.smod 32).toNat = n := by decide +kernel
theorem b_shl (n : Nat) (hn : n < 32) (x : Int32) {i : Nat} (hi : i < 32) : bt (x <<< (nI n &&& 31)) i = (decide (n ≤ i) && bt x (i - n)) := by
  unfold bt
  rw [Int32.toBitVec_shiftLeft]
  show (x.toBitVec <<< ((nI n &&& 31).toBitVec.smod 32).toNat).getLsbD i = _
  rw [s_l n hn, BitVec.getLsbD_shiftLeft]
  rcases Nat.lt_or_ge i n with h | h
  · simp [h, Nat.not_le.mpr h]
  · simp [hi, h, Nat.not_lt.mpr h]
theorem b_sshr (n : Nat) (hn : n < 32) (x : Int32) {i : Nat} (hi : i < 32) : bt (x >>> (nI n &&& 31)) i = if n + i < 32 then bt x (n + i) else bt x 31 := by
  unfold bt
  rw [Int32.toBitVec_shiftRight]
  show (x.toBitVec.sshiftRight ((nI n &&& 31).toBitVec.smod 32).toNat).getLsbD i = _
  rw [s_l n hn, BitVec.getLsbD_sshiftRight, BitVec.msb_eq_getLsbD_last]
  simp [hi]
/-! ===== one bit, loops, folds ===== -/
def cd_cb (b : Bool) : Int32 := if b then 1 else 0
theorem cd_nar (b : Bool) : narrow .boolean (.int (cd_cb b)) = .int (cd_cb b) := by
  cases b
  · exact lw_bz_n 0
  · exact lw_bz_n 1
theorem cd_c0 {b : Bool} {A B : Prop} (f : b = false → A) (g : b = true → B) : (cd_cb b = 0 → A) ∧ (¬ cd_cb b = 0 → B) := by
  cases b
  · exact br_t rfl (f rfl)
  · exact br_f (by decide) (g rfl)
theorem cd_c1 {b : Bool} {A B : Prop} (f : b = true → A) (g : b = false → B) : (cd_cb b = 1 → A) ∧ (¬ cd_cb b = 1 → B) := by
  cases b
  · exact br_f (by decide) (g rfl)
  · exact br_t rfl (f rfl)
theorem cd_bt1 : ∀ i, i < 32 → bt 1 i = decide (i = 0) := by decide +kernel
theorem cd_btcb (b : Bool) : ∀ i, i < 32 → bt (cd_cb b) i = (b && decide (i = 0)) := by
  cases b
  · intro i _; exact b_0 i
  · intro i hi; exact (cd_bt1 i hi).trans (by simp)
theorem cd_bit (x : Int32) {v : Nat} (hv : v < 32) : ((x >>> (nI v &&& 31)) &&& 1) = cd_cb (bt x v) := by
  apply b_ext
  intro i hi
  rw [b_and, cd_btcb _ i hi, cd_bt1 i hi, b_sshr v hv x hi]
  by_cases h : i = 0
  · subst h
    simp [hv]
  · simp [h]
theorem cd_b0 {x : Int32} {v : Nat} {A B : Prop} (hv : v < 32) (f : bt x v = false → A) (g : bt x v = true → B) : (((x >>> (nI v &&& 31)) &&& 1) = 0 → A) ∧ (¬ ((x >>> (nI v &&& 31)) &&& 1) = 0 → B) := by
  rw [cd_bit x hv]
  exact cd_c0 f g
theorem cd_b1 {x : Int32} {v : Nat} {A B : Prop} (hv : v < 32) (f : bt x v = true → A) (g : bt x v = false → B) : (((x >>> (nI v &&& 31)) &&& 1) = 1 → A) ∧ (¬ ((x >>> (nI v &&& 31)) &&& 1) = 1 → B) := by
  rw [cd_bit x hv]
  exact cd_c1 f g
/-- the mask of one vertex -/
def cd_m (v : Nat) : Int32 := (1 : Int32) <<< (nI v &&& 31)
theorem cd_btm {v i : Nat} (hv : v < 32) (hi : i < 32) : bt (cd_m v) i = decide (i = v) := by
  unfold cd_m
  rw [b_shl v hv 1 hi, cd_bt1 (i - v) (by omega)]
  by_cases h : i = v
  · subst h
    simp
  · rcases Nat.lt_or_ge i v with h1 | h1
    · simp [h, Nat.not_le.mpr h1]
    · have : ¬ i - v = 0 := by omega
      simp [h, this]
theorem cd_g7 {i : Nat} (h : i < 7) : ¬ (7 : Int32) ≤ nI i := nI_ge (b := 7) h (by decide)
theorem cd_l7 : (7 : Int32) ≤ nI 7 := by decide
theorem cd_g128 {i : Nat} (h : i < 128) : ¬ (128 : Int32) ≤ nI i := nI_ge (b := 128) h (by decide)
theorem cd_l128 : (128 : Int32) ≤ nI 128 := by decide
theorem cd_g49 {i : Nat} (h : i < 49) : ¬ (49 : Int32) ≤ nI i := nI_ge (b := 49) h (by decide)
theorem cd_l49 : (49 : Int32) ≤ nI 49 := by decide
theorem cd_cl {i : Nat} (h : i < 128) : (nI i).toNatClampNeg = i := nI_clamp (by omega)
theorem cd_in7 {i : Nat} (h : i < 7) : vp_in (nI i) 7 := vp_in_nI h (by decide)
theorem cd_in128 {i : Nat} (h : i < 128) : vp_in (nI i) 128 := vp_in_nI h (by decide)
def cd_fold {σ : Type} (f : Nat → σ → σ) : Nat → Nat → σ → σ
  | 0, _, s => s
  | d + 1, i, s => cd_fold f d (i + 1) (f i s)
def cd_all (p : Nat → Bool) : Nat → Nat → Bool
  | 0, _ => true
  | d + 1, i => p i && cd_all p d (i + 1)
theorem cd_loop {σ : Type} {W : Nat → Nat → σ → Prop} {f : Nat → σ → σ} {post : σ → Prop} (I : σ → Prop) (e : Nat)
    (hI : ∀ i s, i < e → I s → I (f i s)) (hx : ∀ n s, I s → post s → W (n + 1) e s)
    (hs : ∀ n i s, i < e → I s → W n (i + 1) (f i s) → W (n + 1) i s) :
    ∀ d i s, i + d = e → I s → post (cd_fold f d i s) → W (d + 1) i s := by
  intro d
  induction d with
  | zero =>
    intro i s hi hs' hp
    have : i = e := by omega
    subst this
    exact hx 0 s hs' hp
  | succ d ih =>
    intro i s hi hs' hp
    exact hs (d + 1) i s (by omega) hs' (ih (i + 1) (f i s) (by omega) (hI i s (by omega) hs') hp)
theorem cd_loopB {W : Nat → Nat → Prop} {p : Nat → Bool} {A B : Prop} (e : Nat) (hx : ∀ n, A → W (n + 1) e)
    (ht : ∀ n i, i < e → p i = true → W n (i + 1) → W (n + 1) i)
    (hf : ∀ n i, i < e → p i = false → B → W (n + 1) i) :
    ∀ d i, i + d = e → (cd_all p d i = true → A) → (cd_all p d i = false → B) → W (d + 1) i := by
  intro d
  induction d with
  | zero =>
    intro i hi ha hb
    have : i = e := by omega
    subst this
    exact hx 0 (ha rfl)
  | succ d ih =>
    intro i hi ha hb
    cases h : p i with
    | true =>
      have e1 : cd_all p (d + 1) i = cd_all p d (i + 1) := by simp [cd_all, h]
      exact ht (d + 1) i (by omega) h (ih (i + 1) (by omega) (fun z => ha (e1.trans z)) (fun z => hb (e1.trans z)))
    | false =>
      exact hf (d + 1) i (by omega) h (hb (by simp [cd_all, h]))
theorem cd_foldI {σ : Type} {f : Nat → σ → σ} (I : σ → Prop) (e : Nat) (hI : ∀ i s, i < e → I s → I (f i s)) : ∀ d i s, i + d = e → I s → I (cd_fold f d i s) := by
  intro d
  induction d with
  | zero => intro i s _ h; exact h
  | succ d ih => intro i s hi h; exact ih (i + 1) (f i s) (by omega) (hI i s (by omega) h)
theorem cd_foldC {σ : Type} {f g : Nat → σ → σ} (I : σ → Prop) (e : Nat) (hI : ∀ i s, i < e → I s → I (f i s)) (h : ∀ i s, i < e → I s → f i s = g i s) : ∀ d i s, i + d = e → I s → cd_fold f d i s = cd_fold g d i s := by
  intro d
  induction d with
  | zero => intro i s _ _; rfl
  | succ d ih =>
    intro i s hi hs
    show cd_fold f d (i + 1) (f i s) = cd_fold g d (i + 1) (g i s)
    rw [ih (i + 1) (f i s) (by omega) (hI i s (by omega) hs), h i s (by omega) hs]
theorem cd_allC {p q : Nat → Bool} (e : Nat) (h : ∀ i, i < e → p i = q i) : ∀ d i, i + d = e → cd_all p d i = cd_all q d i := by
  intro d
  induction d with
  | zero => intro i _; rfl
  | succ d ih =>
    intro i hi
    show (p i && cd_all p d (i + 1)) = (q i && cd_all q d (i + 1))
    rw [ih (i + 1) (by omega), h i (by omega)]
theorem cd_allT {p : Nat → Bool} : ∀ d i, cd_all p d i = true ↔ ∀ j, i ≤ j → j < i + d → p j = true := by
  intro d
  induction d with
  | zero => intro i; exact ⟨fun _ j h1 h2 => by omega, fun _ => rfl⟩
  | succ d ih =>
    intro i
    show (p i && cd_all p d (i + 1)) = true ↔ _
    rw [Bool.and_eq_true, ih (i + 1)]
    constructor
    · intro h j h1 h2
      rcases Nat.eq_or_lt_of_le h1 with h3 | h3
      · rw [← h3]; exact h.1
      · exact h.2 j h3 (by omega)
    · intro h
      exact ⟨h i (Nat.le_refl _) (by omega), fun j h1 h2 => h j (by omega) (by omega)⟩
theorem cd_foldA {σ : Type} (f : Nat → σ → σ) : ∀ d1 d2 i s, cd_fold f (d1 + d2) i s = cd_fold f d2 (i + d1) (cd_fold f d1 i s) := by
  intro d1
  induction d1 with
  | zero => intro d2 i s; rw [Nat.zero_add]; rfl
  | succ d1 ih =>
    intro d2 i s
    rw [Nat.succ_add]
    show cd_fold f (d1 + d2) (i + 1) (f i s) = cd_fold f d2 (i + (d1 + 1)) (cd_fold f d1 (i + 1) (f i s))
    rw [ih d2 (i + 1) (f i s), show i + 1 + d1 = i + (d1 + 1) by omega]
/-- the sets: numbers below 128 -/
theorem cd_btn {k i : Nat} (hk : k < 128) (hi : 7 ≤ i) : bt (nI k) i = false := by
  show (BitVec.ofNat 32 k).getLsbD i = false
  rw [BitVec.getLsbD_ofNat, Nat.testBit_lt_two_pow, Bool.and_false]
  exact Nat.lt_of_lt_of_le hk (Nat.pow_le_pow_right (by omega : 0 < 2) hi)
theorem cd_andN (x : Int32) {k : Nat} (hk : k < 128) : ∃ j, j < 128 ∧ x &&& nI k = nI j := by
  refine ⟨(x &&& nI k).toBitVec.toNat, ?_, ?_⟩
  · rw [Int32.toBitVec_and, BitVec.toNat_and]
    refine Nat.lt_of_le_of_lt Nat.and_le_right ?_
    show (BitVec.ofNat 32 k).toNat < 128
    rw [BitVec.toNat_ofNat]
    exact Nat.lt_of_le_of_lt (Nat.mod_le _ _) hk
  · apply Int32.toBitVec_inj.mp
    show _ = BitVec.ofNat 32 _
    rw [BitVec.ofNat_toNat, BitVec.setWidth_eq]
theorem cd_andL {k : Nat} (hk : k < 128) (x : Int32) : ∃ j, j < 128 ∧ nI k &&& x = nI j := by
  obtain ⟨j, h1, h2⟩ := cd_andN x hk
  exact ⟨j, h1, by rw [← h2, Int32.and_comm]⟩
end
section
/-! ===== has, size, allJoined, noneJoined, isEasy, canGrow of X; count, clique, apart, easyIn of Y ===== -/
def cd_G (a : Nat → Int32) : Prop := (∀ i j, i < 7 → j < 7 → bt (a i) j = bt (a j) i) ∧ ∀ i, i < 7 → bt (a i) i = false
theorem cd_xhas {post : Int32 → Prop} {s : Int32} {v : Nat} (hv : v < 7) (h : post (cd_cb (bt s v))) : wpX_has post s (nI v) :=
  cd_b0 (Nat.lt_trans hv (by decide)) (fun e => by rw [e] at h; exact h) (fun e => by rw [e] at h; exact h)
def cd_sz (s : Int32) : Int32 := cd_fold (fun i n => n + ((s >>> (nI i &&& 31)) &&& 1)) 7 0 0
theorem cd_xsize {post : Int32 → Prop} {s : Int32} (h : post (cd_sz s)) : wpX_size post s :=
  ⟨8, cd_loop (W := fun n i x => wX_size_4 post s n x (nI i)) (f := fun i n => n + ((s >>> (nI i &&& 31)) &&& 1)) (post := post) (fun _ => True) 7
    (fun _ _ _ _ => trivial) (fun n x _ hp => br_t cd_l7 hp)
    (fun n i x hi _ hW => br_f (cd_g7 hi) (nm_e (nm_r (nI_1 i) hW))) 7 0 0 rfl trivial h⟩
theorem cd_ycount {post : Int32 → Prop} {a t : Nat → Int32} {s : Int32} (h : post (cd_sz s)) : wpY_count post (a, t) s :=
  ⟨8, cd_loop (W := fun n i x => wY_count_4 post s a t n x (nI i)) (f := fun i n => n + ((s >>> (nI i &&& 31)) &&& 1)) (post := post) (fun _ => True) 7
    (fun _ _ _ _ => trivial) (fun n x _ hp => br_t cd_l7 hp)
    (fun n i x hi _ hW => br_f (cd_g7 hi) (nm_e (nm_r (nI_1 i) hW))) 7 0 0 rfl trivial h⟩
/-- v is no bar to s being a clique -/
def cd_jp (a : Nat → Int32) (s : Int32) (v : Nat) : Bool := !bt s v || decide ((s &&& (a v ^^^ (-1))) = cd_m v)
def cd_aj (a : Nat → Int32) (s : Int32) : Bool := cd_all (cd_jp a s) 7 0
theorem cd_post {b : Bool} {post : Int32 → Prop} (h : post (cd_cb b)) : (b = true → post 1) ∧ (b = false → post 0) := by
  cases b
  · exact ⟨fun z => (nomatch z), fun _ => h⟩
  · exact ⟨fun _ => h, fun z => (nomatch z)⟩
theorem cd_xall {post : Int32 → Prop} {a t : Nat → Int32} {s : Int32} (h : post (cd_cb (cd_aj a s))) : wpX_allJoined post (a, t) s := by
  refine ⟨8, cd_loopB (W := fun n i => wX_allJoined_2 post s a t n (nI i)) (p := cd_jp a s) (A := post 1) (B := post 0) 7
    (fun n hp => br_t cd_l7 hp) ?_ ?_ 7 0 rfl (cd_post h).1 (cd_post h).2⟩
  · intro n i hi hp hW
    refine br_f (cd_g7 hi) (cd_xhas hi (cd_c0 (fun _ => nm_r (nI_1 i) hW) (fun hb => ⟨cd_in7 hi, ?_⟩)))
    rw [cd_cl (by omega)]
    have e : (s &&& (a i ^^^ (-1))) = cd_m i := by
      unfold cd_jp at hp
      rw [hb] at hp
      simpa using hp
    exact br_t e (nm_r (nI_1 i) hW)
  · intro n i hi hp h0
    unfold cd_jp at hp
    have hb : bt s i = true := by
      cases hh : bt s i
      · rw [hh] at hp; simp at hp
      · rfl
    have e : ¬ (s &&& (a i ^^^ (-1))) = cd_m i := by
      rw [hb] at hp
      simpa using hp
    refine br_f (cd_g7 hi) (cd_xhas hi (cd_c0 (fun z => ?_) (fun _ => ⟨cd_in7 hi, ?_⟩)))
    · rw [hb] at z; cases z
    · rw [cd_cl (by omega)]
      exact br_f e h0
/-- Y's condition is the same where v isn't its own neighbour -/
theorem cd_m0 {s x : Int32} {v : Nat} (hv : v < 32) (hs : bt s v = true) (hx : bt x v = false) : ((s &&& (x ^^^ (-1))) &&& (cd_m v ^^^ (-1))) = 0 ↔ (s &&& (x ^^^ (-1))) = cd_m v := by
  constructor
  · intro h
    apply b_ext
    intro i hi
    have h1 : bt ((s &&& (x ^^^ (-1))) &&& (cd_m v ^^^ (-1))) i = false := by rw [h]; exact b_0 i
    rw [b_and, b_xor, b_m1 i hi, cd_btm hv hi] at h1
    rw [cd_btm hv hi]
    by_cases e : i = v
    · subst e
      rw [b_and, b_xor, b_m1 i hi, hs, hx]
      simp
    · simp [e] at h1 ⊢
      exact h1
  · intro h
    rw [h]
    apply b_ext
    intro i hi
    rw [b_and, b_xor, b_m1 i hi, b_0, Bool.xor_true, Bool.and_not_self]
theorem cd_yclq {post : Int32 → Prop} {a t : Nat → Int32} {s : Int32} (G : cd_G a) : ∀ d i b, i + d = 7 → post (cd_cb (b && cd_all (cd_jp a s) d i)) → wY_clique_18 post s a t (d + 1) (cd_cb b) (nI i) := by
  intro d
  induction d with
  | zero =>
    intro i b hi hp
    have : i = 7 := by omega
    subst this
    have e : (b && cd_all (cd_jp a s) 0 7) = b := by simp [cd_all]
    rw [e] at hp
    exact br_t cd_l7 ⟨cd_nar b, hp⟩
  | succ d ih =>
    intro i b hi hp
    have i7 : i < 7 := by omega
    refine br_f (cd_g7 i7) (cd_c0 (fun hb => nm_r (nI_1 i) ?_) (fun hb => ?_))
    · subst hb
      refine ih (i + 1) false (by omega) ?_
      rw [Bool.false_and] at hp ⊢
      exact hp
    · subst hb
      rw [Bool.true_and] at hp
      refine cd_b0 (by omega) (fun hs => nm_r (nI_1 i) (ih (i + 1) true (by omega) ?_)) (fun hs => ⟨cd_in7 i7, ?_⟩)
      · have e : cd_all (cd_jp a s) (d + 1) i = cd_all (cd_jp a s) d (i + 1) := by simp [cd_all, cd_jp, hs]
        rw [e] at hp
        rw [Bool.true_and]
        exact hp
      · rw [cd_cl (by omega)]
        refine br_c (fun h0 => nm_r (nI_1 i) (ih (i + 1) true (by omega) ?_)) (fun h0 => nm_r (nI_1 i) (ih (i + 1) false (by omega) ?_))
        · have hm := (cd_m0 (by omega) hs (G.2 i i7)).mp h0
          have e : cd_all (cd_jp a s) (d + 1) i = cd_all (cd_jp a s) d (i + 1) := by show (cd_jp a s i && _) = _; unfold cd_jp; rw [decide_eq_true hm, Bool.or_true, Bool.true_and]
          rw [e] at hp
          rw [Bool.true_and]
          exact hp
        · have hm : ¬ (s &&& (a i ^^^ (-1))) = cd_m i := fun z => h0 ((cd_m0 (by omega) hs (G.2 i i7)).mpr z)
          have e : cd_all (cd_jp a s) (d + 1) i = false := by show (cd_jp a s i && _) = _; unfold cd_jp; rw [hs, decide_eq_false hm]; rfl
          rw [e] at hp
          rw [Bool.false_and]
          exact hp
theorem cd_n0 {k : Nat} (hk : k < 128) : ¬ nI k < 0 := nI_pos (by omega)
theorem cd_n127 {k : Nat} (hk : k < 128) : ¬ (127 : Int32) < nI k := nI_nlt (a := 127) (by omega) (by decide)
theorem cd_yclique {post : Int32 → Prop} {a t : Nat → Int32} {k : Nat} (G : cd_G a) (hk : k < 128) (h : post (cd_cb (cd_aj a (nI k)))) : wpY_clique post (a, t) (nI k) :=
  br_f (cd_n0 hk) (br_f (cd_n127 hk) ⟨8, cd_yclq G 7 0 true rfl (by rw [Bool.true_and]; exact h)⟩)
theorem cd_xeasy {post : Int32 → Prop} {a t : Nat → Int32} {v : Nat} {s : Int32} (hv : v < 7) (h : post (cd_cb (cd_aj a (a v &&& s)))) : wpX_isEasy post (a, t) (nI v) s := by
  refine ⟨cd_in7 hv, ?_⟩
  rw [cd_cl (by omega)]
  exact cd_xall ⟨cd_nar _, h⟩
theorem cd_yeasy {post : Int32 → Prop} {a t : Nat → Int32} {v k : Nat} (G : cd_G a) (hv : v < 7) (hk : k < 128) (h : post (cd_cb (cd_aj a (a v &&& nI k)))) : wpY_easyIn post (a, t) (nI v) (nI k) := by
  refine ⟨cd_in7 hv, ?_⟩
  rw [cd_cl (by omega)]
  obtain ⟨j, hj, e⟩ := cd_andN (a v) hk
  rw [e] at h ⊢
  exact cd_yclique G hj ⟨cd_nar _, h⟩
/-- no two of s are joined -/
def cd_np (a : Nat → Int32) (s : Int32) (v : Nat) : Bool := !bt s v || decide ((s &&& a v) = 0)
def cd_ap (a : Nat → Int32) (s : Int32) : Bool := cd_all (cd_np a s) 7 0
theorem cd_xnone {post : Int32 → Prop} {a t : Nat → Int32} {s : Int32} (h : post (cd_cb (cd_ap a s))) : wpX_noneJoined post (a, t) s := by
  refine ⟨8, cd_loopB (W := fun n i => wX_noneJoined_2 post s a t n (nI i)) (p := cd_np a s) (A := post 1) (B := post 0) 7
    (fun n hp => br_t cd_l7 hp) ?_ ?_ 7 0 rfl (cd_post h).1 (cd_post h).2⟩
  · intro n i hi hp hW
    refine br_f (cd_g7 hi) (cd_xhas hi (cd_c0 (fun _ => nm_r (nI_1 i) hW) (fun hb => ⟨cd_in7 hi, ?_⟩)))
    rw [cd_cl (by omega)]
    have e : (s &&& a i) = 0 := by
      unfold cd_np at hp
      rw [hb] at hp
      simpa using hp
    exact br_t e (nm_r (nI_1 i) hW)
  · intro n i hi hp h0
    unfold cd_np at hp
    have hb : bt s i = true := by
      cases hh : bt s i
      · rw [hh] at hp; simp at hp
      · rfl
    have e : ¬ (s &&& a i) = 0 := by
      rw [hb] at hp
      simpa using hp
    refine br_f (cd_g7 hi) (cd_xhas hi (cd_c0 (fun z => ?_) (fun _ => ⟨cd_in7 hi, ?_⟩)))
    · rw [hb] at z; cases z
    · rw [cd_cl (by omega)]
      exact br_f e h0
theorem cd_yap {post : Int32 → Prop} {a t : Nat → Int32} {s : Int32} : ∀ d i b, i + d = 7 → post (cd_cb (b && cd_all (cd_np a s) d i)) → wY_apart_4 post s a t (d + 1) (cd_cb b) (nI i) := by
  intro d
  induction d with
  | zero =>
    intro i b hi hp
    have : i = 7 := by omega
    subst this
    have e : (b && cd_all (cd_np a s) 0 7) = b := by simp [cd_all]
    rw [e] at hp
    exact br_t cd_l7 ⟨cd_nar b, hp⟩
  | succ d ih =>
    intro i b hi hp
    have i7 : i < 7 := by omega
    refine br_f (cd_g7 i7) (cd_c0 (fun hb => nm_r (nI_1 i) ?_) (fun hb => ?_))
    · subst hb
      refine ih (i + 1) false (by omega) ?_
      rw [Bool.false_and] at hp ⊢
      exact hp
    · subst hb
      rw [Bool.true_and] at hp
      refine cd_b0 (by omega) (fun hs => nm_r (nI_1 i) (ih (i + 1) true (by omega) ?_)) (fun hs => ⟨cd_in7 i7, ?_⟩)
      · have e : cd_all (cd_np a s) (d + 1) i = cd_all (cd_np a s) d (i + 1) := by simp [cd_all, cd_np, hs]
        rw [e] at hp
        rw [Bool.true_and]
        exact hp
      · rw [cd_cl (by omega)]
        refine br_c (fun h0 => nm_r (nI_1 i) (ih (i + 1) true (by omega) ?_)) (fun h0 => nm_r (nI_1 i) (ih (i + 1) false (by omega) ?_))
        · have e : cd_all (cd_np a s) (d + 1) i = cd_all (cd_np a s) d (i + 1) := by simp [cd_all, cd_np, h0]
          rw [e] at hp
          rw [Bool.true_and]
          exact hp
        · have e : cd_all (cd_np a s) (d + 1) i = false := by simp [cd_all, cd_np, hs, h0]
          rw [e] at hp
          rw [Bool.false_and]
          exact hp
theorem cd_yapart {post : Int32 → Prop} {a t : Nat → Int32} {s : Int32} (h : post (cd_cb (cd_ap a s))) : wpY_apart post (a, t) s :=
  ⟨8, cd_yap 7 0 true rfl (by rw [Bool.true_and]; exact h)⟩
/-- v can't be added to s -/
def cd_gp (a : Nat → Int32) (s : Int32) (v : Nat) : Bool := bt s v || !decide ((s &&& (a v ^^^ (-1))) = 0)
theorem cd_xgrow {post : Int32 → Prop} {a t : Nat → Int32} {s : Int32} (h : post (cd_cb (!cd_all (cd_gp a s) 7 0))) : wpX_canGrow post (a, t) s := by
  have h1 : cd_all (cd_gp a s) 7 0 = true → post 0 := fun z => (cd_post h).2 (by rw [z]; rfl)
  have h2 : cd_all (cd_gp a s) 7 0 = false → post 1 := fun z => (cd_post h).1 (by rw [z]; rfl)
  refine ⟨8, cd_loopB (W := fun n i => wX_canGrow_2 post s a t n (nI i)) (p := cd_gp a s) (A := post 0) (B := post 1) 7
    (fun n hp => br_t cd_l7 hp) ?_ ?_ 7 0 rfl h1 h2⟩
  · intro n i hi hp hW
    refine br_f (cd_g7 hi) (cd_xhas hi (cd_c0 (fun hb => ⟨cd_in7 hi, ?_⟩) (fun _ => nm_r (nI_1 i) hW)))
    rw [cd_cl (by omega)]
    have e : ¬ (s &&& (a i ^^^ (-1))) = 0 := by
      unfold cd_gp at hp
      rw [hb] at hp
      simpa using hp
    exact br_f e (nm_r (nI_1 i) hW)
  · intro n i hi hp h0
    unfold cd_gp at hp
    have hb : bt s i = false := by
      cases hh : bt s i
      · rfl
      · rw [hh] at hp; simp at hp
    have e : (s &&& (a i ^^^ (-1))) = 0 := by
      rw [hb] at hp
      simpa using hp
    refine br_f (cd_g7 hi) (cd_xhas hi (cd_c0 (fun _ => ⟨cd_in7 hi, ?_⟩) (fun z => ?_)))
    · rw [cd_cl (by omega)]
      exact br_t e h0
    · rw [hb] at z; cases z
end
section
/-! ===== hangsTogether, isHole, neat of X; hole, neat of Y ===== -/
def cd_rf (a : Nat → Int32) (s : Int32) (v : Nat) (r : Int32) : Int32 := if bt r v then r ||| (a v &&& s) else r
def cd_rin (a : Nat → Int32) (s r : Int32) : Int32 := cd_fold (cd_rf a s) 7 0 r
def cd_reach (a : Nat → Int32) (s r : Int32) : Int32 := cd_fold (fun _ r => cd_rin a s r) 7 0 r
theorem cd_rf0 {a : Nat → Int32} {s : Int32} {v : Nat} {r : Int32} (h : bt r v = false) : cd_rf a s v r = r := by unfold cd_rf; rw [h]; rfl
theorem cd_rf1 {a : Nat → Int32} {s : Int32} {v : Nat} {r : Int32} (h : bt r v = true) : cd_rf a s v r = r ||| (a v &&& s) := by unfold cd_rf; rw [h]; rfl
theorem cd_xin {post : Int32 → Prop} {J : Int32 → Int32 → Prop} {a t : Nat → Int32} {s r : Int32} {i : Nat} (h : J (cd_rin a s r) (nI (i + 1))) : wX_hangsTogether_16 post J s (nI i) a t 8 r 0 := by
  refine cd_loop (W := fun n v r => wX_hangsTogether_16 post J s (nI i) a t n r (nI v)) (f := cd_rf a s) (post := fun r => J r (nI (i + 1))) (fun _ => True) 7
    (fun _ _ _ _ => trivial) (fun n x _ hp => br_t cd_l7 (nm_r (nI_1 i) hp)) ?_ 7 0 r rfl trivial h
  intro n v r hv _ hW
  refine br_f (cd_g7 hv) (cd_b0 (by omega) (fun e => nm_r (nI_1 v) ?_) (fun e => ⟨cd_in7 hv, nm_e (nm_r (nI_1 v) ?_)⟩))
  · rw [cd_rf0 e] at hW; exact hW
  · rw [cd_rf1 e] at hW; rw [cd_cl (by omega)]; exact hW
theorem cd_yin {post : Int32 → Prop} {J : Int32 → Int32 → Prop} {a t : Nat → Int32} {s r x2 : Int32} {i : Nat} (h : J (cd_rin a s r) (nI (i + 1))) : wY_hole_115 post J s x2 (nI i) a t 8 r 0 := by
  refine cd_loop (W := fun n v r => wY_hole_115 post J s x2 (nI i) a t n r (nI v)) (f := cd_rf a s) (post := fun r => J r (nI (i + 1))) (fun _ => True) 7
    (fun _ _ _ _ => trivial) (fun n x _ hp => br_t cd_l7 (nm_r (nI_1 i) hp)) ?_ 7 0 r rfl trivial h
  intro n v r hv _ hW
  refine br_f (cd_g7 hv) (cd_b1 (by omega) (fun e => ⟨cd_in7 hv, nm_e (nm_r (nI_1 v) ?_)⟩) (fun e => nm_r (nI_1 v) ?_))
  · rw [cd_rf1 e] at hW; rw [cd_cl (by omega)]; exact hW
  · rw [cd_rf0 e] at hW; exact hW
theorem cd_if {c : Prop} {d : Decidable c} {post : Int32 → Prop} (h : post (cd_cb (decide c))) : (c → post 1) ∧ (¬ c → post 0) := by
  by_cases z : c
  · rw [decide_eq_true z] at h
    exact br_t z h
  · rw [decide_eq_false z] at h
    exact br_f z h
theorem cd_xhang {post : Int32 → Prop} {a t : Nat → Int32} {s : Int32} (h : post (cd_cb (decide (cd_reach a s (s &&& (-s)) = s)))) : wpX_hangsTogether post (a, t) s := by
  refine nm_e ⟨8, cd_loop (W := fun n i r => wX_hangsTogether_7 post s a t n r (nI i)) (f := fun _ r => cd_rin a s r) (post := fun r => post (cd_cb (decide (r = s)))) (fun _ => True) 7
    (fun _ _ _ _ => trivial) (fun n r _ hp => br_t cd_l7 (cd_if hp)) ?_ 7 0 (s &&& (-s)) rfl trivial h⟩
  intro n i r hi _ hW
  exact br_f (cd_g7 hi) ⟨8, cd_xin hW⟩
def cd_hp (a : Nat → Int32) (s : Int32) (v : Nat) : Bool := !bt s v || decide (cd_sz (a v &&& s) = 2)
def cd_hole (a : Nat → Int32) (s : Int32) : Bool := decide (4 ≤ cd_sz s) && (cd_all (cd_hp a s) 7 0 && decide (cd_reach a s (s &&& (-s)) = s))
theorem cd_xhole {post : Int32 → Prop} {a t : Nat → Int32} {s : Int32} (h : post (cd_cb (cd_hole a s))) : wpX_isHole post (a, t) s := by
  unfold cd_hole at h
  refine cd_xsize (br_c (fun h4 => ?_) (fun h4 => ?_))
  · rw [decide_eq_true h4, Bool.true_and] at h
    refine ⟨8, cd_loopB (W := fun n i => wX_isHole_12 post s a t n (nI i)) (p := cd_hp a s) (A := wpX_hangsTogether (fun r => narrow .boolean (.int r) = .int r ∧ post r) (a, t) s) (B := post 0) 7
      (fun n hp => br_t cd_l7 hp) ?_ ?_ 7 0 rfl ?_ ?_⟩
    · intro n i hi hp hW
      refine br_f (cd_g7 hi) (cd_xhas hi (cd_c0 (fun _ => nm_r (nI_1 i) hW) (fun hb => ⟨cd_in7 hi, nm_e (cd_xsize ?_)⟩)))
      rw [cd_cl (by omega)]
      have e : cd_sz (a i &&& s) = 2 := by
        unfold cd_hp at hp
        rw [hb] at hp
        simpa using hp
      exact br_t e (nm_r (nI_1 i) hW)
    · intro n i hi hp h0
      unfold cd_hp at hp
      have hb : bt s i = true := by
        cases hh : bt s i
        · rw [hh] at hp; simp at hp
        · rfl
      have e : ¬ cd_sz (a i &&& s) = 2 := by
        rw [hb] at hp
        simpa using hp
      refine br_f (cd_g7 hi) (cd_xhas hi (cd_c0 (fun z => ?_) (fun _ => ⟨cd_in7 hi, nm_e (cd_xsize ?_)⟩)))
      · rw [hb] at z; cases z
      · rw [cd_cl (by omega)]
        exact br_f e h0
    · intro z
      rw [z, Bool.true_and] at h
      exact cd_xhang ⟨cd_nar _, h⟩
    · intro z
      rw [z, Bool.false_and] at h
      exact h
  · rw [decide_eq_false h4, Bool.false_and] at h
    exact h
def cd_first (s : Int32) : Nat → Int32 → Int32
  | 0, f => f
  | m + 1, f => cd_first s m (if bt s m then nI m else f)
def cd_dn (p : Nat → Bool) : Nat → Bool → Bool
  | 0, b => b
  | m + 1, b => cd_dn p m (b && p m)
theorem cd_dn7 (p : Nat → Bool) (b : Bool) : cd_dn p 7 b = (b && cd_all p 7 0) := by
  show ((((((((b && p 6) && p 5) && p 4) && p 3) && p 2) && p 1) && p 0)) = (b && (p 0 && (p 1 && (p 2 && (p 3 && (p 4 && (p 5 && (p 6 && true))))))))
  generalize p 0 = b0
  generalize p 1 = b1
  generalize p 2 = b2
  generalize p 3 = b3
  generalize p 4 = b4
  generalize p 5 = b5
  generalize p 6 = b6
  revert b b0 b1 b2 b3 b4 b5 b6
  decide +kernel
theorem cd_low : ∀ k, k < 128 → 0 < k → (1 : Int32) <<< (cd_first (nI k) 7 0 &&& 31) = nI k &&& (-(nI k)) := by decide +kernel
theorem cd_m1 (n : Nat) : nI (n + 1) + (-1) = nI n := by
  rw [nI_succ, Int32.add_assoc, show (1 : Int32) + (-1) = 0 from by decide, Int32.add_zero]
theorem cd_y74 {post : Int32 → Prop} {J : Int32 → Int32 → Int32 → Prop} {a t : Nat → Int32} {s x3 x4 : Int32} {b c : Bool} (h : J (cd_cb b) (if c then x4 else x3) (x4 + (-1))) : wY_hole_74 post J s x3 x4 (cd_cb c) (cd_cb b) a t :=
  cd_c0 (fun e => nm_e (by rw [e] at h; exact h)) (fun e => nm_e (by rw [e] at h; exact h))
theorem cd_y41 {post : Int32 → Prop} {J : Int32 → Int32 → Int32 → Prop} {a t : Nat → Int32} {s f : Int32} {b : Bool} {m : Nat} (hm : m < 7) (h : J (cd_cb (b && cd_hp a s m)) (if bt s m then nI m else f) (nI m + (-1))) : wY_hole_41 post J s (cd_cb b) f (nI m) (cd_cb (bt s m)) a t := by
  unfold cd_hp at h
  refine cd_c0 (fun e => ?_) (fun e => cd_c0 (fun e2 => ?_) (fun e2 => ⟨cd_in7 hm, cd_ycount ?_⟩))
  · rw [e, Bool.false_and] at h
    exact cd_y74 (b := false) h
  · rw [e, e2] at h
    rw [e2]
    exact cd_y74 (b := true) (c := false) h
  · rw [cd_cl (by omega)]
    refine br_c (fun h2 => ?_) (fun h2 => ?_)
    · rw [e, decide_eq_true h2, Bool.or_true] at h
      exact cd_y74 (b := true) h
    · rw [e, e2, decide_eq_false h2] at h
      rw [e2]
      exact cd_y74 (b := false) (c := true) h
theorem cd_y21 {post : Int32 → Prop} {a t : Nat → Int32} {s : Int32} : ∀ m b f, m ≤ 7 → (∃ n, wY_hole_101 post s (cd_cb (cd_dn (cd_hp a s) m b)) a t n ((1 : Int32) <<< (cd_first s m f &&& 31)) 0) → wY_hole_21 post s a t (m + 1) (cd_cb b) f (nI m + (-1)) := by
  intro m
  induction m with
  | zero =>
    intro b f _ h
    exact br_t (by decide) (nm_e h)
  | succ m ih =>
    intro b f hm h
    rw [cd_m1]
    refine br_f (nI_pos (by omega)) (cd_b1 (by omega) (fun e => ?_) (fun e => ?_))
    · have k := cd_y41 (post := post) (t := t) (J := wY_hole_21 post s a t (m + 1)) (b := b) (f := f) (by omega : m < 7) (ih _ _ (by omega) h)
      rw [e] at k
      exact k
    · have k := cd_y41 (post := post) (t := t) (J := wY_hole_21 post s a t (m + 1)) (b := b) (f := f) (by omega : m < 7) (ih _ _ (by omega) h)
      rw [e] at k
      exact k
theorem cd_y101f {post : Int32 → Prop} {a t : Nat → Int32} {s r : Int32} (h : post 0) : ∃ n, wY_hole_101 post s (cd_cb false) a t n r 0 :=
  ⟨1, br_f (by decide) (br_t rfl (br_t rfl h))⟩
theorem cd_y101t {post : Int32 → Prop} {a t : Nat → Int32} {s r : Int32} (h : post (cd_cb (decide (cd_reach a s r = s)))) : ∃ n, wY_hole_101 post s (cd_cb true) a t n r 0 := by
  refine ⟨8, cd_loop (W := fun n i r => wY_hole_101 post s (cd_cb true) a t n r (nI i)) (f := fun _ r => cd_rin a s r) (post := fun r => post (cd_cb (decide (r = s)))) (fun _ => True) 7
    (fun _ _ _ _ => trivial) (fun n r _ hp => br_t cd_l7 (br_f (by decide) (cd_if hp))) ?_ 7 0 r rfl trivial h⟩
  intro n i r hi _ hW
  exact br_f (cd_g7 hi) (br_f (by decide) ⟨8, cd_yin hW⟩)
theorem cd_6 : (6 : Int32) = nI 7 + (-1) := by decide
theorem cd_sz0 : cd_sz (nI 0) = 0 := by decide +kernel
theorem cd_yhole {post : Int32 → Prop} {a t : Nat → Int32} {k : Nat} (hk : k < 128) (h : post (cd_cb (cd_hole a (nI k)))) : wpY_hole post (a, t) (nI k) := by
  unfold cd_hole at h
  refine cd_ycount (br_c (fun h4 => ⟨8, ?_⟩) (fun h4 => ⟨8, ?_⟩))
  · rw [decide_eq_false (Int32.not_le.mpr h4), Bool.false_and] at h
    rw [cd_6]
    refine cd_y21 7 false 0 (by omega) ?_
    rw [cd_dn7, Bool.false_and]
    exact cd_y101f h
  · have h5 : (4 : Int32) ≤ cd_sz (nI k) := Int32.not_lt.mp h4
    rw [decide_eq_true h5, Bool.true_and] at h
    rw [cd_6]
    refine cd_y21 7 true 0 (by omega) ?_
    rw [cd_dn7, Bool.true_and]
    have k0 : 0 < k := by
      rcases Nat.eq_zero_or_pos k with z | z
      · subst z
        rw [cd_sz0] at h5
        exact absurd h5 (by decide)
      · exact z
    rw [cd_low k hk k0]
    cases e : cd_all (cd_hp a (nI k)) 7 0
    · rw [e, Bool.false_and] at h
      exact cd_y101f h
    · rw [e, Bool.true_and] at h
      exact cd_y101t h
def cd_neat (a : Nat → Int32) : Bool := cd_all (fun k => !cd_hole a (nI k)) 128 0
theorem cd_xneat {post : Int32 → Prop} {a t : Nat → Int32} (h : post (cd_cb (cd_neat a))) : wpX_neat post (a, t) := by
  refine ⟨129, cd_loopB (W := fun n i => wX_neat_2 post a t n (nI i)) (p := fun k => !cd_hole a (nI k)) (A := post 1) (B := post 0) 128
    (fun n hp => br_t cd_l128 hp) ?_ ?_ 128 0 rfl (cd_post h).1 (cd_post h).2⟩
  · intro n i hi hp hW
    refine br_f (cd_g128 hi) (cd_xhole (cd_c0 (fun _ => nm_r (nI_1 i) hW) (fun e => ?_)))
    rw [e] at hp; cases hp
  · intro n i hi hp h0
    refine br_f (cd_g128 hi) (cd_xhole (cd_c0 (fun e => ?_) (fun e => h0)))
    rw [e] at hp; cases hp
theorem cd_yneatL {post : Int32 → Prop} {a t : Nat → Int32} {p : Nat → Bool} (hp' : ∀ k, k < 128 → p k = !cd_hole a (nI k)) : ∀ d i b, i + d = 128 → post (cd_cb (!b && cd_all p d i)) → wY_neat_4 post a t (d + 1) (cd_cb b) (nI i) := by
  intro d
  induction d with
  | zero =>
    intro i b hi hp
    have : i = 128 := by omega
    subst this
    refine br_t cd_l128 ?_
    cases b
    · exact br_t rfl hp
    · exact br_f (by decide) hp
  | succ d ih =>
    intro i b hi hp
    refine br_f (cd_g128 (by omega)) (cd_c0 (fun e => ?_) (fun e => ?_))
    · subst e
      refine cd_yhole (by omega) (nm_r (nI_1 i) (ih (i + 1) _ (by omega) ?_))
      rw [Bool.not_false, Bool.true_and] at hp
      rw [← hp' i (by omega)]
      exact hp
    · subst e
      rw [Bool.not_true, Bool.false_and] at hp
      exact br_f (by decide) hp
theorem cd_yneat {post : Int32 → Prop} {a t : Nat → Int32} (h : post (cd_cb (cd_neat a))) : wpY_neat post (a, t) := by
  refine ⟨129, cd_yneatL (p := fun k => !cd_hole a (nI k)) (fun _ _ => rfl) 128 0 false rfl ?_⟩
  rw [Bool.not_false, Bool.true_and]
  exact h
end
section
/-! ===== easy, core, largestClique, largestApart, smallestHole, fullCliques, joins ===== -/
def cd_ef (a : Nat → Int32) (v : Nat) (x : Int32) : Int32 := if cd_aj a (a v &&& 127) then x ||| cd_m v else x
def cd_easy (a : Nat → Int32) : Int32 := cd_fold (cd_ef a) 7 0 0
theorem cd_ef0 {a : Nat → Int32} {v : Nat} {x : Int32} (h : cd_aj a (a v &&& 127) = false) : cd_ef a v x = x := by unfold cd_ef; rw [h]; rfl
theorem cd_ef1 {a : Nat → Int32} {v : Nat} {x : Int32} (h : cd_aj a (a v &&& 127) = true) : cd_ef a v x = x ||| cd_m v := by unfold cd_ef; rw [h]; rfl
theorem cd_xeasys {post : Int32 → Prop} {a t : Nat → Int32} (h : post (cd_easy a)) : wpX_easy post (a, t) := by
  refine ⟨8, cd_loop (W := fun n i x => wX_easy_4 post a t n x (nI i)) (f := cd_ef a) (post := post) (fun _ => True) 7
    (fun _ _ _ _ => trivial) (fun n x _ hp => br_t cd_l7 hp) ?_ 7 0 0 rfl trivial h⟩
  intro n i x hi _ hW
  refine br_f (cd_g7 hi) (cd_xeasy hi (cd_c0 (fun e => nm_r (nI_1 i) ?_) (fun e => nm_e (nm_r (nI_1 i) ?_))))
  · rw [cd_ef0 e] at hW; exact hW
  · rw [cd_ef1 e] at hW; exact hW
theorem cd_yeasys {post : Int32 → Prop} {a t : Nat → Int32} (G : cd_G a) (h : post (cd_easy a)) : wpY_easy post (a, t) := by
  refine ⟨8, cd_loop (W := fun n i x => wY_easy_4 post a t n x (nI i)) (f := cd_ef a) (post := post) (fun _ => True) 7
    (fun _ _ _ _ => trivial) (fun n x _ hp => br_t cd_l7 hp) ?_ 7 0 0 rfl trivial h⟩
  intro n i x hi _ hW
  refine br_f (cd_g7 hi) (cd_yeasy (k := 127) G hi (by omega) (cd_c0 (fun e => nm_r (nI_1 i) ?_) (fun e => nm_e (nm_r (nI_1 i) ?_))))
  · rw [cd_ef0 e] at hW; exact hW
  · rw [cd_ef1 e] at hW; exact hW
/-! core -/
def cd_kf (a : Nat → Int32) (v : Nat) (x : Int32) : Int32 := if bt x v && cd_aj a (a v &&& x) then x &&& (cd_m v ^^^ (-1)) else x
def cd_kin (a : Nat → Int32) (x : Int32) : Int32 := cd_fold (cd_kf a) 7 0 x
def cd_core (a : Nat → Int32) : Int32 := cd_fold (fun _ x => cd_kin a x) 7 0 127
def cd_R (x : Int32) : Prop := ∃ k, k < 128 ∧ x = nI k
theorem cd_kf0 {a : Nat → Int32} {v : Nat} {x : Int32} (h : (bt x v && cd_aj a (a v &&& x)) = false) : cd_kf a v x = x := by unfold cd_kf; rw [h]; rfl
theorem cd_kf1 {a : Nat → Int32} {v : Nat} {x : Int32} (h : (bt x v && cd_aj a (a v &&& x)) = true) : cd_kf a v x = x &&& (cd_m v ^^^ (-1)) := by unfold cd_kf; rw [h]; rfl
theorem cd_kfR {a : Nat → Int32} {v : Nat} {x : Int32} (h : cd_R x) : cd_R (cd_kf a v x) := by
  cases e : (bt x v && cd_aj a (a v &&& x))
  · rw [cd_kf0 e]; exact h
  · rw [cd_kf1 e]
    obtain ⟨k, hk, rfl⟩ := h
    exact cd_andL hk _
theorem cd_kinR {a : Nat → Int32} {x : Int32} (h : cd_R x) : cd_R (cd_kin a x) := cd_foldI cd_R 7 (fun _ _ _ hs => cd_kfR hs) 7 0 x rfl h
theorem cd_xkin {post : Int32 → Prop} {J : Int32 → Int32 → Prop} {a t : Nat → Int32} {x : Int32} {i : Nat} (h : J (cd_kin a x) (nI (i + 1))) : wX_core_13 post J (nI i) a t 8 x 0 := by
  refine cd_loop (W := fun n v x => wX_core_13 post J (nI i) a t n x (nI v)) (f := cd_kf a) (post := fun x => J x (nI (i + 1))) (fun _ => True) 7
    (fun _ _ _ _ => trivial) (fun n x _ hp => br_t cd_l7 (nm_r (nI_1 i) hp)) ?_ 7 0 x rfl trivial h
  intro n v x hv _ hW
  refine br_f (cd_g7 hv) (cd_xhas hv (cd_c0 (fun e => nm_r (nI_1 v) ?_) (fun e => cd_xeasy hv (cd_c0 (fun e2 => nm_r (nI_1 v) ?_) (fun e2 => nm_e (nm_r (nI_1 v) ?_))))))
  · rw [cd_kf0 (by rw [e, Bool.false_and])] at hW; exact hW
  · rw [cd_kf0 (by rw [e2, Bool.and_false])] at hW; exact hW
  · rw [cd_kf1 (by rw [e, e2]; rfl)] at hW; exact hW
theorem cd_ykin {post : Int32 → Prop} {J : Int32 → Int32 → Prop} {a t : Nat → Int32} {x : Int32} {i : Nat} (G : cd_G a) (hx : cd_R x) (h : J (cd_kin a x) (nI (i + 1))) : wY_core_13 post J (nI i) a t 8 x 0 := by
  refine cd_loop (W := fun n v x => wY_core_13 post J (nI i) a t n x (nI v)) (f := cd_kf a) (post := fun x => J x (nI (i + 1))) cd_R 7
    (fun _ _ _ hs => cd_kfR hs) (fun n x _ hp => br_t cd_l7 (nm_r (nI_1 i) hp)) ?_ 7 0 x rfl hx h
  intro n v x hv hR hW
  obtain ⟨k, hk, rfl⟩ := hR
  refine br_f (cd_g7 hv) (cd_b1 (by omega) (fun e => cd_yeasy G hv hk (cd_c0 (fun e2 => ?_) (fun e2 => ?_))) (fun e => ?_))
  · rw [cd_kf0 (by rw [e2, Bool.and_false])] at hW
    exact br_t rfl (nm_r (nI_1 v) hW)
  · rw [cd_kf1 (by rw [e, e2]; rfl)] at hW
    exact br_f (by decide) (nm_e (nm_r (nI_1 v) hW))
  · rw [cd_kf0 (by rw [e, Bool.false_and])] at hW
    exact br_t rfl (nm_r (nI_1 v) hW)
theorem cd_xcore {post : Int32 → Prop} {a t : Nat → Int32} (h : post (cd_core a)) : wpX_core post (a, t) := by
  refine ⟨8, cd_loop (W := fun n i x => wX_core_5 post a t n x (nI i)) (f := fun _ x => cd_kin a x) (post := post) (fun _ => True) 7
    (fun _ _ _ _ => trivial) (fun n x _ hp => br_t cd_l7 hp) ?_ 7 0 127 rfl trivial h⟩
  intro n i x hi _ hW
  exact br_f (cd_g7 hi) ⟨8, cd_xkin hW⟩
theorem cd_ycore {post : Int32 → Prop} {a t : Nat → Int32} (G : cd_G a) (h : post (cd_core a)) : wpY_core post (a, t) := by
  refine ⟨8, cd_loop (W := fun n i x => wY_core_5 post a t n x (nI i)) (f := fun _ x => cd_kin a x) (post := post) cd_R 7
    (fun _ _ _ hs => cd_kinR hs) (fun n x _ hp => br_t cd_l7 hp) ?_ 7 0 127 rfl ⟨127, by omega, by decide⟩ h⟩
  intro n i x hi hR hW
  exact br_f (cd_g7 hi) ⟨8, cd_ykin G hR hW⟩
/-! the largest of a kind -/
def cd_lf (q : Nat → Bool) (k : Nat) (x : Int32) : Int32 := if q k then (if cd_sz (nI k) ≤ x then x else cd_sz (nI k)) else x
theorem cd_lf0 {q : Nat → Bool} {k : Nat} {x : Int32} (h : q k = false) : cd_lf q k x = x := by unfold cd_lf; rw [h]; rfl
theorem cd_lfl {q : Nat → Bool} {k : Nat} {x : Int32} (h : cd_sz (nI k) ≤ x) : cd_lf q k x = x := by unfold cd_lf; rw [if_pos h]; cases q k <;> rfl
theorem cd_lf1 {q : Nat → Bool} {k : Nat} {x : Int32} (h : q k = true) (h2 : ¬ cd_sz (nI k) ≤ x) : cd_lf q k x = cd_sz (nI k) := by unfold cd_lf; rw [h, if_neg h2]; rfl
def cd_lclq (a : Nat → Int32) : Int32 := cd_fold (cd_lf (fun k => cd_aj a (nI k))) 128 0 0
def cd_lap (a : Nat → Int32) : Int32 := cd_fold (cd_lf (fun k => cd_ap a (nI k))) 128 0 0
theorem cd_xlclq {post : Int32 → Prop} {a t : Nat → Int32} (h : post (cd_lclq a)) : wpX_largestClique post (a, t) := by
  refine ⟨129, cd_loop (W := fun n i x => wX_largestClique_4 post a t n x (nI i)) (f := cd_lf (fun k => cd_aj a (nI k))) (post := post) (fun _ => True) 128
    (fun _ _ _ _ => trivial) (fun n x _ hp => br_t cd_l128 hp) ?_ 128 0 0 rfl trivial h⟩
  intro n i x hi _ hW
  refine br_f (cd_g128 hi) (cd_xsize (br_c (fun e => nm_r (nI_1 i) ?_) (fun e => cd_xall (cd_c0 (fun e2 => nm_r (nI_1 i) ?_) (fun e2 => nm_r (nI_1 i) ?_)))))
  · rw [cd_lfl e] at hW; exact hW
  · rw [cd_lf0 (q := fun k => cd_aj a (nI k)) (k := i) e2] at hW; exact hW
  · rw [cd_lf1 (q := fun k => cd_aj a (nI k)) (k := i) e2 e] at hW; exact hW
theorem cd_ylclq {post : Int32 → Prop} {a t : Nat → Int32} (G : cd_G a) (h : post (cd_lclq a)) : wpY_largestClique post (a, t) := by
  refine ⟨129, cd_loop (W := fun n i x => wY_largestClique_4 post a t n x (nI i)) (f := cd_lf (fun k => cd_aj a (nI k))) (post := post) (fun _ => True) 128
    (fun _ _ _ _ => trivial) (fun n x _ hp => br_t cd_l128 hp) ?_ 128 0 0 rfl trivial h⟩
  intro n i x hi _ hW
  refine br_f (cd_g128 hi) (cd_ycount (cd_yclique G hi (cd_c0 (fun e2 => nm_r (nI_1 i) ?_) (fun e2 => br_c (fun e => nm_r (nI_1 i) ?_) (fun e => nm_r (nI_1 i) ?_)))))
  · rw [cd_lf0 (q := fun k => cd_aj a (nI k)) (k := i) e2] at hW; exact hW
  · rw [cd_lfl e] at hW; exact hW
  · rw [cd_lf1 (q := fun k => cd_aj a (nI k)) (k := i) e2 e] at hW; exact hW
theorem cd_xlap {post : Int32 → Prop} {a t : Nat → Int32} (h : post (cd_lap a)) : wpX_largestApart post (a, t) := by
  refine ⟨129, cd_loop (W := fun n i x => wX_largestApart_4 post a t n x (nI i)) (f := cd_lf (fun k => cd_ap a (nI k))) (post := post) (fun _ => True) 128
    (fun _ _ _ _ => trivial) (fun n x _ hp => br_t cd_l128 hp) ?_ 128 0 0 rfl trivial h⟩
  intro n i x hi _ hW
  refine br_f (cd_g128 hi) (cd_xsize (br_c (fun e => nm_r (nI_1 i) ?_) (fun e => cd_xnone (cd_c0 (fun e2 => nm_r (nI_1 i) ?_) (fun e2 => nm_r (nI_1 i) ?_)))))
  · rw [cd_lfl e] at hW; exact hW
  · rw [cd_lf0 (q := fun k => cd_ap a (nI k)) (k := i) e2] at hW; exact hW
  · rw [cd_lf1 (q := fun k => cd_ap a (nI k)) (k := i) e2 e] at hW; exact hW
theorem cd_ylap {post : Int32 → Prop} {a t : Nat → Int32} (h : post (cd_lap a)) : wpY_largestApart post (a, t) := by
  refine ⟨129, cd_loop (W := fun n i x => wY_largestApart_4 post a t n x (nI i)) (f := cd_lf (fun k => cd_ap a (nI k))) (post := post) (fun _ => True) 128
    (fun _ _ _ _ => trivial) (fun n x _ hp => br_t cd_l128 hp) ?_ 128 0 0 rfl trivial h⟩
  intro n i x hi _ hW
  refine br_f (cd_g128 hi) (cd_ycount (cd_yapart (cd_c0 (fun e2 => nm_r (nI_1 i) ?_) (fun e2 => br_c (fun e => nm_r (nI_1 i) ?_) (fun e => nm_r (nI_1 i) ?_)))))
  · rw [cd_lf0 (q := fun k => cd_ap a (nI k)) (k := i) e2] at hW; exact hW
  · rw [cd_lfl e] at hW; exact hW
  · rw [cd_lf1 (q := fun k => cd_ap a (nI k)) (k := i) e2 e] at hW; exact hW
/-! smallestHole -/
def cd_sf (a : Nat → Int32) (k : Nat) (x : Int32) : Int32 := if cd_hole a (nI k) then (if x = -1 then cd_sz (nI k) else if x ≤ cd_sz (nI k) then x else cd_sz (nI k)) else x
def cd_S (x : Int32) : Prop := x = -1 ∨ ¬ x < 0
theorem cd_szn : ∀ k, k < 128 → ¬ cd_sz (nI k) < 0 := by decide +kernel
theorem cd_sf0 {a : Nat → Int32} {k : Nat} {x : Int32} (h : cd_hole a (nI k) = false) : cd_sf a k x = x := by unfold cd_sf; rw [h]; rfl
theorem cd_sf1 {a : Nat → Int32} {k : Nat} {x : Int32} (h : cd_hole a (nI k) = true) (h1 : x = -1) : cd_sf a k x = cd_sz (nI k) := by unfold cd_sf; rw [h, if_pos h1]; rfl
theorem cd_sf2 {a : Nat → Int32} {k : Nat} {x : Int32} (h : cd_hole a (nI k) = true) (h1 : ¬ x = -1) (h2 : x ≤ cd_sz (nI k)) : cd_sf a k x = x := by unfold cd_sf; rw [h, if_neg h1, if_pos h2]; rfl
theorem cd_sf3 {a : Nat → Int32} {k : Nat} {x : Int32} (h : cd_hole a (nI k) = true) (h1 : ¬ x = -1) (h2 : ¬ x ≤ cd_sz (nI k)) : cd_sf a k x = cd_sz (nI k) := by unfold cd_sf; rw [h, if_neg h1, if_neg h2]; rfl
theorem cd_sfS {a : Nat → Int32} {k : Nat} {x : Int32} (hk : k < 128) (hx : cd_S x) : cd_S (cd_sf a k x) := by
  cases h : cd_hole a (nI k)
  · rw [cd_sf0 h]; exact hx
  · by_cases h1 : x = -1
    · rw [cd_sf1 h h1]; exact .inr (cd_szn k hk)
    · by_cases h2 : x ≤ cd_sz (nI k)
      · rw [cd_sf2 h h1 h2]; exact hx
      · rw [cd_sf3 h h1 h2]; exact .inr (cd_szn k hk)
def cd_small (a : Nat → Int32) : Int32 := cd_fold (cd_sf a) 128 0 (-1)
theorem cd_xsmall {post : Int32 → Prop} {a t : Nat → Int32} (h : post (cd_small a)) : wpX_smallestHole post (a, t) := by
  refine ⟨129, cd_loop (W := fun n i x => wX_smallestHole_4 post a t n x (nI i)) (f := cd_sf a) (post := post) (fun _ => True) 128
    (fun _ _ _ _ => trivial) (fun n x _ hp => br_t cd_l128 hp) ?_ 128 0 (-1) rfl trivial h⟩
  intro n i x hi _ hW
  refine br_f (cd_g128 hi) (cd_xhole (cd_c0 (fun e => nm_r (nI_1 i) ?_) (fun e => cd_xsize (br_c (fun e1 => nm_r (nI_1 i) ?_) (fun e1 => br_c (fun e2 => nm_r (nI_1 i) ?_) (fun e2 => nm_r (nI_1 i) ?_))))))
  · rw [cd_sf0 e] at hW; exact hW
  · rw [cd_sf1 e e1] at hW; exact hW
  · rw [cd_sf2 e e1 e2] at hW; exact hW
  · rw [cd_sf3 e e1 e2] at hW; exact hW
theorem cd_ysmall {post : Int32 → Prop} {a t : Nat → Int32} (h : post (cd_small a)) : wpY_smallestHole post (a, t) := by
  refine ⟨129, cd_loop (W := fun n i x => wY_smallestHole_4 post a t n x (nI i)) (f := cd_sf a) (post := post) cd_S 128
    (fun _ _ hi hs => cd_sfS hi hs) (fun n x _ hp => br_t cd_l128 hp) ?_ 128 0 (-1) rfl (.inl rfl) h⟩
  intro n i x hi hx hW
  have s1 : x < 0 → x = -1 := fun z => hx.elim id (fun y => absurd z y)
  have s2 : ¬ x < 0 → ¬ x = -1 := fun z y => z (by rw [y]; decide)
  refine br_f (cd_g128 hi) (cd_ycount (cd_yhole hi (cd_c0 (fun e => nm_r (nI_1 i) ?_) (fun e => br_c (fun e1 => nm_r (nI_1 i) ?_) (fun e1 => br_c (fun e2 => nm_r (nI_1 i) ?_) (fun e2 => nm_r (nI_1 i) ?_))))))
  · rw [cd_sf0 e] at hW; exact hW
  · rw [cd_sf1 e (s1 e1)] at hW; exact hW
  · rw [cd_sf2 e (s2 e1) e2] at hW; exact hW
  · rw [cd_sf3 e (s2 e1) e2] at hW; exact hW
end
section
/-! ===== fullCliques, joins, clique ===== -/
theorem cd_zero {x : Int32} : x = 0 ↔ ∀ j, j < 32 → bt x j = false := by
  constructor
  · intro h j _
    rw [h]; exact b_0 j
  · intro h
    apply b_ext
    intro j hj
    rw [h j hj, b_0]
theorem cd_gpP {a : Nat → Int32} {s : Int32} {v : Nat} (hs : ∀ j, 7 ≤ j → bt s j = false) : (s &&& (a v ^^^ (-1))) = 0 ↔ ∀ j, j < 7 → bt s j = true → bt (a v) j = true := by
  rw [cd_zero]
  constructor
  · intro h j hj e
    have k := h j (by omega)
    rw [b_and, b_xor, b_m1 j (by omega), e] at k
    simpa using k
  · intro h j hj
    rw [b_and, b_xor, b_m1 j hj]
    rcases Nat.lt_or_ge j 7 with h7 | h7
    · cases e : bt s j
      · rfl
      · rw [h j h7 e]; rfl
    · rw [hs j h7]; rfl
theorem cd_jpP {a : Nat → Int32} {s : Int32} {i : Nat} (G : cd_G a) (hi : i < 7) (hs : ∀ j, 7 ≤ j → bt s j = false) : cd_jp a s i = true ↔ (bt s i = true → ∀ j, j < 7 → j ≠ i → bt s j = true → bt (a i) j = true) := by
  unfold cd_jp
  cases e : bt s i
  · exact ⟨fun _ z => (nomatch z), fun _ => rfl⟩
  · rw [Bool.not_true, Bool.false_or, decide_eq_true_iff]
    constructor
    · intro h _ j hj hne hb
      have k : bt (s &&& (a i ^^^ (-1))) j = bt (cd_m i) j := by rw [h]
      rw [b_and, b_xor, b_m1 j (by omega), cd_btm (by omega) (by omega), hb, decide_eq_false hne] at k
      simpa using k
    · intro h
      apply b_ext
      intro j hj
      rw [b_and, b_xor, b_m1 j hj, cd_btm (by omega) hj]
      by_cases hne : j = i
      · subst hne
        rw [e, G.2 j hi, decide_eq_true rfl]; rfl
      · rw [decide_eq_false hne]
        rcases Nat.lt_or_ge j 7 with h7 | h7
        · cases e2 : bt s j
          · rfl
          · rw [h rfl j h7 hne e2]; rfl
        · rw [hs j h7]; rfl
theorem cd_ajP {a : Nat → Int32} {s : Int32} (G : cd_G a) (hs : ∀ j, 7 ≤ j → bt s j = false) : cd_aj a s = true ↔ ∀ i, i < 7 → bt s i = true → ∀ j, j < 7 → j ≠ i → bt s j = true → bt (a i) j = true := by
  unfold cd_aj
  rw [cd_allT]
  constructor
  · intro h i hi
    exact (cd_jpP G hi hs).mp (h i (by omega) (by omega))
  · intro h i _ hi
    exact (cd_jpP G (by omega) hs).mpr (h i (by omega))
theorem cd_orN : ∀ k, k < 128 → ∀ v, v < 7 → k ||| 2 ^ v < 128 ∧ (nI k ||| cd_m v) = nI (k ||| 2 ^ v) := by decide +kernel
theorem cd_ajm {a : Nat → Int32} (G : cd_G a) {k v : Nat} (hk : k < 128) (hv : v < 7) (hb : bt (nI k) v = false) (hc : cd_aj a (nI k) = true) : cd_aj a (nI k ||| cd_m v) = decide ((nI k &&& (a v ^^^ (-1))) = 0) := by
  have hs : ∀ j, 7 ≤ j → bt (nI k) j = false := fun j hj => cd_btn hk hj
  have ho := cd_orN k hk v hv
  have hs2 : ∀ j, 7 ≤ j → bt (nI k ||| cd_m v) j = false := fun j hj => by rw [ho.2]; exact cd_btn ho.1 hj
  have hor : ∀ j, j < 7 → bt (nI k ||| cd_m v) j = (bt (nI k) j || decide (j = v)) := fun j hj => by rw [b_or, cd_btm (by omega) (by omega)]
  rw [Bool.eq_iff_iff, decide_eq_true_iff, cd_gpP hs, cd_ajP G hs2]
  rw [cd_ajP G hs] at hc
  constructor
  · intro h j hj e
    have hne : j ≠ v := fun z => by rw [z, hb] at e; cases e
    exact h v hv (by rw [hor v hv]; simp) j hj hne (by rw [hor j hj, e]; rfl)
  · intro h i hi ei j hj hne ej
    rw [hor i hi] at ei
    rw [hor j hj] at ej
    by_cases hiv : i = v
    · subst hiv
      rw [decide_eq_false hne, Bool.or_false] at ej
      exact h j hj ej
    · rw [decide_eq_false hiv, Bool.or_false] at ei
      by_cases hjv : j = v
      · subst hjv
        rw [G.1 i j hi hj]
        exact h i hi ei
      · rw [decide_eq_false hjv, Bool.or_false] at ej
        exact hc i hi ei j hj hne ej
def cd_ff (a : Nat → Int32) (k : Nat) (n : Int32) : Int32 := if cd_aj a (nI k) && cd_all (cd_gp a (nI k)) 7 0 then n + 1 else n
def cd_full (a : Nat → Int32) : Int32 := cd_fold (cd_ff a) 128 0 0
theorem cd_ff0 {a : Nat → Int32} {k : Nat} {x : Int32} (h : (cd_aj a (nI k) && cd_all (cd_gp a (nI k)) 7 0) = false) : cd_ff a k x = x := by unfold cd_ff; rw [h]; rfl
theorem cd_ff1 {a : Nat → Int32} {k : Nat} {x : Int32} (h : (cd_aj a (nI k) && cd_all (cd_gp a (nI k)) 7 0) = true) : cd_ff a k x = x + 1 := by unfold cd_ff; rw [h]; rfl
theorem cd_not0 {b : Bool} (h : (!b) = false) : b = true := by cases b; cases h; rfl
theorem cd_not1 {b : Bool} (h : (!b) = true) : b = false := by cases b; rfl; cases h
theorem cd_xfull {post : Int32 → Prop} {a t : Nat → Int32} (h : post (cd_full a)) : wpX_fullCliques post (a, t) := by
  refine ⟨129, cd_loop (W := fun n i x => wX_fullCliques_4 post a t n x (nI i)) (f := cd_ff a) (post := post) (fun _ => True) 128
    (fun _ _ _ _ => trivial) (fun n x _ hp => br_t cd_l128 hp) ?_ 128 0 0 rfl trivial h⟩
  intro n i x hi _ hW
  refine br_f (cd_g128 hi) (cd_xall (cd_c0 (fun e => nm_r (nI_1 i) ?_) (fun e => cd_xgrow (cd_c0 (fun e2 => nm_e (nm_r (nI_1 i) ?_)) (fun e2 => nm_r (nI_1 i) ?_)))))
  · rw [cd_ff0 (by rw [e, Bool.false_and])] at hW; exact hW
  · rw [cd_ff1 (by rw [e, cd_not0 e2]; rfl)] at hW; exact hW
  · rw [cd_ff0 (by rw [cd_not1 e2, Bool.and_false])] at hW; exact hW
def cd_fq (a : Nat → Int32) (k v : Nat) : Bool := bt (nI k) v || !cd_aj a (nI k ||| cd_m v)
theorem cd_y20 {post : Int32 → Prop} {J : Int32 → Int32 → Prop} {a t : Nat → Int32} {k : Nat} {x : Int32} (G : cd_G a) (hk : k < 128) : ∀ d i b, i + d = 7 → ((b && cd_all (cd_fq a k) d i) = true → J (x + 1) (nI (k + 1))) → ((b && cd_all (cd_fq a k) d i) = false → J x (nI (k + 1))) → wY_fullCliques_20 post J x (nI k) a t (d + 1) (cd_cb b) (nI i) := by
  intro d
  induction d with
  | zero =>
    intro i b hi h1 h0
    have : i = 7 := by omega
    subst this
    have e0 : (b && cd_all (cd_fq a k) 0 7) = b := by simp [cd_all]
    rw [e0] at h1 h0
    exact br_t cd_l7 (cd_c0 (fun e => nm_r (nI_1 k) (h0 e)) (fun e => nm_e (nm_r (nI_1 k) (h1 e))))
  | succ d ih =>
    intro i b hi h1 h0
    have i7 : i < 7 := by omega
    have st : cd_fq a k i = true → cd_all (cd_fq a k) (d + 1) i = cd_all (cd_fq a k) d (i + 1) := fun z => by
      show (cd_fq a k i && _) = _
      rw [z, Bool.true_and]
    have sf : cd_fq a k i = false → cd_all (cd_fq a k) (d + 1) i = false := fun z => by
      show (cd_fq a k i && _) = _
      rw [z, Bool.false_and]
    refine br_f (cd_g7 i7) (cd_c0 (fun hb => nm_r (nI_1 i) ?_) (fun hb => ?_))
    · subst hb
      rw [Bool.false_and] at h1 h0
      refine ih (i + 1) false (by omega) ?_ ?_
      · rw [Bool.false_and]; exact h1
      · rw [Bool.false_and]; exact h0
    · subst hb
      rw [Bool.true_and] at h1 h0
      have goT : cd_fq a k i = true → wY_fullCliques_20 post J x (nI k) a t (d + 1) (cd_cb true) (nI (i + 1)) := fun z => by
        rw [st z] at h1 h0
        refine ih (i + 1) true (by omega) ?_ ?_
        · rw [Bool.true_and]; exact h1
        · rw [Bool.true_and]; exact h0
      have goF : cd_fq a k i = false → wY_fullCliques_20 post J x (nI k) a t (d + 1) (cd_cb false) (nI (i + 1)) := fun z => by
        rw [sf z] at h1 h0
        refine ih (i + 1) false (by omega) ?_ ?_
        · rw [Bool.false_and]; exact h1
        · rw [Bool.false_and]; exact h0
      refine cd_b1 (by omega) (fun hs => nm_r (nI_1 i) (goT ?_)) (fun hs => ?_)
      · unfold cd_fq; rw [hs, Bool.true_or]
      · have ho := cd_orN k hk i i7
        have key : wpY_clique (fun r => (r = 0 → ∀ x4 : Int32, x4 = nI i + 1 → wY_fullCliques_20 post J x (nI k) a t (d + 1) 1 x4) ∧ (¬ r = 0 → ∀ x4 : Int32, x4 = nI i + 1 → wY_fullCliques_20 post J x (nI k) a t (d + 1) 0 x4)) (a, t) (nI k ||| cd_m i) := by
          have hq : cd_fq a k i = !cd_aj a (nI k ||| cd_m i) := by unfold cd_fq; rw [hs, Bool.false_or]
          rw [hq] at goT goF
          rw [ho.2] at goT goF ⊢
          refine cd_yclique G ho.1 (cd_c0 (fun e => nm_r (nI_1 i) (goT ?_)) (fun e => nm_r (nI_1 i) (goF ?_)))
          · rw [e]; rfl
          · rw [e]; rfl
        exact key
theorem cd_yfull {post : Int32 → Prop} {a t : Nat → Int32} (G : cd_G a) (h : post (cd_full a)) : wpY_fullCliques post (a, t) := by
  refine ⟨129, cd_loop (W := fun n i x => wY_fullCliques_4 post a t n x (nI i)) (f := cd_ff a) (post := post) (fun _ => True) 128
    (fun _ _ _ _ => trivial) (fun n x _ hp => br_t cd_l128 hp) ?_ 128 0 0 rfl trivial h⟩
  intro n k x hk _ hW
  have key : (cd_aj a (nI k) && cd_all (cd_fq a k) 7 0) = (cd_aj a (nI k) && cd_all (cd_gp a (nI k)) 7 0) := by
    cases e : cd_aj a (nI k)
    · rfl
    · rw [Bool.true_and, Bool.true_and]
      refine cd_allC 7 (fun v hv => ?_) 7 0 rfl
      unfold cd_fq cd_gp
      cases eb : bt (nI k) v
      · rw [cd_ajm G hk hv eb e]
      · rfl
  refine br_f (cd_g128 hk) (cd_yclique G hk ⟨8, cd_y20 G hk 7 0 _ rfl (fun z => ?_) (fun z => ?_)⟩)
  · rw [key] at z
    rw [cd_ff1 z] at hW; exact hW
  · rw [key] at z
    rw [cd_ff0 z] at hW; exact hW
end
section
/-! ===== joins; link, part, flip; join, clique, neighbours ===== -/
theorem cd_sub {a b : Nat} (h : b ≤ a) : nI a - nI b = nI (a - b) := by
  obtain ⟨c, rfl⟩ : ∃ c, a = c + b := ⟨a - b, by omega⟩
  rw [← nI_add, Int32.add_sub_cancel, Nat.add_sub_cancel]
theorem cd_mul (a b : Nat) : nI a * nI b = nI (a * b) := (Int32.ofNat_mul a b).symm
theorem cd_div {a d : Nat} (ha : a < 2 ^ 31) (h0 : 0 < d) (hd : d < 2 ^ 31) : nI a / nI d = nI (a / d) := by
  apply Int32.toInt_inj.mp
  rw [lg_idiv_nonneg (by rw [nI_toInt ha]; omega) (by rw [nI_toInt hd]; omega), nI_toInt ha, nI_toInt hd, nI_toInt (Nat.lt_of_le_of_lt (Nat.div_le_self a d) ha)]
  first | rfl | exact (Int.natCast_ediv _ _).symm
theorem cd_rem {a d : Nat} (ha : a < 2 ^ 31) (h0 : 0 < d) (hd : d < 2 ^ 31) : nI a - nI a / nI d * nI d = nI (a % d) := by
  rw [cd_div ha h0 hd, cd_mul, cd_sub (Nat.div_mul_le_self a d)]
  exact congrArg nI (by have := Nat.div_add_mod' a d; omega)
theorem cd_foldN {f : Nat → Int32 → Int32} {h : Nat → Nat → Nat} (e : Nat) (hh : ∀ i m, i < e → f i (nI m) = nI (h i m)) : ∀ d i m, i + d = e → cd_fold f d i (nI m) = nI (cd_fold h d i m) := by
  intro d
  induction d with
  | zero => intro i m _; rfl
  | succ d ih =>
    intro i m hi
    show cd_fold f d (i + 1) (f i (nI m)) = nI (cd_fold h d (i + 1) (h i m))
    rw [hh i m (by omega)]
    exact ih (i + 1) (h i m) (by omega)
theorem cd_cbN (b : Bool) : cd_cb b = nI b.toNat := by cases b <;> rfl
def cd_xj (t : Nat → Nat → Nat) : Nat := cd_fold (fun i m => cd_fold (fun b m => m + t i b) (6 - i) (i + 1) m) 7 0 0
def cd_yj (t : Nat → Nat → Nat) : Nat := cd_fold (fun i m => m + cd_fold (fun b m => m + t i b) 7 0 0) 7 0 0
theorem cd_jsum (t : Nat → Nat → Nat) (hs : ∀ i j, i < 7 → j < 7 → t i j = t j i) (h0 : ∀ i, i < 7 → t i i = 0) (h1 : ∀ i j, t i j ≤ 1) : cd_yj t = 2 * cd_xj t ∧ cd_xj t ≤ 21 := by
  unfold cd_yj cd_xj
  simp only [cd_fold, Nat.reduceAdd, Nat.reduceSub]
  have z0 := h0 0 (by omega)
  have z1 := h0 1 (by omega)
  have z2 := h0 2 (by omega)
  have z3 := h0 3 (by omega)
  have z4 := h0 4 (by omega)
  have z5 := h0 5 (by omega)
  have z6 := h0 6 (by omega)
  have s01 := hs 0 1 (by omega) (by omega)
  have l01 := h1 0 1
  have s02 := hs 0 2 (by omega) (by omega)
  have l02 := h1 0 2
  have s03 := hs 0 3 (by omega) (by omega)
  have l03 := h1 0 3
  have s04 := hs 0 4 (by omega) (by omega)
  have l04 := h1 0 4
  have s05 := hs 0 5 (by omega) (by omega)
  have l05 := h1 0 5
  have s06 := hs 0 6 (by omega) (by omega)
  have l06 := h1 0 6
  have s12 := hs 1 2 (by omega) (by omega)
  have l12 := h1 1 2
  have s13 := hs 1 3 (by omega) (by omega)
  have l13 := h1 1 3
  have s14 := hs 1 4 (by omega) (by omega)
  have l14 := h1 1 4
  have s15 := hs 1 5 (by omega) (by omega)
  have l15 := h1 1 5
  have s16 := hs 1 6 (by omega) (by omega)
  have l16 := h1 1 6
  have s23 := hs 2 3 (by omega) (by omega)
  have l23 := h1 2 3
  have s24 := hs 2 4 (by omega) (by omega)
  have l24 := h1 2 4
  have s25 := hs 2 5 (by omega) (by omega)
  have l25 := h1 2 5
  have s26 := hs 2 6 (by omega) (by omega)
  have l26 := h1 2 6
  have s34 := hs 3 4 (by omega) (by omega)
  have l34 := h1 3 4
  have s35 := hs 3 5 (by omega) (by omega)
  have l35 := h1 3 5
  have s36 := hs 3 6 (by omega) (by omega)
  have l36 := h1 3 6
  have s45 := hs 4 5 (by omega) (by omega)
  have l45 := h1 4 5
  have s46 := hs 4 6 (by omega) (by omega)
  have l46 := h1 4 6
  have s56 := hs 5 6 (by omega) (by omega)
  have l56 := h1 5 6
  constructor <;> omega
def cd_joins (a : Nat → Int32) : Int32 := nI (cd_xj (fun i j => (bt (a i) j).toNat))
theorem cd_loopL {σ : Type} {W : Nat → Nat → σ → Prop} {f : Nat → σ → σ} {post : σ → Prop} (lo e : Nat)
    (hx : ∀ n s, post s → W (n + 1) e s) (hs : ∀ n i s, lo ≤ i → i < e → W n (i + 1) (f i s) → W (n + 1) i s) :
    ∀ d i s, lo ≤ i → i + d = e → post (cd_fold f d i s) → W (d + 1) i s := by
  intro d
  induction d with
  | zero =>
    intro i s _ hi hp
    have : i = e := by omega
    subst this
    exact hx 0 s hp
  | succ d ih =>
    intro i s hl hi hp
    exact hs (d + 1) i s hl (by omega) (ih (i + 1) (f i s) (by omega) (by omega) hp)
theorem cd_xj14 {post : Int32 → Prop} {J : Int32 → Int32 → Prop} {a t : Nat → Int32} {i m : Nat} (hi : i < 7) (h : J (nI (cd_fold (fun b m => m + (bt (a i) b).toNat) (6 - i) (i + 1) m)) (nI (i + 1))) : wX_joins_14 post J (nI i) a t (6 - i + 1) (nI m) (nI (i + 1)) := by
  refine cd_loopL (W := fun n b m => wX_joins_14 post J (nI i) a t n (nI m) (nI b)) (f := fun b m => m + (bt (a i) b).toNat) (post := fun m => J (nI m) (nI (i + 1))) 0 7
    (fun n m hp => br_t cd_l7 (nm_r (nI_1 i) hp)) ?_ (6 - i) (i + 1) m (by omega) (by omega) h
  intro n b m _ hb hW
  refine br_f (cd_g7 hb) ⟨cd_in7 hi, cd_xhas hb ?_⟩
  rw [cd_cl (by omega)]
  refine cd_c0 (fun e => nm_r (nI_1 b) ?_) (fun e => nm_r (nI_1 m) (nm_r (nI_1 b) ?_))
  · rw [e] at hW; exact hW
  · rw [e] at hW; exact hW
theorem cd_xjoins {post : Int32 → Prop} {a t : Nat → Int32} (h : post (cd_joins a)) : wpX_joins post (a, t) := by
  refine ⟨8, cd_loopL (W := fun n i m => wX_joins_4 post a t n (nI m) (nI i)) (f := fun i m => cd_fold (fun b m => m + (bt (a i) b).toNat) (6 - i) (i + 1) m) (post := fun m => post (nI m)) 0 7
    (fun n m hp => br_t cd_l7 hp) ?_ 7 0 0 (by omega) rfl h⟩
  intro n i m _ hi hW
  exact br_f (cd_g7 hi) (nm_r (nI_1 i) ⟨6 - i + 1, cd_xj14 hi hW⟩)
theorem cd_szN (s : Int32) : cd_sz s = nI (cd_fold (fun b m => m + (bt s b).toNat) 7 0 0) := by
  refine cd_foldN 7 (fun i m hi => ?_) 7 0 0 rfl
  rw [cd_bit s (by omega), cd_cbN, nI_add]
theorem cd_yjoins {post : Int32 → Prop} {a t : Nat → Int32} (G : cd_G a) (h : post (cd_joins a)) : wpY_joins post (a, t) := by
  have hs := cd_jsum (fun i j => (bt (a i) j).toNat) (fun i j hi hj => congrArg Bool.toNat (G.1 i j hi hj)) (fun i hi => congrArg Bool.toNat (G.2 i hi)) (fun i j => Bool.toNat_le _)
  refine ⟨8, cd_loopL (W := fun n i m => wY_joins_4 post a t n (nI m) (nI i)) (f := fun i m => m + cd_fold (fun b m => m + (bt (a i) b).toNat) 7 0 0) (post := fun m => post (nI m / 2)) 0 7
    (fun n m hp => br_t cd_l7 ⟨by decide, hp⟩) ?_ 7 0 0 (by omega) rfl ?_⟩
  · intro n i m _ hi hW
    refine br_f (cd_g7 hi) ⟨cd_in7 hi, cd_ycount ?_⟩
    rw [cd_cl (by omega), cd_szN]
    exact nm_r (nI_add _ _) (nm_r (nI_1 i) hW)
  · have e : nI (cd_yj (fun i j => (bt (a i) j).toNat)) / nI 2 = cd_joins a := by
      rw [cd_div (by omega) (by omega) (by omega), hs.1, Nat.mul_div_cancel_left _ (by omega : 0 < 2)]
      rfl
    have h' : post (nI (cd_yj (fun i j => (bt (a i) j).toNat)) / nI 2) := by rw [e]; exact h
    exact h'
/-! link, part, flip -/
def cd_flip (a : Nat → Int32) (i j : Nat) : Nat → Int32 := upd (upd a i (a i ^^^ cd_m j)) j (upd a i (a i ^^^ cd_m j) j ^^^ cd_m i)
theorem cd_orx {x : Int32} {v : Nat} (hv : v < 32) (h : bt x v = false) : x ||| cd_m v = x ^^^ cd_m v := by
  apply b_ext
  intro i hi
  rw [b_or, b_xor, cd_btm hv hi]
  by_cases e : i = v
  · subst e; rw [h, decide_eq_true (rfl : i = i)]; rfl
  · rw [decide_eq_false e]; simp
theorem cd_ort {x : Int32} {v : Nat} (hv : v < 32) (h : bt x v = true) : x ||| cd_m v = x := by
  apply b_ext
  intro i hi
  rw [b_or, cd_btm hv hi]
  by_cases e : i = v
  · subst e; rw [h]; rfl
  · rw [decide_eq_false e]; simp
theorem cd_anx {x : Int32} {v : Nat} (hv : v < 32) (h : bt x v = true) : x &&& (cd_m v ^^^ (-1)) = x ^^^ cd_m v := by
  apply b_ext
  intro i hi
  rw [b_and, b_xor, b_xor, cd_btm hv hi, b_m1 i hi]
  by_cases e : i = v
  · subst e; rw [h, decide_eq_true rfl]; rfl
  · rw [decide_eq_false e]; simp
theorem cd_ant {x : Int32} {v : Nat} (hv : v < 32) (h : bt x v = false) : x &&& (cd_m v ^^^ (-1)) = x := by
  apply b_ext
  intro i hi
  rw [b_and, b_xor, cd_btm hv hi, b_m1 i hi]
  by_cases e : i = v
  · subst e; rw [h]; rfl
  · rw [decide_eq_false e]; simp
theorem cd_us {f : Nat → Int32} {k : Nat} {x : Int32} : upd f k x k = x := if_pos rfl
theorem cd_un {f : Nat → Int32} {k j : Nat} {x : Int32} (h : j ≠ k) : upd f k x j = f j := if_neg h
theorem cd_usame (f : Nat → Int32) (k : Nat) : upd f k (f k) = f := by
  funext j
  by_cases h : j = k
  · subst h; exact cd_us
  · exact cd_un h
theorem cd_uu (f : Nat → Int32) (k : Nat) (x y : Int32) : upd (upd f k x) k y = upd f k y := by
  funext j
  by_cases h : j = k
  · subst h; rw [cd_us, cd_us]
  · rw [cd_un h, cd_un h, cd_un h]
theorem cd_yflip {post : SY → Prop} {a t : Nat → Int32} {i j : Nat} (hi : i < 7) (hj : j < 7) (h : post (cd_flip a i j, t)) : wpY_flip post (a, t) (nI i) (nI j) := by
  unfold wpY_flip
  dsimp only
  rw [cd_cl (by omega : i < 128), cd_cl (by omega : j < 128)]
  exact ⟨cd_in7 hi, cd_in7 hi, nm_e ⟨cd_in7 hj, cd_in7 hj, nm_e h⟩⟩
theorem cd_xlink {post : SX → Prop} {a t : Nat → Int32} {i j : Nat} (hi : i < 7) (hj : j < 7) (h : post (upd (upd a i (a i ||| cd_m j)) j (upd a i (a i ||| cd_m j) j ||| cd_m i), t)) : wpX_link post (a, t) (nI i) (nI j) := by
  unfold wpX_link
  dsimp only
  rw [cd_cl (by omega : i < 128), cd_cl (by omega : j < 128)]
  exact ⟨cd_in7 hi, cd_in7 hi, nm_e ⟨cd_in7 hj, cd_in7 hj, nm_e h⟩⟩
theorem cd_xpart {post : SX → Prop} {a t : Nat → Int32} {i j : Nat} (hi : i < 7) (hj : j < 7) (h : post (upd (upd a i (a i &&& (cd_m j ^^^ (-1)))) j (upd a i (a i &&& (cd_m j ^^^ (-1))) j &&& (cd_m i ^^^ (-1))), t)) : wpX_part post (a, t) (nI i) (nI j) := by
  unfold wpX_part
  dsimp only
  rw [cd_cl (by omega : i < 128), cd_cl (by omega : j < 128)]
  exact ⟨cd_in7 hi, cd_in7 hi, nm_e ⟨cd_in7 hj, cd_in7 hj, nm_e h⟩⟩
theorem cd_link0 {post : SX → Prop} {a t : Nat → Int32} {i j : Nat} (G : cd_G a) (hi : i < 7) (hj : j < 7) (ne : i ≠ j) (hb : bt (a i) j = false) (h : post (cd_flip a i j, t)) : wpX_link post (a, t) (nI i) (nI j) := by
  refine cd_xlink hi hj ?_
  rw [cd_orx (by omega) hb, cd_un (Ne.symm ne), cd_orx (by omega) (by rw [← G.1 i j hi hj]; exact hb)]
  unfold cd_flip at h
  rw [cd_un (Ne.symm ne)] at h
  exact h
theorem cd_link1 {post : SX → Prop} {a t : Nat → Int32} {i j : Nat} (G : cd_G a) (hi : i < 7) (hj : j < 7) (hb : bt (a i) j = true) (h : post (a, t)) : wpX_link post (a, t) (nI i) (nI j) := by
  refine cd_xlink hi hj ?_
  rw [cd_ort (by omega) hb, cd_usame, cd_ort (by omega) (by rw [← G.1 i j hi hj]; exact hb), cd_usame]
  exact h
theorem cd_part1 {post : SX → Prop} {a t : Nat → Int32} {i j : Nat} (G : cd_G a) (hi : i < 7) (hj : j < 7) (ne : i ≠ j) (hb : bt (a i) j = true) (h : post (cd_flip a i j, t)) : wpX_part post (a, t) (nI i) (nI j) := by
  refine cd_xpart hi hj ?_
  rw [cd_anx (by omega) hb, cd_un (Ne.symm ne), cd_anx (by omega) (by rw [← G.1 i j hi hj]; exact hb)]
  unfold cd_flip at h
  rw [cd_un (Ne.symm ne)] at h
  exact h
theorem cd_part0 {post : SX → Prop} {a t : Nat → Int32} {i j : Nat} (G : cd_G a) (hi : i < 7) (hj : j < 7) (hb : bt (a i) j = false) (h : post (a, t)) : wpX_part post (a, t) (nI i) (nI j) := by
  refine cd_xpart hi hj ?_
  rw [cd_ant (by omega) hb, cd_usame, cd_ant (by omega) (by rw [← G.1 i j hi hj]; exact hb), cd_usame]
  exact h
theorem cd_flipb {a : Nat → Int32} {i j k l : Nat} (hi : i < 7) (hj : j < 7) (ne : i ≠ j) (hl : l < 32) : bt (cd_flip a i j k) l = (bt (a k) l ^^ decide ((k = i ∧ l = j) ∨ (k = j ∧ l = i))) := by
  unfold cd_flip
  by_cases h1 : k = j
  · subst h1
    rw [cd_us, cd_un (Ne.symm ne), b_xor, cd_btm (by omega) hl]
    have e : ((k = i ∧ l = k) ∨ (k = k ∧ l = i)) ↔ l = i := ⟨fun z => z.elim (fun y => absurd y.1.symm ne) (fun y => y.2), fun z => .inr ⟨rfl, z⟩⟩
    rw [decide_eq_decide.mpr e]
  · rw [cd_un h1]
    by_cases h2 : k = i
    · subst h2
      rw [cd_us, b_xor, cd_btm (by omega) hl]
      have e : ((k = k ∧ l = j) ∨ (k = j ∧ l = k)) ↔ l = j := ⟨fun z => z.elim (fun y => y.2) (fun y => absurd y.1 h1), fun z => .inl ⟨rfl, z⟩⟩
      rw [decide_eq_decide.mpr e]
    · rw [cd_un h2, decide_eq_false (fun z => z.elim (fun y => h2 y.1) (fun y => h1 y.1)), Bool.xor_false]
theorem cd_flipG {a : Nat → Int32} {i j : Nat} (G : cd_G a) (hi : i < 7) (hj : j < 7) (ne : i ≠ j) : cd_G (cd_flip a i j) := by
  constructor
  · intro k l hk hl
    rw [cd_flipb hi hj ne (by omega), cd_flipb hi hj ne (by omega), G.1 k l hk hl]
    have e : ((k = i ∧ l = j) ∨ (k = j ∧ l = i)) ↔ ((l = i ∧ k = j) ∨ (l = j ∧ k = i)) := ⟨fun z => z.elim (fun y => .inr ⟨y.2, y.1⟩) (fun y => .inl ⟨y.2, y.1⟩), fun z => z.elim (fun y => .inr ⟨y.2, y.1⟩) (fun y => .inl ⟨y.2, y.1⟩)⟩
    rw [decide_eq_decide.mpr e]
  · intro k hk
    rw [cd_flipb hi hj ne (by omega), G.2 k hk, decide_eq_false (fun z => z.elim (fun y => ne (y.1.symm.trans y.2)) (fun y => ne (y.2.symm.trans y.1)))]
    rfl
theorem cd_flip1 {a : Nat → Int32} {i j : Nat} (hi : i < 7) (hj : j < 7) (ne : i ≠ j) : bt (cd_flip a i j i) j = !bt (a i) j := by
  rw [cd_flipb hi hj ne (by omega), decide_eq_true (.inl ⟨rfl, rfl⟩), Bool.xor_true]
theorem cd_flip2 {a : Nat → Int32} {i j : Nat} (hi : i < 7) (hj : j < 7) (ne : i ≠ j) : cd_flip (cd_flip a i j) i j = a := by
  funext k
  apply b_ext
  intro l hl
  rw [cd_flipb hi hj ne hl, cd_flipb hi hj ne hl, Bool.xor_assoc, Bool.xor_self, Bool.xor_false]
end
section
/-! ===== neatJoins, fill ===== -/
def cd_op (a : Nat → Int32) (c : Nat) : Bool := decide (c / 7 < c % 7) && !bt (a (c / 7)) (c % 7)
def cd_nf (a : Nat → Int32) (c : Nat) (n : Int32) : Int32 := if cd_op a c && cd_neat (cd_flip a (c / 7) (c % 7)) then n + 1 else n
def cd_nj (a : Nat → Int32) : Int32 := cd_fold (cd_nf a) 49 0 0
theorem cd_nf0 {a : Nat → Int32} {c : Nat} {x : Int32} (h : (cd_op a c && cd_neat (cd_flip a (c / 7) (c % 7))) = false) : cd_nf a c x = x := by unfold cd_nf; rw [h]; rfl
theorem cd_nf1 {a : Nat → Int32} {c : Nat} {x : Int32} (h : (cd_op a c && cd_neat (cd_flip a (c / 7) (c % 7))) = true) : cd_nf a c x = x + 1 := by unfold cd_nf; rw [h]; rfl
theorem cd_d7 {c : Nat} (hc : c < 49) : nI c / 7 = nI (c / 7) := cd_div (d := 7) (by omega) (by omega) (by omega)
theorem cd_r7 {c : Nat} (hc : c < 49) : nI c - nI c / 7 * 7 = nI (c % 7) := cd_rem (d := 7) (by omega) (by omega) (by omega)
theorem cd_opT {a : Nat → Int32} {c : Nat} (h : cd_op a c = true) : c / 7 < c % 7 ∧ bt (a (c / 7)) (c % 7) = false := by
  unfold cd_op at h
  rw [Bool.and_eq_true, decide_eq_true_iff] at h
  exact ⟨h.1, cd_not1 h.2⟩
theorem cd_yop {post : Int32 → Prop} {a t : Nat → Int32} {c : Nat} (hc : c < 49) (h : post (cd_cb (cd_op a c))) : wpY_open post (a, t) (nI c) := by
  have h6 : c / 7 < 7 := by omega
  have h7 : c % 7 < 7 := by omega
  unfold wpY_open
  dsimp only
  rw [cd_r7 hc, cd_d7 hc]
  unfold cd_op at h
  refine ⟨by decide, by decide, br_c (fun e => ?_) (fun e => ⟨by decide, by decide, cd_in7 h6, ?_⟩)⟩
  · rw [nI_leI (by omega) (by omega)] at e
    rw [decide_eq_false (by omega), Bool.false_and] at h
    exact h
  · rw [nI_leI (by omega) (by omega)] at e
    rw [decide_eq_true (by omega), Bool.true_and] at h
    rw [cd_cl (by omega)]
    refine cd_b1 (by omega) (fun e2 => ?_) (fun e2 => ?_)
    · rw [e2] at h
      exact br_f (by decide) h
    · rw [e2] at h
      exact br_t rfl h
theorem cd_y44 {post : Int32 → SY → Prop} {J : Int32 → Int32 → (Nat → Int32) → (Nat → Int32) → Prop} {a t : Nat → Int32} {c : Nat} {z : Int32} (hc : c < 49) (h : J z (nI (c + 1)) (cd_flip a (c / 7) (c % 7)) t) : wY_neatJoins_44 post J (nI c) z a t := by
  unfold wY_neatJoins_44
  rw [cd_r7 hc, cd_d7 hc]
  exact ⟨by decide, by decide, cd_yflip (by omega) (by omega) (nm_r (nI_1 c) h)⟩
theorem cd_ynj4 {post : Int32 → SY → Prop} {a t : Nat → Int32} {n c : Nat} {x : Int32} (hc : c < 49) (hW : wY_neatJoins_4 post n (cd_nf a c x) (nI (c + 1)) a t) : wY_neatJoins_4 post (n + 1) x (nI c) a t := by
  refine br_f (cd_g49 hc) (cd_yop hc (cd_c0 (fun e => nm_r (nI_1 c) ?_) (fun e => ⟨by decide, by decide, ?_⟩)))
  · rw [cd_nf0 (by rw [e, Bool.false_and])] at hW
    exact hW
  · rw [cd_r7 hc, cd_d7 hc]
    have ho := cd_opT e
    have f2 : cd_flip (cd_flip a (c / 7) (c % 7)) (c / 7) (c % 7) = a := cd_flip2 (by omega) (by omega) (by omega)
    refine cd_yflip (by omega) (by omega) (cd_yneat (cd_c0 (fun e2 => cd_y44 hc ?_) (fun e2 => cd_y44 hc ?_)))
    · rw [cd_nf0 (by rw [e2, Bool.and_false])] at hW
      rw [f2]
      exact hW
    · rw [cd_nf1 (by rw [e, e2]; rfl)] at hW
      rw [f2]
      exact hW
theorem cd_ynj {post : Int32 → SY → Prop} {a t : Nat → Int32} (h : post (cd_nj a) (a, t)) : wpY_neatJoins post (a, t) :=
  ⟨50, cd_loop (W := fun n c x => wY_neatJoins_4 post n x (nI c) a t) (f := cd_nf a) (post := fun x => post x (a, t)) (fun _ => True) 49
    (fun _ _ _ _ => trivial) (fun n x _ hp => br_t cd_l49 hp) (fun n c x hc _ hW => cd_ynj4 hc hW) 49 0 0 rfl trivial h⟩
theorem cd_foldS {σ : Type} (g : Nat → σ → σ) (c : Nat) : ∀ d i s, cd_fold (fun b => g (c + b)) d i s = cd_fold g d (c + i) s := by
  intro d
  induction d with
  | zero => intro i s; rfl
  | succ d ih => intro i s; exact ih (i + 1) (g (c + i) s)
theorem cd_fold0 {σ : Type} {g : Nat → σ → σ} : ∀ d i s, (∀ c s, i ≤ c → c < i + d → g c s = s) → cd_fold g d i s = s := by
  intro d
  induction d with
  | zero => intro i s _; rfl
  | succ d ih =>
    intro i s h
    show cd_fold g d (i + 1) (g i s) = s
    rw [h i s (by omega) (by omega)]
    exact ih (i + 1) s (fun c s h1 h2 => h c s (by omega) (by omega))
theorem cd_opF {a : Nat → Int32} {i c : Nat} (h1 : 7 * i ≤ c) (h2 : c < 7 * i + (i + 1)) (hi : i < 7) : cd_op a c = false := by
  unfold cd_op
  rw [decide_eq_false (by omega), Bool.false_and]
theorem cd_opR {a : Nat → Int32} {i b : Nat} (hb : b < 7) (hl : i < b) : cd_op a (7 * i + b) = !bt (a i) b := by
  unfold cd_op
  rw [show (7 * i + b) / 7 = i by omega, show (7 * i + b) % 7 = b by omega, decide_eq_true hl, Bool.true_and]
theorem cd_row (a : Nat → Int32) {i : Nat} (hi : i < 7) (x : Int32) : cd_fold (fun b => cd_nf a (7 * i + b)) (6 - i) (i + 1) x = cd_fold (cd_nf a) 7 (7 * i) x := by
  rw [cd_foldS, show (7 : Nat) = (i + 1) + (6 - i) by omega, cd_foldA]
  rw [show (i + 1) + (6 - i) = 7 by omega]
  rw [cd_fold0 (i + 1) (7 * i) x (fun c s h1 h2 => cd_nf0 (by rw [cd_opF h1 h2 hi, Bool.false_and]))]
theorem cd_rows {σ : Type} (g : Nat → σ → σ) (s : σ) : cd_fold (fun i s => cd_fold g 7 (7 * i) s) 7 0 s = cd_fold g 49 0 s := rfl
theorem cd_x49 {post : Int32 → SX → Prop} {J4 J14 : Int32 → Int32 → (Nat → Int32) → (Nat → Int32) → Prop} {a t : Nat → Int32} {i b : Nat} {x : Int32} (G : cd_G a) (hi : i < 7) (hb : b < 7) (ne : i ≠ b) (e : bt (a i) b = false) (h : J14 x (nI (b + 1)) a t) : wX_neatJoins_49 post J4 J14 x (nI i) (nI b) (cd_flip a i b) t := by
  refine cd_part1 (cd_flipG G hi hb ne) hi hb ne (by rw [cd_flip1 hi hb ne, e]; rfl) (nm_r (nI_1 b) ?_)
  rw [cd_flip2 hi hb ne]
  exact h
theorem cd_xnj14 {post : Int32 → SX → Prop} {J : Int32 → Int32 → (Nat → Int32) → (Nat → Int32) → Prop} {a t : Nat → Int32} {i : Nat} {x : Int32} (G : cd_G a) (hi : i < 7) (h : J (cd_fold (cd_nf a) 7 (7 * i) x) (nI (i + 1)) a t) : wX_neatJoins_14 post J (nI i) (6 - i + 1) x (nI (i + 1)) a t := by
  rw [← cd_row a hi] at h
  refine cd_loopL (W := fun n b x => wX_neatJoins_14 post J (nI i) n x (nI b) a t) (f := fun b => cd_nf a (7 * i + b)) (post := fun x => J x (nI (i + 1)) a t) (i + 1) 7
    (fun n x hp => br_t cd_l7 (nm_r (nI_1 i) hp)) ?_ (6 - i) (i + 1) x (by omega) (by omega) h
  intro n b x hl hb hW
  have ne : i ≠ b := by omega
  have hr := cd_opR (a := a) hb hl
  have q1 : (7 * i + b) / 7 = i := by omega
  have q2 : (7 * i + b) % 7 = b := by omega
  refine br_f (cd_g7 hb) ⟨cd_in7 hi, cd_xhas hb ?_⟩
  rw [cd_cl (by omega)]
  refine cd_c0 (fun e => cd_link0 G hi hb ne e (cd_xneat (cd_c0 (fun e2 => cd_x49 G hi hb ne e ?_) (fun e2 => nm_e (cd_x49 G hi hb ne e ?_))))) (fun e => nm_r (nI_1 b) ?_)
  · rw [cd_nf0 (by rw [q1, q2, e2, Bool.and_false])] at hW
    exact hW
  · rw [cd_nf1 (by rw [hr, q1, q2, e, e2]; rfl)] at hW
    exact hW
  · rw [cd_nf0 (by rw [hr, e]; rfl)] at hW
    exact hW
theorem cd_xnj {post : Int32 → SX → Prop} {a t : Nat → Int32} (G : cd_G a) (h : post (cd_nj a) (a, t)) : wpX_neatJoins post (a, t) := by
  unfold cd_nj at h
  rw [← cd_rows] at h
  refine ⟨8, cd_loop (W := fun n i x => wX_neatJoins_4 post n x (nI i) a t) (f := fun i x => cd_fold (cd_nf a) 7 (7 * i) x) (post := fun x => post x (a, t)) (fun _ => True) 7
    (fun _ _ _ _ => trivial) (fun n x _ hp => br_t cd_l7 hp) ?_ 7 0 0 rfl trivial h⟩
  intro n i x hi _ hW
  exact br_f (cd_g7 hi) (nm_r (nI_1 i) ⟨6 - i + 1, cd_xnj14 G hi hW⟩)
/-! fill -/
/-- cell c doesn't lead to a neat graph by one pair more -/
def cd_fp (a : Nat → Int32) (c : Nat) : Bool := !(cd_op a c && !decide (cd_nj (cd_flip a (c / 7) (c % 7)) ≤ 0))
def cd_fill (a : Nat → Int32) : Int32 := if cd_neat a then 0 else if cd_nj a ≤ 0 then (if cd_all (cd_fp a) 49 0 then 3 else 2) else 1
theorem cd_yf64 {post : Int32 → SY → Prop} {J : Int32 → Int32 → (Nat → Int32) → (Nat → Int32) → Prop} {a t : Nat → Int32} {c : Nat} {z : Int32} (hc : c < 49) (h : J z (nI (c + 1)) (cd_flip a (c / 7) (c % 7)) t) : wY_fill_64 post J (nI c) z a t := by
  unfold wY_fill_64
  rw [cd_r7 hc, cd_d7 hc]
  exact ⟨by decide, by decide, cd_yflip (by omega) (by omega) (nm_r (nI_1 c) h)⟩
theorem cd_yf22 {post : Int32 → SY → Prop} {a t : Nat → Int32} : ∀ d c b, c + d = 49 → ((!b && cd_all (cd_fp a) d c) = true → post 3 (a, t)) → ((!b && cd_all (cd_fp a) d c) = false → post 2 (a, t)) → wY_fill_22 post (d + 1) (cd_cb b) (nI c) a t := by
  intro d
  induction d with
  | zero =>
    intro c b hc h3 h2
    have : c = 49 := by omega
    subst this
    refine br_t cd_l49 (cd_c0 (fun e => h3 ?_) (fun e => h2 ?_))
    · rw [e]; rfl
    · rw [e]; rfl
  | succ d ih =>
    intro c b hc h3 h2
    have c49 : c < 49 := by omega
    refine br_f (cd_g49 c49) (cd_c0 (fun e => ?_) (fun e => br_f (by rw [e]; decide) (h2 (by rw [e]; rfl))))
    subst e
    rw [Bool.not_false, Bool.true_and] at h3 h2
    have goT : cd_fp a c = true → wY_fill_22 post (d + 1) (cd_cb false) (nI (c + 1)) a t := fun z => by
      have e : cd_all (cd_fp a) (d + 1) c = cd_all (cd_fp a) d (c + 1) := by
        show (cd_fp a c && _) = _
        rw [z, Bool.true_and]
      rw [e] at h3 h2
      refine ih (c + 1) false (by omega) ?_ ?_
      · rw [Bool.not_false, Bool.true_and]; exact h3
      · rw [Bool.not_false, Bool.true_and]; exact h2
    have goF : cd_fp a c = false → wY_fill_22 post (d + 1) (cd_cb true) (nI (c + 1)) a t := fun z => by
      have e : cd_all (cd_fp a) (d + 1) c = false := by
        show (cd_fp a c && _) = _
        rw [z, Bool.false_and]
      rw [e] at h2
      refine ih (c + 1) true (by omega) (fun y => ?_) (fun _ => h2 rfl)
      rw [Bool.not_true, Bool.false_and] at y
      cases y
    refine cd_yop c49 (cd_c0 (fun e => nm_r (nI_1 c) (goT ?_)) (fun e => ⟨by decide, by decide, ?_⟩))
    · unfold cd_fp; rw [e]; rfl
    · rw [cd_r7 c49, cd_d7 c49]
      have ho := cd_opT e
      have f2 : cd_flip (cd_flip a (c / 7) (c % 7)) (c / 7) (c % 7) = a := cd_flip2 (by omega) (by omega) (by omega)
      refine cd_yflip (by omega) (by omega) (cd_ynj (br_c (fun e2 => cd_yf64 c49 ?_) (fun e2 => cd_yf64 c49 ?_)))
      · rw [f2]
        refine goT ?_
        unfold cd_fp
        rw [e, decide_eq_true e2]; rfl
      · rw [f2]
        refine goF ?_
        unfold cd_fp
        rw [e, decide_eq_false e2]; rfl
theorem cd_yfill {post : Int32 → SY → Prop} {a t : Nat → Int32} (h : post (cd_fill a) (a, t)) : wpY_fill post (a, t) := by
  unfold cd_fill at h
  refine cd_yneat (cd_c0 (fun e => cd_ynj (br_c (fun e2 => ⟨50, cd_yf22 49 0 false rfl (fun z => ?_) (fun z => ?_)⟩) (fun e2 => ?_))) (fun e => ?_))
  · rw [Bool.not_false, Bool.true_and] at z
    rw [e, if_pos e2, z] at h
    exact h
  · rw [Bool.not_false, Bool.true_and] at z
    rw [e, if_pos e2, z] at h
    exact h
  · rw [e, if_neg e2] at h
    exact h
  · rw [e] at h
    exact h
theorem cd_loopBL {W : Nat → Nat → Prop} {p : Nat → Bool} {A B : Prop} (lo e : Nat) (hx : ∀ n, A → W (n + 1) e)
    (ht : ∀ n i, lo ≤ i → i < e → p i = true → W n (i + 1) → W (n + 1) i)
    (hf : ∀ n i, lo ≤ i → i < e → p i = false → B → W (n + 1) i) :
    ∀ d i, lo ≤ i → i + d = e → (cd_all p d i = true → A) → (cd_all p d i = false → B) → W (d + 1) i := by
  intro d
  induction d with
  | zero =>
    intro i _ hi ha hb
    have : i = e := by omega
    subst this
    exact hx 0 (ha rfl)
  | succ d ih =>
    intro i hl hi ha hb
    cases h : p i with
    | true =>
      have e1 : cd_all p (d + 1) i = cd_all p d (i + 1) := by simp [cd_all, h]
      exact ht (d + 1) i hl (by omega) h (ih (i + 1) (by omega) (by omega) (fun z => ha (e1.trans z)) (fun z => hb (e1.trans z)))
    | false =>
      exact hf (d + 1) i hl (by omega) h (hb (by simp [cd_all, h]))
theorem cd_frow (a : Nat → Int32) {i : Nat} (hi : i < 7) : cd_all (fun b => cd_fp a (7 * i + b)) (6 - i) (i + 1) = cd_all (cd_fp a) 7 (7 * i) := by
  rw [Bool.eq_iff_iff, cd_allT, cd_allT]
  constructor
  · intro h c h1 h2
    by_cases hc : c < 7 * i + (i + 1)
    · unfold cd_fp
      rw [cd_opF h1 hc hi]
      rfl
    · have k := h (c - 7 * i) (by omega) (by omega)
      rw [show 7 * i + (c - 7 * i) = c by omega] at k
      exact k
  · intro h b h1 h2
    exact h (7 * i + b) (by omega) (by omega)
theorem cd_frows (p : Nat → Bool) : cd_all (fun i => cd_all p 7 (7 * i)) 7 0 = cd_all p 49 0 := by
  rw [Bool.eq_iff_iff, cd_allT, cd_allT]
  constructor
  · intro h c _ h2
    have k := h (c / 7) (by omega) (by omega)
    rw [cd_allT] at k
    exact k c (by omega) (by omega)
  · intro h i _ h2
    rw [cd_allT]
    intro c h3 h4
    exact h c (by omega) (by omega)
theorem cd_xf30 {post : Int32 → SX → Prop} {J : Int32 → (Nat → Int32) → (Nat → Int32) → Prop} {a t : Nat → Int32} {i : Nat} (G : cd_G a) (hi : i < 7) (h1 : cd_all (cd_fp a) 7 (7 * i) = true → J (nI (i + 1)) a t) (h0 : cd_all (cd_fp a) 7 (7 * i) = false → post 2 (a, t)) : wX_fill_30 post J (nI i) (6 - i + 1) (nI (i + 1)) a t := by
  rw [← cd_frow a hi] at h1 h0
  refine cd_loopBL (W := fun n b => wX_fill_30 post J (nI i) n (nI b) a t) (p := fun b => cd_fp a (7 * i + b)) (A := J (nI (i + 1)) a t) (B := post 2 (a, t)) (i + 1) 7
    (fun n hp => br_t cd_l7 (nm_r (nI_1 i) hp)) ?_ ?_ (6 - i) (i + 1) (by omega) (by omega) h1 h0
  · intro n b hl hb hp hW
    have ne : i ≠ b := by omega
    unfold cd_fp at hp
    rw [cd_opR hb hl, show (7 * i + b) / 7 = i by omega, show (7 * i + b) % 7 = b by omega] at hp
    refine br_f (cd_g7 hb) ⟨cd_in7 hi, cd_xhas hb ?_⟩
    rw [cd_cl (by omega)]
    refine cd_c0 (fun e => cd_link0 G hi hb ne e (cd_xnj (cd_flipG G hi hb ne) (cd_part1 (cd_flipG G hi hb ne) hi hb ne (by rw [cd_flip1 hi hb ne, e]; rfl) ?_))) (fun e => nm_r (nI_1 b) hW)
    rw [cd_flip2 hi hb ne]
    have e2 : cd_nj (cd_flip a i b) ≤ 0 := by
      rw [e] at hp
      simpa using hp
    exact br_t e2 (nm_r (nI_1 b) hW)
  · intro n b hl hb hp h2
    have ne : i ≠ b := by omega
    unfold cd_fp at hp
    rw [cd_opR hb hl, show (7 * i + b) / 7 = i by omega, show (7 * i + b) % 7 = b by omega] at hp
    refine br_f (cd_g7 hb) ⟨cd_in7 hi, cd_xhas hb ?_⟩
    rw [cd_cl (by omega)]
    refine cd_c0 (fun e => cd_link0 G hi hb ne e (cd_xnj (cd_flipG G hi hb ne) (cd_part1 (cd_flipG G hi hb ne) hi hb ne (by rw [cd_flip1 hi hb ne, e]; rfl) ?_))) (fun e => ?_)
    · rw [cd_flip2 hi hb ne]
      have e2 : ¬ cd_nj (cd_flip a i b) ≤ 0 := by
        intro z
        rw [e, decide_eq_true z] at hp
        cases hp
      exact br_f e2 h2
    · rw [e] at hp
      cases hp
theorem cd_xfill {post : Int32 → SX → Prop} {a t : Nat → Int32} (G : cd_G a) (h : post (cd_fill a) (a, t)) : wpX_fill post (a, t) := by
  unfold cd_fill at h
  refine cd_xneat (cd_c0 (fun e => cd_xnj G (br_c (fun e2 => ⟨8, ?_⟩) (fun e2 => ?_))) (fun e => ?_))
  · rw [e, if_pos e2, ← cd_frows] at h
    refine cd_loopB (W := fun n i => wX_fill_20 post n (nI i) a t) (p := fun i => cd_all (cd_fp a) 7 (7 * i)) (A := post 3 (a, t)) (B := post 2 (a, t)) 7
      (fun n hp => br_t cd_l7 hp) ?_ ?_ 7 0 rfl (fun z => ?_) (fun z => ?_)
    · intro n i hi hp hW
      refine br_f (cd_g7 hi) (nm_r (nI_1 i) ⟨6 - i + 1, cd_xf30 G hi (fun _ => hW) (fun z => ?_)⟩)
      rw [hp] at z; cases z
    · intro n i hi hp h2
      refine br_f (cd_g7 hi) (nm_r (nI_1 i) ⟨6 - i + 1, cd_xf30 G hi (fun z => ?_) (fun _ => h2)⟩)
      rw [hp] at z; cases z
    · rw [z] at h; exact h
    · rw [z] at h; exact h
  · rw [e, if_neg e2] at h
    exact h
  · rw [e] at h
    exact h
end
section
/-! ===== colours, orders ===== -/
def cd_ix (k : Nat) (m : Int32) : Nat := (nI k &&& (m ^^^ (-1))).toNatClampNeg
theorem cd_ixE {k : Nat} (hk : k < 128) (m : Int32) : nI k &&& (m ^^^ (-1)) = nI (cd_ix k m) ∧ cd_ix k m < 128 := by
  obtain ⟨j, hj, e⟩ := cd_andL hk (m ^^^ (-1))
  have e2 : cd_ix k m = j := by unfold cd_ix; rw [e]; exact cd_cl hj
  rw [e2]
  exact ⟨e, hj⟩
theorem cd_ixIn {k : Nat} (hk : k < 128) (m : Int32) : vp_in (nI k &&& (m ^^^ (-1))) 128 := by
  rw [(cd_ixE hk m).1]
  exact cd_in128 (cd_ixE hk m).2
/-- a set without a vertex of its own is another set -/
theorem cd_ixne {k v : Nat} {m : Int32} (hk : k < 128) (hv : v < 32) (h1 : bt (nI k) v = true) (h2 : bt m v = true) : cd_ix k m ≠ k := by
  intro z
  have e := (cd_ixE hk m).1
  rw [z] at e
  have e3 : bt (nI k &&& (m ^^^ (-1))) v = bt (nI k) v := by rw [e]
  rw [b_and, b_xor, b_m1 v hv, h1, h2] at e3
  cases e3
theorem cd_ixneS {k j : Nat} (hk : k < 128) (h0 : 0 < j) (hj : j < 128) (hs : (nI j &&& (nI k ^^^ (-1))) = 0) : cd_ix k (nI j) ≠ k := by
  intro z
  have e := (cd_ixE hk (nI j)).1
  rw [z] at e
  have j0 : nI j = 0 := by
    rw [cd_zero] at hs ⊢
    intro i hi
    have s1 := hs i hi
    have e3 : bt (nI k &&& (nI j ^^^ (-1))) i = bt (nI k) i := by rw [e]
    rw [b_and, b_xor, b_m1 i hi] at s1 e3
    cases hk' : bt (nI k) i
    · rw [hk'] at s1
      simpa using s1
    · rw [hk'] at e3
      simpa using e3
  exact nI_ne0 h0 (by omega) j0
def cd_cf (a t : Nat → Int32) (k j : Nat) (x : Int32) : Int32 := if decide ((nI j &&& (nI k ^^^ (-1))) = 0) && cd_ap a (nI j) then (if x ≤ t (cd_ix k (nI j)) + 1 then x else t (cd_ix k (nI j)) + 1) else x
def cd_colOf (a t : Nat → Int32) (k : Nat) : Int32 := cd_fold (cd_cf a t k) k 1 7
theorem cd_cf0 {a t : Nat → Int32} {k j : Nat} {x : Int32} (h : (decide ((nI j &&& (nI k ^^^ (-1))) = 0) && cd_ap a (nI j)) = false) : cd_cf a t k j x = x := by unfold cd_cf; rw [h]; rfl
theorem cd_cf1 {a t : Nat → Int32} {k j : Nat} {x : Int32} (h : (decide ((nI j &&& (nI k ^^^ (-1))) = 0) && cd_ap a (nI j)) = true) (h2 : x ≤ t (cd_ix k (nI j)) + 1) : cd_cf a t k j x = x := by unfold cd_cf; rw [h, if_pos h2]; rfl
theorem cd_cf2 {a t : Nat → Int32} {k j : Nat} {x : Int32} (h : (decide ((nI j &&& (nI k ^^^ (-1))) = 0) && cd_ap a (nI j)) = true) (h2 : ¬ x ≤ t (cd_ix k (nI j)) + 1) : cd_cf a t k j x = t (cd_ix k (nI j)) + 1 := by unfold cd_cf; rw [h, if_neg h2]; rfl
theorem cd_xcolOf {post : Int32 → Prop} {a t : Nat → Int32} {k : Nat} (hk : k < 128) (h : post (cd_colOf a t k)) : wpX_coloursOf post (a, t) (nI k) := by
  refine ⟨k + 1, cd_loopL (W := fun n j x => wX_coloursOf_5 post (nI k) a t n x (nI j)) (f := cd_cf a t k) (post := post) 1 (k + 1)
    (fun n x hp => br_t (nI_lt (by omega) (by omega)) hp) ?_ k 1 7 (by omega) (by omega) h⟩
  intro n j x hl hj hW
  refine br_f (nI_nlt (by omega) (by omega)) (br_c (fun e1 => cd_xnone (cd_c0 (fun e2 => nm_r (nI_1 j) ?_) (fun e2 => ⟨cd_ixIn hk _, nm_e (br_c (fun e3 => nm_r (nI_1 j) ?_) (fun e3 => nm_r (nI_1 j) ?_))⟩))) (fun e1 => nm_r (nI_1 j) ?_))
  · rw [cd_cf0 (by rw [e2, Bool.and_false])] at hW
    exact hW
  · rw [cd_cf1 (by rw [decide_eq_true e1, e2]; rfl) e3] at hW
    exact hW
  · rw [cd_cf2 (by rw [decide_eq_true e1, e2]; rfl) e3] at hW
    exact hW
  · rw [cd_cf0 (by rw [decide_eq_false e1, Bool.false_and])] at hW
    exact hW
theorem cd_y52z {post : Int32 → SY → Prop} {J9 J26 : Int32 → (Nat → Int32) → (Nat → Int32) → Prop} {a t : Nat → Int32} {k j : Nat} (hk : k < 128) (h : J26 (nI (j + 1)) a t) : wY_colours_52 post J9 J26 (nI k) (nI j) 0 a t := by
  refine br_t rfl ⟨cd_in128 hk, cd_in128 hk, nm_r (cd_usame t _) (nm_r (nI_1 j) h)⟩
theorem cd_y26 {post : Int32 → SY → Prop} {J : Int32 → (Nat → Int32) → (Nat → Int32) → Prop} {a t : Nat → Int32} {k : Nat} (hk : k < 128) (x : Int32) (h : J (nI (k + 1)) a (upd t k (cd_fold (cd_cf a t k) k 1 x))) : wY_colours_26 post J (nI k) (k + 1) (nI 1) a (upd t k x) := by
  refine cd_loopL (W := fun n j x => wY_colours_26 post J (nI k) n (nI j) a (upd t k x)) (f := cd_cf a t k) (post := fun x => J (nI (k + 1)) a (upd t k x)) 1 (k + 1)
    (fun n x hp => br_t (nI_lt (by omega) (by omega)) (nm_r (nI_1 k) hp)) ?_ k 1 x (by omega) (by omega) h
  intro n j x hl hj hW
  refine br_f (nI_nlt (by omega) (by omega)) (br_c (fun e1 => cd_yapart (cd_c0 (fun e2 => cd_y52z hk ?_) (fun e2 => br_f (by decide) ⟨cd_ixIn hk _, cd_in128 hk, ?_⟩))) (fun e1 => cd_y52z hk ?_))
  · rw [cd_cf0 (by rw [e2, Bool.and_false])] at hW
    exact hW
  · have ne := cd_ixneS hk (by omega) (by omega : j < 128) e1
    have u1 : upd t k x (nI k).toNatClampNeg = x := by rw [cd_cl hk]; exact cd_us
    have u2 : upd t k x (nI k &&& (nI j ^^^ (-1))).toNatClampNeg = t (cd_ix k (nI j)) := cd_un ne
    rw [u1, u2]
    refine br_c (fun e3 => ⟨cd_in128 hk, cd_in128 hk, nm_r (e' := upd t k x) ?_ (nm_r (nI_1 j) ?_)⟩) (fun e3 => ⟨cd_ixIn hk _, cd_in128 hk, nm_r (e' := upd t k (t (cd_ix k (nI j)) + 1)) ?_ (nm_r (nI_1 j) ?_)⟩)
    · rw [cd_cl hk, cd_uu]
    · rw [cd_cf1 (by rw [decide_eq_true e1, e2]; rfl) e3] at hW
      exact hW
    · rw [cd_cl hk, cd_uu]
    · rw [cd_cf2 (by rw [decide_eq_true e1, e2]; rfl) e3] at hW
      exact hW
  · rw [cd_cf0 (by rw [decide_eq_false e1, Bool.false_and])] at hW
    exact hW
def cd_col (a t : Nat → Int32) : Nat → Int32 := cd_fold (fun k t => upd t k (cd_colOf a t k)) 127 1 (upd t 0 0)
theorem cd_xcol {post : Int32 → SX → Prop} {a t : Nat → Int32} (h : post (cd_col a t 127) (a, cd_col a t)) : wpX_colours post (a, t) := by
  refine nm_e ⟨128, cd_loopL (W := fun n k t => wX_colours_9 post n (nI k) a t) (f := fun k t => upd t k (cd_colOf a t k)) (post := fun t => post (t 127) (a, t)) 1 128
    (fun n x hp => br_t cd_l128 hp) ?_ 127 1 (upd t 0 0) (by omega) (by omega) h⟩
  intro n k t hl hk hW
  refine br_f (cd_g128 hk) (cd_xcolOf hk ⟨cd_in128 hk, nm_r (e' := upd t k (cd_colOf a t k)) ?_ (nm_r (nI_1 k) hW)⟩)
  rw [cd_cl hk]
theorem cd_ycol {post : Int32 → SY → Prop} {a t : Nat → Int32} (h : post (cd_col a t 127) (a, cd_col a t)) : wpY_colours post (a, t) := by
  refine nm_e ⟨128, cd_loopL (W := fun n k t => wY_colours_9 post n (nI k) a t) (f := fun k t => upd t k (cd_colOf a t k)) (post := fun t => post (t 127) (a, t)) 1 128
    (fun n x hp => br_t cd_l128 hp) ?_ 127 1 (upd t 0 0) (by omega) (by omega) h⟩
  intro n k t hl hk hW
  refine br_f (cd_g128 hk) ⟨cd_in128 hk, nm_r (e' := upd t k 7) ?_ ⟨k + 1, cd_y26 hk 7 hW⟩⟩
  rw [cd_cl hk]
/-! orders -/
def cd_of (a t : Nat → Int32) (k v : Nat) (x : Int32) : Int32 := if bt (nI k) v && cd_aj a (a v &&& nI k) then x + t (cd_ix k (cd_m v)) else x
def cd_ordOf (a t : Nat → Int32) (k : Nat) : Int32 := cd_fold (cd_of a t k) 7 0 0
theorem cd_of0 {a t : Nat → Int32} {k v : Nat} {x : Int32} (h : (bt (nI k) v && cd_aj a (a v &&& nI k)) = false) : cd_of a t k v x = x := by unfold cd_of; rw [h]; rfl
theorem cd_of1 {a t : Nat → Int32} {k v : Nat} {x : Int32} (h : (bt (nI k) v && cd_aj a (a v &&& nI k)) = true) : cd_of a t k v x = x + t (cd_ix k (cd_m v)) := by unfold cd_of; rw [h]; rfl
theorem cd_xordOf {post : Int32 → Prop} {a t : Nat → Int32} {k : Nat} (hk : k < 128) (h : post (cd_ordOf a t k)) : wpX_ordersOf post (a, t) (nI k) := by
  refine ⟨8, cd_loopL (W := fun n v x => wX_ordersOf_4 post (nI k) a t n x (nI v)) (f := cd_of a t k) (post := post) 0 7
    (fun n x hp => br_t cd_l7 hp) ?_ 7 0 0 (by omega) (by omega) h⟩
  intro n v x _ hv hW
  refine br_f (cd_g7 hv) (cd_xhas hv (cd_c0 (fun e => nm_r (nI_1 v) ?_) (fun e => cd_xeasy hv (cd_c0 (fun e2 => nm_r (nI_1 v) ?_) (fun e2 => ⟨cd_ixIn hk _, nm_e (nm_r (nI_1 v) ?_)⟩)))))
  · rw [cd_of0 (by rw [e, Bool.false_and])] at hW
    exact hW
  · rw [cd_of0 (by rw [e2, Bool.and_false])] at hW
    exact hW
  · rw [cd_of1 (by rw [e, e2]; rfl)] at hW
    exact hW
theorem cd_y54z {post : Int32 → SY → Prop} {J9 J25 : Int32 → (Nat → Int32) → (Nat → Int32) → Prop} {a t : Nat → Int32} {k j : Nat} (hk : k < 128) (h : J25 (nI (j + 1)) a t) : wY_orders_54 post J9 J25 (nI k) (nI j) 0 a t := by
  refine br_t rfl ⟨cd_in128 hk, cd_in128 hk, nm_r (cd_usame t _) (nm_r (nI_1 j) h)⟩
theorem cd_y25 {post : Int32 → SY → Prop} {J : Int32 → (Nat → Int32) → (Nat → Int32) → Prop} {a t : Nat → Int32} {k : Nat} (G : cd_G a) (hk : k < 128) (x : Int32) (h : J (nI (k + 1)) a (upd t k (cd_fold (cd_of a t k) 7 0 x))) : wY_orders_25 post J (nI k) 8 (nI 0) a (upd t k x) := by
  refine cd_loopL (W := fun n j x => wY_orders_25 post J (nI k) n (nI j) a (upd t k x)) (f := cd_of a t k) (post := fun x => J (nI (k + 1)) a (upd t k x)) 0 7
    (fun n x hp => br_t cd_l7 (nm_r (nI_1 k) hp)) ?_ 7 0 x (by omega) (by omega) h
  intro n v x _ hv hW
  refine br_f (cd_g7 hv) (cd_b1 (by omega) (fun e => cd_yeasy G hv hk (cd_c0 (fun e2 => cd_y54z hk ?_) (fun e2 => br_f (by decide) ⟨cd_in128 hk, cd_ixIn hk _, cd_in128 hk, nm_r (e' := upd t k (x + t (cd_ix k (cd_m v)))) ?_ (nm_r (nI_1 v) ?_)⟩))) (fun e => cd_y54z hk ?_))
  · rw [cd_of0 (by rw [e2, Bool.and_false])] at hW
    exact hW
  · have ne := cd_ixne (m := cd_m v) hk (by omega : v < 32) e (by rw [cd_btm (by omega) (by omega)]; simp)
    have u1 : upd t k x (nI k).toNatClampNeg = x := by rw [cd_cl hk]; exact cd_us
    have u2 : upd t k x (nI k &&& (cd_m v ^^^ (-1))).toNatClampNeg = t (cd_ix k (cd_m v)) := cd_un ne
    show upd (upd t k x) (nI k).toNatClampNeg (upd t k x (nI k).toNatClampNeg + upd t k x (nI k &&& (cd_m v ^^^ (-1))).toNatClampNeg) = _
    rw [u1, u2, cd_cl hk, cd_uu]
  · rw [cd_of1 (by rw [e, e2]; rfl)] at hW
    exact hW
  · rw [cd_of0 (by rw [e, Bool.false_and])] at hW
    exact hW
def cd_ord (a t : Nat → Int32) : Nat → Int32 := cd_fold (fun k t => upd t k (cd_ordOf a t k)) 127 1 (upd t 0 1)
theorem cd_xord {post : Int32 → SX → Prop} {a t : Nat → Int32} (h : post (cd_ord a t 127) (a, cd_ord a t)) : wpX_orders post (a, t) := by
  refine nm_e ⟨128, cd_loopL (W := fun n k t => wX_orders_9 post n (nI k) a t) (f := fun k t => upd t k (cd_ordOf a t k)) (post := fun t => post (t 127) (a, t)) 1 128
    (fun n x hp => br_t cd_l128 hp) ?_ 127 1 (upd t 0 1) (by omega) (by omega) h⟩
  intro n k t hl hk hW
  refine br_f (cd_g128 hk) (cd_xordOf hk ⟨cd_in128 hk, nm_r (e' := upd t k (cd_ordOf a t k)) ?_ (nm_r (nI_1 k) hW)⟩)
  rw [cd_cl hk]
theorem cd_yord {post : Int32 → SY → Prop} {a t : Nat → Int32} (G : cd_G a) (h : post (cd_ord a t 127) (a, cd_ord a t)) : wpY_orders post (a, t) := by
  refine nm_e ⟨128, cd_loopL (W := fun n k t => wY_orders_9 post n (nI k) a t) (f := fun k t => upd t k (cd_ordOf a t k)) (post := fun t => post (t 127) (a, t)) 1 128
    (fun n x hp => br_t cd_l128 hp) ?_ 127 1 (upd t 0 1) (by omega) (by omega) h⟩
  intro n k t hl hk hW
  refine br_f (cd_g128 hk) ⟨cd_in128 hk, nm_r (e' := upd t k 0) ?_ ⟨8, cd_y25 G hk 0 hW⟩⟩
  rw [cd_cl hk]
end
section
/-! ===== what is owed ===== -/
theorem cd_rng (x : Int32) : x < 0 ∨ (¬ x < 0 ∧ 7 ≤ x ∧ 6 < x) ∨ ∃ j, j < 7 ∧ x = nI j := by
  by_cases h : x < 0
  · exact .inl h
  · obtain ⟨j, hj, rfl⟩ := nI_of h
    rcases Nat.lt_or_ge j 7 with h7 | h7
    · exact .inr (.inr ⟨j, h7, rfl⟩)
    · exact .inr (.inl ⟨h, nI_le (a := 7) h7 hj, nI_lt (a := 6) (by omega) hj⟩)
theorem cd_rng2 (x : Int32) : x < 0 ∨ (¬ x < 0 ∧ 127 < x) ∨ ∃ j, j < 128 ∧ x = nI j := by
  by_cases h : x < 0
  · exact .inl h
  · obtain ⟨j, hj, rfl⟩ := nI_of h
    rcases Nat.lt_or_ge j 128 with h7 | h7
    · exact .inr (.inr ⟨j, h7, rfl⟩)
    · exact .inr (.inl ⟨h, nI_lt (a := 127) (by omega) hj⟩)
theorem cd_n6 {j : Nat} (h : j < 7) : ¬ (6 : Int32) < nI j := nI_nlt (a := 6) (by omega) (by decide)
theorem cd_isv1 {post : Int32 → Prop} {j : Nat} (hj : j < 7) (h : post 1) : wpX_isVertex post (nI j) := br_f (cd_n0 (by omega)) (br_f (cd_g7 hj) h)
theorem cd_isv0 {post : Int32 → Prop} {x : Int32} (hx : x < 0 ∨ (¬ x < 0 ∧ 7 ≤ x ∧ 6 < x)) (h : post 0) : wpX_isVertex post x :=
  hx.elim (fun z => br_t z h) (fun z => br_f z.1 (br_t z.2.1 h))
/-- the two hold the same arrays; who is joined to whom is the same from both ends, and nobody to himself -/
def i_Rel (k : Nat) (u : SX) (v : SY) : Prop := u = v ∧ cd_G u.1
theorem i_up {k : Nat} {u : SX} {v : SY} (h : i_Rel k u v) : i_Rel (k + 4) u v := h
theorem i_vc0 : wpX_init (fun u => wpY_init (fun v => i_Rel 0 u v)) :=
  ⟨rfl, fun i j _ _ => (b_0 j).trans (b_0 i).symm, fun i _ => b_0 i⟩
theorem cd_ypair0 {post : Int32 → Prop} {u : SY} {x y : Int32} (h : x = y ∨ (x < 0 ∨ (¬ x < 0 ∧ 7 ≤ x ∧ 6 < x)) ∨ (y < 0 ∨ (¬ y < 0 ∧ 7 ≤ y ∧ 6 < y))) (hp : post 0) : wpY_pair post u x y := by
  obtain ⟨a, t⟩ := u
  refine br_c (fun _ => hp) (fun e => br_c (fun _ => hp) (fun e1 => br_c (fun _ => hp) (fun e2 => br_c (fun _ => hp) (fun e3 => br_c (fun _ => hp) (fun e4 => ?_)))))
  rcases h with h | (h | h) | (h | h)
  · exact absurd h e
  · exact absurd h e1
  · exact absurd h.2.2 e2
  · exact absurd h e3
  · exact absurd h.2.2 e4
theorem cd_ypair1 {post : Int32 → Prop} {u : SY} {i j : Nat} (hi : i < 7) (hj : j < 7) (ne : ¬ nI i = nI j) (hp : post 1) : wpY_pair post u (nI i) (nI j) :=
  br_f ne (br_f (cd_n0 (by omega)) (br_f (cd_n6 hi) (br_f (cd_n0 (by omega)) (br_f (cd_n6 hj) hp))))
theorem cd_yjoined {post : Int32 → Prop} {a t : Nat → Int32} {i j : Nat} (hi : i < 7) (hj : j < 7) (h : post (cd_cb (bt (a i) j))) : wpY_joined post (a, t) (nI i) (nI j) := by
  refine ⟨cd_in7 hi, ?_⟩
  rw [cd_cl (by omega)]
  exact cd_b1 (by omega) (fun e => by rw [e] at h; exact h) (fun e => by rw [e] at h; exact h)
theorem cd_yj0 {post : Int32 → SY → Prop} {a t : Nat → Int32} {x y z : Int32} (h : x = y ∨ (x < 0 ∨ (¬ x < 0 ∧ 7 ≤ x ∧ 6 < x)) ∨ (y < 0 ∨ (¬ y < 0 ∧ 7 ≤ y ∧ 6 < y))) (hp : post 0 (a, t)) : wpY_join post (a, t) x y z := by
  unfold wpY_join
  dsimp only
  exact cd_ypair0 h (br_t rfl hp)
theorem cd_yj1 {post : Int32 → SY → Prop} {a t : Nat → Int32} {i j : Nat} {z : Int32} (hi : i < 7) (hj : j < 7) (ne : ¬ nI i = nI j) (h1 : cd_cb (bt (a i) j) = z → post 1 (a, t)) (h2 : ¬ cd_cb (bt (a i) j) = z → post 1 (cd_flip a i j, t)) : wpY_join post (a, t) (nI i) (nI j) z := by
  unfold wpY_join
  dsimp only
  exact cd_ypair1 hi hj ne (br_f (by decide) (cd_yjoined hi hj (br_c h1 (fun e => cd_yflip hi hj (h2 e)))))
theorem cd_xj0 {post : Int32 → SX → Prop} {a t : Nat → Int32} {x y z : Int32} (h : x = y ∨ (x < 0 ∨ (¬ x < 0 ∧ 7 ≤ x ∧ 6 < x)) ∨ ((∃ i, i < 7 ∧ x = nI i) ∧ (y < 0 ∨ (¬ y < 0 ∧ 7 ≤ y ∧ 6 < y)))) (hp : post 0 (a, t)) : wpX_join post (a, t) x y z := by
  unfold wpX_join
  dsimp only
  refine br_c (fun _ => hp) (fun e => ?_)
  rcases h with h | h | ⟨⟨i, hi, rfl⟩, h⟩
  · exact absurd h e
  · exact cd_isv0 h (br_t rfl hp)
  · exact cd_isv1 hi (br_f (by decide) (cd_isv0 h (br_t rfl hp)))
theorem cd_xj1 {post : Int32 → SX → Prop} {a t : Nat → Int32} {i j : Nat} {z : Int32} (G : cd_G a) (hi : i < 7) (hj : j < 7) (ne : ¬ nI i = nI j) (hz : z = 0 ∨ z = 1) (h1 : cd_cb (bt (a i) j) = z → post 1 (a, t)) (h2 : ¬ cd_cb (bt (a i) j) = z → post 1 (cd_flip a i j, t)) : wpX_join post (a, t) (nI i) (nI j) z := by
  have ne' : i ≠ j := fun y => ne (by rw [y])
  unfold wpX_join
  dsimp only
  refine br_f ne (cd_isv1 hi (br_f (by decide) (cd_isv1 hj (br_f (by decide) ?_))))
  rcases hz with rfl | rfl
  · refine br_t rfl ?_
    cases hb : bt (a i) j
    · exact cd_part0 G hi hj hb (h1 (by rw [hb]; rfl))
    · exact cd_part1 G hi hj ne' hb (h2 (by rw [hb]; decide))
  · refine br_f (by decide) ?_
    cases hb : bt (a i) j
    · exact cd_link0 G hi hj ne' hb (h2 (by rw [hb]; decide))
    · exact cd_link1 G hi hj hb (h1 (by rw [hb]; rfl))
theorem i_vc_join {k : Nat} {u : SX} {v : SY} (I : i_Rel k u v) (hk : k + 4 ≤ 2048) (v1 : Int32) (v2 : Int32) (v3 : Int32) : wpX_join (fun r u' => wpY_join (fun r' v' => r' = r ∧ i_Rel (k + 4) u' v') v v1 v2 (lw_bz v3)) u v1 v2 (lw_bz v3) := by
  obtain ⟨rfl, G⟩ := I
  obtain ⟨a, t⟩ := u
  by_cases e : v1 = v2
  · exact cd_xj0 (.inl e) (cd_yj0 (.inl e) ⟨rfl, rfl, G⟩)
  rcases cd_rng v1 with h1 | h1 | ⟨i, hi, e1⟩
  · exact cd_xj0 (.inr (.inl (.inl h1))) (cd_yj0 (.inr (.inl (.inl h1))) ⟨rfl, rfl, G⟩)
  · exact cd_xj0 (.inr (.inl (.inr h1))) (cd_yj0 (.inr (.inl (.inr h1))) ⟨rfl, rfl, G⟩)
  rcases cd_rng v2 with h2 | h2 | ⟨j, hj, e2⟩
  · exact cd_xj0 (.inr (.inr ⟨⟨i, hi, e1⟩, .inl h2⟩)) (cd_yj0 (.inr (.inr (.inl h2))) ⟨rfl, rfl, G⟩)
  · exact cd_xj0 (.inr (.inr ⟨⟨i, hi, e1⟩, .inr h2⟩)) (cd_yj0 (.inr (.inr (.inr h2))) ⟨rfl, rfl, G⟩)
  subst e1 e2
  have ne : i ≠ j := fun z => e (by rw [z])
  exact cd_xj1 G hi hj e (lw_bz_01 v3) (fun z => cd_yj1 hi hj e (fun _ => ⟨rfl, rfl, G⟩) (fun y => absurd z y)) (fun z => cd_yj1 hi hj e (fun y => absurd y z) (fun _ => ⟨rfl, rfl, cd_flipG G hi hj ne⟩))
theorem i_vc_neighbours {k : Nat} {u : SX} {v : SY} (I : i_Rel k u v) (hk : k + 4 ≤ 2048) (v1 : Int32) : wpX_neighbours (fun r => wpY_neighbours (fun r' => r' = r ∧ i_Rel (k + 4) u v) v v1) u v1 := by
  obtain ⟨rfl, G⟩ := I
  obtain ⟨a, t⟩ := u
  unfold wpX_neighbours wpY_neighbours
  dsimp only
  rcases cd_rng v1 with h1 | h1 | ⟨i, hi, rfl⟩
  · exact cd_isv0 (.inl h1) (br_t rfl (br_t h1 ⟨rfl, rfl, G⟩))
  · exact cd_isv0 (.inr h1) (br_t rfl (br_f h1.1 (br_t h1.2.2 ⟨rfl, rfl, G⟩)))
  · exact cd_isv1 hi (br_f (by decide) ⟨cd_in7 hi, br_f (cd_n0 (by omega)) (br_f (cd_n6 hi) ⟨cd_in7 hi, rfl, rfl, G⟩)⟩)
theorem i_vc_joins {k : Nat} {u : SX} {v : SY} (I : i_Rel k u v) (hk : k + 4 ≤ 2048) : wpX_joins (fun r => wpY_joins (fun r' => r' = r ∧ i_Rel (k + 4) u v) v) u := by
  obtain ⟨rfl, G⟩ := I
  obtain ⟨a, t⟩ := u
  exact cd_xjoins (cd_yjoins G ⟨rfl, rfl, G⟩)
theorem i_vc_clique {k : Nat} {u : SX} {v : SY} (I : i_Rel k u v) (hk : k + 4 ≤ 2048) (v1 : Int32) : wpX_clique (fun r => wpY_clique (fun r' => r' = r ∧ i_Rel (k + 4) u v) v v1) u v1 := by
  obtain ⟨rfl, G⟩ := I
  obtain ⟨a, t⟩ := u
  rcases cd_rng2 v1 with h1 | h1 | ⟨s, hs, rfl⟩
  · refine br_t h1 (br_t h1 ⟨8, cd_yclq G 7 0 false rfl ?_⟩)
    rw [Bool.false_and]
    exact ⟨rfl, rfl, G⟩
  · refine br_f h1.1 (br_t h1.2 (br_f h1.1 (br_t h1.2 ⟨8, cd_yclq G 7 0 false rfl ?_⟩)))
    rw [Bool.false_and]
    exact ⟨rfl, rfl, G⟩
  · refine br_f (cd_n0 hs) (br_f (cd_n127 hs) (cd_xall (cd_c0 (fun e => cd_yclique G hs ?_) (fun e => cd_yclique G hs ?_))))
    · rw [e]
      exact ⟨rfl, rfl, G⟩
    · rw [e]
      exact ⟨rfl, rfl, G⟩
theorem i_vc_neat {k : Nat} {u : SX} {v : SY} (I : i_Rel k u v) (hk : k + 4 ≤ 2048) : wpX_neat (fun r => wpY_neat (fun r' => r' = r ∧ i_Rel (k + 4) u v) v) u := by
  obtain ⟨rfl, G⟩ := I
  obtain ⟨a, t⟩ := u
  exact cd_xneat (cd_yneat ⟨rfl, rfl, G⟩)
theorem i_vc_easy {k : Nat} {u : SX} {v : SY} (I : i_Rel k u v) (hk : k + 4 ≤ 2048) : wpX_easy (fun r => wpY_easy (fun r' => r' = r ∧ i_Rel (k + 4) u v) v) u := by
  obtain ⟨rfl, G⟩ := I
  obtain ⟨a, t⟩ := u
  exact cd_xeasys (cd_yeasys G ⟨rfl, rfl, G⟩)
theorem i_vc_core {k : Nat} {u : SX} {v : SY} (I : i_Rel k u v) (hk : k + 4 ≤ 2048) : wpX_core (fun r => wpY_core (fun r' => r' = r ∧ i_Rel (k + 4) u v) v) u := by
  obtain ⟨rfl, G⟩ := I
  obtain ⟨a, t⟩ := u
  exact cd_xcore (cd_ycore G ⟨rfl, rfl, G⟩)
theorem i_vc_largestClique {k : Nat} {u : SX} {v : SY} (I : i_Rel k u v) (hk : k + 4 ≤ 2048) : wpX_largestClique (fun r => wpY_largestClique (fun r' => r' = r ∧ i_Rel (k + 4) u v) v) u := by
  obtain ⟨rfl, G⟩ := I
  obtain ⟨a, t⟩ := u
  exact cd_xlclq (cd_ylclq G ⟨rfl, rfl, G⟩)
theorem i_vc_fullCliques {k : Nat} {u : SX} {v : SY} (I : i_Rel k u v) (hk : k + 4 ≤ 2048) : wpX_fullCliques (fun r => wpY_fullCliques (fun r' => r' = r ∧ i_Rel (k + 4) u v) v) u := by
  obtain ⟨rfl, G⟩ := I
  obtain ⟨a, t⟩ := u
  exact cd_xfull (cd_yfull G ⟨rfl, rfl, G⟩)
theorem i_vc_largestApart {k : Nat} {u : SX} {v : SY} (I : i_Rel k u v) (hk : k + 4 ≤ 2048) : wpX_largestApart (fun r => wpY_largestApart (fun r' => r' = r ∧ i_Rel (k + 4) u v) v) u := by
  obtain ⟨rfl, G⟩ := I
  obtain ⟨a, t⟩ := u
  exact cd_xlap (cd_ylap ⟨rfl, rfl, G⟩)
theorem i_vc_colours {k : Nat} {u : SX} {v : SY} (I : i_Rel k u v) (hk : k + 4 ≤ 2048) : wpX_colours (fun r u' => wpY_colours (fun r' v' => r' = r ∧ i_Rel (k + 4) u' v') v) u := by
  obtain ⟨rfl, G⟩ := I
  obtain ⟨a, t⟩ := u
  exact cd_xcol (cd_ycol ⟨rfl, rfl, G⟩)
theorem i_vc_orders {k : Nat} {u : SX} {v : SY} (I : i_Rel k u v) (hk : k + 4 ≤ 2048) : wpX_orders (fun r u' => wpY_orders (fun r' v' => r' = r ∧ i_Rel (k + 4) u' v') v) u := by
  obtain ⟨rfl, G⟩ := I
  obtain ⟨a, t⟩ := u
  exact cd_xord (cd_yord G ⟨rfl, rfl, G⟩)
theorem i_vc_smallestHole {k : Nat} {u : SX} {v : SY} (I : i_Rel k u v) (hk : k + 4 ≤ 2048) : wpX_smallestHole (fun r => wpY_smallestHole (fun r' => r' = r ∧ i_Rel (k + 4) u v) v) u := by
  obtain ⟨rfl, G⟩ := I
  obtain ⟨a, t⟩ := u
  exact cd_xsmall (cd_ysmall ⟨rfl, rfl, G⟩)
theorem i_vc_neatJoins {k : Nat} {u : SX} {v : SY} (I : i_Rel k u v) (hk : k + 4 ≤ 2048) : wpX_neatJoins (fun r u' => wpY_neatJoins (fun r' v' => r' = r ∧ i_Rel (k + 4) u' v') v) u := by
  obtain ⟨rfl, G⟩ := I
  obtain ⟨a, t⟩ := u
  exact cd_xnj G (cd_ynj ⟨rfl, rfl, G⟩)
theorem i_vc_fill {k : Nat} {u : SX} {v : SY} (I : i_Rel k u v) (hk : k + 4 ≤ 2048) : wpX_fill (fun r u' => wpY_fill (fun r' v' => r' = r ∧ i_Rel (k + 4) u' v') v) u := by
  obtain ⟨rfl, G⟩ := I
  obtain ⟨a, t⟩ := u
  exact cd_xfill G (cd_yfill ⟨rfl, rfl, G⟩)
end
