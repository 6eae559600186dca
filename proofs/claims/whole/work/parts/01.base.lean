def bt (x : Int32) (i : Nat) : Bool := x.toBitVec.getLsbD i
theorem b_ext {x y : Int32} (h : ∀ i, i < 32 → bt x i = bt y i) : x = y := Int32.toBitVec_inj.mp (BitVec.eq_of_getLsbD_eq (fun i hi => h i hi))
theorem b_or (x y : Int32) (i : Nat) : bt (x ||| y) i = (bt x i || bt y i) := by unfold bt; rw [Int32.toBitVec_or, BitVec.getLsbD_or]
theorem b_and (x y : Int32) (i : Nat) : bt (x &&& y) i = (bt x i && bt y i) := by unfold bt; rw [Int32.toBitVec_and, BitVec.getLsbD_and]
theorem b_xor (x y : Int32) (i : Nat) : bt (x ^^^ y) i = (bt x i ^^ bt y i) := by unfold bt; rw [Int32.toBitVec_xor, BitVec.getLsbD_xor]
theorem b_big {x : Int32} {i : Nat} (h : 32 ≤ i) : bt x i = false := BitVec.getLsbD_of_ge _ _ h
theorem b_m1 : ∀ i, i < 32 → bt (-1) i = true := by decide +kernel
theorem b_0 (i : Nat) : bt 0 i = false := BitVec.getLsbD_zero
theorem s_l : ∀ n, n < 32 → ((nI n &&& 31).toBitVec.smod 32).toNat = n := by decide +kernel
theorem b_shl (n : Nat) (hn : n < 32) (x : Int32) {i : Nat} (hi : i < 32) : bt (x <<< (nI n &&& 31)) i = (decide (n ≤ i) && bt x (i - n)) := by
  unfold bt
  rw [Int32.toBitVec_shiftLeft]
  show (x.toBitVec <<< ((nI n &&& 31).toBitVec.smod 32).toNat).getLsbD i = _
  rw [s_l n hn, BitVec.getLsbD_shiftLeft]
  rcases Nat.lt_or_ge i n with h | h
  · simp [h, Nat.not_le.mpr h]
  · simp [hi, h, Nat.not_lt.mpr h]
theorem b_sshr (n : Nat) (hn : n < 32) (x : Int32) {i : Nat} (hi : i < 32) : bt (x >>> (nI n &&& 31)) i = if n + i < 32 then bt x (n + i) else bt x 31 := by
  unfold bt
  rw [Int32.toBitVec_shiftRight]
  show (x.toBitVec.sshiftRight ((nI n &&& 31).toBitVec.smod 32).toNat).getLsbD i = _
  rw [s_l n hn, BitVec.getLsbD_sshiftRight, BitVec.msb_eq_getLsbD_last]
  simp [hi]
/-! ===== one bit, loops, folds ===== -/
def cd_cb (b : Bool) : Int32 := if b then 1 else 0
theorem cd_nar (b : Bool) : narrow .boolean (.int (cd_cb b)) = .int (cd_cb b) := by
  cases b
  · exact lw_bz_n 0
  · exact lw_bz_n 1
theorem cd_c0 {b : Bool} {A B : Prop} (f : b = false → A) (g : b = true → B) : (cd_cb b = 0 → A) ∧ (¬ cd_cb b = 0 → B) := by
  cases b
  · exact br_t rfl (f rfl)
  · exact br_f (by decide) (g rfl)
theorem cd_c1 {b : Bool} {A B : Prop} (f : b = true → A) (g : b = false → B) : (cd_cb b = 1 → A) ∧ (¬ cd_cb b = 1 → B) := by
  cases b
  · exact br_f (by decide) (g rfl)
  · exact br_t rfl (f rfl)
theorem cd_bt1 : ∀ i, i < 32 → bt 1 i = decide (i = 0) := by decide +kernel
theorem cd_btcb (b : Bool) : ∀ i, i < 32 → bt (cd_cb b) i = (b && decide (i = 0)) := by
  cases b
  · intro i _; exact b_0 i
  · intro i hi; exact (cd_bt1 i hi).trans (by simp)
theorem cd_bit (x : Int32) {v : Nat} (hv : v < 32) : ((x >>> (nI v &&& 31)) &&& 1) = cd_cb (bt x v) := by
  apply b_ext
  intro i hi
  rw [b_and, cd_btcb _ i hi, cd_bt1 i hi, b_sshr v hv x hi]
  by_cases h : i = 0
  · subst h
    simp [hv]
  · simp [h]
theorem cd_b0 {x : Int32} {v : Nat} {A B : Prop} (hv : v < 32) (f : bt x v = false → A) (g : bt x v = true → B) : (((x >>> (nI v &&& 31)) &&& 1) = 0 → A) ∧ (¬ ((x >>> (nI v &&& 31)) &&& 1) = 0 → B) := by
  rw [cd_bit x hv]
  exact cd_c0 f g
theorem cd_b1 {x : Int32} {v : Nat} {A B : Prop} (hv : v < 32) (f : bt x v = true → A) (g : bt x v = false → B) : (((x >>> (nI v &&& 31)) &&& 1) = 1 → A) ∧ (¬ ((x >>> (nI v &&& 31)) &&& 1) = 1 → B) := by
  rw [cd_bit x hv]
  exact cd_c1 f g
/-- the mask of one vertex -/
def cd_m (v : Nat) : Int32 := (1 : Int32) <<< (nI v &&& 31)
theorem cd_btm {v i : Nat} (hv : v < 32) (hi : i < 32) : bt (cd_m v) i = decide (i = v) := by
  unfold cd_m
  rw [b_shl v hv 1 hi, cd_bt1 (i - v) (by omega)]
  by_cases h : i = v
  · subst h
    simp
  · rcases Nat.lt_or_ge i v with h1 | h1
    · simp [h, Nat.not_le.mpr h1]
    · have : ¬ i - v = 0 := by omega
      simp [h, this]
theorem cd_g7 {i : Nat} (h : i < 7) : ¬ (7 : Int32) ≤ nI i := nI_ge (b := 7) h (by decide)
theorem cd_l7 : (7 : Int32) ≤ nI 7 := by decide
theorem cd_g128 {i : Nat} (h : i < 128) : ¬ (128 : Int32) ≤ nI i := nI_ge (b := 128) h (by decide)
theorem cd_l128 : (128 : Int32) ≤ nI 128 := by decide
theorem cd_g49 {i : Nat} (h : i < 49) : ¬ (49 : Int32) ≤ nI i := nI_ge (b := 49) h (by decide)
theorem cd_l49 : (49 : Int32) ≤ nI 49 := by decide
theorem cd_cl {i : Nat} (h : i < 128) : (nI i).toNatClampNeg = i := nI_clamp (by omega)
theorem cd_in7 {i : Nat} (h : i < 7) : vp_in (nI i) 7 := vp_in_nI h (by decide)
theorem cd_in128 {i : Nat} (h : i < 128) : vp_in (nI i) 128 := vp_in_nI h (by decide)
def cd_fold {σ : Type} (f : Nat → σ → σ) : Nat → Nat → σ → σ
  | 0, _, s => s
  | d + 1, i, s => cd_fold f d (i + 1) (f i s)
def cd_all (p : Nat → Bool) : Nat → Nat → Bool
  | 0, _ => true
  | d + 1, i => p i && cd_all p d (i + 1)
theorem cd_loop {σ : Type} {W : Nat → Nat → σ → Prop} {f : Nat → σ → σ} {post : σ → Prop} (I : σ → Prop) (e : Nat)
    (hI : ∀ i s, i < e → I s → I (f i s)) (hx : ∀ n s, I s → post s → W (n + 1) e s)
    (hs : ∀ n i s, i < e → I s → W n (i + 1) (f i s) → W (n + 1) i s) :
    ∀ d i s, i + d = e → I s → post (cd_fold f d i s) → W (d + 1) i s := by
  intro d
  induction d with
  | zero =>
    intro i s hi hs' hp
    have : i = e := by omega
    subst this
    exact hx 0 s hs' hp
  | succ d ih =>
    intro i s hi hs' hp
    exact hs (d + 1) i s (by omega) hs' (ih (i + 1) (f i s) (by omega) (hI i s (by omega) hs') hp)
theorem cd_loopB {W : Nat → Nat → Prop} {p : Nat → Bool} {A B : Prop} (e : Nat) (hx : ∀ n, A → W (n + 1) e)
    (ht : ∀ n i, i < e → p i = true → W n (i + 1) → W (n + 1) i)
    (hf : ∀ n i, i < e → p i = false → B → W (n + 1) i) :
    ∀ d i, i + d = e → (cd_all p d i = true → A) → (cd_all p d i = false → B) → W (d + 1) i := by
  intro d
  induction d with
  | zero =>
    intro i hi ha hb
    have : i = e := by omega
    subst this
    exact hx 0 (ha rfl)
  | succ d ih =>
    intro i hi ha hb
    cases h : p i with
    | true =>
      have e1 : cd_all p (d + 1) i = cd_all p d (i + 1) := by simp [cd_all, h]
      exact ht (d + 1) i (by omega) h (ih (i + 1) (by omega) (fun z => ha (e1.trans z)) (fun z => hb (e1.trans z)))
    | false =>
      exact hf (d + 1) i (by omega) h (hb (by simp [cd_all, h]))
theorem cd_foldI {σ : Type} {f : Nat → σ → σ} (I : σ → Prop) (e : Nat) (hI : ∀ i s, i < e → I s → I (f i s)) : ∀ d i s, i + d = e → I s → I (cd_fold f d i s) := by
  intro d
  induction d with
  | zero => intro i s _ h; exact h
  | succ d ih => intro i s hi h; exact ih (i + 1) (f i s) (by omega) (hI i s (by omega) h)
theorem cd_foldC {σ : Type} {f g : Nat → σ → σ} (I : σ → Prop) (e : Nat) (hI : ∀ i s, i < e → I s → I (f i s)) (h : ∀ i s, i < e → I s → f i s = g i s) : ∀ d i s, i + d = e → I s → cd_fold f d i s = cd_fold g d i s := by
  intro d
  induction d with
  | zero => intro i s _ _; rfl
  | succ d ih =>
    intro i s hi hs
    show cd_fold f d (i + 1) (f i s) = cd_fold g d (i + 1) (g i s)
    rw [ih (i + 1) (f i s) (by omega) (hI i s (by omega) hs), h i s (by omega) hs]
theorem cd_allC {p q : Nat → Bool} (e : Nat) (h : ∀ i, i < e → p i = q i) : ∀ d i, i + d = e → cd_all p d i = cd_all q d i := by
  intro d
  induction d with
  | zero => intro i _; rfl
  | succ d ih =>
    intro i hi
    show (p i && cd_all p d (i + 1)) = (q i && cd_all q d (i + 1))
    rw [ih (i + 1) (by omega), h i (by omega)]
theorem cd_allT {p : Nat → Bool} : ∀ d i, cd_all p d i = true ↔ ∀ j, i ≤ j → j < i + d → p j = true := by
  intro d
  induction d with
  | zero => intro i; exact ⟨fun _ j h1 h2 => by omega, fun _ => rfl⟩
  | succ d ih =>
    intro i
    show (p i && cd_all p d (i + 1)) = true ↔ _
    rw [Bool.and_eq_true, ih (i + 1)]
    constructor
    · intro h j h1 h2
      rcases Nat.eq_or_lt_of_le h1 with h3 | h3
      · rw [← h3]; exact h.1
      · exact h.2 j h3 (by omega)
    · intro h
      exact ⟨h i (Nat.le_refl _) (by omega), fun j h1 h2 => h j (by omega) (by omega)⟩
theorem cd_foldA {σ : Type} (f : Nat → σ → σ) : ∀ d1 d2 i s, cd_fold f (d1 + d2) i s = cd_fold f d2 (i + d1) (cd_fold f d1 i s) := by
  intro d1
  induction d1 with
  | zero => intro d2 i s; rw [Nat.zero_add]; rfl
  | succ d1 ih =>
    intro d2 i s
    rw [Nat.succ_add]
    show cd_fold f (d1 + d2) (i + 1) (f i s) = cd_fold f d2 (i + (d1 + 1)) (cd_fold f d1 (i + 1) (f i s))
    rw [ih d2 (i + 1) (f i s), show i + 1 + d1 = i + (d1 + 1) by omega]
/-- the sets: numbers below 128 -/
theorem cd_btn {k i : Nat} (hk : k < 128) (hi : 7 ≤ i) : bt (nI k) i = false := by
  show (BitVec.ofNat 32 k).getLsbD i = false
  rw [BitVec.getLsbD_ofNat, Nat.testBit_lt_two_pow, Bool.and_false]
  exact Nat.lt_of_lt_of_le hk (Nat.pow_le_pow_right (by omega : 0 < 2) hi)
theorem cd_andN (x : Int32) {k : Nat} (hk : k < 128) : ∃ j, j < 128 ∧ x &&& nI k = nI j := by
  refine ⟨(x &&& nI k).toBitVec.toNat, ?_, ?_⟩
  · rw [Int32.toBitVec_and, BitVec.toNat_and]
    refine Nat.lt_of_le_of_lt Nat.and_le_right ?_
    show (BitVec.ofNat 32 k).toNat < 128
    rw [BitVec.toNat_ofNat]
    exact Nat.lt_of_le_of_lt (Nat.mod_le _ _) hk
  · apply Int32.toBitVec_inj.mp
    show _ = BitVec.ofNat 32 _
    rw [BitVec.ofNat_toNat, BitVec.setWidth_eq]
theorem cd_andL {k : Nat} (hk : k < 128) (x : Int32) : ∃ j, j < 128 ∧ nI k &&& x = nI j := by
  obtain ⟨j, h1, h2⟩ := cd_andN x hk
  exact ⟨j, h1, by rw [← h2, Int32.and_comm]⟩
