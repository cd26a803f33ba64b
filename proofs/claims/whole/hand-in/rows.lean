section
/-! rows pasted from kit/rows (bits, naturals in Int32, branches, a loop) -/
def bt (x : Int32) (i : Nat) : Bool := x.toBitVec.getLsbD i
theorem b_ext {x y : Int32} (h : ∀ i, i < 32 → bt x i = bt y i) : x = y := Int32.toBitVec_inj.mp (BitVec.eq_of_getLsbD_eq (fun i hi => h i hi))
theorem b_or (x y : Int32) (i : Nat) : bt (x ||| y) i = (bt x i || bt y i) := by unfold bt; rw [Int32.toBitVec_or, BitVec.getLsbD_or]
theorem b_and (x y : Int32) (i : Nat) : bt (x &&& y) i = (bt x i && bt y i) := by unfold bt; rw [Int32.toBitVec_and, BitVec.getLsbD_and]
theorem b_xor (x y : Int32) (i : Nat) : bt (x ^^^ y) i = (bt x i ^^ bt y i) := by unfold bt; rw [Int32.toBitVec_xor, BitVec.getLsbD_xor]
theorem b_big {x : Int32} {i : Nat} (h : 32 ≤ i) : bt x i = false := BitVec.getLsbD_of_ge _ _ h
theorem b_m1 : ∀ i, i < 32 → bt (-1) i = true := by decide +kernel
theorem b_0 (i : Nat) : bt 0 i = false := BitVec.getLsbD_zero
theorem s_l : ∀ n, n < 32 → ((nI n &&& 31).toBitVec.smod 32).toNat = n := by decide +kernel
theorem b_shl (n : Nat) (hn : n < 32) (x : Int32) {i : Nat} (hi : i < 32) : bt (x <<< (nI n &&& 31)) i = (decide (n ≤ i) && bt x (i - n)) := by
  unfold bt
  rw [Int32.toBitVec_shiftLeft]
  show (x.toBitVec <<< ((nI n &&& 31).toBitVec.smod 32).toNat).getLsbD i = _
  rw [s_l n hn, BitVec.getLsbD_shiftLeft]
  rcases Nat.lt_or_ge i n with h | h
  · simp [h, Nat.not_le.mpr h]
  · simp [hi, h, Nat.not_lt.mpr h]
theorem b_sshr (n : Nat) (hn : n < 32) (x : Int32) {i : Nat} (hi : i < 32) : bt (x >>> (nI n &&& 31)) i = if n + i < 32 then bt x (n + i) else bt x 31 := by
  unfold bt
  rw [Int32.toBitVec_shiftRight]
  show (x.toBitVec.sshiftRight ((nI n &&& 31).toBitVec.smod 32).toNat).getLsbD i = _
  rw [s_l n hn, BitVec.getLsbD_sshiftRight, BitVec.msb_eq_getLsbD_last]
  simp [hi]
theorem nf_sh : ∀ l, l < 32 → ((1 : Int32) <<< (nI l &&& 31)).toBitVec = BitVec.twoPow 32 l := by decide +kernel
theorem pk_us {f : Nat → Int32} {k : Nat} {x : Int32} : upd f k x k = x := if_pos rfl
theorem pk_un {f : Nat → Int32} {k j : Nat} {x : Int32} (h : j ≠ k) : upd f k x j = f j := if_neg h
theorem pk_sub {a b : Nat} (h : b ≤ a) : nI a - nI b = nI (a - b) := by
  obtain ⟨c, rfl⟩ : ∃ c, a = c + b := ⟨a - b, by omega⟩
  rw [← nI_add, Int32.add_sub_cancel, Nat.add_sub_cancel]
theorem pk_m1 (n : Nat) : nI (n + 1) + (-1) = nI n := by
  rw [← nI_1, Int32.add_assoc, show (1 : Int32) + (-1) = 0 from rfl, Int32.add_zero]
theorem pk_mul (a b : Nat) : nI a * nI b = nI (a * b) := (Int32.ofNat_mul a b).symm
theorem pk_ix (x : Int32) {n : Nat} (hn : n < 2 ^ 31) : x < 0 ∨ nI n ≤ x ∨ ∃ j : Nat, j < n ∧ x = nI j := by
  by_cases h : x < 0
  · exact Or.inl h
  · obtain ⟨j, hj, rfl⟩ := nI_of h
    by_cases h2 : j < n
    · exact Or.inr (Or.inr ⟨j, h2, rfl⟩)
    · exact Or.inr (Or.inl (nI_le (by omega) hj))
theorem pk_le {x y : Int32} {A B : Prop} (a b : Nat) (f : a ≤ b → A) (g : b < a → B) (hx : x = nI a := by rfl) (hy : y = nI b := by rfl) (ha : a < 2 ^ 31 := by omega) (hb : b < 2 ^ 31 := by omega) : (x ≤ y → A) ∧ (¬ x ≤ y → B) := by
  subst hx hy
  rw [nI_leI ha hb]
  exact ⟨f, fun z => g (by omega)⟩
theorem pk_lt {x y : Int32} {A B : Prop} (a b : Nat) (f : a < b → A) (g : b ≤ a → B) (hx : x = nI a := by rfl) (hy : y = nI b := by rfl) (ha : a < 2 ^ 31 := by omega) (hb : b < 2 ^ 31 := by omega) : (x < y → A) ∧ (¬ x < y → B) := by
  subst hx hy
  rw [nI_ltI ha hb]
  exact ⟨f, fun z => g (by omega)⟩
theorem pk_eq {x y : Int32} {A B : Prop} (a b : Nat) (f : a = b → A) (g : a ≠ b → B) (hx : x = nI a := by rfl) (hy : y = nI b := by rfl) (ha : a < 2 ^ 31 := by omega) (hb : b < 2 ^ 31 := by omega) : (x = y → A) ∧ (¬ x = y → B) := by
  subst hx hy
  rw [nI_eq ha hb]
  exact ⟨f, g⟩
theorem pk_in {x : Int32} (n N : Nat) (h : n < N) (hx : x = nI n := by rfl) (hN : N < 2 ^ 31 := by omega) : vp_in x N := by
  subst hx
  exact vp_in_nI h hN
theorem pk_cl {x : Int32} (n : Nat) (hx : x = nI n := by rfl) (h : n < 2 ^ 31 := by omega) : x.toNatClampNeg = n := by
  subst hx
  exact nI_clamp h
theorem pk_loop {σ : Type} (W : Nat → Nat → σ → Prop) (I : Nat → σ → Prop) (e i0 : Nat) (s : σ) (hi : i0 ≤ e) (h0 : I i0 s) (hx : ∀ n s, I e s → W (n + 1) e s)
    (hs : ∀ n i s, i < e → I i s → (∀ s', I (i + 1) s' → W n (i + 1) s') → W (n + 1) i s) : ∃ n, W n i0 s :=
  ⟨e + 1, loop_i W I e hx hs (e + 1) i0 s hi (by omega) h0⟩
theorem ek_if {c d A B : Prop} (e : c ↔ d) (f : d → A) (g : ¬ d → B) : (c → A) ∧ (¬ c → B) :=
  ⟨fun z => f (e.mp z), fun z => g (fun y => z (e.mpr y))⟩
theorem ek_v {α : Sort _} {P : α → Prop} {a b : α} (e : a = b) (h : P b) : P a := e ▸ h
/-! own: bits of masks -/
theorem gb_test (x : Int32) (j : Nat) (hj : j < 32) : ((x >>> (nI j &&& 31)) &&& 1) = 1 ↔ bt x j = true := by
  have h0 : bt (x >>> (nI j &&& 31)) 0 = bt x j := by
    rw [b_sshr j hj x (by omega), if_pos (by omega), Nat.add_zero]
  have h1 : ∀ i, i < 32 → bt 1 i = decide (i = 0) := by decide +kernel
  rw [← h0]
  constructor
  · intro h
    have e := b_and (x >>> (nI j &&& 31)) 1 0
    rw [h, h1 0 (by omega)] at e
    revert e
    cases bt (x >>> (nI j &&& 31)) 0 <;> simp
  · intro h
    apply b_ext
    intro i hi
    rw [b_and, h1 i hi]
    by_cases z : i = 0
    · subst z; rw [h]; rfl
    · simp [z]
theorem gb_set (x : Int32) (j : Nat) (hj : j < 32) (i : Nat) (hi : i < 32) : bt (x ||| ((1 : Int32) <<< (nI j &&& 31))) i = (bt x i || decide (i = j)) := by
  rw [b_or]
  congr 1
  unfold bt
  rw [nf_sh j hj, BitVec.getLsbD_twoPow]
  by_cases z : j = i
  · subst z; simp [hi]
  · simp [z, Ne.symm z]
theorem gb_one (i : Nat) (hi : i < 32) (j : Nat) (hj : j < 32) : bt ((1 : Int32) <<< (nI j &&& 31)) i = decide (i = j) := by
  unfold bt
  rw [nf_sh j hj, BitVec.getLsbD_twoPow]
  by_cases z : j = i
  · subst z; simp [hi]
  · simp [z, Ne.symm z]
theorem gb_not (x y : Int32) (i : Nat) (hi : i < 32) : bt (x &&& (y ^^^ (-1))) i = (bt x i && !bt y i) := by
  rw [b_and, b_xor, b_m1 i hi, Bool.xor_true]
theorem gb_1 : ∀ i, i < 32 → bt 1 i = decide (i = 0) := by decide +kernel
end
section
/-! the mathematics of dominators over least closed sets (no path is needed) -/
/-- the least set that holds the root (if V lets it) and is closed under the edges i < m that E lets and whose end V lets -/
def dm_R (m : Nat) (f t : Nat → Nat) (V E : Nat → Prop) (v : Nat) : Prop :=
  ∀ S : Nat → Prop, (V 0 → S 0) → (∀ i, i < m → E i → V (t i) → S (f i) → S (t i)) → S v
theorem dm_root {m : Nat} {f t : Nat → Nat} {V E : Nat → Prop} (h : V 0) : dm_R m f t V E 0 :=
  fun _ h0 _ => h0 h
theorem dm_step {m : Nat} {f t : Nat → Nat} {V E : Nat → Prop} {i : Nat} (hi : i < m) (he : E i) (hv : V (t i))
    (h : dm_R m f t V E (f i)) : dm_R m f t V E (t i) :=
  fun S h0 hs => hs i hi he hv (h S h0 hs)
theorem dm_ind {m : Nat} {f t : Nat → Nat} {V E : Nat → Prop} {v : Nat} (S : Nat → Prop) (h0 : V 0 → S 0)
    (hs : ∀ i, i < m → E i → V (t i) → dm_R m f t V E (f i) → S (f i) → S (t i)) (h : dm_R m f t V E v) : S v :=
  (h (fun x => dm_R m f t V E x ∧ S x) (fun z => ⟨dm_root z, h0 z⟩)
    (fun i hi he hv hf => ⟨dm_step hi he hv hf.1, hs i hi he hv hf.1 hf.2⟩)).2
theorem dm_V {m : Nat} {f t : Nat → Nat} {V E : Nat → Prop} {v : Nat} (h : dm_R m f t V E v) : V v :=
  dm_ind V (fun z => z) (fun _ _ _ hv _ _ => hv) h
theorem dm_mono {m : Nat} {f t : Nat → Nat} {V E V' E' : Nat → Prop} {v : Nat} (h0 : V 0 → V' 0) (hV : ∀ i, i < m → V (t i) → V' (t i)) (hE : ∀ i, i < m → E i → E' i)
    (h : dm_R m f t V E v) : dm_R m f t V' E' v :=
  dm_ind _ (fun z => dm_root (h0 z)) (fun i hi he hv _ hf => dm_step hi (hE _ hi he) (hV _ hi hv) hf) h
theorem dm_lt {m n : Nat} {f t : Nat → Nat} {V E : Nat → Prop} {v : Nat} (hn : 0 < n) (ht : ∀ i, i < m → t i < n)
    (h : dm_R m f t V E v) : v < n :=
  dm_ind (fun x => x < n) (fun _ => hn) (fun i hi _ _ _ _ => ht i hi) h
/-- reachable; reachable past a; dominates -/
def dm_r (m : Nat) (f t : Nat → Nat) (v : Nat) : Prop := dm_R m f t (fun _ => True) (fun _ => True) v
def dm_a (m : Nat) (f t : Nat → Nat) (a v : Nat) : Prop := dm_R m f t (fun x => x ≠ a) (fun _ => True) v
def dm_D (m : Nat) (f t : Nat → Nat) (a v : Nat) : Prop := dm_r m f t v ∧ ¬ dm_a m f t a v
section
variable {m : Nat} {f t : Nat → Nat}
theorem dm_ar {a v : Nat} (h : dm_a m f t a v) : dm_r m f t v := dm_mono (fun _ => trivial) (fun _ _ _ => trivial) (fun _ _ h => h) h
theorem dm_aa {a : Nat} (h : dm_a m f t a a) : False := dm_V h rfl
theorem dm_refl {v : Nat} (h : dm_r m f t v) : dm_D m f t v v := ⟨h, fun z => dm_aa z⟩
theorem dm_a0 {v : Nat} (h : dm_a m f t 0 v) : False :=
  dm_ind (fun _ => False) (fun z => z rfl) (fun _ _ _ _ _ z => z) h
theorem dm_D0 {v : Nat} (h : dm_r m f t v) : dm_D m f t 0 v := ⟨h, fun z => dm_a0 z⟩
theorem dm_r0 : dm_r m f t 0 := dm_root trivial
/-- a dominator is reachable -/
theorem dm_Dr {a v : Nat} (h : dm_D m f t a v) : dm_r m f t a := by
  apply Classical.byContradiction
  intro na
  refine h.2 (dm_ind (dm_a m f t a) (fun _ => dm_root ?_) (fun i hi _ _ hr hf => dm_step hi trivial ?_ hf) h.1)
  · intro e; exact na (e ▸ dm_r0)
  · intro e; exact na (e ▸ dm_step hi trivial trivial hr)
theorem dm_tr' {a b v : Nat} (h : dm_a m f t a v) : dm_a m f t a b ∨ dm_a m f t b v := by
  refine dm_ind (fun x => dm_a m f t a b ∨ dm_a m f t b x) (fun h0 => ?_) (fun i hi _ hv hr hf => ?_) h
  · by_cases e : (0 : Nat) = b
    · exact Or.inl (e ▸ dm_root h0)
    · exact Or.inr (dm_root e)
  · cases hf with
    | inl z => exact Or.inl z
    | inr z =>
      by_cases e : t i = b
      · exact Or.inl (e ▸ dm_step hi trivial hv hr)
      · exact Or.inr (dm_step hi trivial e z)
theorem dm_trans {a b v : Nat} (h1 : dm_D m f t a b) (h2 : dm_D m f t b v) : dm_D m f t a v :=
  ⟨h2.1, fun z => (dm_tr' z).elim h1.2 h2.2⟩
theorem dm_anti {a b : Nat} (h1 : dm_D m f t a b) (h2 : dm_D m f t b a) : a = b := by
  apply Classical.byContradiction
  intro ne
  have H : (dm_a m f t a a ∧ dm_a m f t b a) ∨ dm_a m f t b a ∨ dm_a m f t a b := by
    refine dm_ind (fun x => (dm_a m f t a x ∧ dm_a m f t b x) ∨ dm_a m f t b a ∨ dm_a m f t a b) (fun _ => ?_) (fun i hi _ _ _ hf => ?_) h2.1
    · by_cases ea : (0 : Nat) = a
      · exact Or.inr (Or.inl (ea ▸ dm_root (fun z => ne (ea ▸ z))))
      · by_cases eb : (0 : Nat) = b
        · exact Or.inr (Or.inr (eb ▸ dm_root (fun z => ne (z ▸ eb))))
        · exact Or.inl ⟨dm_root ea, dm_root eb⟩
    · cases hf with
      | inr z => exact Or.inr z
      | inl z =>
        by_cases ea : t i = a
        · exact Or.inr (Or.inl (ea ▸ dm_step hi trivial (fun q => ne (ea.symm.trans q)) z.2))
        · by_cases eb : t i = b
          · exact Or.inr (Or.inr (eb ▸ dm_step hi trivial ea z.1))
          · exact Or.inl ⟨dm_step hi trivial ea z.1, dm_step hi trivial eb z.2⟩
  cases H with
  | inl z => exact dm_aa z.1
  | inr z => exact z.elim h2.2 h1.2
/-- the dominators of v lie in a row -/
theorem dm_chain {a b v : Nat} (h1 : dm_D m f t a v) (h2 : dm_D m f t b v) : dm_D m f t a b ∨ dm_D m f t b a := by
  apply Classical.byContradiction
  intro no
  have ra := dm_Dr h1
  have rb := dm_Dr h2
  have hab : dm_a m f t a b := Classical.byContradiction fun z => no (Or.inl ⟨rb, z⟩)
  have hba : dm_a m f t b a := Classical.byContradiction fun z => no (Or.inr ⟨ra, z⟩)
  have H : (v = a ∨ v = b) ∨ dm_a m f t a v ∨ dm_a m f t b v := by
    refine dm_ind (fun x => (x = a ∨ x = b) ∨ dm_a m f t a x ∨ dm_a m f t b x) (fun _ => ?_) (fun i hi _ _ _ hf => ?_) h1.1
    · by_cases ea : (0 : Nat) = a
      · exact Or.inl (Or.inl ea)
      · exact Or.inr (Or.inl (dm_root ea))
    · by_cases ea : t i = a
      · exact Or.inl (Or.inl ea)
      · by_cases eb : t i = b
        · exact Or.inl (Or.inr eb)
        · have hf' : dm_a m f t a (f i) ∨ dm_a m f t b (f i) := by
            cases hf with
            | inr z => exact z
            | inl z =>
              cases z with
              | inl z => rw [z]; exact Or.inr hba
              | inr z => rw [z]; exact Or.inl hab
          cases hf' with
          | inl z => exact Or.inr (Or.inl (dm_step hi trivial ea z))
          | inr z => exact Or.inr (Or.inr (dm_step hi trivial eb z))
  cases H with
  | inr z => exact z.elim h1.2 h2.2
  | inl z =>
    cases z with
    | inl e => exact h2.2 (e ▸ hba)
    | inr e => exact h1.2 (e ▸ hab)
end
/-- truth as a Bool; how many i < k hold -/
noncomputable def dm_b (P : Prop) : Bool := @decide P (Classical.propDecidable P)
theorem dm_b_t {P : Prop} : dm_b P = true ↔ P := @decide_eq_true_iff P (Classical.propDecidable P)
theorem dm_b_f {P : Prop} : dm_b P = false ↔ ¬ P := @decide_eq_false_iff_not P (Classical.propDecidable P)
def dm_c (p : Nat → Bool) : Nat → Nat
  | 0 => 0
  | k + 1 => dm_c p k + (if p k = true then 1 else 0)
theorem dm_c_le (p : Nat → Bool) : ∀ k, dm_c p k ≤ k := by
  intro k
  induction k with
  | zero => exact Nat.le_refl 0
  | succ k ih => simp only [dm_c]; split <;> omega
theorem dm_c_mono {p q : Nat → Bool} : ∀ k, (∀ i, i < k → p i = true → q i = true) → dm_c p k ≤ dm_c q k := by
  intro k
  induction k with
  | zero => intro _; exact Nat.le_refl 0
  | succ k ih =>
    intro h
    have h1 := ih (fun i hi => h i (by omega))
    have h2 := h k (by omega)
    simp only [dm_c]
    by_cases z : p k = true
    · rw [if_pos z, if_pos (h2 z)]; omega
    · rw [if_neg z]; omega
theorem dm_c_congr {p q : Nat → Bool} (k : Nat) (h : ∀ i, i < k → (p i = true ↔ q i = true)) : dm_c p k = dm_c q k :=
  Nat.le_antisymm (dm_c_mono k fun i hi => (h i hi).mp) (dm_c_mono k fun i hi => (h i hi).mpr)
/-- one more: q is p and j beside it -/
theorem dm_c_one {p q : Nat → Bool} {j : Nat} : ∀ k, j < k → p j = false → (∀ i, i < k → (q i = true ↔ p i = true ∨ i = j)) → dm_c q k = dm_c p k + 1 := by
  intro k
  induction k with
  | zero => intro h; omega
  | succ k ih =>
    intro hj hp h
    simp only [dm_c]
    by_cases e : j = k
    · subst e
      have h1 : dm_c q j = dm_c p j := dm_c_congr j (fun i hi => by
        rw [h i (by omega)]; constructor
        · intro z; exact z.elim id (fun z => absurd z (by omega))
        · exact Or.inl)
      rw [h1, if_pos ((h j (by omega)).mpr (Or.inr rfl)), hp]; simp
    · have h1 := ih (by omega) hp (fun i hi => h i (by omega))
      have h2 : q k = true ↔ p k = true := by
        rw [h k (by omega)]; constructor
        · intro z; exact z.elim id (fun z => absurd z.symm e)
        · exact Or.inl
      by_cases z : p k = true
      · rw [if_pos z, if_pos (h2.mpr z)]; omega
      · rw [if_neg z, if_neg (fun y => z (h2.mp y))]; omega
theorem dm_c_lt {p q : Nat → Bool} {j : Nat} (k : Nat) (hj : j < k) (h : ∀ i, i < k → p i = true → q i = true) (hp : p j = false) (hq : q j = true) : dm_c p k < dm_c q k := by
  have h1 : dm_c (fun i => p i || decide (i = j)) k = dm_c p k + 1 :=
    dm_c_one k hj hp (fun i _ => by simp)
  have h2 : dm_c (fun i => p i || decide (i = j)) k ≤ dm_c q k :=
    dm_c_mono k (fun i hi z => by
      have z' : p i = true ∨ i = j := by simpa using z
      cases z' with
      | inl y => exact h i hi y
      | inr y => rw [y]; exact hq)
  omega
/-- how many dominators v has -/
noncomputable def dm_d (n m : Nat) (f t : Nat → Nat) (v : Nat) : Nat := dm_c (fun a => dm_b (dm_D m f t a v)) n
section
variable {n m : Nat} {f t : Nat → Nat}
theorem dm_d_lt {a b : Nat} (hb : b < n) (h : dm_D m f t a b) (ne : a ≠ b) : dm_d n m f t a < dm_d n m f t b := by
  refine dm_c_lt n hb (fun i _ z => dm_b_t.mpr (dm_trans (dm_b_t.mp z) h)) (dm_b_f.mpr fun z => ne (dm_anti h z)) (dm_b_t.mpr (dm_refl h.1))
theorem dm_d_le {a b : Nat} (hb : b < n) (h : dm_D m f t a b) : dm_d n m f t a ≤ dm_d n m f t b := by
  by_cases e : a = b
  · rw [e]; exact Nat.le_refl _
  · exact Nat.le_of_lt (dm_d_lt hb h e)
theorem dm_d_pos {v : Nat} (hv : v < n) (h : dm_r m f t v) : 0 < dm_d n m f t v := by
  refine Nat.lt_of_le_of_lt (Nat.zero_le (dm_c (fun _ => false) n)) (dm_c_lt n hv (fun _ _ z => absurd z (by decide)) rfl (dm_b_t.mpr (dm_refl h)))
/-- among the dominators of v the numbers of dominators order them -/
theorem dm_d_dom {a b v : Nat} (ha : a < n) (hb : b < n) (h1 : dm_D m f t a v) (h2 : dm_D m f t b v) (h : dm_d n m f t a ≤ dm_d n m f t b) : dm_D m f t a b := by
  cases dm_chain h1 h2 with
  | inl z => exact z
  | inr z =>
    by_cases e : b = a
    · rw [e]; exact dm_refl (dm_Dr h1)
    · exact absurd (dm_d_lt ha z e) (by omega)
theorem dm_d_inj {a b v : Nat} (ha : a < n) (hb : b < n) (h1 : dm_D m f t a v) (h2 : dm_D m f t b v) (h : dm_d n m f t a = dm_d n m f t b) : a = b :=
  dm_anti (dm_d_dom ha hb h1 h2 (by omega)) (dm_d_dom hb ha h2 h1 (by omega))
/-- d is the immediate dominator of v -/
def dm_I (m : Nat) (f t : Nat → Nat) (d v : Nat) : Prop := dm_D m f t d v ∧ d ≠ v ∧ ∀ a, dm_D m f t a v → a ≠ v → dm_D m f t a d
theorem dm_I_uniq {d e v : Nat} (h1 : dm_I m f t d v) (h2 : dm_I m f t e v) : d = e :=
  dm_anti (h2.2.2 d h1.1 h1.2.1) (h1.2.2 e h2.1 h2.2.1)
theorem dm_I_d {d v : Nat} (hv : v < n) (h : dm_I m f t d v) : dm_d n m f t v = dm_d n m f t d + 1 := by
  refine dm_c_one n hv (dm_b_f.mpr fun z => h.2.1 (dm_anti h.1 z)) (fun a _ => ?_)
  rw [dm_b_t, dm_b_t]
  constructor
  · intro z
    by_cases e : a = v
    · exact Or.inr e
    · exact Or.inl (h.2.2 a z e)
  · intro z
    cases z with
    | inl z => exact dm_trans z h.1
    | inr z => rw [z]; exact dm_refl h.1.1
theorem dm_I_of {d v : Nat} (hv : v < n) (hd : d < n) (hn : ∀ a, dm_D m f t a v → a < n) (h : dm_D m f t d v) (e : dm_d n m f t v = dm_d n m f t d + 1) : dm_I m f t d v := by
  refine ⟨h, fun z => ?_, fun a ha ne => ?_⟩
  · rw [z] at e; omega
  · refine dm_d_dom (hn a ha) hd ha h ?_
    have := dm_d_lt hv ha ne
    omega
/-- every reachable vertex but the root has one: the last of the others -/
theorem dm_I_max {d v : Nat} (hd : d < n) (hn : ∀ a, dm_D m f t a v → a < n) (h : dm_D m f t d v) (ne : d ≠ v)
    (hm : ∀ a, dm_D m f t a v → a ≠ v → dm_d n m f t a ≤ dm_d n m f t d) : dm_I m f t d v :=
  ⟨h, ne, fun a ha na => dm_d_dom (hn a ha) hd ha h (hm a ha na)⟩
end
end
section
/-! the rounds: a pass over the edges, passes one after another, and the least closed set that they reach -/
def rc_s (f t : Nat → Nat) (V E : Nat → Bool) (S : Nat → Bool) (i : Nat) : Nat → Bool :=
  fun x => S x || (E i && V (t i) && S (f i) && decide (x = t i))
def rc_p (f t : Nat → Nat) (V E : Nat → Bool) (S : Nat → Bool) : Nat → Nat → Bool
  | 0 => S
  | i + 1 => rc_s f t V E (rc_p f t V E S i) i
def rc_0 (V : Nat → Bool) : Nat → Bool := fun x => V 0 && decide (x = 0)
def rc_k (m : Nat) (f t : Nat → Nat) (V E : Nat → Bool) : Nat → Nat → Bool
  | 0 => rc_0 V
  | r + 1 => rc_p f t V E (rc_k m f t V E r) m
noncomputable def rc_R (m : Nat) (f t : Nat → Nat) (V E : Nat → Bool) : Nat → Bool :=
  fun v => dm_b (dm_R m f t (fun x => V x = true) (fun i => E i = true) v)
section
variable {m n : Nat} {f t : Nat → Nat} {V E : Nat → Bool} {S : Nat → Bool}
theorem rc_R_t {v : Nat} : rc_R m f t V E v = true ↔ dm_R m f t (fun x => V x = true) (fun i => E i = true) v := dm_b_t
theorem rc_s_no {i : Nat} (h : (E i && V (t i) && S (f i)) = false) : rc_s f t V E S i = S := by
  funext x; unfold rc_s; rw [h]; simp
theorem rc_s_in {i : Nat} (h : S (t i) = true) : rc_s f t V E S i = S := by
  funext x; unfold rc_s
  by_cases e : x = t i
  · rw [e, h]; rfl
  · simp [e]
theorem rc_s_yes {i : Nat} (h1 : E i = true) (h2 : V (t i) = true) (h3 : S (f i) = true) (x : Nat) : rc_s f t V E S i x = (S x || decide (x = t i)) := by
  unfold rc_s; rw [h1, h2, h3]; rfl
theorem rc_s_sub {i x : Nat} (h : S x = true) : rc_s f t V E S i x = true := by unfold rc_s; rw [h]; rfl
theorem rc_p_sub {x : Nat} (h : S x = true) : ∀ i, rc_p f t V E S i x = true := by
  intro i
  induction i with
  | zero => exact h
  | succ i ih => exact rc_s_sub ih
theorem rc_p_up {x i : Nat} : ∀ d, rc_p f t V E S i x = true → rc_p f t V E S (i + d) x = true := by
  intro d h
  induction d with
  | zero => exact h
  | succ d ih => exact rc_s_sub ih
theorem rc_p_snd (hS : ∀ x, S x = true → rc_R m f t V E x = true) : ∀ i, i ≤ m → ∀ x, rc_p f t V E S i x = true → rc_R m f t V E x = true := by
  intro i
  induction i with
  | zero => exact fun _ => hS
  | succ i ih =>
    intro hi x hx
    have ih' := ih (by omega)
    have hx' : (rc_p f t V E S i x || (E i && V (t i) && rc_p f t V E S i (f i) && decide (x = t i))) = true := hx
    simp only [Bool.or_eq_true, Bool.and_eq_true, decide_eq_true_eq] at hx'
    cases hx' with
    | inl z => exact ih' x z
    | inr z =>
      obtain ⟨⟨⟨z1, z2⟩, z3⟩, z4⟩ := z
      rw [z4]
      exact rc_R_t.mpr (dm_step (show i < m by omega) z1 z2 (rc_R_t.mp (ih' _ z3)))
theorem rc_p_fix (h : ∀ x, rc_p f t V E S m x = S x) {i : Nat} (hi : i < m) (h1 : E i = true) (h2 : V (t i) = true) (h3 : S (f i) = true) : S (t i) = true := by
  have e : rc_p f t V E S (i + 1) (t i) = true := by
    show rc_s f t V E (rc_p f t V E S i) i (t i) = true
    rw [rc_s_yes h1 h2 (rc_p_sub h3 i)]; simp
  have e2 := rc_p_up (m - (i + 1)) e
  rw [show i + 1 + (m - (i + 1)) = m by omega, h] at e2
  exact e2
theorem rc_k_snd : ∀ r x, rc_k m f t V E r x = true → rc_R m f t V E x = true := by
  intro r
  induction r with
  | zero =>
    intro x hx
    have hx' : (V 0 && decide (x = 0)) = true := hx
    simp only [Bool.and_eq_true, decide_eq_true_eq] at hx'
    rw [hx'.2]
    exact rc_R_t.mpr (dm_root hx'.1)
  | succ r ih => exact rc_p_snd ih m (Nat.le_refl m)
theorem rc_k_sub {r x : Nat} (h : rc_k m f t V E r x = true) : rc_k m f t V E (r + 1) x = true := rc_p_sub h m
theorem rc_k_0 (h : V 0 = true) : ∀ r, rc_k m f t V E r 0 = true := by
  intro r
  induction r with
  | zero => show (V 0 && decide (0 = 0)) = true; rw [h]; rfl
  | succ r ih => exact rc_k_sub ih
theorem rc_k_fix {r : Nat} (h : ∀ x, rc_k m f t V E (r + 1) x = rc_k m f t V E r x) (x : Nat) : rc_k m f t V E r x = rc_R m f t V E x := by
  apply Bool.eq_iff_iff.mpr
  constructor
  · exact rc_k_snd r x
  · intro z
    exact dm_ind (fun x => rc_k m f t V E r x = true) (fun z => rc_k_0 z r) (fun i hi he hv _ hf => rc_p_fix h hi he hv hf) (rc_R_t.mp z)
theorem rc_R_no (h : V 0 = false) (x : Nat) : rc_R m f t V E x = false := by
  cases e : rc_R m f t V E x with
  | false => rfl
  | true =>
    exact absurd (dm_ind (fun _ => False) (fun z => by rw [h] at z; cases z) (fun _ _ _ _ _ z => z) (rc_R_t.mp e)) id
theorem rc_k_no (h : V 0 = false) (r x : Nat) : rc_k m f t V E r x = rc_R m f t V E x := by
  rw [rc_R_no h]
  cases e : rc_k m f t V E r x with
  | false => rfl
  | true => have := rc_k_snd r x e; rw [rc_R_no h] at this; cases this
theorem rc_R_lt (hn : 0 < n) (ht : ∀ i, i < m → t i < n) {v : Nat} (h : rc_R m f t V E v = true) : v < n := dm_lt hn ht (rc_R_t.mp h)
/-- what the rounds so far have gained -/
def rc_G (N m : Nat) (f t : Nat → Nat) (V E : Nat → Bool) (r : Nat) : Prop := V 0 = false ∨ r + 1 ≤ dm_c (rc_k m f t V E r) N
theorem rc_G_0 {N : Nat} (hN : 0 < N) : rc_G N m f t V E 0 := by
  cases h : V 0 with
  | false => exact Or.inl h
  | true =>
    refine Or.inr ?_
    have h1 := dm_c_lt (p := fun _ => false) (q := rc_k m f t V E 0) (j := 0) N hN (fun _ _ z => by cases z) rfl (rc_k_0 h 0)
    omega
theorem rc_G_s {N r : Nat} (hn : 0 < N) (ht : ∀ i, i < m → t i < N) (h : rc_G N m f t V E r) (hx : ∃ x, rc_k m f t V E (r + 1) x ≠ rc_k m f t V E r x) : rc_G N m f t V E (r + 1) := by
  cases h with
  | inl z => exact Or.inl z
  | inr z =>
    obtain ⟨x, hx⟩ := hx
    have h1 : rc_k m f t V E r x = false := by
      cases e : rc_k m f t V E r x with
      | false => rfl
      | true => exact absurd (rc_k_sub e) (by rw [e] at hx; exact hx)
    have h2 : rc_k m f t V E (r + 1) x = true := by
      cases e : rc_k m f t V E (r + 1) x with
      | true => rfl
      | false => rw [e, h1] at hx; exact absurd rfl hx
    have h3 := dm_c_lt (p := rc_k m f t V E r) (q := rc_k m f t V E (r + 1)) N (rc_R_lt hn ht (rc_k_snd _ _ h2)) (fun i _ z => rc_k_sub z) h1 h2
    exact Or.inr (by omega)
theorem rc_G_x {N r : Nat} (h : rc_G N m f t V E r) (hr : N ≤ r) (x : Nat) : rc_k m f t V E r x = rc_R m f t V E x := by
  cases h with
  | inl z => exact rc_k_no z r x
  | inr z => have := dm_c_le (rc_k m f t V E r) N; omega
end
/-! the graph in numbers: what is kept off is named by an int -/
def gx_v (p : Int32) : Nat → Bool := fun v => decide (¬ nI v = p)
noncomputable def gx_R (m : Nat) (f t : Nat → Nat) (p q : Int32) (v : Nat) : Bool := rc_R m f t (gx_v p) (gx_v q) v
noncomputable def gx_L (m : Nat) (f t : Nat → Nat) (v : Nat) : Bool := gx_R m f t (-1) (-1) v
noncomputable def gx_O (m : Nat) (f t : Nat → Nat) (u v : Nat) : Bool := gx_L m f t v && !gx_R m f t (nI u) (-1) v
noncomputable def gx_d (n m : Nat) (f t : Nat → Nat) (v : Nat) : Nat := dm_c (fun u => gx_O m f t u v) n
/-- the edges as both sides keep them -/
def gx_k (n m : Nat) (f t : Nat → Nat) (a b : Nat → Int32) : Prop :=
  2 ≤ n ∧ n ≤ 24 ∧ m ≤ 60 ∧ ∀ i, i < m → f i < n ∧ t i < n ∧ a i = nI (f i) ∧ b i = nI (t i)
theorem gx_m1 {j : Nat} (h : j < 2 ^ 31) : ¬ nI j = -1 := by
  intro e
  have h1 := nI_toInt h
  rw [e] at h1
  have h2 : (-1 : Int32).toInt = -1 := by decide
  omega
theorem gx_v_t {p : Int32} {v : Nat} : gx_v p v = true ↔ ¬ nI v = p := by unfold gx_v; exact decide_eq_true_iff
theorem gx_v_f {p : Int32} {v : Nat} : gx_v p v = false ↔ nI v = p := by unfold gx_v; rw [decide_eq_false_iff_not, Classical.not_not]
section
variable {n m : Nat} {f t : Nat → Nat} {a b : Nat → Int32}
theorem gx_L_r (K : gx_k n m f t a b) {v : Nat} : gx_L m f t v = true ↔ dm_r m f t v := by
  obtain ⟨h1, h2, h3, h4⟩ := K
  unfold gx_L gx_R
  rw [rc_R_t]
  constructor
  · exact dm_mono (fun _ => trivial) (fun _ _ _ => trivial) (fun _ _ _ => trivial)
  · refine dm_mono (fun _ => gx_v_t.mpr (gx_m1 (by omega))) (fun i hi _ => gx_v_t.mpr (gx_m1 ?_)) (fun i hi _ => gx_v_t.mpr (gx_m1 ?_))
    · have := (h4 i hi).2.1; omega
    · omega
theorem gx_R_a (K : gx_k n m f t a b) {u v : Nat} (hu : u < n) : gx_R m f t (nI u) (-1) v = true ↔ dm_a m f t u v := by
  obtain ⟨h1, h2, h3, h4⟩ := K
  unfold gx_R
  rw [rc_R_t]
  have hx : ∀ x, x < n → (gx_v (nI u) x = true ↔ x ≠ u) := fun x hx => by
    rw [gx_v_t, nI_eq (by omega) (by omega)]
  constructor
  · exact dm_mono (fun z => (hx 0 (by omega)).mp z) (fun i hi z => (hx _ (h4 i hi).2.1).mp z) (fun _ _ _ => trivial)
  · exact dm_mono (fun z => (hx 0 (by omega)).mpr z) (fun i hi z => (hx _ (h4 i hi).2.1).mpr z) (fun i hi _ => gx_v_t.mpr (gx_m1 (by omega)))
theorem gx_O_D (K : gx_k n m f t a b) {u v : Nat} (hu : u < n) : gx_O m f t u v = true ↔ dm_D m f t u v := by
  unfold gx_O dm_D
  rw [Bool.and_eq_true, gx_L_r K, Bool.not_eq_true', ← Bool.not_eq_true, gx_R_a K hu]
theorem gx_R_lt (K : gx_k n m f t a b) {p q : Int32} {v : Nat} (h : gx_R m f t p q v = true) : v < n :=
  rc_R_lt (by have := K.1; omega) (fun i hi => (K.2.2.2 i hi).2.1) h
theorem gx_L_lt (K : gx_k n m f t a b) {v : Nat} (h : gx_L m f t v = true) : v < n := gx_R_lt K h
theorem gx_O_L {u v : Nat} (h : gx_O m f t u v = true) : gx_L m f t v = true := by
  unfold gx_O at h; rw [Bool.and_eq_true] at h; exact h.1
theorem gx_O_no {u v : Nat} (h : gx_L m f t v = false) : gx_O m f t u v = false := by unfold gx_O; rw [h]; rfl
theorem gx_d_no {v : Nat} (h : gx_L m f t v = false) : gx_d n m f t v = 0 := by
  have h1 : dm_c (fun u => gx_O m f t u v) n ≤ dm_c (fun _ => false) n := dm_c_mono n (fun u _ z => by rw [gx_O_no h] at z; cases z)
  have h2 : ∀ k, dm_c (fun _ => false) k = 0 := by
    intro k
    induction k with
    | zero => rfl
    | succ k ih => show dm_c (fun _ => false) k + (if false = true then 1 else 0) = 0; rw [ih]; rfl
  rw [h2] at h1
  unfold gx_d; omega
theorem gx_d_d (K : gx_k n m f t a b) (v : Nat) : gx_d n m f t v = dm_d n m f t v :=
  dm_c_congr n (fun u hu => by rw [gx_O_D K hu, dm_b_t])
theorem gx_d_le (v : Nat) : gx_d n m f t v ≤ n := dm_c_le _ n
end
end
section
/-! the first of those with the most: best and most so far -/
def gx_p (P : Nat → Bool) (d : Nat → Nat) (b0 : Int32) : Nat → Int32 × Nat
  | 0 => (b0, 0)
  | k + 1 => if P k = true ∧ (gx_p P d b0 k).2 < d k then (nI k, d k) else gx_p P d b0 k
theorem gx_p_y {P : Nat → Bool} {d : Nat → Nat} {b0 : Int32} {k : Nat} (h1 : P k = true) (h2 : (gx_p P d b0 k).2 < d k) : gx_p P d b0 (k + 1) = (nI k, d k) := if_pos ⟨h1, h2⟩
theorem gx_p_n1 {P : Nat → Bool} {d : Nat → Nat} {b0 : Int32} {k : Nat} (h : P k = false) : gx_p P d b0 (k + 1) = gx_p P d b0 k := if_neg (fun z => by rw [h] at z; exact absurd z.1 (by decide))
theorem gx_p_n2 {P : Nat → Bool} {d : Nat → Nat} {b0 : Int32} {k : Nat} (h : d k ≤ (gx_p P d b0 k).2) : gx_p P d b0 (k + 1) = gx_p P d b0 k := if_neg (fun z => by omega)
theorem gx_p_congr {P Q : Nat → Bool} {d : Nat → Nat} {b0 : Int32} : ∀ k, (∀ u, u < k → P u = Q u) → gx_p P d b0 k = gx_p Q d b0 k := by
  intro k
  induction k with
  | zero => exact fun _ => rfl
  | succ k ih =>
    intro h
    have h1 := ih (fun u hu => h u (by omega))
    show (if P k = true ∧ (gx_p P d b0 k).2 < d k then (nI k, d k) else gx_p P d b0 k) = (if Q k = true ∧ (gx_p Q d b0 k).2 < d k then (nI k, d k) else gx_p Q d b0 k)
    rw [h1, h k (by omega)]
theorem gx_p_base {P : Nat → Bool} {d : Nat → Nat} {b0 b1 : Int32} : ∀ k, (gx_p P d b0 k).2 = (gx_p P d b1 k).2 ∧ ((gx_p P d b0 k).2 = 0 ∨ (gx_p P d b0 k).1 = (gx_p P d b1 k).1) := by
  intro k
  induction k with
  | zero => exact ⟨rfl, Or.inl rfl⟩
  | succ k ih =>
    cases hp : P k with
    | false => rw [gx_p_n1 hp, gx_p_n1 hp]; exact ih
    | true =>
      by_cases h2 : (gx_p P d b0 k).2 < d k
      · rw [gx_p_y hp h2, gx_p_y hp (by rw [← ih.1]; exact h2)]; exact ⟨rfl, Or.inr rfl⟩
      · rw [gx_p_n2 (by omega), gx_p_n2 (by rw [← ih.1]; omega)]; exact ih
theorem gx_p_spec {P : Nat → Bool} {d : Nat → Nat} {b0 : Int32} : ∀ k, (∀ u, u < k → P u = true → d u ≤ (gx_p P d b0 k).2) ∧ ((gx_p P d b0 k).2 = 0 ∨ ∃ x, x < k ∧ P x = true ∧ gx_p P d b0 k = (nI x, d x)) := by
  intro k
  induction k with
  | zero => exact ⟨fun u hu => absurd hu (by omega), Or.inl rfl⟩
  | succ k ih =>
    have hx : ((gx_p P d b0 k).2 = 0 ∨ ∃ x, x < k + 1 ∧ P x = true ∧ gx_p P d b0 k = (nI x, d x)) :=
      ih.2.elim Or.inl (fun ⟨x, h1, h2, h3⟩ => Or.inr ⟨x, by omega, h2, h3⟩)
    cases hp : P k with
    | false =>
      rw [gx_p_n1 hp]
      refine ⟨fun u hu hu2 => ?_, hx⟩
      by_cases e : u = k
      · rw [e, hp] at hu2; cases hu2
      · exact ih.1 u (by omega) hu2
    | true =>
      by_cases h2 : (gx_p P d b0 k).2 < d k
      · rw [gx_p_y hp h2]
        refine ⟨fun u hu hu2 => ?_, Or.inr ⟨k, by omega, hp, rfl⟩⟩
        by_cases e : u = k
        · rw [e]; exact Nat.le_refl _
        · have := ih.1 u (by omega) hu2
          show d u ≤ d k
          omega
      · rw [gx_p_n2 (by omega)]
        refine ⟨fun u hu hu2 => ?_, hx⟩
        by_cases e : u = k
        · rw [e]; omega
        · exact ih.1 u (by omega) hu2
/-- the others of v's dominators -/
noncomputable def gx_o (m : Nat) (f t : Nat → Nat) (v : Nat) : Nat → Bool := fun u => decide (u ≠ v) && gx_O m f t u v
section
variable {n m : Nat} {f t : Nat → Nat} {a b : Nat → Int32}
theorem gx_o_t (K : gx_k n m f t a b) {u v : Nat} (hu : u < n) : gx_o m f t v u = true ↔ u ≠ v ∧ dm_D m f t u v := by
  unfold gx_o; rw [Bool.and_eq_true, decide_eq_true_iff, gx_O_D K hu]
/-- a reachable vertex but the root has an immediate dominator, and the pick finds it -/
theorem gx_idom (K : gx_k n m f t a b) {v : Nat} (hv : v ≠ 0) (hL : gx_L m f t v = true) (b0 : Int32) :
    ∃ x, x < n ∧ gx_p (gx_o m f t v) (gx_d n m f t) b0 n = (nI x, gx_d n m f t x) ∧ dm_I m f t x v := by
  have hr := (gx_L_r K).mp hL
  have h0 : gx_o m f t v 0 = true := (gx_o_t K (by have := K.1; omega)).mpr ⟨fun e => hv e.symm, dm_D0 hr⟩
  have hd0 : 0 < gx_d n m f t 0 := by rw [gx_d_d K]; exact dm_d_pos (by have := K.1; omega) dm_r0
  obtain ⟨h1, h2⟩ := gx_p_spec (P := gx_o m f t v) (d := gx_d n m f t) (b0 := b0) n
  have h3 := h1 0 (by have := K.1; omega) h0
  cases h2 with
  | inl z => omega
  | inr z =>
    obtain ⟨x, hx, hp, e⟩ := z
    refine ⟨x, hx, e, ?_⟩
    have hx2 := (gx_o_t K hx).mp hp
    have hlt : ∀ a, dm_D m f t a v → a < n := fun a ha => gx_L_lt K ((gx_L_r K).mpr (dm_Dr ha))
    refine dm_I_max hx hlt hx2.2 hx2.1 (fun a ha na => ?_)
    have h4 := h1 a (hlt a ha) ((gx_o_t K (hlt a ha)).mpr ⟨na, ha⟩)
    rw [e] at h4
    rw [← gx_d_d K, ← gx_d_d K]
    exact h4
theorem gx_idom2 (K : gx_k n m f t a b) {v : Nat} (hv : v ≠ 0) (hL : gx_L m f t v = true) (b0 b1 : Int32) :
    (gx_p (gx_o m f t v) (gx_d n m f t) b0 n).1 = (gx_p (gx_o m f t v) (gx_d n m f t) b1 n).1 := by
  obtain ⟨x, hx, e, hI⟩ := gx_idom K hv hL b0
  have h := gx_p_base (P := gx_o m f t v) (d := gx_d n m f t) (b0 := b0) (b1 := b1) n
  cases h.2 with
  | inr z => exact z
  | inl z =>
    rw [e] at z
    have hp : 0 < gx_d n m f t x := by rw [gx_d_d K]; exact dm_d_pos hx (dm_Dr hI.1)
    exact absurd z (by show ¬ gx_d n m f t x = 0; omega)
/-- whose immediate dominator u is -/
noncomputable def gx_c (n m : Nat) (f t : Nat → Nat) (u : Nat) : Nat → Bool := fun v => gx_O m f t u v && decide (gx_d n m f t v = gx_d n m f t u + 1)
theorem gx_child (K : gx_k n m f t a b) {u v : Nat} (hu : u < n) (hv : v ≠ 0) (hL : gx_L m f t v = true) :
    ((gx_p (gx_o m f t v) (gx_d n m f t) (-1) n).1 = nI u) ↔ gx_c n m f t u v = true := by
  have hvn := gx_L_lt K hL
  obtain ⟨x, hx, e, hI⟩ := gx_idom K hv hL (-1)
  have hlt : ∀ a, dm_D m f t a v → a < n := fun a ha => gx_L_lt K ((gx_L_r K).mpr (dm_Dr ha))
  rw [e]
  unfold gx_c
  rw [Bool.and_eq_true, decide_eq_true_iff, gx_O_D K hu, gx_d_d K v, gx_d_d K u]
  show nI x = nI u ↔ _
  have hn := K.2.1
  rw [nI_eq (by omega) (by omega)]
  constructor
  · intro z
    rw [← z]
    exact ⟨hI.1, dm_I_d hvn hI⟩
  · intro z
    exact dm_I_uniq hI (dm_I_of hvn hu hlt z.1 z.2)
theorem gx_child0 (K : gx_k n m f t a b) {u : Nat} (hu : u < n) : gx_c n m f t u 0 = false := by
  cases e : gx_c n m f t u 0 with
  | false => rfl
  | true =>
    unfold gx_c at e
    rw [Bool.and_eq_true, decide_eq_true_iff, gx_O_D K hu] at e
    have h := dm_anti e.1 (dm_D0 (dm_Dr e.1))
    rw [h] at e
    omega
theorem gx_childn {u v : Nat} (hL : gx_L m f t v = false) : gx_c n m f t u v = false := by unfold gx_c; rw [gx_O_no hL]; rfl
/-- the greatest depth so far -/
noncomputable def gx_h (d : Nat → Nat) : Nat → Nat
  | 0 => 0
  | k + 1 => if d k ≤ gx_h d k then gx_h d k else d k
theorem gx_h_le {d : Nat → Nat} {N : Nat} (h : ∀ v, d v ≤ N) : ∀ k, gx_h d k ≤ N := by
  intro k
  induction k with
  | zero => exact Nat.zero_le _
  | succ k ih => show (if d k ≤ gx_h d k then gx_h d k else d k) ≤ N; split; exact ih; exact h k
/-- an edge that is needed -/
noncomputable def gx_b (m : Nat) (f t : Nat → Nat) (i : Nat) : Bool := dm_b (∃ v, gx_L m f t v = true ∧ gx_R m f t (-1) (nI i) v = false)
theorem gx_R_L {p q : Int32} {v : Nat} (K : gx_k n m f t a b) (h : gx_R m f t p q v = true) : gx_L m f t v = true :=
  (gx_L_r K).mpr (dm_mono (fun _ => trivial) (fun _ _ _ => trivial) (fun _ _ _ => trivial) (rc_R_t.mp h))
theorem gx_p_le (P : Nat → Bool) (b0 : Int32) (k : Nat) : (gx_p P (gx_d n m f t) b0 k).2 ≤ n := by
  induction k with
  | zero => exact Nat.zero_le _
  | succ k ih =>
    show (if P k = true ∧ (gx_p P (gx_d n m f t) b0 k).2 < gx_d n m f t k then (nI k, gx_d n m f t k) else gx_p P (gx_d n m f t) b0 k).2 ≤ n
    split
    · exact gx_d_le k
    · exact ih
end
end
section
/-! the component's own methods, each with a general post -/
theorem gx_cl {n : Nat} (h : n < 2 ^ 31) : (nI n).toNatClampNeg = n := nI_clamp h
section
variable {n m : Nat} {f t : Nat → Nat} {a b : Nat → Int32}
theorem xe_bad {post : Int32 → Prop} {e : Int32} {p : Int32} (h : p < 0 ∨ nI n ≤ p) (hp : post 0) : wpX_isGood post (nI n, e, a, b) p := by
  by_cases z : p < 0
  · exact br_t z hp
  · exact br_f z (br_t (h.resolve_left z) hp)
theorem xe_ok {post : Int32 → Prop} {e : Int32} {j : Nat} (hj : j < n) (hn : n ≤ 24) (hp : post 1) : wpX_isGood post (nI n, e, a, b) (nI j) :=
  br_f (nI_pos (by omega)) (br_f (nI_ge hj (by omega)) hp)
theorem xe_pbad {post : Int32 → Prop} {e : Int32} {p : Int32} (h : p < 0 ∨ nI m ≤ p) (hp : post 0) : wpX_isPosition post (e, nI m, a, b) p := by
  by_cases z : p < 0
  · exact br_t z hp
  · exact br_f z (br_t (h.resolve_left z) hp)
theorem xe_pok {post : Int32 → Prop} {e : Int32} {j : Nat} (hj : j < m) (hn : m ≤ 60) (hp : post 1) : wpX_isPosition post (e, nI m, a, b) (nI j) :=
  br_f (nI_pos (by omega)) (br_f (nI_ge hj (by omega)) hp)
/-- a mask is a set -/
def xe_k (x : Int32) (S : Nat → Bool) : Prop := ∀ v, v < 32 → bt x v = S v
theorem xe_k_eq {x y : Int32} {S : Nat → Bool} (h1 : xe_k x S) (h2 : xe_k y S) : x = y := b_ext (fun v hv => (h1 v hv).trans (h2 v hv).symm)
theorem xe_in (K : gx_k n m f t a b) {post : Int32 → Prop} {J13 : Int32 → Int32 → Prop} {p q x4 x5 : Int32} {S : Nat → Bool}
    (hx : ∀ y, xe_k y (rc_p f t (gx_v p) (gx_v q) S m) → ((y = x5 → post y) ∧ (¬ y = x5 → ∀ z : Int32, z = x4 + 1 → J13 y z))) (x3 : Int32) (h0 : xe_k x3 S) :
    ∃ k, wX_reachedWithout_28 post J13 p q x4 x5 (nI n) (nI m) a b k x3 0 := by
  refine loop_0 (fun k i (y : Int32) => wX_reachedWithout_28 post J13 p q x4 x5 (nI n) (nI m) a b k y (nI i)) (fun i y => xe_k y (rc_p f t (gx_v p) (gx_v q) S i)) m x3 h0 ?_ ?_
  · intro k y hy
    exact br_t (nI_le (Nat.le_refl m) (by have := K.2.2.1; omega)) (hx y hy)
  · intro k i y hi hy hk
    have hm := K.2.2.1
    have hn := K.2.1
    obtain ⟨hf, ht, ea, eb⟩ := K.2.2.2 i hi
    have hin : vp_in (nI i) 60 := vp_in_nI (by omega) (by omega)
    have hc : (nI i).toNatClampNeg = i := nI_clamp (by omega)
    have hnext : xe_k y (rc_p f t (gx_v p) (gx_v q) S (i + 1)) → ∀ z : Int32, z = nI i + 1 → wX_reachedWithout_28 post J13 p q x4 x5 (nI n) (nI m) a b k y z :=
      fun h => nm_r (nI_1 i) (hk y h)
    have h59 : ∀ z0 : Int32, (z0 = 0 ∧ (gx_v q i && gx_v p (t i)) = false ∨ z0 = 1 ∧ gx_v q i = true ∧ gx_v p (t i) = true) →
        wX_reachedWithout_59 post J13 (wX_reachedWithout_28 post J13 p q x4 x5 (nI n) (nI m) a b k) p q y x4 x5 (nI i) z0 (nI n) (nI m) a b := by
      intro z0 hz
      refine ⟨hin, ?_⟩
      rw [hc, ea]
      refine ek_if (gb_test y (f i) (by omega)) (fun hs => ?_) (fun hs => ?_)
      · cases hz with
        | inl z =>
          rw [z.1]
          refine br_t rfl (hnext ?_)
          show xe_k y (rc_s f t (gx_v p) (gx_v q) (rc_p f t (gx_v p) (gx_v q) S i) i)
          rw [rc_s_no (by rw [z.2]; rfl)]; exact hy
        | inr z =>
          rw [z.1]
          refine br_f (by decide) (br_f (by decide) ⟨hin, nm_e ?_⟩)
          refine nm_r (nI_1 i) (hk _ ?_)
          intro v hv
          show _ = rc_s f t (gx_v p) (gx_v q) (rc_p f t (gx_v p) (gx_v q) S i) i v
          rw [hc, eb, gb_set y (t i) (by omega) v hv, rc_s_yes z.2.1 z.2.2 ((hy (f i) (by omega)).symm.trans hs), hy v hv]
      · have hno : xe_k y (rc_p f t (gx_v p) (gx_v q) S (i + 1)) := by
          show xe_k y (rc_s f t (gx_v p) (gx_v q) (rc_p f t (gx_v p) (gx_v q) S i) i)
          rw [rc_s_no ?_]; exact hy
          rw [← hy (f i) (by omega), Bool.not_eq_true _ |>.mp hs, Bool.and_false]
        have h0 : ∀ z0 : Int32, wX_reachedWithout_81 post J13 (wX_reachedWithout_28 post J13 p q x4 x5 (nI n) (nI m) a b k) p q y x4 x5 (nI i) z0 0 (nI n) (nI m) a b :=
          fun z0 => br_c (fun _ => hnext hno) (fun _ => br_t rfl (hnext hno))
        exact h0 z0
    refine br_f (nI_ge hi (by omega)) (br_c (fun h => h59 0 (Or.inl ⟨rfl, ?_⟩)) (fun h => ⟨hin, ?_⟩))
    · rw [gx_v_f.mpr h]; rfl
    · rw [hc, eb]
      refine br_c (fun h2 => h59 0 (Or.inl ⟨rfl, ?_⟩)) (fun h2 => h59 1 (Or.inr ⟨rfl, gx_v_t.mpr h, gx_v_t.mpr h2⟩))
      rw [gx_v_f.mpr h2, Bool.and_false]
theorem xe_out (K : gx_k n m f t a b) {post : Int32 → Prop} {p q : Int32} (hp : ∀ r, xe_k r (gx_R m f t p q) → post r) (x3 : Int32) (h0 : xe_k x3 (rc_0 (gx_v p))) :
    ∃ k, wX_reachedWithout_13 post p q (nI n) (nI m) a b k x3 0 := by
  have hn := K.2.1
  have hn2 := K.1
  refine loop_0 (fun k r (y : Int32) => wX_reachedWithout_13 post p q (nI n) (nI m) a b k y (nI r)) (fun r y => xe_k y (rc_k m f t (gx_v p) (gx_v q) r) ∧ rc_G n m f t (gx_v p) (gx_v q) r) n x3 ⟨h0, rc_G_0 (by omega)⟩ ?_ ?_
  · intro k y hy
    exact br_t (nI_le (Nat.le_refl n) (by omega)) (hp y (fun v hv => (hy.1 v hv).trans (rc_G_x hy.2 (Nat.le_refl n) v)))
  · intro k r y hr hy hk
    refine br_f (nI_ge hr (by omega)) (xe_in K (fun y' hy' => ?_) y hy.1)
    have hy2 : xe_k y' (rc_k m f t (gx_v p) (gx_v q) (r + 1)) := hy'
    have hbig : ∀ x, ¬ x < 32 → rc_k m f t (gx_v p) (gx_v q) (r + 1) x = rc_k m f t (gx_v p) (gx_v q) r x := by
      intro x hx
      have h1 : ∀ r, rc_k m f t (gx_v p) (gx_v q) r x = false := fun r => by
        cases e : rc_k m f t (gx_v p) (gx_v q) r x with
        | false => rfl
        | true => exact absurd (rc_R_lt (n := n) (by omega) (fun i hi => (K.2.2.2 i hi).2.1) (rc_k_snd r x e)) (by omega)
      rw [h1, h1]
    refine br_c (fun e => ?_) (fun e => ?_)
    · refine hp y' (fun v hv => ?_)
      rw [hy2 v hv]
      have hfix : ∀ x, rc_k m f t (gx_v p) (gx_v q) (r + 1) x = rc_k m f t (gx_v p) (gx_v q) r x := by
        intro x
        by_cases hx : x < 32
        · rw [← hy2 x hx, ← hy.1 x hx, e]
        · exact hbig x hx
      rw [hfix]
      exact rc_k_fix hfix v
    · refine nm_r (nI_1 r) (hk y' ⟨hy2, rc_G_s (by omega) (fun i hi => (K.2.2.2 i hi).2.1) hy.2 ?_⟩)
      apply Classical.byContradiction
      intro no
      apply e
      refine b_ext (fun v hv => ?_)
      rw [hy2 v hv, hy.1 v hv]
      exact Classical.byContradiction (fun z => no ⟨v, z⟩)
theorem xe_reach (K : gx_k n m f t a b) {post : Int32 → Prop} {p q : Int32} (hp : ∀ r, xe_k r (gx_R m f t p q) → post r) :
    wpX_reachedWithout post (nI n, nI m, a, b) p q := by
  refine br_c (fun h => xe_out K hp 0 ?_) (fun h => xe_out K hp 1 ?_)
  · intro v hv
    show _ = (gx_v p 0 && decide (v = 0))
    rw [gx_v_f.mpr (show nI 0 = p by rw [h]; rfl), b_0]; rfl
  · intro v hv
    show _ = (gx_v p 0 && decide (v = 0))
    rw [gx_v_t.mpr (show ¬ nI 0 = p from fun e => h (e.symm.trans rfl)), gb_1 v hv]; rfl
end
theorem xe_con_t {post : Int32 → Prop} {x : Int32} {v : Nat} (hv : v < 32) (h : bt x v = true) (hp : post 1) : wpX_contains post x (nI v) :=
  br_t ((gb_test x v hv).mpr h) hp
theorem xe_con_f {post : Int32 → Prop} {x : Int32} {v : Nat} (hv : v < 32) (h : bt x v = false) (hp : post 0) : wpX_contains post x (nI v) :=
  br_f (fun z => by rw [(gb_test x v hv).mp z] at h; cases h) hp
end
section
/-! the component's methods over its masks -/
theorem xe_size {post : Int32 → Prop} {x : Int32} (hp : post (nI (dm_c (bt x) 24))) : wpX_sizeOf post x := by
  refine loop_0 (fun k i (y : Int32) => wX_sizeOf_4 post x k y (nI i)) (fun i y => y = nI (dm_c (bt x) i)) 24 0 rfl ?_ ?_
  · intro k y hy
    rw [hy]
    exact br_t (nI_le (a := 24) (b := 24) (Nat.le_refl _) (by decide)) hp
  · intro k i y hi hy hk
    refine br_f (nI_ge (b := 24) hi (by decide)) ?_
    cases e : bt x i with
    | true =>
      refine xe_con_t (by omega) e (br_f (by decide) (nm_e (nm_r (nI_1 i) (hk _ ?_))))
      show y + 1 = nI (dm_c (bt x) i + (if bt x i = true then 1 else 0))
      rw [e, hy]; exact nI_1 _
    | false =>
      refine xe_con_f (by omega) e (br_t rfl (nm_r (nI_1 i) (hk _ ?_)))
      show y = nI (dm_c (bt x) i + (if bt x i = true then 1 else 0))
      rw [e, hy]; rfl
theorem xe_c_congr {p q : Nat → Bool} (k : Nat) (h : ∀ i, i < k → p i = q i) : dm_c p k = dm_c q k :=
  dm_c_congr k (fun i hi => by rw [h i hi])
theorem xe_c_ext {p q : Nat → Bool} {n : Nat} (h : ∀ i, i < n → p i = q i) : ∀ d, (∀ i, n ≤ i → i < n + d → p i = false) → dm_c p (n + d) = dm_c q n := by
  intro d
  induction d with
  | zero => exact fun _ => xe_c_congr n h
  | succ d ih =>
    intro h2
    show dm_c p (n + d) + (if p (n + d) = true then 1 else 0) = _
    rw [ih (fun i h3 h4 => h2 i h3 (by omega)), h2 (n + d) (by omega) (by omega)]; rfl
section
variable {n m : Nat} {f t : Nat → Nat} {a b : Nat → Int32}
theorem xe_isr_t (K : gx_k n m f t a b) {post : Int32 → Prop} {v : Nat} (hv : v < n) (h : gx_L m f t v = true) (hp : post 1) : wpX_isReached post (nI n, nI m, a, b) (nI v) := by
  have hn := K.2.1
  unfold wpX_isReached
  refine xe_reach K (fun r hr => xe_con_t (by omega) ?_ ⟨rfl, hp⟩)
  rw [hr v (by omega)]; exact h
theorem xe_isr_f (K : gx_k n m f t a b) {post : Int32 → Prop} {v : Nat} (hv : v < n) (h : gx_L m f t v = false) (hp : post 0) : wpX_isReached post (nI n, nI m, a, b) (nI v) := by
  have hn := K.2.1
  unfold wpX_isReached
  refine xe_reach K (fun r hr => xe_con_f (by omega) ?_ ⟨rfl, hp⟩)
  rw [hr v (by omega)]; exact h
theorem xe_domby (K : gx_k n m f t a b) {post : Int32 → Prop} {u : Nat} (hp : ∀ r, xe_k r (gx_O m f t u) → post r) : wpX_dominatedBy post (nI n, nI m, a, b) (nI u) := by
  unfold wpX_dominatedBy
  refine xe_reach K (fun r hr => xe_reach K (fun r' hr' => hp _ (fun v hv => ?_)))
  rw [gb_not _ _ v hv, hr v hv, hr' v hv]; rfl
/-- the dominators of v as a set -/
noncomputable def gx_D (n m : Nat) (f t : Nat → Nat) (v : Nat) : Nat → Bool := fun u => decide (u < n) && gx_O m f t u v
theorem xe_domof (K : gx_k n m f t a b) {post : Int32 → Prop} {v : Nat} (hv : v < n) (hp : ∀ r, xe_k r (gx_D n m f t v) → post r) : wpX_dominatorsOf post (nI n, nI m, a, b) (nI v) := by
  have hn := K.2.1
  unfold wpX_dominatorsOf
  refine xe_reach K (fun r hr => ?_)
  refine loop_0 (fun k i (y : Int32) => wX_dominatorsOf_12 post (nI v) r (nI n) (nI m) a b k y (nI i)) (fun i y => xe_k y (fun u => decide (u < i) && gx_O m f t u v)) n 0 ?_ ?_ ?_
  · intro u hu
    rw [b_0]; show false = (decide (u < 0) && _); rw [decide_eq_false (by omega)]; rfl
  · intro k y hy
    exact br_t (nI_le (Nat.le_refl n) (by omega)) (hp y hy)
  · intro k i y hi hy hk
    refine br_f (nI_ge hi (by omega)) (xe_reach K (fun r' hr' => nm_e ?_))
    have e : bt (r &&& (r' ^^^ (-1))) v = gx_O m f t i v := by
      rw [gb_not _ _ v (by omega), hr v (by omega), hr' v (by omega)]; rfl
    cases h : gx_O m f t i v with
    | true =>
      refine xe_con_t (by omega) (e.trans h) (br_f (by decide) (nm_e (nm_r (nI_1 i) (hk _ ?_))))
      intro u hu
      rw [gb_set y i (by omega) u hu, hy u hu]
      show (decide (u < i) && gx_O m f t u v || decide (u = i)) = (decide (u < i + 1) && gx_O m f t u v)
      by_cases z : u = i
      · rw [z, h]; simp
      · by_cases z2 : u < i
        · simp [z, z2, Nat.lt_succ_of_lt z2]
        · have z3 : ¬ u < i + 1 := by omega
          simp [z, z2, z3]
    | false =>
      refine xe_con_f (by omega) (e.trans h) (br_t rfl (nm_r (nI_1 i) (hk _ ?_)))
      intro u hu
      rw [hy u hu]
      show (decide (u < i) && gx_O m f t u v) = (decide (u < i + 1) && gx_O m f t u v)
      by_cases z : u = i
      · rw [z, h]; simp
      · by_cases z2 : u < i
        · simp [z2, Nat.lt_succ_of_lt z2]
        · have z3 : ¬ u < i + 1 := by omega
          simp [z2, z3]
theorem xe_depth (K : gx_k n m f t a b) {post : Int32 → Prop} {v : Nat} (hv : v < n) (hp : post (nI (gx_d n m f t v))) : wpX_depthOf post (nI n, nI m, a, b) (nI v) := by
  have hn := K.2.1
  unfold wpX_depthOf
  refine xe_domof K hv (fun r hr => xe_size ?_)
  have e : dm_c (bt r) 24 = gx_d n m f t v := by
    have h := xe_c_ext (p := bt r) (q := fun u => gx_O m f t u v) (n := n) (fun i hi => by
      rw [hr i (by omega)]; show (decide (i < n) && _) = _; rw [decide_eq_true hi]; rfl) (24 - n) (fun i h1 h2 => by
      rw [hr i (by omega)]; show (decide (i < n) && _) = _; rw [decide_eq_false (by omega)]; rfl)
    rw [show n + (24 - n) = 24 by omega] at h
    exact h
  rw [e]; exact hp
theorem xe_size_R (K : gx_k n m f t a b) {post : Int32 → Prop} {r : Int32} {S : Nat → Bool} (hr : xe_k r S) (hS : ∀ v, S v = true → gx_L m f t v = true) (hp : post (nI (dm_c S n))) : wpX_sizeOf post r := by
  have hn := K.2.1
  refine xe_size ?_
  have h := xe_c_ext (p := bt r) (q := S) (n := n) (fun i hi => hr i (by omega)) (24 - n) (fun i h1 h2 => by
    rw [hr i (by omega)]
    cases e : S i with
    | false => rfl
    | true => exact absurd (gx_L_lt K (hS i e)) (by omega))
  rw [show n + (24 - n) = 24 by omega] at h
  rw [h]; exact hp
theorem xe_last (K : gx_k n m f t a b) {post : Int32 → Prop} {x : Int32} {P : Nat → Bool} (hx : ∀ v, v < n → bt x v = P v) (hp : post (gx_p P (gx_d n m f t) 0 n).1) : wpX_lastOf post (nI n, nI m, a, b) x := by
  have hn := K.2.1
  refine loop_0 (fun k i (s : Int32 × Int32) => wX_lastOf_7 post x (nI n) (nI m) a b k s.1 s.2 (nI i)) (fun i s => s = ((gx_p P (gx_d n m f t) 0 i).1, nI (gx_p P (gx_d n m f t) 0 i).2)) n (0, 0) rfl ?_ ?_
  · intro k s hs
    rw [hs]
    exact br_t (nI_le (Nat.le_refl n) (by omega)) hp
  · intro k i s hi hs hk
    rw [hs]
    have hle := gx_p_le (n := n) (m := m) (f := f) (t := t) P 0 i
    have hle2 := gx_d_le (n := n) (m := m) (f := f) (t := t) i
    refine br_f (nI_ge hi (by omega)) ?_
    cases h : P i with
    | true =>
      refine xe_con_t (by omega) ((hx i hi).trans h) (br_f (by decide) (xe_depth K hi ?_))
      refine pk_le (gx_d n m f t i) (gx_p P (gx_d n m f t) 0 i).2 (fun z => nm_r (nI_1 i) (hk (_, _) ?_)) (fun z => nm_r (nI_1 i) (hk (_, _) ?_))
      · show _ = ((gx_p P (gx_d n m f t) 0 (i + 1)).1, nI (gx_p P (gx_d n m f t) 0 (i + 1)).2)
        rw [gx_p_n2 z]
      · show _ = ((gx_p P (gx_d n m f t) 0 (i + 1)).1, nI (gx_p P (gx_d n m f t) 0 (i + 1)).2)
        rw [gx_p_y h z]; rfl
    | false =>
      refine xe_con_f (by omega) ((hx i hi).trans h) (br_t rfl ?_)
      refine br_t (nI_le (a := 0) (Nat.zero_le _) (by omega)) (nm_r (nI_1 i) (hk (_, _) ?_))
      show _ = ((gx_p P (gx_d n m f t) 0 (i + 1)).1, nI (gx_p P (gx_d n m f t) 0 (i + 1)).2)
      rw [gx_p_n1 h]
theorem xe_childs (K : gx_k n m f t a b) {post : Int32 → Prop} {x : Int32} {u : Nat} (hx : xe_k x (gx_O m f t u)) (hp : post (nI (dm_c (gx_c n m f t u) n))) :
    ∃ k, wX_children_41 post x (nI (gx_d n m f t u + 1)) (nI n) (nI m) a b k 0 0 := by
  have hn := K.2.1
  refine loop_0 (fun k i (y : Int32) => wX_children_41 post x (nI (gx_d n m f t u + 1)) (nI n) (nI m) a b k y (nI i)) (fun i y => y = nI (dm_c (gx_c n m f t u) i)) n 0 rfl ?_ ?_
  · intro k y hy
    rw [hy]
    exact br_t (nI_le (Nat.le_refl n) (by omega)) hp
  · intro k i y hi hy hk
    have hle := gx_d_le (n := n) (m := m) (f := f) (t := t) i
    have hle2 := gx_d_le (n := n) (m := m) (f := f) (t := t) u
    have hy0 : gx_c n m f t u i = false → y = nI (dm_c (gx_c n m f t u) (i + 1)) := fun e => by
      show y = nI (dm_c (gx_c n m f t u) i + (if gx_c n m f t u i = true then 1 else 0))
      rw [e, hy]; rfl
    have hy1 : gx_c n m f t u i = true → y + 1 = nI (dm_c (gx_c n m f t u) (i + 1)) := fun e => by
      show y + 1 = nI (dm_c (gx_c n m f t u) i + (if gx_c n m f t u i = true then 1 else 0))
      rw [e, hy]; exact nI_1 _
    refine br_f (nI_ge hi (by omega)) ?_
    cases h : gx_O m f t u i with
    | true =>
      refine xe_con_t (by omega) ((hx i (by omega)).trans h) (br_f (by decide) (xe_depth K hi ?_))
      refine pk_eq (gx_d n m f t i) (gx_d n m f t u + 1) (fun z => nm_e (nm_r (nI_1 i) (hk _ (hy1 ?_)))) (fun z => nm_r (nI_1 i) (hk _ (hy0 ?_)))
      · unfold gx_c; rw [h, z]; simp
      · unfold gx_c; rw [h]; simp [z]
    | false =>
      refine xe_con_f (by omega) ((hx i (by omega)).trans h) (br_t rfl (nm_r (nI_1 i) (hk _ (hy0 ?_))))
      unfold gx_c; rw [h]; rfl
/-- an edge into v from below u -/
noncomputable def gx_e (m : Nat) (f t : Nat → Nat) (u v : Nat) : Prop := ∃ i, i < m ∧ t i = v ∧ gx_O m f t u (f i) = true
theorem xe_bord (K : gx_k n m f t a b) {post : Int32 → Prop} {x : Int32} {u v : Nat} (hv : v < n) (hx : xe_k x (gx_O m f t u)) (h1 : gx_e m f t u v → post 1) (h0 : ¬ gx_e m f t u v → post 0) :
    ∃ k, wX_border_61 post (nI v) x (nI n) (nI m) a b k 0 := by
  have hn := K.2.1
  have hm := K.2.2.1
  refine loop_0 (fun k i (_ : Unit) => wX_border_61 post (nI v) x (nI n) (nI m) a b k (nI i)) (fun i _ => ∀ j, j < i → ¬ (t j = v ∧ gx_O m f t u (f j) = true)) m () (fun j hj => absurd hj (by omega)) ?_ ?_
  · intro k s hs
    exact br_t (nI_le (Nat.le_refl m) (by omega)) (h0 (fun ⟨j, z, z2⟩ => hs j z z2))
  · intro k i s hi hs hk
    obtain ⟨hf, ht, ea, eb⟩ := K.2.2.2 i hi
    have hin : vp_in (nI i) 60 := vp_in_nI (by omega) (by omega)
    have hc : (nI i).toNatClampNeg = i := nI_clamp (by omega)
    refine br_f (nI_ge hi (by omega)) ⟨hin, ?_⟩
    rw [hc, ea, eb]
    refine pk_eq (t i) v (fun z => ⟨hin, ?_⟩) (fun z => nm_r (nI_1 i) (hk () (lt_s hs (fun y => z y.1))))
    cases h : gx_O m f t u (f i) with
    | true => exact xe_con_t (by omega) ((hx _ (by omega)).trans h) (br_f (by decide) (h1 ⟨i, hi, z, h⟩))
    | false => exact xe_con_f (by omega) ((hx _ (by omega)).trans h) (br_t rfl (nm_r (nI_1 i) (hk () (lt_s hs (fun y => by rw [h] at y; cases y.2)))))
theorem xe_bridges (K : gx_k n m f t a b) {post : Int32 → Prop} (hp : post (nI (dm_c (gx_b m f t) m))) : wpX_bridges post (nI n, nI m, a, b) := by
  have hn := K.2.1
  have hm := K.2.2.1
  unfold wpX_bridges
  refine xe_reach K (fun r hr => ?_)
  refine loop_0 (fun k i (y : Int32) => wX_bridges_11 post r (nI n) (nI m) a b k y (nI i)) (fun i y => y = nI (dm_c (gx_b m f t) i)) m 0 rfl ?_ ?_
  · intro k y hy
    rw [hy]
    exact br_t (nI_le (Nat.le_refl m) (by omega)) hp
  · intro k i y hi hy hk
    refine br_f (nI_ge hi (by omega)) (xe_reach K (fun r' hr' => br_c (fun e => nm_r (nI_1 i) (hk _ ?_)) (fun e => nm_e (nm_r (nI_1 i) (hk _ ?_)))))
    · have hb : gx_b m f t i = false := dm_b_f.mpr (fun ⟨v, z1, z2⟩ => by
        have hv := gx_L_lt K z1
        have z3 : gx_R m f t (-1) (-1) v = gx_R m f t (-1) (nI i) v := (hr v (by omega)).symm.trans ((congrArg (fun x => bt x v) e.symm).trans (hr' v (by omega)))
        rw [z2] at z3
        rw [show gx_R m f t (-1) (-1) v = true from z1] at z3
        cases z3)
      show y = nI (dm_c (gx_b m f t) i + (if gx_b m f t i = true then 1 else 0))
      rw [hb, hy]; rfl
    · have hb : gx_b m f t i = true := dm_b_t.mpr (by
        apply Classical.byContradiction
        intro no
        apply e
        refine b_ext (fun v hv => ?_)
        rw [hr v hv, hr' v hv]
        apply Bool.eq_iff_iff.mpr
        constructor
        · exact gx_R_L K
        · intro z
          cases h : gx_R m f t (-1) (nI i) v with
          | true => rfl
          | false => exact absurd ⟨v, z, h⟩ no)
      show y + 1 = nI (dm_c (gx_b m f t) i + (if gx_b m f t i = true then 1 else 0))
      rw [hb, hy]; exact nI_1 _
theorem xe_height (K : gx_k n m f t a b) {post : Int32 → Prop} (hp : post (nI (gx_h (gx_d n m f t) n))) : wpX_height post (nI n, nI m, a, b) := by
  have hn := K.2.1
  refine loop_0 (fun k i (y : Int32) => wX_height_4 post (nI n) (nI m) a b k y (nI i)) (fun i y => y = nI (gx_h (gx_d n m f t) i)) n 0 rfl ?_ ?_
  · intro k y hy
    rw [hy]
    exact br_t (nI_le (Nat.le_refl n) (by omega)) hp
  · intro k i y hi hy hk
    have hle := gx_d_le (n := n) (m := m) (f := f) (t := t) i
    have hle2 := gx_h_le (d := gx_d n m f t) (N := n) (fun v => gx_d_le v) i
    refine br_f (nI_ge hi (by omega)) (xe_depth K hi ?_)
    rw [hy]
    refine pk_le (gx_d n m f t i) (gx_h (gx_d n m f t) i) (fun z => nm_r (nI_1 i) (hk _ ?_)) (fun z => nm_r (nI_1 i) (hk _ ?_))
    · show _ = nI (if gx_d n m f t i ≤ gx_h (gx_d n m f t) i then gx_h (gx_d n m f t) i else gx_d n m f t i)
      rw [if_pos z]
    · show _ = nI (if gx_d n m f t i ≤ gx_h (gx_d n m f t) i then gx_h (gx_d n m f t) i else gx_d n m f t i)
      rw [if_neg (by omega)]
end
end
section
/-! the reference's methods -/
def gx_I (x : Bool) : Int32 := if x = true then 1 else 0
theorem gx_I_t {x : Bool} (h : x = true) : gx_I x = 1 := if_pos h
theorem gx_I_f {x : Bool} (h : x = false) : gx_I x = 0 := if_neg (by rw [h]; decide)
theorem gx_I_nar (x : Bool) : vp_nar .boolean (gx_I x) = gx_I x := by cases x <;> rfl
theorem gx_upd {s : Nat → Int32} {S : Nat → Bool} {j : Nat} {z : Int32} (hz : z = 1) (h : ∀ v, v < 24 → s v = gx_I (S v)) : ∀ v, v < 24 → upd s j z v = gx_I (S v || decide (v = j)) := by
  intro v hv
  by_cases e : v = j
  · rw [e, pk_us, gx_I_t (by simp)]; exact hz
  · rw [pk_un e, h v hv]; simp [e]
section
variable {n m : Nat} {f t : Nat → Nat} {a b s l o : Nat → Int32}
theorem ye_bad {post : Int32 → Prop} {e : Int32} {p : Int32} (h : p < 0 ∨ nI n ≤ p) (hp : post 1) : wpY_bad post (nI n, e, a, b, s, l, o) p := by
  by_cases z : p < 0
  · exact br_t z hp
  · exact br_f z (br_t (h.resolve_left z) hp)
theorem ye_ok {post : Int32 → Prop} {e : Int32} {j : Nat} (hj : j < n) (hn : n ≤ 24) (hp : post 0) : wpY_bad post (nI n, e, a, b, s, l, o) (nI j) :=
  br_f (nI_pos (by omega)) (br_f (nI_ge hj (by omega)) (br_t (nI_lt (a := j) (b := 24) (by omega) (by decide)) hp))
/-- an array of booleans is a set -/
def ye_k (s : Nat → Int32) (S : Nat → Bool) : Prop := ∀ v, v < 24 → s v = gx_I (S v)
theorem ye_in (K : gx_k n m f t a b) {post : SY → Prop} {J : Int32 → Int32 → (Nat → Int32) → (Nat → Int32) → (Nat → Int32) → (Nat → Int32) → (Nat → Int32) → Prop} {p q x4 : Int32} {S : Nat → Bool}
    (hx : ∀ (y : Int32) (s' : Nat → Int32), ye_k s' (rc_p f t (gx_v p) (gx_v q) S m) →
      (y = 0 ∧ (∀ x, rc_p f t (gx_v p) (gx_v q) S m x = S x) ∨ y = 1 ∧ ∃ x, rc_p f t (gx_v p) (gx_v q) S m x ≠ S x) → J y (x4 + 1) a b s' l o) (h0 : ye_k s S) :
    ∃ k, wY_reach_53 post J p q x4 (nI n) (nI m) k 0 0 a b s l o := by
  refine loop_0 (fun k i (w : Int32 × (Nat → Int32)) => wY_reach_53 post J p q x4 (nI n) (nI m) k w.1 (nI i) a b w.2 l o)
    (fun i w => ye_k w.2 (rc_p f t (gx_v p) (gx_v q) S i) ∧ (w.1 = 0 ∧ (∀ x, rc_p f t (gx_v p) (gx_v q) S i x = S x) ∨ w.1 = 1 ∧ ∃ x, rc_p f t (gx_v p) (gx_v q) S i x ≠ S x)) m (0, s) ⟨h0, Or.inl ⟨rfl, fun _ => rfl⟩⟩ ?_ ?_
  · intro k w hw
    exact br_t (nI_le (Nat.le_refl m) (by have := K.2.2.1; omega)) (nm_e (hx w.1 w.2 hw.1 hw.2))
  · intro k i w hi hw hk
    obtain ⟨y, s'⟩ := w
    have hm := K.2.2.1
    have hn := K.2.1
    obtain ⟨hf, ht, ea, eb⟩ := K.2.2.2 i hi
    have hin : vp_in (nI i) 60 := vp_in_nI (by omega) (by omega)
    have hc : (nI i).toNatClampNeg = i := nI_clamp (by omega)
    have hcf : (nI (f i)).toNatClampNeg = f i := nI_clamp (by omega)
    have hct : (nI (t i)).toNatClampNeg = t i := nI_clamp (by omega)
    have hnext : rc_s f t (gx_v p) (gx_v q) (rc_p f t (gx_v p) (gx_v q) S i) i = rc_p f t (gx_v p) (gx_v q) S i → ∀ z : Int32, z = nI i + 1 → wY_reach_53 post J p q x4 (nI n) (nI m) k y z a b s' l o := by
      intro e
      refine nm_r (nI_1 i) (hk (y, s') ?_)
      rw [show rc_p f t (gx_v p) (gx_v q) S (i + 1) = rc_p f t (gx_v p) (gx_v q) S i from e]
      exact hw
    refine br_f (nI_ge hi (by omega)) (br_f (nI_ge (a := i) (b := 60) (by omega) (by decide)) ⟨hin, ?_⟩)
    rw [hc, ea, eb]
    refine nm_e (br_c (fun h => hnext (rc_s_no ?_)) (fun h => ⟨hin, vp_in_nI (by omega) (by decide), ?_⟩))
    · rw [gx_v_f.mpr h]; rfl
    · rw [hcf, hw.1 (f i) (by omega)]
      cases hs : rc_p f t (gx_v p) (gx_v q) S i (f i) with
      | false =>
        refine br_t (gx_I_f rfl) (hnext (rc_s_no ?_))
        rw [hs, Bool.and_false]
      | true =>
        refine br_f (by decide) (br_c (fun h2 => hnext (rc_s_no ?_)) (fun h2 => ⟨vp_in_nI (by omega) (by decide), ?_⟩))
        · rw [gx_v_f.mpr h2, Bool.and_false]; rfl
        · rw [hct, hw.1 (t i) (by omega)]
          cases hs2 : rc_p f t (gx_v p) (gx_v q) S i (t i) with
          | true => exact br_f (by decide) (hnext (rc_s_in hs2))
          | false =>
            refine br_t (gx_I_f rfl) ⟨vp_in_nI (by omega) (by decide), nm_e (nm_r (nI_1 i) (hk (1, _) ⟨?_, Or.inr ⟨rfl, ?_⟩⟩))⟩
            · intro v hv
              show _ = gx_I (rc_s f t (gx_v p) (gx_v q) (rc_p f t (gx_v p) (gx_v q) S i) i v)
              rw [rc_s_yes (gx_v_t.mpr h) (gx_v_t.mpr h2) hs]
              exact gx_upd rfl hw.1 v hv
            · refine ⟨t i, ?_⟩
              show rc_s f t (gx_v p) (gx_v q) (rc_p f t (gx_v p) (gx_v q) S i) i (t i) ≠ S (t i)
              rw [rc_s_yes (gx_v_t.mpr h) (gx_v_t.mpr h2) hs, decide_eq_true rfl, Bool.or_true]
              intro z
              rw [rc_p_sub z.symm i] at hs2
              cases hs2
theorem ye_out (K : gx_k n m f t a b) {post : SY → Prop} {p q : Int32} (hp : ∀ s', ye_k s' (gx_R m f t p q) → post (nI n, nI m, a, b, s', l, o)) (h0 : ye_k s (rc_0 (gx_v p))) :
    ∃ k, wY_reach_37 post p q (nI n) (nI m) k 1 0 a b s l o := by
  have hn := K.2.1
  have hn2 := K.1
  refine loop_0 (fun k r (w : Int32 × (Nat → Int32)) => wY_reach_37 post p q (nI n) (nI m) k w.1 (nI r) a b w.2 l o)
    (fun r w => ye_k w.2 (rc_k m f t (gx_v p) (gx_v q) r) ∧ (w.1 = 0 ∧ (∀ x, rc_k m f t (gx_v p) (gx_v q) r x = gx_R m f t p q x) ∨ w.1 = 1 ∧ rc_G 24 m f t (gx_v p) (gx_v q) r)) 24 (1, s) ⟨h0, Or.inr ⟨rfl, rc_G_0 (by omega)⟩⟩ ?_ ?_
  · intro k w hw
    refine br_t (nI_le (a := 24) (b := 24) (Nat.le_refl _) (by decide)) (hp w.2 (fun v hv => ?_))
    rw [hw.1 v hv]
    cases hw.2 with
    | inl z => rw [z.2 v]
    | inr z => rw [rc_G_x z.2 (Nat.le_refl 24) v]; rfl
  · intro k r w hr hw hk
    obtain ⟨y, s'⟩ := w
    refine br_f (nI_ge (b := 24) hr (by decide)) ?_
    cases hw.2 with
    | inl z =>
      refine br_t z.1 (hp s' (fun v hv => ?_))
      rw [← z.2 v]; exact hw.1 v hv
    | inr z =>
      refine br_f (fun e => absurd (e.symm.trans z.1) (by decide)) (ye_in K (fun y2 s2 h2 h3 => ?_) hw.1)
      rw [nI_1 r]
      refine hk (y2, s2) ⟨h2, ?_⟩
      cases h3 with
      | inl h => exact Or.inl ⟨h.1, fun x => (h.2 x).trans (rc_k_fix h.2 x)⟩
      | inr h => exact Or.inr ⟨h.1, rc_G_s (by omega) (fun i hi => by have := (K.2.2.2 i hi).2.1; omega) z.2 h.2⟩
theorem ye_reach (K : gx_k n m f t a b) {post : SY → Prop} {p q : Int32} (hp : ∀ s', ye_k s' (gx_R m f t p q) → post (nI n, nI m, a, b, s', l, o)) :
    wpY_reach post (nI n, nI m, a, b, s, l, o) p q := by
  refine loop_0 (fun k i (s' : Nat → Int32) => wY_reach_2 post p q (nI n) (nI m) k (nI i) a b s' l o) (fun i s' => ∀ v, v < i → s' v = 0) 24 s (fun v hv => absurd hv (by omega)) ?_ ?_
  · intro k s' hs
    refine br_t (nI_le (a := 24) (b := 24) (Nat.le_refl _) (by decide)) (br_c (fun h => ye_out K hp ?_) (fun h => nm_e (ye_out K hp ?_)))
    · intro v hv
      rw [hs v hv]
      show _ = gx_I (gx_v p 0 && decide (v = 0))
      rw [gx_v_f.mpr (show nI 0 = p by rw [h]; rfl)]; rfl
    · intro v hv
      show _ = gx_I (gx_v p 0 && decide (v = 0))
      rw [gx_v_t.mpr (show ¬ nI 0 = p from fun e => h (e.symm.trans rfl))]
      by_cases e : v = 0
      · rw [e, pk_us]; rfl
      · rw [pk_un e, hs v hv]; simp [e]; rfl
  · intro k i s' hi hs hk
    refine br_f (nI_ge (b := 24) hi (by decide)) ⟨vp_in_nI hi (by decide), nm_e (nm_r (nI_1 i) (hk _ ?_))⟩
    intro v hv
    rw [nI_clamp (by omega)]
    by_cases e : v = i
    · rw [e, pk_us]; rfl
    · rw [pk_un e]; exact hs v (by omega)
/-- over, up to the cell that stands at u, v -/
def ye_o (m : Nat) (f t : Nat → Nat) (o : Nat → Int32) (c : Nat) : Prop := ∀ u v, u < 24 → v < 24 → 24 * u + v < c → o (24 * u + v) = gx_I (gx_O m f t u v)
theorem ye_tab_in (K : gx_k n m f t a b) {post : SY → Prop} {J : Int32 → Int32 → Int32 → (Nat → Int32) → (Nat → Int32) → (Nat → Int32) → (Nat → Int32) → (Nat → Int32) → Prop} {u : Nat} (hu : u < 24)
    (hl : ye_k l (gx_L m f t)) (hs : ye_k s (gx_R m f t (nI u) (-1))) (ho : ye_o m f t o (24 * u))
    (hx : ∀ o', ye_o m f t o' (24 * (u + 1)) → J (nI u + 1) (nI n) (nI m) a b s l o') :
    ∃ k, wY_tabulate_48 post J (nI u) (nI n) (nI m) k 0 a b s l o := by
  refine loop_0 (fun k i (o' : Nat → Int32) => wY_tabulate_48 post J (nI u) (nI n) (nI m) k (nI i) a b s l o') (fun i o' => ye_o m f t o' (24 * u + i)) 24 o ho ?_ ?_
  · intro k o' h
    exact br_t (nI_le (a := 24) (b := 24) (Nat.le_refl _) (by decide)) (nm_e (hx o' h))
  · intro k i o' hi h hk
    have e1 : (24 : Int32) * nI u + nI i = nI (24 * u + i) := by
      rw [show (24 : Int32) = nI 24 from rfl, pk_mul, nI_add]
    have hin : vp_in (24 * nI u + nI i) 576 := by rw [e1]; exact vp_in_nI (by omega) (by decide)
    have hc : (24 * nI u + nI i).toNatClampNeg = 24 * u + i := by rw [e1]; exact nI_clamp (by omega)
    have hput : ∀ z : Int32, z = gx_I (gx_O m f t u i) → ye_o m f t (upd o' (24 * nI u + nI i).toNatClampNeg z) (24 * u + (i + 1)) := by
      intro z hz u' v' hu' hv' hlt
      rw [hc]
      by_cases e : 24 * u' + v' = 24 * u + i
      · have e2 : u' = u := by omega
        have e3 : v' = i := by omega
        rw [e, pk_us, hz, e2, e3]
      · rw [pk_un e]; exact h u' v' hu' hv' (by omega)
    refine br_f (nI_ge (b := 24) hi (by decide)) ⟨vp_in_nI hi (by decide), ?_⟩
    rw [nI_clamp (by omega), hl i hi]
    cases e : gx_L m f t i with
    | false =>
      refine br_t (gx_I_f rfl) ⟨hin, nm_e (nm_r (nI_1 i) (hk _ (hput _ ?_)))⟩
      rw [gx_I_f (gx_O_no e)]; rfl
    | true =>
      refine br_f (by decide) ⟨vp_in_nI hi (by decide), ?_⟩
      rw [hs i hi]
      cases e2 : gx_R m f t (nI u) (-1) i with
      | false =>
        refine br_t (gx_I_f rfl) ⟨hin, nm_e (nm_r (nI_1 i) (hk _ (hput _ ?_)))⟩
        rw [gx_I_t (by unfold gx_O; rw [e, e2]; rfl)]; rfl
      | true =>
        refine br_f (by decide) ⟨hin, nm_e (nm_r (nI_1 i) (hk _ (hput _ ?_)))⟩
        rw [gx_I_f (by unfold gx_O; rw [e, e2]; rfl)]; rfl
theorem ye_tab (K : gx_k n m f t a b) {post : SY → Prop} (hp : ∀ s' l' o', ye_k l' (gx_L m f t) → (∀ u v, u < 24 → v < 24 → o' (24 * u + v) = gx_I (gx_O m f t u v)) → post (nI n, nI m, a, b, s', l', o')) :
    wpY_tabulate post (nI n, nI m, a, b, s, l, o) := by
  unfold wpY_tabulate
  refine ye_reach K (fun s1 hs1 => ?_)
  dsimp only
  refine loop_0 (fun k i (l' : Nat → Int32) => wY_tabulate_8 post (nI n) (nI m) k (nI i) a b s1 l' o) (fun i l' => ∀ v, v < i → l' v = gx_I (gx_L m f t v)) 24 l (fun v hv => absurd hv (by omega)) ?_ ?_
  · intro k l' hl
    refine br_t (nI_le (a := 24) (b := 24) (Nat.le_refl _) (by decide)) ?_
    refine loop_0 (fun k u (w : (Nat → Int32) × (Nat → Int32)) => wY_tabulate_34 post k (nI u) (nI n) (nI m) a b w.1 l' w.2) (fun u w => ye_o m f t w.2 (24 * u)) 24 (s1, o) (fun u v _ _ h => absurd h (by omega)) ?_ ?_
    · intro k w hw
      exact br_t (nI_le (a := 24) (b := 24) (Nat.le_refl _) (by decide)) (hp _ _ _ hl (fun u v hu hv => hw u v hu hv (by omega)))
    · intro k u w hu hw hk
      refine br_f (nI_ge (b := 24) hu (by decide)) (ye_reach K (fun s2 hs2 => ?_))
      dsimp only
      refine ye_tab_in K hu hl hs2 hw (fun o' ho' => ?_)
      rw [nI_1 u]
      exact hk (s2, o') ho'
  · intro k i l' hi hl hk
    refine br_f (nI_ge (b := 24) hi (by decide)) ⟨vp_in_nI hi (by decide), vp_in_nI hi (by decide), nm_e (nm_r (nI_1 i) (hk _ ?_))⟩
    intro v hv
    rw [nI_clamp (by omega)]
    by_cases e : v = i
    · rw [e, pk_us, hs1 i hi, gx_I_nar]; rfl
    · rw [pk_un e]; exact hl v (by omega)
end
end
section
/-! the reference's walks over its tables -/
section
variable {n m : Nat} {f t : Nat → Nat} {a b s l o : Nat → Int32}
theorem ye_cell {u v : Nat} (hu : u < 24) (hv : v < 24) : vp_in ((24 : Int32) * nI u + nI v) 576 ∧ ((24 : Int32) * nI u + nI v).toNatClampNeg = 24 * u + v := by
  have e1 : (24 : Int32) * nI u + nI v = nI (24 * u + v) := by
    rw [show (24 : Int32) = nI 24 from rfl, pk_mul, nI_add]
  rw [e1]
  exact ⟨vp_in_nI (by omega) (by decide), nI_clamp (by omega)⟩
/-- the table over, whole -/
def ye_O (m : Nat) (f t : Nat → Nat) (o : Nat → Int32) : Prop := ∀ u v, u < 24 → v < 24 → o (24 * u + v) = gx_I (gx_O m f t u v)
theorem ye_br {A B : Prop} {o : Nat → Int32} {u v : Nat} (ho : ye_O m f t o) (hu : u < 24) (hv : v < 24) (h0 : gx_O m f t u v = false → A) (h1 : gx_O m f t u v = true → B) :
    vp_in ((24 : Int32) * nI u + nI v) 576 ∧ ((o ((24 : Int32) * nI u + nI v).toNatClampNeg = 0 → A) ∧ (¬ o ((24 : Int32) * nI u + nI v).toNatClampNeg = 0 → B)) := by
  refine ⟨(ye_cell hu hv).1, ?_⟩
  rw [(ye_cell hu hv).2, ho u v hu hv]
  cases e : gx_O m f t u v with
  | false => exact br_t (gx_I_f rfl) (h0 e)
  | true => exact br_f (by decide) (h1 e)
theorem ye_lv {A B : Prop} {l : Nat → Int32} {v : Nat} {S : Nat → Bool} (hl : ye_k l S) (hv : v < 24) (h0 : S v = false → A) (h1 : S v = true → B) :
    vp_in (nI v) 24 ∧ ((l (nI v).toNatClampNeg = 0 → A) ∧ (¬ l (nI v).toNatClampNeg = 0 → B)) := by
  refine ⟨vp_in_nI hv (by decide), ?_⟩
  rw [nI_clamp (by omega), hl v hv]
  cases e : S v with
  | false => exact br_t (gx_I_f rfl) (h0 e)
  | true => exact br_f (by decide) (h1 e)
theorem ye_cnt {p : Nat → Bool} {i : Nat} {y : Int32} (hy : y = nI (dm_c p i)) : (p i = false → y = nI (dm_c p (i + 1))) ∧ (p i = true → y + 1 = nI (dm_c p (i + 1))) := by
  constructor
  · intro e
    show y = nI (dm_c p i + (if p i = true then 1 else 0))
    rw [e, hy]; rfl
  · intro e
    show y + 1 = nI (dm_c p i + (if p i = true then 1 else 0))
    rw [e, hy]; exact nI_1 _
theorem ye_doms (K : gx_k n m f t a b) (ho : ye_O m f t o) {post : Int32 → Prop} {v : Nat} (hv : v < 24) (hp : post (nI (gx_d n m f t v))) : wpY_dominators post (nI n, nI m, a, b, s, l, o) (nI v) := by
  have hn := K.2.1
  refine loop_0 (fun k i (y : Int32) => wY_dominators_4 post (nI v) (nI n) (nI m) a b s l o k y (nI i)) (fun i y => y = nI (dm_c (fun u => gx_O m f t u v) i)) n 0 rfl ?_ ?_
  · intro k y hy
    rw [hy]
    exact br_t (nI_le (Nat.le_refl n) (by omega)) hp
  · intro k i y hi hy hk
    have hc := ye_cnt (p := fun u => gx_O m f t u v) hy
    refine br_f (nI_ge hi (by omega)) (br_f (nI_ge (a := i) (b := 24) (by omega) (by decide)) ?_)
    exact ye_br ho (by omega) hv (fun h => nm_r (nI_1 i) (hk _ (hc.1 h))) (fun h => nm_e (nm_r (nI_1 i) (hk _ (hc.2 h))))
theorem ye_above (K : gx_k n m f t a b) (ho : ye_O m f t o) {post : Int32 → Prop} {v : Nat} (hv : v < 24) (hp : post (gx_p (gx_o m f t v) (gx_d n m f t) (-1) n).1) : wpY_above post (nI n, nI m, a, b, s, l, o) (nI v) := by
  have hn := K.2.1
  refine loop_0 (fun k i (w : Int32 × Int32) => wY_above_7 post (nI v) (nI n) (nI m) a b s l o k w.1 w.2 (nI i)) (fun i w => w = ((gx_p (gx_o m f t v) (gx_d n m f t) (-1) i).1, nI (gx_p (gx_o m f t v) (gx_d n m f t) (-1) i).2)) n (-1, 0) rfl ?_ ?_
  · intro k w hw
    rw [hw]
    exact br_t (nI_le (Nat.le_refl n) (by omega)) hp
  · intro k i w hi hw hk
    rw [hw]
    have hle := gx_p_le (n := n) (m := m) (f := f) (t := t) (gx_o m f t v) (-1) i
    have hle2 := gx_d_le (n := n) (m := m) (f := f) (t := t) i
    have hno : gx_o m f t v i = false → ∀ z : Int32, z = nI i + 1 → wY_above_7 post (nI v) (nI n) (nI m) a b s l o k (gx_p (gx_o m f t v) (gx_d n m f t) (-1) i).1 (nI (gx_p (gx_o m f t v) (gx_d n m f t) (-1) i).2) z := by
      intro h
      refine nm_r (nI_1 i) (hk (_, _) ?_)
      show _ = ((gx_p (gx_o m f t v) (gx_d n m f t) (-1) (i + 1)).1, nI (gx_p (gx_o m f t v) (gx_d n m f t) (-1) (i + 1)).2)
      rw [gx_p_n1 h]; rfl
    refine br_f (nI_ge hi (by omega)) (br_f (nI_ge (a := i) (b := 24) (by omega) (by decide)) ?_)
    refine pk_eq i v (fun e => hno ?_) (fun e => ye_br ho (by omega) hv (fun h => hno ?_) (fun h => ye_doms K ho (by omega) ?_))
    · unfold gx_o; rw [decide_eq_false (by simp [e])]; rfl
    · unfold gx_o; rw [h, Bool.and_false]
    · have hP : gx_o m f t v i = true := by unfold gx_o; rw [h, decide_eq_true e]; rfl
      refine pk_le (gx_d n m f t i) (gx_p (gx_o m f t v) (gx_d n m f t) (-1) i).2 (fun z => nm_r (nI_1 i) (hk (_, _) ?_)) (fun z => nm_r (nI_1 i) (hk (_, _) ?_))
      · show _ = ((gx_p (gx_o m f t v) (gx_d n m f t) (-1) (i + 1)).1, nI (gx_p (gx_o m f t v) (gx_d n m f t) (-1) (i + 1)).2)
        rw [gx_p_n2 z]
      · show _ = ((gx_p (gx_o m f t v) (gx_d n m f t) (-1) (i + 1)).1, nI (gx_p (gx_o m f t v) (gx_d n m f t) (-1) (i + 1)).2)
        rw [gx_p_y hP z]; rfl
theorem ye_rcount (K : gx_k n m f t a b) (hl : ye_k l (gx_L m f t)) {post : Int32 → SY → Prop} (hp : post (nI (dm_c (gx_L m f t) n)) (nI n, nI m, a, b, s, l, o)) :
    ∃ k, wY_reachableCount_8 post (nI n) (nI m) a b s l o k 0 0 := by
  have hn := K.2.1
  refine loop_0 (fun k i (y : Int32) => wY_reachableCount_8 post (nI n) (nI m) a b s l o k y (nI i)) (fun i y => y = nI (dm_c (gx_L m f t) i)) n 0 rfl ?_ ?_
  · intro k y hy
    rw [hy]
    exact br_t (nI_le (Nat.le_refl n) (by omega)) hp
  · intro k i y hi hy hk
    have hc := ye_cnt (p := gx_L m f t) hy
    refine br_f (nI_ge hi (by omega)) (br_f (nI_ge (a := i) (b := 24) (by omega) (by decide)) ?_)
    exact ye_lv hl (by omega) (fun h => nm_r (nI_1 i) (hk _ (hc.1 h))) (fun h => nm_e (nm_r (nI_1 i) (hk _ (hc.2 h))))
theorem ye_below (K : gx_k n m f t a b) (ho : ye_O m f t o) {post : Int32 → SY → Prop} {u : Nat} (hu : u < 24) (hp : post (nI (dm_c (gx_O m f t u) n)) (nI n, nI m, a, b, s, l, o)) :
    ∃ k, wY_below_30 post (nI u) (nI n) (nI m) a b s l o k 0 0 := by
  have hn := K.2.1
  refine loop_0 (fun k i (y : Int32) => wY_below_30 post (nI u) (nI n) (nI m) a b s l o k y (nI i)) (fun i y => y = nI (dm_c (gx_O m f t u) i)) n 0 rfl ?_ ?_
  · intro k y hy
    rw [hy]
    exact br_t (nI_le (Nat.le_refl n) (by omega)) hp
  · intro k i y hi hy hk
    have hc := ye_cnt (p := gx_O m f t u) hy
    refine br_f (nI_ge hi (by omega)) (br_f (nI_ge (a := i) (b := 24) (by omega) (by decide)) ?_)
    exact ye_br ho hu (by omega) (fun h => nm_r (nI_1 i) (hk _ (hc.1 h))) (fun h => nm_e (nm_r (nI_1 i) (hk _ (hc.2 h))))
theorem ye_childs (K : gx_k n m f t a b) (hl : ye_k l (gx_L m f t)) (ho : ye_O m f t o) {post : Int32 → SY → Prop} {u : Nat} (hu : u < n) (hp : post (nI (dm_c (gx_c n m f t u) n)) (nI n, nI m, a, b, s, l, o)) :
    ∃ k, wY_children_30 post (nI u) (nI n) (nI m) a b s l o k 0 1 := by
  have hn := K.2.1
  have hn2 := K.1
  refine pk_loop (fun k i (y : Int32) => wY_children_30 post (nI u) (nI n) (nI m) a b s l o k y (nI i)) (fun i y => 0 < i ∧ y = nI (dm_c (gx_c n m f t u) i)) n 1 0 (by omega) ⟨by omega, ?_⟩ ?_ ?_
  · exact (ye_cnt (p := gx_c n m f t u) (i := 0) (y := 0) rfl).1 (gx_child0 K hu)
  · intro k y hy
    rw [hy.2]
    exact br_t (nI_le (Nat.le_refl n) (by omega)) hp
  · intro k i y hi hy hk
    have hc := ye_cnt (p := gx_c n m f t u) hy.2
    refine br_f (nI_ge hi (by omega)) (br_f (nI_ge (a := i) (b := 24) (by omega) (by decide)) ?_)
    refine ye_lv hl (by omega) (fun h => nm_r (nI_1 i) (hk _ ⟨by omega, hc.1 (gx_childn h)⟩)) (fun h => ye_above K ho (by omega) ?_)
    refine ek_if (gx_child K hu (by omega) h) (fun z => nm_e (nm_r (nI_1 i) (hk _ ⟨by omega, hc.2 z⟩))) (fun z => nm_r (nI_1 i) (hk _ ⟨by omega, hc.1 (Bool.not_eq_true _ |>.mp z)⟩))
theorem ye_near (K : gx_k n m f t a b) (ho : ye_O m f t o) {post : Int32 → SY → Prop} {u v : Nat} (hu : u < 24) (hv : v < 24)
    (hp : post (gx_p (fun w => gx_O m f t w u && gx_O m f t w v) (gx_d n m f t) 0 n).1 (nI n, nI m, a, b, s, l, o)) :
    ∃ k, wY_nearest_51 post (nI u) (nI v) (nI n) (nI m) a b s l o k 0 0 0 := by
  have hn := K.2.1
  refine loop_0 (fun k i (w : Int32 × Int32) => wY_nearest_51 post (nI u) (nI v) (nI n) (nI m) a b s l o k w.1 w.2 (nI i))
    (fun i w => w = ((gx_p (fun w => gx_O m f t w u && gx_O m f t w v) (gx_d n m f t) 0 i).1, nI (gx_p (fun w => gx_O m f t w u && gx_O m f t w v) (gx_d n m f t) 0 i).2)) n (0, 0) rfl ?_ ?_
  · intro k w hw
    rw [hw]
    exact br_t (nI_le (Nat.le_refl n) (by omega)) hp
  · intro k i w hi hw hk
    rw [hw]
    have hle := gx_p_le (n := n) (m := m) (f := f) (t := t) (fun w => gx_O m f t w u && gx_O m f t w v) 0 i
    have hle2 := gx_d_le (n := n) (m := m) (f := f) (t := t) i
    have hno : (gx_O m f t i u && gx_O m f t i v) = false → ∀ z : Int32, z = nI i + 1 → wY_nearest_51 post (nI u) (nI v) (nI n) (nI m) a b s l o k (gx_p (fun w => gx_O m f t w u && gx_O m f t w v) (gx_d n m f t) 0 i).1 (nI (gx_p (fun w => gx_O m f t w u && gx_O m f t w v) (gx_d n m f t) 0 i).2) z := by
      intro h
      refine nm_r (nI_1 i) (hk (_, _) ?_)
      rw [gx_p_n1 (k := i) h]; rfl
    refine br_f (nI_ge hi (by omega)) (br_f (nI_ge (a := i) (b := 24) (by omega) (by decide)) ?_)
    refine ye_br ho (by omega) hu (fun h => hno ?_) (fun h => ye_br ho (by omega) hv (fun h2 => hno ?_) (fun h2 => ye_doms K ho (by omega) ?_))
    · rw [h]; rfl
    · rw [h2, Bool.and_false]
    · have hP : (fun w => gx_O m f t w u && gx_O m f t w v) i = true := by show (gx_O m f t i u && gx_O m f t i v) = true; rw [h, h2]; rfl
      refine pk_le (gx_d n m f t i) (gx_p (fun w => gx_O m f t w u && gx_O m f t w v) (gx_d n m f t) 0 i).2 (fun z => nm_r (nI_1 i) (hk (_, _) ?_)) (fun z => nm_r (nI_1 i) (hk (_, _) ?_))
      · rw [gx_p_n2 z]
      · rw [gx_p_y (k := i) hP z]; rfl
theorem ye_bord (K : gx_k n m f t a b) (ho : ye_O m f t o) {post : Int32 → SY → Prop} {u v : Nat} (hu : u < n) (hv : v < n) (h1 : gx_e m f t u v → post 1 (nI n, nI m, a, b, s, l, o)) (h0 : ¬ gx_e m f t u v → post 0 (nI n, nI m, a, b, s, l, o)) :
    ∃ k, wY_border_66 post (nI u) (nI v) (nI n) (nI m) a b s l o k 0 := by
  have hn := K.2.1
  have hm := K.2.2.1
  refine loop_0 (fun k i (_ : Unit) => wY_border_66 post (nI u) (nI v) (nI n) (nI m) a b s l o k (nI i)) (fun i _ => ∀ j, j < i → ¬ (t j = v ∧ gx_O m f t u (f j) = true)) m () (fun j hj => absurd hj (by omega)) ?_ ?_
  · intro k s hs
    exact br_t (nI_le (Nat.le_refl m) (by omega)) (h0 (fun ⟨j, z, z2⟩ => hs j z z2))
  · intro k i s hi hs hk
    obtain ⟨hf, ht, ea, eb⟩ := K.2.2.2 i hi
    have hin : vp_in (nI i) 60 := vp_in_nI (by omega) (by omega)
    have hc : (nI i).toNatClampNeg = i := nI_clamp (by omega)
    refine br_f (nI_ge hi (by omega)) (br_f (nI_ge (a := i) (b := 60) (by omega) (by decide)) ⟨hin, ?_⟩)
    rw [hc, ea, eb]
    refine pk_eq (t i) v (fun z => ⟨hin, ?_⟩) (fun z => nm_r (nI_1 i) (hk () (lt_s hs (fun y => z y.1))))
    exact ye_br ho (by omega) (by omega) (fun h => nm_r (nI_1 i) (hk () (lt_s hs (fun y => by rw [h] at y; cases y.2)))) (fun h => h1 ⟨i, hi, z, h⟩)
theorem ye_lost (K : gx_k n m f t a b) (hl : ye_k l (gx_L m f t)) {i : Nat} (hs : ye_k s (gx_R m f t (-1) (nI i))) {post : Int32 → SY → Prop} {J : Int32 → Int32 → Int32 → Int32 → (Nat → Int32) → (Nat → Int32) → (Nat → Int32) → (Nat → Int32) → (Nat → Int32) → Prop} {x1 : Int32}
    (h0 : gx_b m f t i = false → J x1 (nI (i + 1)) (nI n) (nI m) a b s l o) (h1 : gx_b m f t i = true → J (x1 + 1) (nI (i + 1)) (nI n) (nI m) a b s l o) :
    ∃ k, wY_bridges_33 post J x1 (nI i) (nI n) (nI m) a b s l o k 0 0 := by
  have hn := K.2.1
  refine loop_0 (fun k j (y : Int32) => wY_bridges_33 post J x1 (nI i) (nI n) (nI m) a b s l o k y (nI j)) (fun j y => (y = 0 ∧ ∀ v, v < j → gx_L m f t v = true → gx_R m f t (-1) (nI i) v = true) ∨ (y = 1 ∧ gx_b m f t i = true)) n 0 (Or.inl ⟨rfl, fun v hv => absurd hv (by omega)⟩) ?_ ?_
  · intro k y hy
    refine br_t (nI_le (Nat.le_refl n) (by omega)) ?_
    cases hy with
    | inl z =>
      refine br_t z.1 (nm_r (nI_1 i) (h0 (dm_b_f.mpr (fun ⟨v, z1, z2⟩ => ?_))))
      rw [z.2 v (gx_L_lt K z1) z1] at z2
      cases z2
    | inr z => exact br_f (fun e => absurd (e.symm.trans z.1) (by decide)) (nm_e (nm_r (nI_1 i) (h1 z.2)))
  · intro k j y hj hy hk
    refine br_f (nI_ge hj (by omega)) (br_f (nI_ge (a := j) (b := 24) (by omega) (by decide)) ?_)
    refine ye_lv hl (by omega) (fun h => nm_r (nI_1 j) (hk _ ?_)) (fun h => ye_lv hs (by omega) (fun h2 => nm_r (nI_1 j) (hk _ (Or.inr ⟨rfl, dm_b_t.mpr ⟨j, h, h2⟩⟩))) (fun h2 => nm_r (nI_1 j) (hk _ ?_)))
    · cases hy with
      | inl z => exact Or.inl ⟨z.1, lt_s z.2 (fun q => by rw [h] at q; cases q)⟩
      | inr z => exact Or.inr z
    · cases hy with
      | inl z => exact Or.inl ⟨z.1, lt_s z.2 (fun _ => h2)⟩
      | inr z => exact Or.inr z
theorem ye_bridges (K : gx_k n m f t a b) (hl : ye_k l (gx_L m f t)) {post : Int32 → SY → Prop} (hp : ∀ s', post (nI (dm_c (gx_b m f t) m)) (nI n, nI m, a, b, s', l, o)) :
    ∃ k, wY_bridges_8 post k 0 0 (nI n) (nI m) a b s l o := by
  have hm := K.2.2.1
  refine loop_0 (fun k i (w : Int32 × (Nat → Int32)) => wY_bridges_8 post k w.1 (nI i) (nI n) (nI m) a b w.2 l o) (fun i w => w.1 = nI (dm_c (gx_b m f t) i)) m (0, s) rfl ?_ ?_
  · intro k w hw
    refine br_t (nI_le (Nat.le_refl m) (by omega)) ?_
    rw [hw]; exact hp w.2
  · intro k i w hi hw hk
    have hc := ye_cnt (p := gx_b m f t) hw
    refine br_f (nI_ge hi (by omega)) (br_f (nI_ge (a := i) (b := 60) (by omega) (by decide)) (ye_reach K (fun s' hs' => ?_)))
    exact ye_lost K hl hs' (fun h => hk (w.1, s') (hc.1 h)) (fun h => hk (w.1 + 1, s') (hc.2 h))
theorem ye_height (K : gx_k n m f t a b) (hl : ye_k l (gx_L m f t)) (ho : ye_O m f t o) {post : Int32 → SY → Prop} (hp : post (nI (gx_h (gx_d n m f t) n)) (nI n, nI m, a, b, s, l, o)) :
    ∃ k, wY_height_8 post (nI n) (nI m) a b s l o k 0 0 := by
  have hn := K.2.1
  refine loop_0 (fun k i (y : Int32) => wY_height_8 post (nI n) (nI m) a b s l o k y (nI i)) (fun i y => y = nI (gx_h (gx_d n m f t) i)) n 0 rfl ?_ ?_
  · intro k y hy
    rw [hy]
    exact br_t (nI_le (Nat.le_refl n) (by omega)) hp
  · intro k i y hi hy hk
    have hle := gx_d_le (n := n) (m := m) (f := f) (t := t) i
    have hle2 := gx_h_le (d := gx_d n m f t) (N := n) (fun v => gx_d_le v) i
    have hst : gx_d n m f t i ≤ gx_h (gx_d n m f t) i → gx_h (gx_d n m f t) (i + 1) = gx_h (gx_d n m f t) i := fun z => if_pos z
    have hst2 : ¬ gx_d n m f t i ≤ gx_h (gx_d n m f t) i → gx_h (gx_d n m f t) (i + 1) = gx_d n m f t i := fun z => if_neg z
    refine br_f (nI_ge hi (by omega)) (br_f (nI_ge (a := i) (b := 24) (by omega) (by decide)) (ye_doms K ho (by omega) ?_))
    rw [hy]
    refine ye_lv hl (by omega) (fun h => nm_r (nI_1 i) (hk _ ?_)) (fun h => pk_le (gx_d n m f t i) (gx_h (gx_d n m f t) i) (fun z => nm_r (nI_1 i) (hk _ ?_)) (fun z => nm_r (nI_1 i) (hk _ ?_)))
    · rw [hst (by rw [gx_d_no h]; exact Nat.zero_le _)]
    · rw [hst z]
    · rw [hst2 (by omega)]
end
end
section
/-! the relation, and the methods that store -/
def i_Rel (_ : Nat) (u : SX) (v : SY) : Prop :=
  ∃ (n m : Nat) (f t : Nat → Nat) (a b s l o : Nat → Int32), gx_k n m f t a b ∧ u = (nI n, nI m, a, b) ∧ v = (nI n, nI m, a, b, s, l, o)
theorem gx_rel {n m : Nat} {f t : Nat → Nat} {a b s l o : Nat → Int32} (K : gx_k n m f t a b) (k : Nat) : i_Rel k (nI n, nI m, a, b) (nI n, nI m, a, b, s, l, o) :=
  ⟨n, m, f, t, a, b, s, l, o, K, rfl, rfl⟩
theorem i_up {k : Nat} {u : SX} {v : SY} (h : i_Rel k u v) : i_Rel (k + 3) u v := h
theorem gx_k0 {n : Nat} (h1 : 2 ≤ n) (h2 : n ≤ 24) : gx_k n 0 (fun _ => 0) (fun _ => 0) (fun _ => 0) (fun _ => 0) :=
  ⟨h1, h2, by omega, fun i hi => absurd hi (by omega)⟩
theorem i_vc0 (k0 : Int32) : wpX_init (fun u => wpY_init (fun v => i_Rel 1 u v) k0) k0 := by
  by_cases h2 : 2 ≤ k0
  · refine br_t h2 ?_
    by_cases h24 : k0 ≤ 24
    · refine br_t h24 (br_t h2 (br_t h24 ?_))
      obtain ⟨j, hj, e⟩ := nI_of2 (x := k0) (M := 24) (n := 24) (by decide) (fun z => by
        have h3 := Int32.lt_of_le_of_lt h2 z
        exact absurd h3 (by decide)) h24
      have h3 : 2 ≤ j := by
        rw [e, show (2 : Int32) = nI 2 from rfl, nI_leI (by omega) (by omega)] at h2
        exact h2
      rw [e]
      exact gx_rel (gx_k0 h3 hj) 1
    · exact br_f h24 (br_t h2 (br_f h24 (gx_rel (gx_k0 (n := 24) (by omega) (by omega)) 1)))
  · exact br_f h2 (br_t (by decide) (br_f h2 (gx_rel (gx_k0 (n := 2) (by omega) (by omega)) 1)))
theorem i_vc_vertices {k : Nat} {u : SX} {v : SY} (I : i_Rel k u v) (hk : k + 3 ≤ 1537) : wpX_vertices (fun r => wpY_vertices (fun r' => r' = r ∧ i_Rel (k + 3) u v) v) u := by
  obtain ⟨n, m, f, t, a, b, s, l, o, K, rfl, rfl⟩ := I
  exact ⟨rfl, gx_rel K _⟩
theorem i_vc_edges {k : Nat} {u : SX} {v : SY} (I : i_Rel k u v) (hk : k + 3 ≤ 1537) : wpX_edges (fun r => wpY_edges (fun r' => r' = r ∧ i_Rel (k + 3) u v) v) u := by
  obtain ⟨n, m, f, t, a, b, s, l, o, K, rfl, rfl⟩ := I
  exact ⟨rfl, gx_rel K _⟩
theorem gx_ix {n : Nat} (hn : n ≤ 60) (x : Int32) : (x < 0 ∨ nI n ≤ x) ∨ ∃ j, j < n ∧ x = nI j := by
  rcases pk_ix x (n := n) (by omega) with h | h | h
  · exact Or.inl (Or.inl h)
  · exact Or.inl (Or.inr h)
  · exact Or.inr h
theorem gx_klink {n m : Nat} {f t : Nat → Nat} {a b : Nat → Int32} (K : gx_k n m f t a b) (hm : m < 60) {j1 j2 : Nat} (h1 : j1 < n) (h2 : j2 < n) :
    gx_k n (m + 1) (fun i => if i = m then j1 else f i) (fun i => if i = m then j2 else t i) (upd a m (nI j1)) (upd b m (nI j2)) := by
  refine ⟨K.1, K.2.1, by omega, fun i hi => ?_⟩
  dsimp only
  by_cases e : i = m
  · rw [if_pos e, if_pos e, e, pk_us, pk_us]
    exact ⟨h1, h2, rfl, rfl⟩
  · rw [if_neg e, if_neg e, pk_un e, pk_un e]
    exact K.2.2.2 i (by omega)
theorem i_vc_link {k : Nat} {u : SX} {v : SY} (I : i_Rel k u v) (hk : k + 3 ≤ 1537) (v1 : Int32) (v2 : Int32) : wpX_link (fun r u' => wpY_link (fun r' v' => r' = r ∧ i_Rel (k + 3) u' v') v v1 v2) u v1 v2 := by
  obtain ⟨n, m, f, t, a, b, s, l, o, K, rfl, rfl⟩ := I
  have hn := K.2.1
  have hm := K.2.2.1
  unfold wpX_link wpY_link
  dsimp only
  rcases gx_ix (n := n) (by omega) v1 with h | ⟨j1, hj1, rfl⟩
  · exact xe_bad h (br_t rfl (ye_bad h (br_f (by decide) ⟨rfl, gx_rel K _⟩)))
  · refine xe_ok hj1 hn (br_f (by decide) ?_)
    rcases gx_ix (n := n) (by omega) v2 with h | ⟨j2, hj2, rfl⟩
    · exact xe_bad h (br_t rfl (ye_ok hj1 hn (br_t rfl (ye_bad h (br_f (by decide) ⟨rfl, gx_rel K _⟩)))))
    · refine xe_ok hj2 hn (br_f (by decide) ?_)
      have hc : (nI m).toNatClampNeg = m := nI_clamp (by omega)
      by_cases h : m < 60
      · have hin : vp_in (nI m) 60 := vp_in_nI h (by decide)
        have hlt : nI m < 60 := nI_lt (b := 60) h (by decide)
        rw [hc]
        refine br_t hlt ⟨hin, nm_e ⟨hin, nm_e (nm_r (nI_1 m) ?_)⟩⟩
        refine ye_ok hj1 hn (br_t rfl (ye_ok hj2 hn (br_t rfl (br_t hlt ⟨hin, nm_e ⟨hin, nm_e (nm_r (nI_1 m) ⟨rfl, ?_⟩)⟩⟩))))
        exact gx_rel (gx_klink K h hj1 hj2) _
      · have hge : ¬ nI m < 60 := nI_nlt (b := 60) (by omega) (by omega)
        exact br_f hge (ye_ok hj1 hn (br_t rfl (ye_ok hj2 hn (br_t rfl (br_f hge ⟨rfl, gx_rel K _⟩)))))
/-- the cells from c to j moved down by one -/
def gx_cut (a : Nat → Int32) (c j : Nat) : Nat → Int32 := fun i => if c ≤ i ∧ i < j then a (i + 1) else a i
theorem gx_cut0 (a : Nat → Int32) (c : Nat) : gx_cut a c c = a := by
  funext i
  exact if_neg (by omega)
theorem gx_cut1 (a : Nat → Int32) {c j : Nat} (h : c ≤ j) : upd (gx_cut a c j) j (gx_cut a c j (j + 1)) = gx_cut a c (j + 1) := by
  funext i
  by_cases e : i = j
  · subst e
    rw [pk_us]
    unfold gx_cut
    rw [if_neg (by omega), if_pos (by omega)]
  · rw [pk_un e]
    unfold gx_cut
    by_cases z : c ≤ i ∧ i < j
    · rw [if_pos z, if_pos (by omega)]
    · rw [if_neg z, if_neg (by omega)]
theorem gx_kcut {n m : Nat} {f t : Nat → Nat} {a b : Nat → Int32} (K : gx_k n (m + 1) f t a b) (c : Nat) :
    gx_k n m (fun i => if c ≤ i then f (i + 1) else f i) (fun i => if c ≤ i then t (i + 1) else t i) (gx_cut a c m) (gx_cut b c m) := by
  refine ⟨K.1, K.2.1, by have := K.2.2.1; omega, fun i hi => ?_⟩
  unfold gx_cut
  dsimp only
  by_cases z : c ≤ i
  · rw [if_pos z, if_pos z, if_pos ⟨z, hi⟩, if_pos ⟨z, hi⟩]
    exact K.2.2.2 (i + 1) (by omega)
  · rw [if_neg z, if_neg z, if_neg (fun y => z y.1), if_neg (fun y => z y.1)]
    exact K.2.2.2 i (by omega)
theorem xe_cut {m c : Nat} {a b : Nat → Int32} {e : Int32} (hm : m + 1 ≤ 60) (hc : c ≤ m) {post : Int32 → SX → Prop} (hp : post (nI m) (e, nI m, gx_cut a c m, gx_cut b c m)) :
    ∃ k, wX_cut_14 post e (nI (m + 1)) k (nI (c + 1)) a b := by
  refine pk_loop (fun k j (w : (Nat → Int32) × (Nat → Int32)) => wX_cut_14 post e (nI (m + 1)) k (nI (j + 1)) w.1 w.2) (fun j w => c ≤ j ∧ w = (gx_cut a c j, gx_cut b c j)) m c (a, b) hc ⟨Nat.le_refl c, ?_⟩ ?_ ?_
  · rw [gx_cut0, gx_cut0]
  · intro k w hw
    rw [hw.2]
    exact br_t (nI_le (Nat.le_refl _) (by omega)) (nm_r (nI_pred m) hp)
  · intro k j w hj hw hk
    rw [hw.2]
    have hin : vp_in (nI (j + 1)) 60 := vp_in_nI (by omega) (by decide)
    have hin2 : vp_in (nI j) 60 := vp_in_nI (by omega) (by decide)
    have hc1 : (nI (j + 1)).toNatClampNeg = j + 1 := nI_clamp (by omega)
    have hc2 : (nI j).toNatClampNeg = j := nI_clamp (by omega)
    refine br_f (nI_ge (a := j + 1) (b := m + 1) (by omega) (by omega)) ⟨hin, ?_⟩
    rw [nI_pred, hc1, hc2]
    refine ⟨hin2, nm_r (gx_cut1 a hw.1) ⟨hin, hin2, nm_r (gx_cut1 b hw.1) (nm_r (nI_1 (j + 1)) (hk (_, _) ⟨by omega, rfl⟩))⟩⟩
theorem ye_cut {m c : Nat} {a b s l o : Nat → Int32} {e : Int32} (hm : m + 1 ≤ 60) (hc : c ≤ m) {post : Int32 → SY → Prop} (hp : post (nI m) (e, nI m, gx_cut a c m, gx_cut b c m, s, l, o)) :
    ∃ k, wY_cut_16 post e (nI (m + 1)) k (nI c) a b s l o := by
  refine pk_loop (fun k j (w : (Nat → Int32) × (Nat → Int32)) => wY_cut_16 post e (nI (m + 1)) k (nI j) w.1 w.2 s l o) (fun j w => c ≤ j ∧ w = (gx_cut a c j, gx_cut b c j)) m c (a, b) hc ⟨Nat.le_refl c, ?_⟩ ?_ ?_
  · rw [gx_cut0, gx_cut0]
  · intro k w hw
    rw [hw.2]
    refine br_t (by rw [nI_pred]; exact nI_le (Nat.le_refl _) (by omega)) ?_
    exact nm_r (nI_pred m) hp
  · intro k j w hj hw hk
    rw [hw.2]
    have hin : vp_in (nI (j + 1)) 60 := vp_in_nI (by omega) (by decide)
    have hin2 : vp_in (nI j) 60 := vp_in_nI (by omega) (by decide)
    have hc1 : (nI (j + 1)).toNatClampNeg = j + 1 := nI_clamp (by omega)
    have hc2 : (nI j).toNatClampNeg = j := nI_clamp (by omega)
    refine br_f (by rw [nI_pred]; exact nI_ge hj (by omega)) (br_f (nI_ge (a := j) (b := 59) (by omega) (by decide)) ?_)
    rw [nI_1 j, hc1, hc2]
    exact ⟨hin, hin2, nm_r (gx_cut1 a hw.1) ⟨hin, hin2, nm_r (gx_cut1 b hw.1) (nm_e (hk (_, _) ⟨by omega, rfl⟩))⟩⟩
theorem i_vc_cut {k : Nat} {u : SX} {v : SY} (I : i_Rel k u v) (hk : k + 3 ≤ 1537) (v1 : Int32) : wpX_cut (fun r u' => wpY_cut (fun r' v' => r' = r ∧ i_Rel (k + 3) u' v') v v1) u v1 := by
  obtain ⟨n, m, f, t, a, b, s, l, o, K, rfl, rfl⟩ := I
  have hm := K.2.2.1
  unfold wpX_cut wpY_cut
  dsimp only
  rcases gx_ix (n := m) (by omega) v1 with h | ⟨c, hc, rfl⟩
  · refine xe_pbad h (br_t rfl ?_)
    by_cases z : v1 < 0
    · exact br_t z ⟨rfl, gx_rel K _⟩
    · exact br_f z (br_f (fun y => Int32.lt_irrefl (Int32.lt_of_le_of_lt (h.resolve_left z) y)) ⟨rfl, gx_rel K _⟩)
  · obtain ⟨m', rfl⟩ : ∃ m', m = m' + 1 := ⟨m - 1, by omega⟩
    refine xe_pok hc hm (br_f (by decide) (nm_r (nI_1 c) (xe_cut hm (by omega) ?_)))
    exact br_f (nI_pos (by omega)) (br_t (nI_lt hc (by omega)) (ye_cut hm (by omega) ⟨rfl, gx_rel (gx_kcut K c) _⟩))
end
section
/-! the questions -/
theorem i_vc_reachable {k : Nat} {u : SX} {v : SY} (I : i_Rel k u v) (hk : k + 3 ≤ 1537) (v1 : Int32) : wpX_reachable (fun r => wpY_reachable (fun r' v' => r' = r ∧ i_Rel (k + 3) u v') v v1) u v1 := by
  obtain ⟨n, m, f, t, a, b, s, l, o, K, rfl, rfl⟩ := I
  have hn := K.2.1
  unfold wpX_reachable wpY_reachable
  dsimp only
  rcases gx_ix (n := n) (by omega) v1 with h | ⟨j, hj, rfl⟩
  · exact xe_bad h (br_t rfl (ye_bad h (br_f (by decide) ⟨rfl, gx_rel K _⟩)))
  · refine xe_ok hj hn (br_f (by decide) ?_)
    cases hL : gx_L m f t j with
    | true =>
      refine xe_isr_t K hj hL (br_f (by decide) (ye_ok hj hn (br_t rfl (ye_tab K (fun s' l' o' hl ho => ?_)))))
      exact ye_lv hl (by omega) (fun h => by rw [hL] at h; cases h) (fun _ => ⟨rfl, gx_rel K _⟩)
    | false =>
      refine xe_isr_f K hj hL (br_t rfl (ye_ok hj hn (br_t rfl (ye_tab K (fun s' l' o' hl ho => ?_)))))
      exact ye_lv hl (by omega) (fun _ => ⟨rfl, gx_rel K _⟩) (fun h => by rw [hL] at h; cases h)
theorem i_vc_reachableCount {k : Nat} {u : SX} {v : SY} (I : i_Rel k u v) (hk : k + 3 ≤ 1537) : wpX_reachableCount (fun r => wpY_reachableCount (fun r' v' => r' = r ∧ i_Rel (k + 3) u v') v) u := by
  obtain ⟨n, m, f, t, a, b, s, l, o, K, rfl, rfl⟩ := I
  unfold wpX_reachableCount wpY_reachableCount
  dsimp only
  refine xe_reach K (fun r hr => xe_size_R K hr (fun v h => h) (ye_tab K (fun s' l' o' hl ho => ?_)))
  exact ye_rcount K hl ⟨rfl, gx_rel K _⟩
theorem i_vc_immediate {k : Nat} {u : SX} {v : SY} (I : i_Rel k u v) (hk : k + 3 ≤ 1537) (v1 : Int32) : wpX_immediate (fun r => wpY_immediate (fun r' v' => r' = r ∧ i_Rel (k + 3) u v') v v1) u v1 := by
  obtain ⟨n, m, f, t, a, b, s, l, o, K, rfl, rfl⟩ := I
  have hn := K.2.1
  unfold wpX_immediate wpY_immediate
  dsimp only
  rcases gx_ix (n := n) (by omega) v1 with h | ⟨j, hj, rfl⟩
  · exact xe_bad h (br_t rfl (ye_bad h (br_f (by decide) ⟨rfl, gx_rel K _⟩)))
  · refine xe_ok hj hn (br_f (by decide) ?_)
    cases hL : gx_L m f t j with
    | true =>
      refine xe_isr_t K hj hL (br_f (by decide) ?_)
      by_cases e : j = 0
      · have e0 : nI j = 0 := by rw [e]; rfl
        refine br_t e0 (ye_ok hj hn (br_t rfl (ye_tab K (fun s' l' o' hl ho => ?_))))
        exact ye_lv hl (by omega) (fun h => by rw [hL] at h; cases h) (fun _ => br_t e0 ⟨rfl, gx_rel K _⟩)
      · have e0 : ¬ nI j = 0 := nI_ne0 (by omega) (by omega)
        refine br_f e0 (xe_domof K hj (fun r hr => nm_e (xe_last K (P := gx_o m f t j) (fun w hw => ?_) ?_)))
        · rw [gb_not _ _ w (by omega), hr w (by omega), gb_one w (by omega) j (by omega)]
          unfold gx_D gx_o
          rw [decide_eq_true hw]
          by_cases z : w = j
          · simp [z]
          · simp [z]
        · refine ye_ok hj hn (br_t rfl (ye_tab K (fun s' l' o' hl ho => ?_)))
          exact ye_lv hl (by omega) (fun h => by rw [hL] at h; cases h) (fun _ => br_f e0 (ye_above K ho (by omega) ⟨gx_idom2 K e hL (-1) 0, gx_rel K _⟩))
    | false =>
      refine xe_isr_f K hj hL (br_t rfl (ye_ok hj hn (br_t rfl (ye_tab K (fun s' l' o' hl ho => ?_)))))
      exact ye_lv hl (by omega) (fun _ => ⟨rfl, gx_rel K _⟩) (fun h => by rw [hL] at h; cases h)
theorem i_vc_dominates {k : Nat} {u : SX} {v : SY} (I : i_Rel k u v) (hk : k + 3 ≤ 1537) (v1 : Int32) (v2 : Int32) : wpX_dominates (fun r => wpY_dominates (fun r' v' => r' = r ∧ i_Rel (k + 3) u v') v v1 v2) u v1 v2 := by
  obtain ⟨n, m, f, t, a, b, s, l, o, K, rfl, rfl⟩ := I
  have hn := K.2.1
  unfold wpX_dominates wpY_dominates
  dsimp only
  rcases gx_ix (n := n) (by omega) v1 with h | ⟨j1, hj1, rfl⟩
  · exact xe_bad h (br_t rfl (ye_bad h (br_f (by decide) ⟨rfl, gx_rel K _⟩)))
  · refine xe_ok hj1 hn (br_f (by decide) ?_)
    rcases gx_ix (n := n) (by omega) v2 with h | ⟨j2, hj2, rfl⟩
    · exact xe_bad h (br_t rfl (ye_ok hj1 hn (br_t rfl (ye_bad h (br_f (by decide) ⟨rfl, gx_rel K _⟩)))))
    · refine xe_ok hj2 hn (br_f (by decide) ?_)
      cases hL : gx_L m f t j2 with
      | false =>
        refine xe_isr_f K hj2 hL (br_t rfl (ye_ok hj1 hn (br_t rfl (ye_ok hj2 hn (br_t rfl (ye_tab K (fun s' l' o' hl ho => ?_)))))))
        exact ye_lv hl (by omega) (fun _ => ⟨rfl, gx_rel K _⟩) (fun h => by rw [hL] at h; cases h)
      | true =>
        refine xe_isr_t K hj2 hL (br_f (by decide) (xe_domby K (fun r hr => ?_)))
        cases hO : gx_O m f t j1 j2 with
        | true =>
          refine xe_con_t (by omega) ((hr j2 (by omega)).trans hO) (br_f (by decide) (ye_ok hj1 hn (br_t rfl (ye_ok hj2 hn (br_t rfl (ye_tab K (fun s' l' o' hl ho => ?_)))))))
          exact ye_lv hl (by omega) (fun h => by rw [hL] at h; cases h) (fun _ => ye_br ho (by omega) (by omega) (fun h => by rw [hO] at h; cases h) (fun _ => ⟨rfl, gx_rel K _⟩))
        | false =>
          refine xe_con_f (by omega) ((hr j2 (by omega)).trans hO) (br_t rfl (ye_ok hj1 hn (br_t rfl (ye_ok hj2 hn (br_t rfl (ye_tab K (fun s' l' o' hl ho => ?_)))))))
          exact ye_lv hl (by omega) (fun h => by rw [hL] at h; cases h) (fun _ => ye_br ho (by omega) (by omega) (fun _ => ⟨rfl, gx_rel K _⟩) (fun h => by rw [hO] at h; cases h))
theorem i_vc_common {k : Nat} {u : SX} {v : SY} (I : i_Rel k u v) (hk : k + 3 ≤ 1537) (v1 : Int32) : wpX_common (fun r => wpY_common (fun r' v' => r' = r ∧ i_Rel (k + 3) u v') v v1) u v1 := by
  obtain ⟨n, m, f, t, a, b, s, l, o, K, rfl, rfl⟩ := I
  have hn := K.2.1
  unfold wpX_common wpY_common
  dsimp only
  rcases gx_ix (n := n) (by omega) v1 with h | ⟨j, hj, rfl⟩
  · exact xe_bad h (br_t rfl (ye_bad h (br_f (by decide) ⟨rfl, gx_rel K _⟩)))
  · refine xe_ok hj hn (br_f (by decide) ?_)
    cases hL : gx_L m f t j with
    | true =>
      refine xe_isr_t K hj hL (br_f (by decide) (xe_depth K hj (ye_ok hj hn (br_t rfl (ye_tab K (fun s' l' o' hl ho => ?_))))))
      exact ye_lv hl (by omega) (fun h => by rw [hL] at h; cases h) (fun _ => ye_doms K ho (by omega) ⟨rfl, gx_rel K _⟩)
    | false =>
      refine xe_isr_f K hj hL (br_t rfl (ye_ok hj hn (br_t rfl (ye_tab K (fun s' l' o' hl ho => ?_)))))
      exact ye_lv hl (by omega) (fun _ => ⟨rfl, gx_rel K _⟩) (fun h => by rw [hL] at h; cases h)
theorem i_vc_nearest {k : Nat} {u : SX} {v : SY} (I : i_Rel k u v) (hk : k + 3 ≤ 1537) (v1 : Int32) (v2 : Int32) : wpX_nearest (fun r => wpY_nearest (fun r' v' => r' = r ∧ i_Rel (k + 3) u v') v v1 v2) u v1 v2 := by
  obtain ⟨n, m, f, t, a, b, s, l, o, K, rfl, rfl⟩ := I
  have hn := K.2.1
  unfold wpX_nearest wpY_nearest
  dsimp only
  rcases gx_ix (n := n) (by omega) v1 with h | ⟨j1, hj1, rfl⟩
  · exact xe_bad h (br_t rfl (ye_bad h (br_f (by decide) ⟨rfl, gx_rel K _⟩)))
  · refine xe_ok hj1 hn (br_f (by decide) ?_)
    rcases gx_ix (n := n) (by omega) v2 with h | ⟨j2, hj2, rfl⟩
    · exact xe_bad h (br_t rfl (ye_ok hj1 hn (br_t rfl (ye_bad h (br_f (by decide) ⟨rfl, gx_rel K _⟩)))))
    · refine xe_ok hj2 hn (br_f (by decide) ?_)
      cases hL1 : gx_L m f t j1 with
      | false =>
        refine xe_isr_f K hj1 hL1 (br_t rfl (ye_ok hj1 hn (br_t rfl (ye_ok hj2 hn (br_t rfl (ye_tab K (fun s' l' o' hl ho => ?_)))))))
        exact ye_lv hl (by omega) (fun _ => ⟨rfl, gx_rel K _⟩) (fun h => by rw [hL1] at h; cases h)
      | true =>
        refine xe_isr_t K hj1 hL1 (br_f (by decide) ?_)
        cases hL2 : gx_L m f t j2 with
        | false =>
          refine xe_isr_f K hj2 hL2 (br_t rfl (ye_ok hj1 hn (br_t rfl (ye_ok hj2 hn (br_t rfl (ye_tab K (fun s' l' o' hl ho => ?_)))))))
          exact ye_lv hl (by omega) (fun h => by rw [hL1] at h; cases h) (fun _ => ye_lv hl (by omega) (fun _ => ⟨rfl, gx_rel K _⟩) (fun h => by rw [hL2] at h; cases h))
        | true =>
          refine xe_isr_t K hj2 hL2 (br_f (by decide) (xe_domof K hj1 (fun r1 hr1 => xe_domof K hj2 (fun r2 hr2 => nm_e (xe_last K (P := fun w => gx_O m f t w j1 && gx_O m f t w j2) (fun w hw => ?_) ?_)))))
          · rw [b_and, hr1 w (by omega), hr2 w (by omega)]
            unfold gx_D
            rw [decide_eq_true hw]; rfl
          · refine ye_ok hj1 hn (br_t rfl (ye_ok hj2 hn (br_t rfl (ye_tab K (fun s' l' o' hl ho => ?_)))))
            exact ye_lv hl (by omega) (fun h => by rw [hL1] at h; cases h) (fun _ => ye_lv hl (by omega) (fun h => by rw [hL2] at h; cases h) (fun _ => ye_near K ho (by omega) (by omega) ⟨rfl, gx_rel K _⟩))
theorem i_vc_below {k : Nat} {u : SX} {v : SY} (I : i_Rel k u v) (hk : k + 3 ≤ 1537) (v1 : Int32) : wpX_below (fun r => wpY_below (fun r' v' => r' = r ∧ i_Rel (k + 3) u v') v v1) u v1 := by
  obtain ⟨n, m, f, t, a, b, s, l, o, K, rfl, rfl⟩ := I
  have hn := K.2.1
  unfold wpX_below wpY_below
  dsimp only
  rcases gx_ix (n := n) (by omega) v1 with h | ⟨j, hj, rfl⟩
  · exact xe_bad h (br_t rfl (ye_bad h (br_f (by decide) ⟨rfl, gx_rel K _⟩)))
  · refine xe_ok hj hn (br_f (by decide) ?_)
    cases hL : gx_L m f t j with
    | true =>
      refine xe_isr_t K hj hL (br_f (by decide) (xe_domby K (fun r hr => xe_size_R K hr (fun v h => gx_O_L h) (ye_ok hj hn (br_t rfl (ye_tab K (fun s' l' o' hl ho => ?_)))))))
      exact ye_lv hl (by omega) (fun h => by rw [hL] at h; cases h) (fun _ => ye_below K ho (by omega) ⟨rfl, gx_rel K _⟩)
    | false =>
      refine xe_isr_f K hj hL (br_t rfl (ye_ok hj hn (br_t rfl (ye_tab K (fun s' l' o' hl ho => ?_)))))
      exact ye_lv hl (by omega) (fun _ => ⟨rfl, gx_rel K _⟩) (fun h => by rw [hL] at h; cases h)
theorem i_vc_children {k : Nat} {u : SX} {v : SY} (I : i_Rel k u v) (hk : k + 3 ≤ 1537) (v1 : Int32) : wpX_children (fun r => wpY_children (fun r' v' => r' = r ∧ i_Rel (k + 3) u v') v v1) u v1 := by
  obtain ⟨n, m, f, t, a, b, s, l, o, K, rfl, rfl⟩ := I
  have hn := K.2.1
  unfold wpX_children wpY_children
  dsimp only
  rcases gx_ix (n := n) (by omega) v1 with h | ⟨j, hj, rfl⟩
  · exact xe_bad h (br_t rfl (ye_bad h (br_f (by decide) ⟨rfl, gx_rel K _⟩)))
  · refine xe_ok hj hn (br_f (by decide) ?_)
    cases hL : gx_L m f t j with
    | true =>
      refine xe_isr_t K hj hL (br_f (by decide) (xe_domby K (fun r hr => xe_depth K hj (nm_r (nI_1 _) (xe_childs K hr (ye_ok hj hn (br_t rfl (ye_tab K (fun s' l' o' hl ho => ?_)))))))))
      exact ye_lv hl (by omega) (fun h => by rw [hL] at h; cases h) (fun _ => ye_childs K hl ho hj ⟨rfl, gx_rel K _⟩)
    | false =>
      refine xe_isr_f K hj hL (br_t rfl (ye_ok hj hn (br_t rfl (ye_tab K (fun s' l' o' hl ho => ?_)))))
      exact ye_lv hl (by omega) (fun _ => ⟨rfl, gx_rel K _⟩) (fun h => by rw [hL] at h; cases h)
theorem i_vc_border {k : Nat} {u : SX} {v : SY} (I : i_Rel k u v) (hk : k + 3 ≤ 1537) (v1 : Int32) (v2 : Int32) : wpX_border (fun r => wpY_border (fun r' v' => r' = r ∧ i_Rel (k + 3) u v') v v1 v2) u v1 v2 := by
  obtain ⟨n, m, f, t, a, b, s, l, o, K, rfl, rfl⟩ := I
  have hn := K.2.1
  unfold wpX_border wpY_border
  dsimp only
  rcases gx_ix (n := n) (by omega) v1 with h | ⟨j1, hj1, rfl⟩
  · exact xe_bad h (br_t rfl (ye_bad h (br_f (by decide) ⟨rfl, gx_rel K _⟩)))
  · refine xe_ok hj1 hn (br_f (by decide) ?_)
    rcases gx_ix (n := n) (by omega) v2 with h | ⟨j2, hj2, rfl⟩
    · exact xe_bad h (br_t rfl (ye_ok hj1 hn (br_t rfl (ye_bad h (br_f (by decide) ⟨rfl, gx_rel K _⟩)))))
    · refine xe_ok hj2 hn (br_f (by decide) ?_)
      cases hL1 : gx_L m f t j1 with
      | false =>
        refine xe_isr_f K hj1 hL1 (br_t rfl (ye_ok hj1 hn (br_t rfl (ye_ok hj2 hn (br_t rfl (ye_tab K (fun s' l' o' hl ho => ?_)))))))
        exact ye_lv hl (by omega) (fun _ => ⟨rfl, gx_rel K _⟩) (fun h => by rw [hL1] at h; cases h)
      | true =>
        refine xe_isr_t K hj1 hL1 (br_f (by decide) ?_)
        cases hL2 : gx_L m f t j2 with
        | false =>
          refine xe_isr_f K hj2 hL2 (br_t rfl (ye_ok hj1 hn (br_t rfl (ye_ok hj2 hn (br_t rfl (ye_tab K (fun s' l' o' hl ho => ?_)))))))
          exact ye_lv hl (by omega) (fun h => by rw [hL1] at h; cases h) (fun _ => ye_lv hl (by omega) (fun _ => ⟨rfl, gx_rel K _⟩) (fun h => by rw [hL2] at h; cases h))
        | true =>
          refine xe_isr_t K hj2 hL2 (br_f (by decide) (xe_domby K (fun r hr => ?_)))
          by_cases e : j1 = j2
          · have e0 : nI j1 = nI j2 := by rw [e]
            refine br_t e0 (xe_bord K hj2 hr (fun hb => ?_) (fun hb => ?_))
            · refine ye_ok hj1 hn (br_t rfl (ye_ok hj2 hn (br_t rfl (ye_tab K (fun s' l' o' hl ho => ?_)))))
              exact ye_lv hl (by omega) (fun h => by rw [hL1] at h; cases h) (fun _ => ye_lv hl (by omega) (fun h => by rw [hL2] at h; cases h) (fun _ => br_t e0 (ye_bord K ho hj1 hj2 (fun _ => ⟨rfl, gx_rel K _⟩) (fun h => absurd hb h))))
            · refine ye_ok hj1 hn (br_t rfl (ye_ok hj2 hn (br_t rfl (ye_tab K (fun s' l' o' hl ho => ?_)))))
              exact ye_lv hl (by omega) (fun h => by rw [hL1] at h; cases h) (fun _ => ye_lv hl (by omega) (fun h => by rw [hL2] at h; cases h) (fun _ => br_t e0 (ye_bord K ho hj1 hj2 (fun h => absurd h hb) (fun _ => ⟨rfl, gx_rel K _⟩))))
          · have e0 : ¬ nI j1 = nI j2 := by rw [nI_eq (by omega) (by omega)]; exact e
            refine br_f e0 ?_
            cases hO : gx_O m f t j1 j2 with
            | true =>
              refine xe_con_t (by omega) ((hr j2 (by omega)).trans hO) (br_f (by decide) ?_)
              refine ye_ok hj1 hn (br_t rfl (ye_ok hj2 hn (br_t rfl (ye_tab K (fun s' l' o' hl ho => ?_)))))
              exact ye_lv hl (by omega) (fun h => by rw [hL1] at h; cases h) (fun _ => ye_lv hl (by omega) (fun h => by rw [hL2] at h; cases h) (fun _ => br_f e0 (ye_br ho (by omega) (by omega) (fun h => by rw [hO] at h; cases h) (fun _ => ⟨rfl, gx_rel K _⟩))))
            | false =>
              refine xe_con_f (by omega) ((hr j2 (by omega)).trans hO) (br_t rfl (xe_bord K hj2 hr (fun hb => ?_) (fun hb => ?_)))
              · refine ye_ok hj1 hn (br_t rfl (ye_ok hj2 hn (br_t rfl (ye_tab K (fun s' l' o' hl ho => ?_)))))
                exact ye_lv hl (by omega) (fun h => by rw [hL1] at h; cases h) (fun _ => ye_lv hl (by omega) (fun h => by rw [hL2] at h; cases h) (fun _ => br_f e0 (ye_br ho (by omega) (by omega) (fun _ => ye_bord K ho hj1 hj2 (fun _ => ⟨rfl, gx_rel K _⟩) (fun h => absurd hb h)) (fun h => by rw [hO] at h; cases h))))
              · refine ye_ok hj1 hn (br_t rfl (ye_ok hj2 hn (br_t rfl (ye_tab K (fun s' l' o' hl ho => ?_)))))
                exact ye_lv hl (by omega) (fun h => by rw [hL1] at h; cases h) (fun _ => ye_lv hl (by omega) (fun h => by rw [hL2] at h; cases h) (fun _ => br_f e0 (ye_br ho (by omega) (by omega) (fun _ => ye_bord K ho hj1 hj2 (fun h => absurd h hb) (fun _ => ⟨rfl, gx_rel K _⟩)) (fun h => by rw [hO] at h; cases h))))
theorem i_vc_needs {k : Nat} {u : SX} {v : SY} (I : i_Rel k u v) (hk : k + 3 ≤ 1537) (v1 : Int32) (v2 : Int32) : wpX_needs (fun r => wpY_needs (fun r' v' => r' = r ∧ i_Rel (k + 3) u v') v v1 v2) u v1 v2 := by
  obtain ⟨n, m, f, t, a, b, s, l, o, K, rfl, rfl⟩ := I
  have hn := K.2.1
  have hm := K.2.2.1
  unfold wpX_needs wpY_needs
  dsimp only
  rcases gx_ix (n := m) (by omega) v1 with h | ⟨i, hi, rfl⟩
  · refine xe_pbad h (br_t rfl ?_)
    by_cases z : v1 < 0
    · exact br_t z ⟨rfl, gx_rel K _⟩
    · exact br_f z (br_f (fun y => Int32.lt_irrefl (Int32.lt_of_le_of_lt (h.resolve_left z) y)) ⟨rfl, gx_rel K _⟩)
  · have h0 : ¬ nI i < 0 := nI_pos (by omega)
    have h1 : nI i < nI m := nI_lt hi (by omega)
    refine xe_pok hi hm (br_f (by decide) ?_)
    rcases gx_ix (n := n) (by omega) v2 with h | ⟨j, hj, rfl⟩
    · exact xe_bad h (br_t rfl (br_f h0 (br_t h1 (ye_bad h (br_f (by decide) ⟨rfl, gx_rel K _⟩)))))
    · refine xe_ok hj hn (br_f (by decide) ?_)
      cases hL : gx_L m f t j with
      | false =>
        refine xe_isr_f K hj hL (br_t rfl (br_f h0 (br_t h1 (ye_ok hj hn (br_t rfl (ye_reach K (fun s' hs => ?_)))))))
        exact ye_lv hs (by omega) (fun _ => ⟨rfl, gx_rel K _⟩) (fun h => by rw [show gx_R m f t (-1) (-1) j = false from hL] at h; cases h)
      | true =>
        refine xe_isr_t K hj hL (br_f (by decide) (xe_reach K (fun r hr => ?_)))
        cases hR : gx_R m f t (-1) (nI i) j with
        | true =>
          refine xe_con_t (by omega) ((hr j (by omega)).trans hR) (br_f (by decide) (br_f h0 (br_t h1 (ye_ok hj hn (br_t rfl (ye_reach K (fun s' hs => ?_)))))))
          refine ye_lv hs (by omega) (fun h => by rw [show gx_R m f t (-1) (-1) j = true from hL] at h; cases h) (fun _ => ye_reach K (fun s2 hs2 => ?_))
          exact ye_lv hs2 (by omega) (fun h => by rw [hR] at h; cases h) (fun _ => ⟨rfl, gx_rel K _⟩)
        | false =>
          refine xe_con_f (by omega) ((hr j (by omega)).trans hR) (br_t rfl (br_f h0 (br_t h1 (ye_ok hj hn (br_t rfl (ye_reach K (fun s' hs => ?_)))))))
          refine ye_lv hs (by omega) (fun h => by rw [show gx_R m f t (-1) (-1) j = true from hL] at h; cases h) (fun _ => ye_reach K (fun s2 hs2 => ?_))
          exact ye_lv hs2 (by omega) (fun _ => ⟨rfl, gx_rel K _⟩) (fun h => by rw [hR] at h; cases h)
theorem i_vc_bridges {k : Nat} {u : SX} {v : SY} (I : i_Rel k u v) (hk : k + 3 ≤ 1537) : wpX_bridges (fun r => wpY_bridges (fun r' v' => r' = r ∧ i_Rel (k + 3) u v') v) u := by
  obtain ⟨n, m, f, t, a, b, s, l, o, K, rfl, rfl⟩ := I
  refine xe_bridges K ?_
  unfold wpY_bridges
  dsimp only
  exact ye_tab K (fun s' l' o' hl ho => ye_bridges K hl (fun s2 => ⟨rfl, gx_rel K _⟩))
theorem i_vc_height {k : Nat} {u : SX} {v : SY} (I : i_Rel k u v) (hk : k + 3 ≤ 1537) : wpX_height (fun r => wpY_height (fun r' v' => r' = r ∧ i_Rel (k + 3) u v') v) u := by
  obtain ⟨n, m, f, t, a, b, s, l, o, K, rfl, rfl⟩ := I
  refine xe_height K ?_
  unfold wpY_height
  dsimp only
  exact ye_tab K (fun s' l' o' hl ho => ye_height K hl ho ⟨rfl, gx_rel K _⟩)
end
