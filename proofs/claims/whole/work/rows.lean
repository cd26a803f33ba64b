section
/-! rows pasted from kit/rows (bits, naturals in Int32, branches, a loop) -/
def bt (x : Int32) (i : Nat) : Bool := x.toBitVec.getLsbD i
theorem b_ext {x y : Int32} (h : ∀ i, i < 32 → bt x i = bt y i) : x = y := Int32.toBitVec_inj.mp (BitVec.eq_of_getLsbD_eq (fun i hi => h i hi))
theorem b_or (x y : Int32) (i : Nat) : bt (x ||| y) i = (bt x i || bt y i) := by unfold bt; rw [Int32.toBitVec_or, BitVec.getLsbD_or]
theorem b_and (x y : Int32) (i : Nat) : bt (x &&& y) i = (bt x i && bt y i) := by unfold bt; rw [Int32.toBitVec_and, BitVec.getLsbD_and]
theorem b_xor (x y : Int32) (i : Nat) : bt (x ^^^ y) i = (bt x i ^^ bt y i) := by unfold bt; rw [Int32.toBitVec_xor, BitVec.getLsbD_xor]
theorem b_big {x : Int32} {i : Nat} (h : 32 ≤ i) : bt x i = false := BitVec.getLsbD_of_ge _ _ h
theorem b_m1 : ∀ i, i < 32 → bt (-1) i = true := by decide +kernel
theorem b_0 (i : Nat) : bt 0 i = false := BitVec.getLsbD_zero
theorem s_l : ∀ n, n < 32 → ((nI n &&& 31).toBitVec.smod 32).toNat = n := by decide +kernel
theorem b_shl (n : Nat) (hn : n < 32) (x : Int32) {i : Nat} (hi : i < 32) : bt (x <<< (nI n &&& 31)) i = (decide (n ≤ i) && bt x (i - n)) := by
  unfold bt
  rw [Int32.toBitVec_shiftLeft]
  show (x.toBitVec <<< ((nI n &&& 31).toBitVec.smod 32).toNat).getLsbD i = _
  rw [s_l n hn, BitVec.getLsbD_shiftLeft]
  rcases Nat.lt_or_ge i n with h | h
  · simp [h, Nat.not_le.mpr h]
  · simp [hi, h, Nat.not_lt.mpr h]
theorem b_sshr (n : Nat) (hn : n < 32) (x : Int32) {i : Nat} (hi : i < 32) : bt (x >>> (nI n &&& 31)) i = if n + i < 32 then bt x (n + i) else bt x 31 := by
  unfold bt
  rw [Int32.toBitVec_shiftRight]
  show (x.toBitVec.sshiftRight ((nI n &&& 31).toBitVec.smod 32).toNat).getLsbD i = _
  rw [s_l n hn, BitVec.getLsbD_sshiftRight, BitVec.msb_eq_getLsbD_last]
  simp [hi]
theorem nf_sh : ∀ l, l < 32 → ((1 : Int32) <<< (nI l &&& 31)).toBitVec = BitVec.twoPow 32 l := by decide +kernel
theorem pk_us {f : Nat → Int32} {k : Nat} {x : Int32} : upd f k x k = x := if_pos rfl
theorem pk_un {f : Nat → Int32} {k j : Nat} {x : Int32} (h : j ≠ k) : upd f k x j = f j := if_neg h
theorem pk_sub {a b : Nat} (h : b ≤ a) : nI a - nI b = nI (a - b) := by
  obtain ⟨c, rfl⟩ : ∃ c, a = c + b := ⟨a - b, by omega⟩
  rw [← nI_add, Int32.add_sub_cancel, Nat.add_sub_cancel]
theorem pk_m1 (n : Nat) : nI (n + 1) + (-1) = nI n := by
  rw [← nI_1, Int32.add_assoc, show (1 : Int32) + (-1) = 0 from rfl, Int32.add_zero]
theorem pk_mul (a b : Nat) : nI a * nI b = nI (a * b) := (Int32.ofNat_mul a b).symm
theorem pk_ix (x : Int32) {n : Nat} (hn : n < 2 ^ 31) : x < 0 ∨ nI n ≤ x ∨ ∃ j : Nat, j < n ∧ x = nI j := by
  by_cases h : x < 0
  · exact Or.inl h
  · obtain ⟨j, hj, rfl⟩ := nI_of h
    by_cases h2 : j < n
    · exact Or.inr (Or.inr ⟨j, h2, rfl⟩)
    · exact Or.inr (Or.inl (nI_le (by omega) hj))
theorem pk_le {x y : Int32} {A B : Prop} (a b : Nat) (f : a ≤ b → A) (g : b < a → B) (hx : x = nI a := by rfl) (hy : y = nI b := by rfl) (ha : a < 2 ^ 31 := by omega) (hb : b < 2 ^ 31 := by omega) : (x ≤ y → A) ∧ (¬ x ≤ y → B) := by
  subst hx hy
  rw [nI_leI ha hb]
  exact ⟨f, fun z => g (by omega)⟩
theorem pk_lt {x y : Int32} {A B : Prop} (a b : Nat) (f : a < b → A) (g : b ≤ a → B) (hx : x = nI a := by rfl) (hy : y = nI b := by rfl) (ha : a < 2 ^ 31 := by omega) (hb : b < 2 ^ 31 := by omega) : (x < y → A) ∧ (¬ x < y → B) := by
  subst hx hy
  rw [nI_ltI ha hb]
  exact ⟨f, fun z => g (by omega)⟩
theorem pk_eq {x y : Int32} {A B : Prop} (a b : Nat) (f : a = b → A) (g : a ≠ b → B) (hx : x = nI a := by rfl) (hy : y = nI b := by rfl) (ha : a < 2 ^ 31 := by omega) (hb : b < 2 ^ 31 := by omega) : (x = y → A) ∧ (¬ x = y → B) := by
  subst hx hy
  rw [nI_eq ha hb]
  exact ⟨f, g⟩
theorem pk_in {x : Int32} (n N : Nat) (h : n < N) (hx : x = nI n := by rfl) (hN : N < 2 ^ 31 := by omega) : vp_in x N := by
  subst hx
  exact vp_in_nI h hN
theorem pk_cl {x : Int32} (n : Nat) (hx : x = nI n := by rfl) (h : n < 2 ^ 31 := by omega) : x.toNatClampNeg = n := by
  subst hx
  exact nI_clamp h
theorem pk_loop {σ : Type} (W : Nat → Nat → σ → Prop) (I : Nat → σ → Prop) (e i0 : Nat) (s : σ) (hi : i0 ≤ e) (h0 : I i0 s) (hx : ∀ n s, I e s → W (n + 1) e s)
    (hs : ∀ n i s, i < e → I i s → (∀ s', I (i + 1) s' → W n (i + 1) s') → W (n + 1) i s) : ∃ n, W n i0 s :=
  ⟨e + 1, loop_i W I e hx hs (e + 1) i0 s hi (by omega) h0⟩
theorem ek_if {c d A B : Prop} (e : c ↔ d) (f : d → A) (g : ¬ d → B) : (c → A) ∧ (¬ c → B) :=
  ⟨fun z => f (e.mp z), fun z => g (fun y => z (e.mpr y))⟩
theorem ek_v {α : Sort _} {P : α → Prop} {a b : α} (e : a = b) (h : P b) : P a := e ▸ h
/-! own: bits of masks -/
theorem gb_test (x : Int32) (j : Nat) (hj : j < 32) : ((x >>> (nI j &&& 31)) &&& 1) = 1 ↔ bt x j = true := by
  have h0 : bt (x >>> (nI j &&& 31)) 0 = bt x j := by
    rw [b_sshr j hj x (by omega), if_pos (by omega), Nat.add_zero]
  have h1 : ∀ i, i < 32 → bt 1 i = decide (i = 0) := by decide +kernel
  rw [← h0]
  constructor
  · intro h
    have e := b_and (x >>> (nI j &&& 31)) 1 0
    rw [h, h1 0 (by omega)] at e
    revert e
    cases bt (x >>> (nI j &&& 31)) 0 <;> simp
  · intro h
    apply b_ext
    intro i hi
    rw [b_and, h1 i hi]
    by_cases z : i = 0
    · subst z; rw [h]; rfl
    · simp [z]
theorem gb_set (x : Int32) (j : Nat) (hj : j < 32) (i : Nat) (hi : i < 32) : bt (x ||| ((1 : Int32) <<< (nI j &&& 31))) i = (bt x i || decide (i = j)) := by
  rw [b_or]
  congr 1
  unfold bt
  rw [nf_sh j hj, BitVec.getLsbD_twoPow]
  by_cases z : j = i
  · subst z; simp [hi]
  · simp [z, Ne.symm z]
theorem gb_one (i : Nat) (hi : i < 32) (j : Nat) (hj : j < 32) : bt ((1 : Int32) <<< (nI j &&& 31)) i = decide (i = j) := by
  unfold bt
  rw [nf_sh j hj, BitVec.getLsbD_twoPow]
  by_cases z : j = i
  · subst z; simp [hi]
  · simp [z, Ne.symm z]
theorem gb_not (x y : Int32) (i : Nat) (hi : i < 32) : bt (x &&& (y ^^^ (-1))) i = (bt x i && !bt y i) := by
  rw [b_and, b_xor, b_m1 i hi, Bool.xor_true]
theorem gb_1 : ∀ i, i < 32 → bt 1 i = decide (i = 0) := by decide +kernel
end
section
/-! the mathematics of dominators over least closed sets (no path is needed) -/
/-- the least set that holds the root (if V lets it) and is closed under the edges i < m that E lets and whose end V lets -/
def dm_R (m : Nat) (f t : Nat → Nat) (V E : Nat → Prop) (v : Nat) : Prop :=
  ∀ S : Nat → Prop, (V 0 → S 0) → (∀ i, i < m → E i → V (t i) → S (f i) → S (t i)) → S v
theorem dm_root {m : Nat} {f t : Nat → Nat} {V E : Nat → Prop} (h : V 0) : dm_R m f t V E 0 :=
  fun _ h0 _ => h0 h
theorem dm_step {m : Nat} {f t : Nat → Nat} {V E : Nat → Prop} {i : Nat} (hi : i < m) (he : E i) (hv : V (t i))
    (h : dm_R m f t V E (f i)) : dm_R m f t V E (t i) :=
  fun S h0 hs => hs i hi he hv (h S h0 hs)
theorem dm_ind {m : Nat} {f t : Nat → Nat} {V E : Nat → Prop} {v : Nat} (S : Nat → Prop) (h0 : V 0 → S 0)
    (hs : ∀ i, i < m → E i → V (t i) → dm_R m f t V E (f i) → S (f i) → S (t i)) (h : dm_R m f t V E v) : S v :=
  (h (fun x => dm_R m f t V E x ∧ S x) (fun z => ⟨dm_root z, h0 z⟩)
    (fun i hi he hv hf => ⟨dm_step hi he hv hf.1, hs i hi he hv hf.1 hf.2⟩)).2
theorem dm_V {m : Nat} {f t : Nat → Nat} {V E : Nat → Prop} {v : Nat} (h : dm_R m f t V E v) : V v :=
  dm_ind V (fun z => z) (fun _ _ _ hv _ _ => hv) h
theorem dm_mono {m : Nat} {f t : Nat → Nat} {V E V' E' : Nat → Prop} {v : Nat} (h0 : V 0 → V' 0) (hV : ∀ i, i < m → V (t i) → V' (t i)) (hE : ∀ i, i < m → E i → E' i)
    (h : dm_R m f t V E v) : dm_R m f t V' E' v :=
  dm_ind _ (fun z => dm_root (h0 z)) (fun i hi he hv _ hf => dm_step hi (hE _ hi he) (hV _ hi hv) hf) h
theorem dm_lt {m n : Nat} {f t : Nat → Nat} {V E : Nat → Prop} {v : Nat} (hn : 0 < n) (ht : ∀ i, i < m → t i < n)
    (h : dm_R m f t V E v) : v < n :=
  dm_ind (fun x => x < n) (fun _ => hn) (fun i hi _ _ _ _ => ht i hi) h
/-- reachable; reachable past a; dominates -/
def dm_r (m : Nat) (f t : Nat → Nat) (v : Nat) : Prop := dm_R m f t (fun _ => True) (fun _ => True) v
def dm_a (m : Nat) (f t : Nat → Nat) (a v : Nat) : Prop := dm_R m f t (fun x => x ≠ a) (fun _ => True) v
def dm_D (m : Nat) (f t : Nat → Nat) (a v : Nat) : Prop := dm_r m f t v ∧ ¬ dm_a m f t a v
section
variable {m : Nat} {f t : Nat → Nat}
theorem dm_ar {a v : Nat} (h : dm_a m f t a v) : dm_r m f t v := dm_mono (fun _ => trivial) (fun _ _ _ => trivial) (fun _ _ h => h) h
theorem dm_aa {a : Nat} (h : dm_a m f t a a) : False := dm_V h rfl
theorem dm_refl {v : Nat} (h : dm_r m f t v) : dm_D m f t v v := ⟨h, fun z => dm_aa z⟩
theorem dm_a0 {v : Nat} (h : dm_a m f t 0 v) : False :=
  dm_ind (fun _ => False) (fun z => z rfl) (fun _ _ _ _ _ z => z) h
theorem dm_D0 {v : Nat} (h : dm_r m f t v) : dm_D m f t 0 v := ⟨h, fun z => dm_a0 z⟩
theorem dm_r0 : dm_r m f t 0 := dm_root trivial
/-- a dominator is reachable -/
theorem dm_Dr {a v : Nat} (h : dm_D m f t a v) : dm_r m f t a := by
  apply Classical.byContradiction
  intro na
  refine h.2 (dm_ind (dm_a m f t a) (fun _ => dm_root ?_) (fun i hi _ _ hr hf => dm_step hi trivial ?_ hf) h.1)
  · intro e; exact na (e ▸ dm_r0)
  · intro e; exact na (e ▸ dm_step hi trivial trivial hr)
theorem dm_tr' {a b v : Nat} (h : dm_a m f t a v) : dm_a m f t a b ∨ dm_a m f t b v := by
  refine dm_ind (fun x => dm_a m f t a b ∨ dm_a m f t b x) (fun h0 => ?_) (fun i hi _ hv hr hf => ?_) h
  · by_cases e : (0 : Nat) = b
    · exact Or.inl (e ▸ dm_root h0)
    · exact Or.inr (dm_root e)
  · cases hf with
    | inl z => exact Or.inl z
    | inr z =>
      by_cases e : t i = b
      · exact Or.inl (e ▸ dm_step hi trivial hv hr)
      · exact Or.inr (dm_step hi trivial e z)
theorem dm_trans {a b v : Nat} (h1 : dm_D m f t a b) (h2 : dm_D m f t b v) : dm_D m f t a v :=
  ⟨h2.1, fun z => (dm_tr' z).elim h1.2 h2.2⟩
theorem dm_anti {a b : Nat} (h1 : dm_D m f t a b) (h2 : dm_D m f t b a) : a = b := by
  apply Classical.byContradiction
  intro ne
  have H : (dm_a m f t a a ∧ dm_a m f t b a) ∨ dm_a m f t b a ∨ dm_a m f t a b := by
    refine dm_ind (fun x => (dm_a m f t a x ∧ dm_a m f t b x) ∨ dm_a m f t b a ∨ dm_a m f t a b) (fun _ => ?_) (fun i hi _ _ _ hf => ?_) h2.1
    · by_cases ea : (0 : Nat) = a
      · exact Or.inr (Or.inl (ea ▸ dm_root (fun z => ne (ea ▸ z))))
      · by_cases eb : (0 : Nat) = b
        · exact Or.inr (Or.inr (eb ▸ dm_root (fun z => ne (z ▸ eb))))
        · exact Or.inl ⟨dm_root ea, dm_root eb⟩
    · cases hf with
      | inr z => exact Or.inr z
      | inl z =>
        by_cases ea : t i = a
        · exact Or.inr (Or.inl (ea ▸ dm_step hi trivial (fun q => ne (ea.symm.trans q)) z.2))
        · by_cases eb : t i = b
          · exact Or.inr (Or.inr (eb ▸ dm_step hi trivial ea z.1))
          · exact Or.inl ⟨dm_step hi trivial ea z.1, dm_step hi trivial eb z.2⟩
  cases H with
  | inl z => exact dm_aa z.1
  | inr z => exact z.elim h2.2 h1.2
/-- the dominators of v lie in a row -/
theorem dm_chain {a b v : Nat} (h1 : dm_D m f t a v) (h2 : dm_D m f t b v) : dm_D m f t a b ∨ dm_D m f t b a := by
  apply Classical.byContradiction
  intro no
  have ra := dm_Dr h1
  have rb := dm_Dr h2
  have hab : dm_a m f t a b := Classical.byContradiction fun z => no (Or.inl ⟨rb, z⟩)
  have hba : dm_a m f t b a := Classical.byContradiction fun z => no (Or.inr ⟨ra, z⟩)
  have H : (v = a ∨ v = b) ∨ dm_a m f t a v ∨ dm_a m f t b v := by
    refine dm_ind (fun x => (x = a ∨ x = b) ∨ dm_a m f t a x ∨ dm_a m f t b x) (fun _ => ?_) (fun i hi _ _ _ hf => ?_) h1.1
    · by_cases ea : (0 : Nat) = a
      · exact Or.inl (Or.inl ea)
      · exact Or.inr (Or.inl (dm_root ea))
    · by_cases ea : t i = a
      · exact Or.inl (Or.inl ea)
      · by_cases eb : t i = b
        · exact Or.inl (Or.inr eb)
        · have hf' : dm_a m f t a (f i) ∨ dm_a m f t b (f i) := by
            cases hf with
            | inr z => exact z
            | inl z =>
              cases z with
              | inl z => rw [z]; exact Or.inr hba
              | inr z => rw [z]; exact Or.inl hab
          cases hf' with
          | inl z => exact Or.inr (Or.inl (dm_step hi trivial ea z))
          | inr z => exact Or.inr (Or.inr (dm_step hi trivial eb z))
  cases H with
  | inr z => exact z.elim h1.2 h2.2
  | inl z =>
    cases z with
    | inl e => exact h2.2 (e ▸ hba)
    | inr e => exact h1.2 (e ▸ hab)
end
/-- truth as a Bool; how many i < k hold -/
noncomputable def dm_b (P : Prop) : Bool := @decide P (Classical.propDecidable P)
theorem dm_b_t {P : Prop} : dm_b P = true ↔ P := @decide_eq_true_iff P (Classical.propDecidable P)
theorem dm_b_f {P : Prop} : dm_b P = false ↔ ¬ P := @decide_eq_false_iff_not P (Classical.propDecidable P)
def dm_c (p : Nat → Bool) : Nat → Nat
  | 0 => 0
  | k + 1 => dm_c p k + (if p k = true then 1 else 0)
theorem dm_c_le (p : Nat → Bool) : ∀ k, dm_c p k ≤ k := by
  intro k
  induction k with
  | zero => exact Nat.le_refl 0
  | succ k ih => simp only [dm_c]; split <;> omega
theorem dm_c_mono {p q : Nat → Bool} : ∀ k, (∀ i, i < k → p i = true → q i = true) → dm_c p k ≤ dm_c q k := by
  intro k
  induction k with
  | zero => intro _; exact Nat.le_refl 0
  | succ k ih =>
    intro h
    have h1 := ih (fun i hi => h i (by omega))
    have h2 := h k (by omega)
    simp only [dm_c]
    by_cases z : p k = true
    · rw [if_pos z, if_pos (h2 z)]; omega
    · rw [if_neg z]; omega
theorem dm_c_congr {p q : Nat → Bool} (k : Nat) (h : ∀ i, i < k → (p i = true ↔ q i = true)) : dm_c p k = dm_c q k :=
  Nat.le_antisymm (dm_c_mono k fun i hi => (h i hi).mp) (dm_c_mono k fun i hi => (h i hi).mpr)
/-- one more: q is p and j beside it -/
theorem dm_c_one {p q : Nat → Bool} {j : Nat} : ∀ k, j < k → p j = false → (∀ i, i < k → (q i = true ↔ p i = true ∨ i = j)) → dm_c q k = dm_c p k + 1 := by
  intro k
  induction k with
  | zero => intro h; omega
  | succ k ih =>
    intro hj hp h
    simp only [dm_c]
    by_cases e : j = k
    · subst e
      have h1 : dm_c q j = dm_c p j := dm_c_congr j (fun i hi => by
        rw [h i (by omega)]; constructor
        · intro z; exact z.elim id (fun z => absurd z (by omega))
        · exact Or.inl)
      rw [h1, if_pos ((h j (by omega)).mpr (Or.inr rfl)), hp]; simp
    · have h1 := ih (by omega) hp (fun i hi => h i (by omega))
      have h2 : q k = true ↔ p k = true := by
        rw [h k (by omega)]; constructor
        · intro z; exact z.elim id (fun z => absurd z.symm e)
        · exact Or.inl
      by_cases z : p k = true
      · rw [if_pos z, if_pos (h2.mpr z)]; omega
      · rw [if_neg z, if_neg (fun y => z (h2.mp y))]; omega
theorem dm_c_lt {p q : Nat → Bool} {j : Nat} (k : Nat) (hj : j < k) (h : ∀ i, i < k → p i = true → q i = true) (hp : p j = false) (hq : q j = true) : dm_c p k < dm_c q k := by
  have h1 : dm_c (fun i => p i || decide (i = j)) k = dm_c p k + 1 :=
    dm_c_one k hj hp (fun i _ => by simp)
  have h2 : dm_c (fun i => p i || decide (i = j)) k ≤ dm_c q k :=
    dm_c_mono k (fun i hi z => by
      have z' : p i = true ∨ i = j := by simpa using z
      cases z' with
      | inl y => exact h i hi y
      | inr y => rw [y]; exact hq)
  omega
/-- how many dominators v has -/
noncomputable def dm_d (n m : Nat) (f t : Nat → Nat) (v : Nat) : Nat := dm_c (fun a => dm_b (dm_D m f t a v)) n
section
variable {n m : Nat} {f t : Nat → Nat}
theorem dm_d_lt {a b : Nat} (hb : b < n) (h : dm_D m f t a b) (ne : a ≠ b) : dm_d n m f t a < dm_d n m f t b := by
  refine dm_c_lt n hb (fun i _ z => dm_b_t.mpr (dm_trans (dm_b_t.mp z) h)) (dm_b_f.mpr fun z => ne (dm_anti h z)) (dm_b_t.mpr (dm_refl h.1))
theorem dm_d_le {a b : Nat} (hb : b < n) (h : dm_D m f t a b) : dm_d n m f t a ≤ dm_d n m f t b := by
  by_cases e : a = b
  · rw [e]; exact Nat.le_refl _
  · exact Nat.le_of_lt (dm_d_lt hb h e)
theorem dm_d_pos {v : Nat} (hv : v < n) (h : dm_r m f t v) : 0 < dm_d n m f t v := by
  refine Nat.lt_of_le_of_lt (Nat.zero_le (dm_c (fun _ => false) n)) (dm_c_lt n hv (fun _ _ z => absurd z (by decide)) rfl (dm_b_t.mpr (dm_refl h)))
/-- among the dominators of v the numbers of dominators order them -/
theorem dm_d_dom {a b v : Nat} (ha : a < n) (hb : b < n) (h1 : dm_D m f t a v) (h2 : dm_D m f t b v) (h : dm_d n m f t a ≤ dm_d n m f t b) : dm_D m f t a b := by
  cases dm_chain h1 h2 with
  | inl z => exact z
  | inr z =>
    by_cases e : b = a
    · rw [e]; exact dm_refl (dm_Dr h1)
    · exact absurd (dm_d_lt ha z e) (by omega)
theorem dm_d_inj {a b v : Nat} (ha : a < n) (hb : b < n) (h1 : dm_D m f t a v) (h2 : dm_D m f t b v) (h : dm_d n m f t a = dm_d n m f t b) : a = b :=
  dm_anti (dm_d_dom ha hb h1 h2 (by omega)) (dm_d_dom hb ha h2 h1 (by omega))
/-- d is the immediate dominator of v -/
def dm_I (m : Nat) (f t : Nat → Nat) (d v : Nat) : Prop := dm_D m f t d v ∧ d ≠ v ∧ ∀ a, dm_D m f t a v → a ≠ v → dm_D m f t a d
theorem dm_I_uniq {d e v : Nat} (h1 : dm_I m f t d v) (h2 : dm_I m f t e v) : d = e :=
  dm_anti (h2.2.2 d h1.1 h1.2.1) (h1.2.2 e h2.1 h2.2.1)
theorem dm_I_d {d v : Nat} (hv : v < n) (h : dm_I m f t d v) : dm_d n m f t v = dm_d n m f t d + 1 := by
  refine dm_c_one n hv (dm_b_f.mpr fun z => h.2.1 (dm_anti h.1 z)) (fun a _ => ?_)
  rw [dm_b_t, dm_b_t]
  constructor
  · intro z
    by_cases e : a = v
    · exact Or.inr e
    · exact Or.inl (h.2.2 a z e)
  · intro z
    cases z with
    | inl z => exact dm_trans z h.1
    | inr z => rw [z]; exact dm_refl h.1.1
theorem dm_I_of {d v : Nat} (hv : v < n) (hd : d < n) (hn : ∀ a, dm_D m f t a v → a < n) (h : dm_D m f t d v) (e : dm_d n m f t v = dm_d n m f t d + 1) : dm_I m f t d v := by
  refine ⟨h, fun z => ?_, fun a ha ne => ?_⟩
  · rw [z] at e; omega
  · refine dm_d_dom (hn a ha) hd ha h ?_
    have := dm_d_lt hv ha ne
    omega
/-- every reachable vertex but the root has one: the last of the others -/
theorem dm_I_max {d v : Nat} (hd : d < n) (hn : ∀ a, dm_D m f t a v → a < n) (h : dm_D m f t d v) (ne : d ≠ v)
    (hm : ∀ a, dm_D m f t a v → a ≠ v → dm_d n m f t a ≤ dm_d n m f t d) : dm_I m f t d v :=
  ⟨h, ne, fun a ha na => dm_d_dom (hn a ha) hd ha h (hm a ha na)⟩
end
end
