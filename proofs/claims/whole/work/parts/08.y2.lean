/-! the reference's walks over its tables -/
section
variable {n m : Nat} {f t : Nat → Nat} {a b s l o : Nat → Int32}
theorem ye_cell {u v : Nat} (hu : u < 24) (hv : v < 24) : vp_in ((24 : Int32) * nI u + nI v) 576 ∧ ((24 : Int32) * nI u + nI v).toNatClampNeg = 24 * u + v := by
  have e1 : (24 : Int32) * nI u + nI v = nI (24 * u + v) := by
    rw [show (24 : Int32) = nI 24 from rfl, pk_mul, nI_add]
  rw [e1]
  exact ⟨vp_in_nI (by omega) (by decide), nI_clamp (by omega)⟩
/-- the table over, whole -/
def ye_O (m : Nat) (f t : Nat → Nat) (o : Nat → Int32) : Prop := ∀ u v, u < 24 → v < 24 → o (24 * u + v) = gx_I (gx_O m f t u v)
theorem ye_br {A B : Prop} {o : Nat → Int32} {u v : Nat} (ho : ye_O m f t o) (hu : u < 24) (hv : v < 24) (h0 : gx_O m f t u v = false → A) (h1 : gx_O m f t u v = true → B) :
    vp_in ((24 : Int32) * nI u + nI v) 576 ∧ ((o ((24 : Int32) * nI u + nI v).toNatClampNeg = 0 → A) ∧ (¬ o ((24 : Int32) * nI u + nI v).toNatClampNeg = 0 → B)) := by
  refine ⟨(ye_cell hu hv).1, ?_⟩
  rw [(ye_cell hu hv).2, ho u v hu hv]
  cases e : gx_O m f t u v with
  | false => exact br_t (gx_I_f rfl) (h0 e)
  | true => exact br_f (by decide) (h1 e)
theorem ye_lv {A B : Prop} {l : Nat → Int32} {v : Nat} {S : Nat → Bool} (hl : ye_k l S) (hv : v < 24) (h0 : S v = false → A) (h1 : S v = true → B) :
    vp_in (nI v) 24 ∧ ((l (nI v).toNatClampNeg = 0 → A) ∧ (¬ l (nI v).toNatClampNeg = 0 → B)) := by
  refine ⟨vp_in_nI hv (by decide), ?_⟩
  rw [nI_clamp (by omega), hl v hv]
  cases e : S v with
  | false => exact br_t (gx_I_f rfl) (h0 e)
  | true => exact br_f (by decide) (h1 e)
theorem ye_cnt {p : Nat → Bool} {i : Nat} {y : Int32} (hy : y = nI (dm_c p i)) : (p i = false → y = nI (dm_c p (i + 1))) ∧ (p i = true → y + 1 = nI (dm_c p (i + 1))) := by
  constructor
  · intro e
    show y = nI (dm_c p i + (if p i = true then 1 else 0))
    rw [e, hy]; rfl
  · intro e
    show y + 1 = nI (dm_c p i + (if p i = true then 1 else 0))
    rw [e, hy]; exact nI_1 _
theorem ye_doms (K : gx_k n m f t a b) (ho : ye_O m f t o) {post : Int32 → Prop} {v : Nat} (hv : v < 24) (hp : post (nI (gx_d n m f t v))) : wpY_dominators post (nI n, nI m, a, b, s, l, o) (nI v) := by
  have hn := K.2.1
  refine loop_0 (fun k i (y : Int32) => wY_dominators_4 post (nI v) (nI n) (nI m) a b s l o k y (nI i)) (fun i y => y = nI (dm_c (fun u => gx_O m f t u v) i)) n 0 rfl ?_ ?_
  · intro k y hy
    rw [hy]
    exact br_t (nI_le (Nat.le_refl n) (by omega)) hp
  · intro k i y hi hy hk
    have hc := ye_cnt (p := fun u => gx_O m f t u v) hy
    refine br_f (nI_ge hi (by omega)) (br_f (nI_ge (a := i) (b := 24) (by omega) (by decide)) ?_)
    exact ye_br ho (by omega) hv (fun h => nm_r (nI_1 i) (hk _ (hc.1 h))) (fun h => nm_e (nm_r (nI_1 i) (hk _ (hc.2 h))))
theorem ye_above (K : gx_k n m f t a b) (ho : ye_O m f t o) {post : Int32 → Prop} {v : Nat} (hv : v < 24) (hp : post (gx_p (gx_o m f t v) (gx_d n m f t) (-1) n).1) : wpY_above post (nI n, nI m, a, b, s, l, o) (nI v) := by
  have hn := K.2.1
  refine loop_0 (fun k i (w : Int32 × Int32) => wY_above_7 post (nI v) (nI n) (nI m) a b s l o k w.1 w.2 (nI i)) (fun i w => w = ((gx_p (gx_o m f t v) (gx_d n m f t) (-1) i).1, nI (gx_p (gx_o m f t v) (gx_d n m f t) (-1) i).2)) n (-1, 0) rfl ?_ ?_
  · intro k w hw
    rw [hw]
    exact br_t (nI_le (Nat.le_refl n) (by omega)) hp
  · intro k i w hi hw hk
    rw [hw]
    have hle := gx_p_le (n := n) (m := m) (f := f) (t := t) (gx_o m f t v) (-1) i
    have hle2 := gx_d_le (n := n) (m := m) (f := f) (t := t) i
    have hno : gx_o m f t v i = false → ∀ z : Int32, z = nI i + 1 → wY_above_7 post (nI v) (nI n) (nI m) a b s l o k (gx_p (gx_o m f t v) (gx_d n m f t) (-1) i).1 (nI (gx_p (gx_o m f t v) (gx_d n m f t) (-1) i).2) z := by
      intro h
      refine nm_r (nI_1 i) (hk (_, _) ?_)
      show _ = ((gx_p (gx_o m f t v) (gx_d n m f t) (-1) (i + 1)).1, nI (gx_p (gx_o m f t v) (gx_d n m f t) (-1) (i + 1)).2)
      rw [gx_p_n1 h]; rfl
    refine br_f (nI_ge hi (by omega)) (br_f (nI_ge (a := i) (b := 24) (by omega) (by decide)) ?_)
    refine pk_eq i v (fun e => hno ?_) (fun e => ye_br ho (by omega) hv (fun h => hno ?_) (fun h => ye_doms K ho (by omega) ?_))
    · unfold gx_o; rw [decide_eq_false (by simp [e])]; rfl
    · unfold gx_o; rw [h, Bool.and_false]
    · have hP : gx_o m f t v i = true := by unfold gx_o; rw [h, decide_eq_true e]; rfl
      refine pk_le (gx_d n m f t i) (gx_p (gx_o m f t v) (gx_d n m f t) (-1) i).2 (fun z => nm_r (nI_1 i) (hk (_, _) ?_)) (fun z => nm_r (nI_1 i) (hk (_, _) ?_))
      · show _ = ((gx_p (gx_o m f t v) (gx_d n m f t) (-1) (i + 1)).1, nI (gx_p (gx_o m f t v) (gx_d n m f t) (-1) (i + 1)).2)
        rw [gx_p_n2 z]
      · show _ = ((gx_p (gx_o m f t v) (gx_d n m f t) (-1) (i + 1)).1, nI (gx_p (gx_o m f t v) (gx_d n m f t) (-1) (i + 1)).2)
        rw [gx_p_y hP z]; rfl
theorem ye_rcount (K : gx_k n m f t a b) (hl : ye_k l (gx_L m f t)) {post : Int32 → SY → Prop} (hp : post (nI (dm_c (gx_L m f t) n)) (nI n, nI m, a, b, s, l, o)) :
    ∃ k, wY_reachableCount_8 post (nI n) (nI m) a b s l o k 0 0 := by
  have hn := K.2.1
  refine loop_0 (fun k i (y : Int32) => wY_reachableCount_8 post (nI n) (nI m) a b s l o k y (nI i)) (fun i y => y = nI (dm_c (gx_L m f t) i)) n 0 rfl ?_ ?_
  · intro k y hy
    rw [hy]
    exact br_t (nI_le (Nat.le_refl n) (by omega)) hp
  · intro k i y hi hy hk
    have hc := ye_cnt (p := gx_L m f t) hy
    refine br_f (nI_ge hi (by omega)) (br_f (nI_ge (a := i) (b := 24) (by omega) (by decide)) ?_)
    exact ye_lv hl (by omega) (fun h => nm_r (nI_1 i) (hk _ (hc.1 h))) (fun h => nm_e (nm_r (nI_1 i) (hk _ (hc.2 h))))
theorem ye_below (K : gx_k n m f t a b) (ho : ye_O m f t o) {post : Int32 → SY → Prop} {u : Nat} (hu : u < 24) (hp : post (nI (dm_c (gx_O m f t u) n)) (nI n, nI m, a, b, s, l, o)) :
    ∃ k, wY_below_30 post (nI u) (nI n) (nI m) a b s l o k 0 0 := by
  have hn := K.2.1
  refine loop_0 (fun k i (y : Int32) => wY_below_30 post (nI u) (nI n) (nI m) a b s l o k y (nI i)) (fun i y => y = nI (dm_c (gx_O m f t u) i)) n 0 rfl ?_ ?_
  · intro k y hy
    rw [hy]
    exact br_t (nI_le (Nat.le_refl n) (by omega)) hp
  · intro k i y hi hy hk
    have hc := ye_cnt (p := gx_O m f t u) hy
    refine br_f (nI_ge hi (by omega)) (br_f (nI_ge (a := i) (b := 24) (by omega) (by decide)) ?_)
    exact ye_br ho hu (by omega) (fun h => nm_r (nI_1 i) (hk _ (hc.1 h))) (fun h => nm_e (nm_r (nI_1 i) (hk _ (hc.2 h))))
theorem ye_childs (K : gx_k n m f t a b) (hl : ye_k l (gx_L m f t)) (ho : ye_O m f t o) {post : Int32 → SY → Prop} {u : Nat} (hu : u < n) (hp : post (nI (dm_c (gx_c n m f t u) n)) (nI n, nI m, a, b, s, l, o)) :
    ∃ k, wY_children_30 post (nI u) (nI n) (nI m) a b s l o k 0 1 := by
  have hn := K.2.1
  have hn2 := K.1
  refine pk_loop (fun k i (y : Int32) => wY_children_30 post (nI u) (nI n) (nI m) a b s l o k y (nI i)) (fun i y => 0 < i ∧ y = nI (dm_c (gx_c n m f t u) i)) n 1 0 (by omega) ⟨by omega, ?_⟩ ?_ ?_
  · exact (ye_cnt (p := gx_c n m f t u) (i := 0) (y := 0) rfl).1 (gx_child0 K hu)
  · intro k y hy
    rw [hy.2]
    exact br_t (nI_le (Nat.le_refl n) (by omega)) hp
  · intro k i y hi hy hk
    have hc := ye_cnt (p := gx_c n m f t u) hy.2
    refine br_f (nI_ge hi (by omega)) (br_f (nI_ge (a := i) (b := 24) (by omega) (by decide)) ?_)
    refine ye_lv hl (by omega) (fun h => nm_r (nI_1 i) (hk _ ⟨by omega, hc.1 (gx_childn h)⟩)) (fun h => ye_above K ho (by omega) ?_)
    refine ek_if (gx_child K hu (by omega) h) (fun z => nm_e (nm_r (nI_1 i) (hk _ ⟨by omega, hc.2 z⟩))) (fun z => nm_r (nI_1 i) (hk _ ⟨by omega, hc.1 (Bool.not_eq_true _ |>.mp z)⟩))
theorem ye_near (K : gx_k n m f t a b) (ho : ye_O m f t o) {post : Int32 → SY → Prop} {u v : Nat} (hu : u < 24) (hv : v < 24)
    (hp : post (gx_p (fun w => gx_O m f t w u && gx_O m f t w v) (gx_d n m f t) 0 n).1 (nI n, nI m, a, b, s, l, o)) :
    ∃ k, wY_nearest_51 post (nI u) (nI v) (nI n) (nI m) a b s l o k 0 0 0 := by
  have hn := K.2.1
  refine loop_0 (fun k i (w : Int32 × Int32) => wY_nearest_51 post (nI u) (nI v) (nI n) (nI m) a b s l o k w.1 w.2 (nI i))
    (fun i w => w = ((gx_p (fun w => gx_O m f t w u && gx_O m f t w v) (gx_d n m f t) 0 i).1, nI (gx_p (fun w => gx_O m f t w u && gx_O m f t w v) (gx_d n m f t) 0 i).2)) n (0, 0) rfl ?_ ?_
  · intro k w hw
    rw [hw]
    exact br_t (nI_le (Nat.le_refl n) (by omega)) hp
  · intro k i w hi hw hk
    rw [hw]
    have hle := gx_p_le (n := n) (m := m) (f := f) (t := t) (fun w => gx_O m f t w u && gx_O m f t w v) 0 i
    have hle2 := gx_d_le (n := n) (m := m) (f := f) (t := t) i
    have hno : (gx_O m f t i u && gx_O m f t i v) = false → ∀ z : Int32, z = nI i + 1 → wY_nearest_51 post (nI u) (nI v) (nI n) (nI m) a b s l o k (gx_p (fun w => gx_O m f t w u && gx_O m f t w v) (gx_d n m f t) 0 i).1 (nI (gx_p (fun w => gx_O m f t w u && gx_O m f t w v) (gx_d n m f t) 0 i).2) z := by
      intro h
      refine nm_r (nI_1 i) (hk (_, _) ?_)
      rw [gx_p_n1 (k := i) h]; rfl
    refine br_f (nI_ge hi (by omega)) (br_f (nI_ge (a := i) (b := 24) (by omega) (by decide)) ?_)
    refine ye_br ho (by omega) hu (fun h => hno ?_) (fun h => ye_br ho (by omega) hv (fun h2 => hno ?_) (fun h2 => ye_doms K ho (by omega) ?_))
    · rw [h]; rfl
    · rw [h2, Bool.and_false]
    · have hP : (fun w => gx_O m f t w u && gx_O m f t w v) i = true := by show (gx_O m f t i u && gx_O m f t i v) = true; rw [h, h2]; rfl
      refine pk_le (gx_d n m f t i) (gx_p (fun w => gx_O m f t w u && gx_O m f t w v) (gx_d n m f t) 0 i).2 (fun z => nm_r (nI_1 i) (hk (_, _) ?_)) (fun z => nm_r (nI_1 i) (hk (_, _) ?_))
      · rw [gx_p_n2 z]
      · rw [gx_p_y (k := i) hP z]; rfl
theorem ye_bord (K : gx_k n m f t a b) (ho : ye_O m f t o) {post : Int32 → SY → Prop} {u v : Nat} (hu : u < n) (hv : v < n) (h1 : gx_e m f t u v → post 1 (nI n, nI m, a, b, s, l, o)) (h0 : ¬ gx_e m f t u v → post 0 (nI n, nI m, a, b, s, l, o)) :
    ∃ k, wY_border_66 post (nI u) (nI v) (nI n) (nI m) a b s l o k 0 := by
  have hn := K.2.1
  have hm := K.2.2.1
  refine loop_0 (fun k i (_ : Unit) => wY_border_66 post (nI u) (nI v) (nI n) (nI m) a b s l o k (nI i)) (fun i _ => ∀ j, j < i → ¬ (t j = v ∧ gx_O m f t u (f j) = true)) m () (fun j hj => absurd hj (by omega)) ?_ ?_
  · intro k s hs
    exact br_t (nI_le (Nat.le_refl m) (by omega)) (h0 (fun ⟨j, z, z2⟩ => hs j z z2))
  · intro k i s hi hs hk
    obtain ⟨hf, ht, ea, eb⟩ := K.2.2.2 i hi
    have hin : vp_in (nI i) 60 := vp_in_nI (by omega) (by omega)
    have hc : (nI i).toNatClampNeg = i := nI_clamp (by omega)
    refine br_f (nI_ge hi (by omega)) (br_f (nI_ge (a := i) (b := 60) (by omega) (by decide)) ⟨hin, ?_⟩)
    rw [hc, ea, eb]
    refine pk_eq (t i) v (fun z => ⟨hin, ?_⟩) (fun z => nm_r (nI_1 i) (hk () (lt_s hs (fun y => z y.1))))
    exact ye_br ho (by omega) (by omega) (fun h => nm_r (nI_1 i) (hk () (lt_s hs (fun y => by rw [h] at y; cases y.2)))) (fun h => h1 ⟨i, hi, z, h⟩)
theorem ye_lost (K : gx_k n m f t a b) (hl : ye_k l (gx_L m f t)) {i : Nat} (hs : ye_k s (gx_R m f t (-1) (nI i))) {post : Int32 → SY → Prop} {J : Int32 → Int32 → Int32 → Int32 → (Nat → Int32) → (Nat → Int32) → (Nat → Int32) → (Nat → Int32) → (Nat → Int32) → Prop} {x1 : Int32}
    (h0 : gx_b m f t i = false → J x1 (nI (i + 1)) (nI n) (nI m) a b s l o) (h1 : gx_b m f t i = true → J (x1 + 1) (nI (i + 1)) (nI n) (nI m) a b s l o) :
    ∃ k, wY_bridges_33 post J x1 (nI i) (nI n) (nI m) a b s l o k 0 0 := by
  have hn := K.2.1
  refine loop_0 (fun k j (y : Int32) => wY_bridges_33 post J x1 (nI i) (nI n) (nI m) a b s l o k y (nI j)) (fun j y => (y = 0 ∧ ∀ v, v < j → gx_L m f t v = true → gx_R m f t (-1) (nI i) v = true) ∨ (y = 1 ∧ gx_b m f t i = true)) n 0 (Or.inl ⟨rfl, fun v hv => absurd hv (by omega)⟩) ?_ ?_
  · intro k y hy
    refine br_t (nI_le (Nat.le_refl n) (by omega)) ?_
    cases hy with
    | inl z =>
      refine br_t z.1 (nm_r (nI_1 i) (h0 (dm_b_f.mpr (fun ⟨v, z1, z2⟩ => ?_))))
      rw [z.2 v (gx_L_lt K z1) z1] at z2
      cases z2
    | inr z => exact br_f (fun e => absurd (e.symm.trans z.1) (by decide)) (nm_e (nm_r (nI_1 i) (h1 z.2)))
  · intro k j y hj hy hk
    refine br_f (nI_ge hj (by omega)) (br_f (nI_ge (a := j) (b := 24) (by omega) (by decide)) ?_)
    refine ye_lv hl (by omega) (fun h => nm_r (nI_1 j) (hk _ ?_)) (fun h => ye_lv hs (by omega) (fun h2 => nm_r (nI_1 j) (hk _ (Or.inr ⟨rfl, dm_b_t.mpr ⟨j, h, h2⟩⟩))) (fun h2 => nm_r (nI_1 j) (hk _ ?_)))
    · cases hy with
      | inl z => exact Or.inl ⟨z.1, lt_s z.2 (fun q => by rw [h] at q; cases q)⟩
      | inr z => exact Or.inr z
    · cases hy with
      | inl z => exact Or.inl ⟨z.1, lt_s z.2 (fun _ => h2)⟩
      | inr z => exact Or.inr z
theorem ye_bridges (K : gx_k n m f t a b) (hl : ye_k l (gx_L m f t)) {post : Int32 → SY → Prop} (hp : ∀ s', post (nI (dm_c (gx_b m f t) m)) (nI n, nI m, a, b, s', l, o)) :
    ∃ k, wY_bridges_8 post k 0 0 (nI n) (nI m) a b s l o := by
  have hm := K.2.2.1
  refine loop_0 (fun k i (w : Int32 × (Nat → Int32)) => wY_bridges_8 post k w.1 (nI i) (nI n) (nI m) a b w.2 l o) (fun i w => w.1 = nI (dm_c (gx_b m f t) i)) m (0, s) rfl ?_ ?_
  · intro k w hw
    refine br_t (nI_le (Nat.le_refl m) (by omega)) ?_
    rw [hw]; exact hp w.2
  · intro k i w hi hw hk
    have hc := ye_cnt (p := gx_b m f t) hw
    refine br_f (nI_ge hi (by omega)) (br_f (nI_ge (a := i) (b := 60) (by omega) (by decide)) (ye_reach K (fun s' hs' => ?_)))
    exact ye_lost K hl hs' (fun h => hk (w.1, s') (hc.1 h)) (fun h => hk (w.1 + 1, s') (hc.2 h))
theorem ye_height (K : gx_k n m f t a b) (hl : ye_k l (gx_L m f t)) (ho : ye_O m f t o) {post : Int32 → SY → Prop} (hp : post (nI (gx_h (gx_d n m f t) n)) (nI n, nI m, a, b, s, l, o)) :
    ∃ k, wY_height_8 post (nI n) (nI m) a b s l o k 0 0 := by
  have hn := K.2.1
  refine loop_0 (fun k i (y : Int32) => wY_height_8 post (nI n) (nI m) a b s l o k y (nI i)) (fun i y => y = nI (gx_h (gx_d n m f t) i)) n 0 rfl ?_ ?_
  · intro k y hy
    rw [hy]
    exact br_t (nI_le (Nat.le_refl n) (by omega)) hp
  · intro k i y hi hy hk
    have hle := gx_d_le (n := n) (m := m) (f := f) (t := t) i
    have hle2 := gx_h_le (d := gx_d n m f t) (N := n) (fun v => gx_d_le v) i
    have hst : gx_d n m f t i ≤ gx_h (gx_d n m f t) i → gx_h (gx_d n m f t) (i + 1) = gx_h (gx_d n m f t) i := fun z => if_pos z
    have hst2 : ¬ gx_d n m f t i ≤ gx_h (gx_d n m f t) i → gx_h (gx_d n m f t) (i + 1) = gx_d n m f t i := fun z => if_neg z
    refine br_f (nI_ge hi (by omega)) (br_f (nI_ge (a := i) (b := 24) (by omega) (by decide)) (ye_doms K ho (by omega) ?_))
    rw [hy]
    refine ye_lv hl (by omega) (fun h => nm_r (nI_1 i) (hk _ ?_)) (fun h => pk_le (gx_d n m f t i) (gx_h (gx_d n m f t) i) (fun z => nm_r (nI_1 i) (hk _ ?_)) (fun z => nm_r (nI_1 i) (hk _ ?_)))
    · rw [hst (by rw [gx_d_no h]; exact Nat.zero_le _)]
    · rw [hst z]
    · rw [hst2 (by omega)]
end
