/-! the component's methods over its masks -/
theorem xe_size {post : Int32 → Prop} {x : Int32} (hp : post (nI (dm_c (bt x) 24))) : wpX_sizeOf post x := by
  refine loop_0 (fun k i (y : Int32) => wX_sizeOf_4 post x k y (nI i)) (fun i y => y = nI (dm_c (bt x) i)) 24 0 rfl ?_ ?_
  · intro k y hy
    rw [hy]
    exact br_t (nI_le (a := 24) (b := 24) (Nat.le_refl _) (by decide)) hp
  · intro k i y hi hy hk
    refine br_f (nI_ge (b := 24) hi (by decide)) ?_
    cases e : bt x i with
    | true =>
      refine xe_con_t (by omega) e (br_f (by decide) (nm_e (nm_r (nI_1 i) (hk _ ?_))))
      show y + 1 = nI (dm_c (bt x) i + (if bt x i = true then 1 else 0))
      rw [e, hy]; exact nI_1 _
    | false =>
      refine xe_con_f (by omega) e (br_t rfl (nm_r (nI_1 i) (hk _ ?_)))
      show y = nI (dm_c (bt x) i + (if bt x i = true then 1 else 0))
      rw [e, hy]; rfl
theorem xe_c_congr {p q : Nat → Bool} (k : Nat) (h : ∀ i, i < k → p i = q i) : dm_c p k = dm_c q k :=
  dm_c_congr k (fun i hi => by rw [h i hi])
theorem xe_c_ext {p q : Nat → Bool} {n : Nat} (h : ∀ i, i < n → p i = q i) : ∀ d, (∀ i, n ≤ i → i < n + d → p i = false) → dm_c p (n + d) = dm_c q n := by
  intro d
  induction d with
  | zero => exact fun _ => xe_c_congr n h
  | succ d ih =>
    intro h2
    show dm_c p (n + d) + (if p (n + d) = true then 1 else 0) = _
    rw [ih (fun i h3 h4 => h2 i h3 (by omega)), h2 (n + d) (by omega) (by omega)]; rfl
section
variable {n m : Nat} {f t : Nat → Nat} {a b : Nat → Int32}
theorem xe_isr_t (K : gx_k n m f t a b) {post : Int32 → Prop} {v : Nat} (hv : v < n) (h : gx_L m f t v = true) (hp : post 1) : wpX_isReached post (nI n, nI m, a, b) (nI v) := by
  have hn := K.2.1
  unfold wpX_isReached
  refine xe_reach K (fun r hr => xe_con_t (by omega) ?_ ⟨rfl, hp⟩)
  rw [hr v (by omega)]; exact h
theorem xe_isr_f (K : gx_k n m f t a b) {post : Int32 → Prop} {v : Nat} (hv : v < n) (h : gx_L m f t v = false) (hp : post 0) : wpX_isReached post (nI n, nI m, a, b) (nI v) := by
  have hn := K.2.1
  unfold wpX_isReached
  refine xe_reach K (fun r hr => xe_con_f (by omega) ?_ ⟨rfl, hp⟩)
  rw [hr v (by omega)]; exact h
theorem xe_domby (K : gx_k n m f t a b) {post : Int32 → Prop} {u : Nat} (hp : ∀ r, xe_k r (gx_O m f t u) → post r) : wpX_dominatedBy post (nI n, nI m, a, b) (nI u) := by
  unfold wpX_dominatedBy
  refine xe_reach K (fun r hr => xe_reach K (fun r' hr' => hp _ (fun v hv => ?_)))
  rw [gb_not _ _ v hv, hr v hv, hr' v hv]; rfl
/-- the dominators of v as a set -/
noncomputable def gx_D (n m : Nat) (f t : Nat → Nat) (v : Nat) : Nat → Bool := fun u => decide (u < n) && gx_O m f t u v
theorem xe_domof (K : gx_k n m f t a b) {post : Int32 → Prop} {v : Nat} (hv : v < n) (hp : ∀ r, xe_k r (gx_D n m f t v) → post r) : wpX_dominatorsOf post (nI n, nI m, a, b) (nI v) := by
  have hn := K.2.1
  unfold wpX_dominatorsOf
  refine xe_reach K (fun r hr => ?_)
  refine loop_0 (fun k i (y : Int32) => wX_dominatorsOf_12 post (nI v) r (nI n) (nI m) a b k y (nI i)) (fun i y => xe_k y (fun u => decide (u < i) && gx_O m f t u v)) n 0 ?_ ?_ ?_
  · intro u hu
    rw [b_0]; show false = (decide (u < 0) && _); rw [decide_eq_false (by omega)]; rfl
  · intro k y hy
    exact br_t (nI_le (Nat.le_refl n) (by omega)) (hp y hy)
  · intro k i y hi hy hk
    refine br_f (nI_ge hi (by omega)) (xe_reach K (fun r' hr' => nm_e ?_))
    have e : bt (r &&& (r' ^^^ (-1))) v = gx_O m f t i v := by
      rw [gb_not _ _ v (by omega), hr v (by omega), hr' v (by omega)]; rfl
    cases h : gx_O m f t i v with
    | true =>
      refine xe_con_t (by omega) (e.trans h) (br_f (by decide) (nm_e (nm_r (nI_1 i) (hk _ ?_))))
      intro u hu
      rw [gb_set y i (by omega) u hu, hy u hu]
      show (decide (u < i) && gx_O m f t u v || decide (u = i)) = (decide (u < i + 1) && gx_O m f t u v)
      by_cases z : u = i
      · rw [z, h]; simp
      · by_cases z2 : u < i
        · simp [z, z2, Nat.lt_succ_of_lt z2]
        · have z3 : ¬ u < i + 1 := by omega
          simp [z, z2, z3]
    | false =>
      refine xe_con_f (by omega) (e.trans h) (br_t rfl (nm_r (nI_1 i) (hk _ ?_)))
      intro u hu
      rw [hy u hu]
      show (decide (u < i) && gx_O m f t u v) = (decide (u < i + 1) && gx_O m f t u v)
      by_cases z : u = i
      · rw [z, h]; simp
      · by_cases z2 : u < i
        · simp [z2, Nat.lt_succ_of_lt z2]
        · have z3 : ¬ u < i + 1 := by omega
          simp [z2, z3]
theorem xe_depth (K : gx_k n m f t a b) {post : Int32 → Prop} {v : Nat} (hv : v < n) (hp : post (nI (gx_d n m f t v))) : wpX_depthOf post (nI n, nI m, a, b) (nI v) := by
  have hn := K.2.1
  unfold wpX_depthOf
  refine xe_domof K hv (fun r hr => xe_size ?_)
  have e : dm_c (bt r) 24 = gx_d n m f t v := by
    have h := xe_c_ext (p := bt r) (q := fun u => gx_O m f t u v) (n := n) (fun i hi => by
      rw [hr i (by omega)]; show (decide (i < n) && _) = _; rw [decide_eq_true hi]; rfl) (24 - n) (fun i h1 h2 => by
      rw [hr i (by omega)]; show (decide (i < n) && _) = _; rw [decide_eq_false (by omega)]; rfl)
    rw [show n + (24 - n) = 24 by omega] at h
    exact h
  rw [e]; exact hp
theorem xe_size_R (K : gx_k n m f t a b) {post : Int32 → Prop} {r : Int32} {S : Nat → Bool} (hr : xe_k r S) (hS : ∀ v, S v = true → gx_L m f t v = true) (hp : post (nI (dm_c S n))) : wpX_sizeOf post r := by
  have hn := K.2.1
  refine xe_size ?_
  have h := xe_c_ext (p := bt r) (q := S) (n := n) (fun i hi => hr i (by omega)) (24 - n) (fun i h1 h2 => by
    rw [hr i (by omega)]
    cases e : S i with
    | false => rfl
    | true => exact absurd (gx_L_lt K (hS i e)) (by omega))
  rw [show n + (24 - n) = 24 by omega] at h
  rw [h]; exact hp
theorem xe_last (K : gx_k n m f t a b) {post : Int32 → Prop} {x : Int32} {P : Nat → Bool} (hx : ∀ v, v < n → bt x v = P v) (hp : post (gx_p P (gx_d n m f t) 0 n).1) : wpX_lastOf post (nI n, nI m, a, b) x := by
  have hn := K.2.1
  refine loop_0 (fun k i (s : Int32 × Int32) => wX_lastOf_7 post x (nI n) (nI m) a b k s.1 s.2 (nI i)) (fun i s => s = ((gx_p P (gx_d n m f t) 0 i).1, nI (gx_p P (gx_d n m f t) 0 i).2)) n (0, 0) rfl ?_ ?_
  · intro k s hs
    rw [hs]
    exact br_t (nI_le (Nat.le_refl n) (by omega)) hp
  · intro k i s hi hs hk
    rw [hs]
    have hle := gx_p_le (n := n) (m := m) (f := f) (t := t) P 0 i
    have hle2 := gx_d_le (n := n) (m := m) (f := f) (t := t) i
    refine br_f (nI_ge hi (by omega)) ?_
    cases h : P i with
    | true =>
      refine xe_con_t (by omega) ((hx i hi).trans h) (br_f (by decide) (xe_depth K hi ?_))
      refine pk_le (gx_d n m f t i) (gx_p P (gx_d n m f t) 0 i).2 (fun z => nm_r (nI_1 i) (hk (_, _) ?_)) (fun z => nm_r (nI_1 i) (hk (_, _) ?_))
      · show _ = ((gx_p P (gx_d n m f t) 0 (i + 1)).1, nI (gx_p P (gx_d n m f t) 0 (i + 1)).2)
        rw [gx_p_n2 z]
      · show _ = ((gx_p P (gx_d n m f t) 0 (i + 1)).1, nI (gx_p P (gx_d n m f t) 0 (i + 1)).2)
        rw [gx_p_y h z]; rfl
    | false =>
      refine xe_con_f (by omega) ((hx i hi).trans h) (br_t rfl ?_)
      refine br_t (nI_le (a := 0) (Nat.zero_le _) (by omega)) (nm_r (nI_1 i) (hk (_, _) ?_))
      show _ = ((gx_p P (gx_d n m f t) 0 (i + 1)).1, nI (gx_p P (gx_d n m f t) 0 (i + 1)).2)
      rw [gx_p_n1 h]
theorem xe_childs (K : gx_k n m f t a b) {post : Int32 → Prop} {x : Int32} {u : Nat} (hx : xe_k x (gx_O m f t u)) (hp : post (nI (dm_c (gx_c n m f t u) n))) :
    ∃ k, wX_children_41 post x (nI (gx_d n m f t u + 1)) (nI n) (nI m) a b k 0 0 := by
  have hn := K.2.1
  refine loop_0 (fun k i (y : Int32) => wX_children_41 post x (nI (gx_d n m f t u + 1)) (nI n) (nI m) a b k y (nI i)) (fun i y => y = nI (dm_c (gx_c n m f t u) i)) n 0 rfl ?_ ?_
  · intro k y hy
    rw [hy]
    exact br_t (nI_le (Nat.le_refl n) (by omega)) hp
  · intro k i y hi hy hk
    have hle := gx_d_le (n := n) (m := m) (f := f) (t := t) i
    have hle2 := gx_d_le (n := n) (m := m) (f := f) (t := t) u
    have hy0 : gx_c n m f t u i = false → y = nI (dm_c (gx_c n m f t u) (i + 1)) := fun e => by
      show y = nI (dm_c (gx_c n m f t u) i + (if gx_c n m f t u i = true then 1 else 0))
      rw [e, hy]; rfl
    have hy1 : gx_c n m f t u i = true → y + 1 = nI (dm_c (gx_c n m f t u) (i + 1)) := fun e => by
      show y + 1 = nI (dm_c (gx_c n m f t u) i + (if gx_c n m f t u i = true then 1 else 0))
      rw [e, hy]; exact nI_1 _
    refine br_f (nI_ge hi (by omega)) ?_
    cases h : gx_O m f t u i with
    | true =>
      refine xe_con_t (by omega) ((hx i (by omega)).trans h) (br_f (by decide) (xe_depth K hi ?_))
      refine pk_eq (gx_d n m f t i) (gx_d n m f t u + 1) (fun z => nm_e (nm_r (nI_1 i) (hk _ (hy1 ?_)))) (fun z => nm_r (nI_1 i) (hk _ (hy0 ?_)))
      · unfold gx_c; rw [h, z]; simp
      · unfold gx_c; rw [h]; simp [z]
    | false =>
      refine xe_con_f (by omega) ((hx i (by omega)).trans h) (br_t rfl (nm_r (nI_1 i) (hk _ (hy0 ?_))))
      unfold gx_c; rw [h]; rfl
/-- an edge into v from below u -/
noncomputable def gx_e (m : Nat) (f t : Nat → Nat) (u v : Nat) : Prop := ∃ i, i < m ∧ t i = v ∧ gx_O m f t u (f i) = true
theorem xe_bord (K : gx_k n m f t a b) {post : Int32 → Prop} {x : Int32} {u v : Nat} (hv : v < n) (hx : xe_k x (gx_O m f t u)) (h1 : gx_e m f t u v → post 1) (h0 : ¬ gx_e m f t u v → post 0) :
    ∃ k, wX_border_61 post (nI v) x (nI n) (nI m) a b k 0 := by
  have hn := K.2.1
  have hm := K.2.2.1
  refine loop_0 (fun k i (_ : Unit) => wX_border_61 post (nI v) x (nI n) (nI m) a b k (nI i)) (fun i _ => ∀ j, j < i → ¬ (t j = v ∧ gx_O m f t u (f j) = true)) m () (fun j hj => absurd hj (by omega)) ?_ ?_
  · intro k s hs
    exact br_t (nI_le (Nat.le_refl m) (by omega)) (h0 (fun ⟨j, z, z2⟩ => hs j z z2))
  · intro k i s hi hs hk
    obtain ⟨hf, ht, ea, eb⟩ := K.2.2.2 i hi
    have hin : vp_in (nI i) 60 := vp_in_nI (by omega) (by omega)
    have hc : (nI i).toNatClampNeg = i := nI_clamp (by omega)
    refine br_f (nI_ge hi (by omega)) ⟨hin, ?_⟩
    rw [hc, ea, eb]
    refine pk_eq (t i) v (fun z => ⟨hin, ?_⟩) (fun z => nm_r (nI_1 i) (hk () (lt_s hs (fun y => z y.1))))
    cases h : gx_O m f t u (f i) with
    | true => exact xe_con_t (by omega) ((hx _ (by omega)).trans h) (br_f (by decide) (h1 ⟨i, hi, z, h⟩))
    | false => exact xe_con_f (by omega) ((hx _ (by omega)).trans h) (br_t rfl (nm_r (nI_1 i) (hk () (lt_s hs (fun y => by rw [h] at y; cases y.2)))))
theorem xe_bridges (K : gx_k n m f t a b) {post : Int32 → Prop} (hp : post (nI (dm_c (gx_b m f t) m))) : wpX_bridges post (nI n, nI m, a, b) := by
  have hn := K.2.1
  have hm := K.2.2.1
  unfold wpX_bridges
  refine xe_reach K (fun r hr => ?_)
  refine loop_0 (fun k i (y : Int32) => wX_bridges_11 post r (nI n) (nI m) a b k y (nI i)) (fun i y => y = nI (dm_c (gx_b m f t) i)) m 0 rfl ?_ ?_
  · intro k y hy
    rw [hy]
    exact br_t (nI_le (Nat.le_refl m) (by omega)) hp
  · intro k i y hi hy hk
    refine br_f (nI_ge hi (by omega)) (xe_reach K (fun r' hr' => br_c (fun e => nm_r (nI_1 i) (hk _ ?_)) (fun e => nm_e (nm_r (nI_1 i) (hk _ ?_)))))
    · have hb : gx_b m f t i = false := dm_b_f.mpr (fun ⟨v, z1, z2⟩ => by
        have hv := gx_L_lt K z1
        have z3 : gx_R m f t (-1) (-1) v = gx_R m f t (-1) (nI i) v := (hr v (by omega)).symm.trans ((congrArg (fun x => bt x v) e.symm).trans (hr' v (by omega)))
        rw [z2] at z3
        rw [show gx_R m f t (-1) (-1) v = true from z1] at z3
        cases z3)
      show y = nI (dm_c (gx_b m f t) i + (if gx_b m f t i = true then 1 else 0))
      rw [hb, hy]; rfl
    · have hb : gx_b m f t i = true := dm_b_t.mpr (by
        apply Classical.byContradiction
        intro no
        apply e
        refine b_ext (fun v hv => ?_)
        rw [hr v hv, hr' v hv]
        apply Bool.eq_iff_iff.mpr
        constructor
        · exact gx_R_L K
        · intro z
          cases h : gx_R m f t (-1) (nI i) v with
          | true => rfl
          | false => exact absurd ⟨v, z, h⟩ no)
      show y + 1 = nI (dm_c (gx_b m f t) i + (if gx_b m f t i = true then 1 else 0))
      rw [hb, hy]; exact nI_1 _
theorem xe_height (K : gx_k n m f t a b) {post : Int32 → Prop} (hp : post (nI (gx_h (gx_d n m f t) n))) : wpX_height post (nI n, nI m, a, b) := by
  have hn := K.2.1
  refine loop_0 (fun k i (y : Int32) => wX_height_4 post (nI n) (nI m) a b k y (nI i)) (fun i y => y = nI (gx_h (gx_d n m f t) i)) n 0 rfl ?_ ?_
  · intro k y hy
    rw [hy]
    exact br_t (nI_le (Nat.le_refl n) (by omega)) hp
  · intro k i y hi hy hk
    have hle := gx_d_le (n := n) (m := m) (f := f) (t := t) i
    have hle2 := gx_h_le (d := gx_d n m f t) (N := n) (fun v => gx_d_le v) i
    refine br_f (nI_ge hi (by omega)) (xe_depth K hi ?_)
    rw [hy]
    refine pk_le (gx_d n m f t i) (gx_h (gx_d n m f t) i) (fun z => nm_r (nI_1 i) (hk _ ?_)) (fun z => nm_r (nI_1 i) (hk _ ?_))
    · show _ = nI (if gx_d n m f t i ≤ gx_h (gx_d n m f t) i then gx_h (gx_d n m f t) i else gx_d n m f t i)
      rw [if_pos z]
    · show _ = nI (if gx_d n m f t i ≤ gx_h (gx_d n m f t) i then gx_h (gx_d n m f t) i else gx_d n m f t i)
      rw [if_neg (by omega)]
end
