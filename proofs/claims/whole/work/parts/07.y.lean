/-! the reference's methods -/
def gx_I (x : Bool) : Int32 := if x = true then 1 else 0
theorem gx_I_t {x : Bool} (h : x = true) : gx_I x = 1 := if_pos h
theorem gx_I_f {x : Bool} (h : x = false) : gx_I x = 0 := if_neg (by rw [h]; decide)
theorem gx_I_nar (x : Bool) : vp_nar .boolean (gx_I x) = gx_I x := by cases x <;> rfl
theorem gx_upd {s : Nat → Int32} {S : Nat → Bool} {j : Nat} {z : Int32} (hz : z = 1) (h : ∀ v, v < 24 → s v = gx_I (S v)) : ∀ v, v < 24 → upd s j z v = gx_I (S v || decide (v = j)) := by
  intro v hv
  by_cases e : v = j
  · rw [e, pk_us, gx_I_t (by simp)]; exact hz
  · rw [pk_un e, h v hv]; simp [e]
section
variable {n m : Nat} {f t : Nat → Nat} {a b s l o : Nat → Int32}
theorem ye_bad {post : Int32 → Prop} {e : Int32} {p : Int32} (h : p < 0 ∨ nI n ≤ p) (hp : post 1) : wpY_bad post (nI n, e, a, b, s, l, o) p := by
  by_cases z : p < 0
  · exact br_t z hp
  · exact br_f z (br_t (h.resolve_left z) hp)
theorem ye_ok {post : Int32 → Prop} {e : Int32} {j : Nat} (hj : j < n) (hn : n ≤ 24) (hp : post 0) : wpY_bad post (nI n, e, a, b, s, l, o) (nI j) :=
  br_f (nI_pos (by omega)) (br_f (nI_ge hj (by omega)) (br_t (nI_lt (a := j) (b := 24) (by omega) (by decide)) hp))
/-- an array of booleans is a set -/
def ye_k (s : Nat → Int32) (S : Nat → Bool) : Prop := ∀ v, v < 24 → s v = gx_I (S v)
theorem ye_in (K : gx_k n m f t a b) {post : SY → Prop} {J : Int32 → Int32 → (Nat → Int32) → (Nat → Int32) → (Nat → Int32) → (Nat → Int32) → (Nat → Int32) → Prop} {p q x4 : Int32} {S : Nat → Bool}
    (hx : ∀ (y : Int32) (s' : Nat → Int32), ye_k s' (rc_p f t (gx_v p) (gx_v q) S m) →
      (y = 0 ∧ (∀ x, rc_p f t (gx_v p) (gx_v q) S m x = S x) ∨ y = 1 ∧ ∃ x, rc_p f t (gx_v p) (gx_v q) S m x ≠ S x) → J y (x4 + 1) a b s' l o) (h0 : ye_k s S) :
    ∃ k, wY_reach_53 post J p q x4 (nI n) (nI m) k 0 0 a b s l o := by
  refine loop_0 (fun k i (w : Int32 × (Nat → Int32)) => wY_reach_53 post J p q x4 (nI n) (nI m) k w.1 (nI i) a b w.2 l o)
    (fun i w => ye_k w.2 (rc_p f t (gx_v p) (gx_v q) S i) ∧ (w.1 = 0 ∧ (∀ x, rc_p f t (gx_v p) (gx_v q) S i x = S x) ∨ w.1 = 1 ∧ ∃ x, rc_p f t (gx_v p) (gx_v q) S i x ≠ S x)) m (0, s) ⟨h0, Or.inl ⟨rfl, fun _ => rfl⟩⟩ ?_ ?_
  · intro k w hw
    exact br_t (nI_le (Nat.le_refl m) (by have := K.2.2.1; omega)) (nm_e (hx w.1 w.2 hw.1 hw.2))
  · intro k i w hi hw hk
    obtain ⟨y, s'⟩ := w
    have hm := K.2.2.1
    have hn := K.2.1
    obtain ⟨hf, ht, ea, eb⟩ := K.2.2.2 i hi
    have hin : vp_in (nI i) 60 := vp_in_nI (by omega) (by omega)
    have hc : (nI i).toNatClampNeg = i := nI_clamp (by omega)
    have hcf : (nI (f i)).toNatClampNeg = f i := nI_clamp (by omega)
    have hct : (nI (t i)).toNatClampNeg = t i := nI_clamp (by omega)
    have hnext : rc_s f t (gx_v p) (gx_v q) (rc_p f t (gx_v p) (gx_v q) S i) i = rc_p f t (gx_v p) (gx_v q) S i → ∀ z : Int32, z = nI i + 1 → wY_reach_53 post J p q x4 (nI n) (nI m) k y z a b s' l o := by
      intro e
      refine nm_r (nI_1 i) (hk (y, s') ?_)
      rw [show rc_p f t (gx_v p) (gx_v q) S (i + 1) = rc_p f t (gx_v p) (gx_v q) S i from e]
      exact hw
    refine br_f (nI_ge hi (by omega)) (br_f (nI_ge (a := i) (b := 60) (by omega) (by decide)) ⟨hin, ?_⟩)
    rw [hc, ea, eb]
    refine nm_e (br_c (fun h => hnext (rc_s_no ?_)) (fun h => ⟨hin, vp_in_nI (by omega) (by decide), ?_⟩))
    · rw [gx_v_f.mpr h]; rfl
    · rw [hcf, hw.1 (f i) (by omega)]
      cases hs : rc_p f t (gx_v p) (gx_v q) S i (f i) with
      | false =>
        refine br_t (gx_I_f rfl) (hnext (rc_s_no ?_))
        rw [hs, Bool.and_false]
      | true =>
        refine br_f (by decide) (br_c (fun h2 => hnext (rc_s_no ?_)) (fun h2 => ⟨vp_in_nI (by omega) (by decide), ?_⟩))
        · rw [gx_v_f.mpr h2, Bool.and_false]; rfl
        · rw [hct, hw.1 (t i) (by omega)]
          cases hs2 : rc_p f t (gx_v p) (gx_v q) S i (t i) with
          | true => exact br_f (by decide) (hnext (rc_s_in hs2))
          | false =>
            refine br_t (gx_I_f rfl) ⟨vp_in_nI (by omega) (by decide), nm_e (nm_r (nI_1 i) (hk (1, _) ⟨?_, Or.inr ⟨rfl, ?_⟩⟩))⟩
            · intro v hv
              show _ = gx_I (rc_s f t (gx_v p) (gx_v q) (rc_p f t (gx_v p) (gx_v q) S i) i v)
              rw [rc_s_yes (gx_v_t.mpr h) (gx_v_t.mpr h2) hs]
              exact gx_upd rfl hw.1 v hv
            · refine ⟨t i, ?_⟩
              show rc_s f t (gx_v p) (gx_v q) (rc_p f t (gx_v p) (gx_v q) S i) i (t i) ≠ S (t i)
              rw [rc_s_yes (gx_v_t.mpr h) (gx_v_t.mpr h2) hs, decide_eq_true rfl, Bool.or_true]
              intro z
              rw [rc_p_sub z.symm i] at hs2
              cases hs2
theorem ye_out (K : gx_k n m f t a b) {post : SY → Prop} {p q : Int32} (hp : ∀ s', ye_k s' (gx_R m f t p q) → post (nI n, nI m, a, b, s', l, o)) (h0 : ye_k s (rc_0 (gx_v p))) :
    ∃ k, wY_reach_37 post p q (nI n) (nI m) k 1 0 a b s l o := by
  have hn := K.2.1
  have hn2 := K.1
  refine loop_0 (fun k r (w : Int32 × (Nat → Int32)) => wY_reach_37 post p q (nI n) (nI m) k w.1 (nI r) a b w.2 l o)
    (fun r w => ye_k w.2 (rc_k m f t (gx_v p) (gx_v q) r) ∧ (w.1 = 0 ∧ (∀ x, rc_k m f t (gx_v p) (gx_v q) r x = gx_R m f t p q x) ∨ w.1 = 1 ∧ rc_G 24 m f t (gx_v p) (gx_v q) r)) 24 (1, s) ⟨h0, Or.inr ⟨rfl, rc_G_0 (by omega)⟩⟩ ?_ ?_
  · intro k w hw
    refine br_t (nI_le (a := 24) (b := 24) (Nat.le_refl _) (by decide)) (hp w.2 (fun v hv => ?_))
    rw [hw.1 v hv]
    cases hw.2 with
    | inl z => rw [z.2 v]
    | inr z => rw [rc_G_x z.2 (Nat.le_refl 24) v]; rfl
  · intro k r w hr hw hk
    obtain ⟨y, s'⟩ := w
    refine br_f (nI_ge (b := 24) hr (by decide)) ?_
    cases hw.2 with
    | inl z =>
      refine br_t z.1 (hp s' (fun v hv => ?_))
      rw [← z.2 v]; exact hw.1 v hv
    | inr z =>
      refine br_f (fun e => absurd (e.symm.trans z.1) (by decide)) (ye_in K (fun y2 s2 h2 h3 => ?_) hw.1)
      rw [nI_1 r]
      refine hk (y2, s2) ⟨h2, ?_⟩
      cases h3 with
      | inl h => exact Or.inl ⟨h.1, fun x => (h.2 x).trans (rc_k_fix h.2 x)⟩
      | inr h => exact Or.inr ⟨h.1, rc_G_s (by omega) (fun i hi => by have := (K.2.2.2 i hi).2.1; omega) z.2 h.2⟩
theorem ye_reach (K : gx_k n m f t a b) {post : SY → Prop} {p q : Int32} (hp : ∀ s', ye_k s' (gx_R m f t p q) → post (nI n, nI m, a, b, s', l, o)) :
    wpY_reach post (nI n, nI m, a, b, s, l, o) p q := by
  refine loop_0 (fun k i (s' : Nat → Int32) => wY_reach_2 post p q (nI n) (nI m) k (nI i) a b s' l o) (fun i s' => ∀ v, v < i → s' v = 0) 24 s (fun v hv => absurd hv (by omega)) ?_ ?_
  · intro k s' hs
    refine br_t (nI_le (a := 24) (b := 24) (Nat.le_refl _) (by decide)) (br_c (fun h => ye_out K hp ?_) (fun h => nm_e (ye_out K hp ?_)))
    · intro v hv
      rw [hs v hv]
      show _ = gx_I (gx_v p 0 && decide (v = 0))
      rw [gx_v_f.mpr (show nI 0 = p by rw [h]; rfl)]; rfl
    · intro v hv
      show _ = gx_I (gx_v p 0 && decide (v = 0))
      rw [gx_v_t.mpr (show ¬ nI 0 = p from fun e => h (e.symm.trans rfl))]
      by_cases e : v = 0
      · rw [e, pk_us]; rfl
      · rw [pk_un e, hs v hv]; simp [e]; rfl
  · intro k i s' hi hs hk
    refine br_f (nI_ge (b := 24) hi (by decide)) ⟨vp_in_nI hi (by decide), nm_e (nm_r (nI_1 i) (hk _ ?_))⟩
    intro v hv
    rw [nI_clamp (by omega)]
    by_cases e : v = i
    · rw [e, pk_us]; rfl
    · rw [pk_un e]; exact hs v (by omega)
/-- over, up to the cell that stands at u, v -/
def ye_o (m : Nat) (f t : Nat → Nat) (o : Nat → Int32) (c : Nat) : Prop := ∀ u v, u < 24 → v < 24 → 24 * u + v < c → o (24 * u + v) = gx_I (gx_O m f t u v)
theorem ye_tab_in (K : gx_k n m f t a b) {post : SY → Prop} {J : Int32 → Int32 → Int32 → (Nat → Int32) → (Nat → Int32) → (Nat → Int32) → (Nat → Int32) → (Nat → Int32) → Prop} {u : Nat} (hu : u < 24)
    (hl : ye_k l (gx_L m f t)) (hs : ye_k s (gx_R m f t (nI u) (-1))) (ho : ye_o m f t o (24 * u))
    (hx : ∀ o', ye_o m f t o' (24 * (u + 1)) → J (nI u + 1) (nI n) (nI m) a b s l o') :
    ∃ k, wY_tabulate_48 post J (nI u) (nI n) (nI m) k 0 a b s l o := by
  refine loop_0 (fun k i (o' : Nat → Int32) => wY_tabulate_48 post J (nI u) (nI n) (nI m) k (nI i) a b s l o') (fun i o' => ye_o m f t o' (24 * u + i)) 24 o ho ?_ ?_
  · intro k o' h
    exact br_t (nI_le (a := 24) (b := 24) (Nat.le_refl _) (by decide)) (nm_e (hx o' h))
  · intro k i o' hi h hk
    have e1 : (24 : Int32) * nI u + nI i = nI (24 * u + i) := by
      rw [show (24 : Int32) = nI 24 from rfl, pk_mul, nI_add]
    have hin : vp_in (24 * nI u + nI i) 576 := by rw [e1]; exact vp_in_nI (by omega) (by decide)
    have hc : (24 * nI u + nI i).toNatClampNeg = 24 * u + i := by rw [e1]; exact nI_clamp (by omega)
    have hput : ∀ z : Int32, z = gx_I (gx_O m f t u i) → ye_o m f t (upd o' (24 * nI u + nI i).toNatClampNeg z) (24 * u + (i + 1)) := by
      intro z hz u' v' hu' hv' hlt
      rw [hc]
      by_cases e : 24 * u' + v' = 24 * u + i
      · have e2 : u' = u := by omega
        have e3 : v' = i := by omega
        rw [e, pk_us, hz, e2, e3]
      · rw [pk_un e]; exact h u' v' hu' hv' (by omega)
    refine br_f (nI_ge (b := 24) hi (by decide)) ⟨vp_in_nI hi (by decide), ?_⟩
    rw [nI_clamp (by omega), hl i hi]
    cases e : gx_L m f t i with
    | false =>
      refine br_t (gx_I_f rfl) ⟨hin, nm_e (nm_r (nI_1 i) (hk _ (hput _ ?_)))⟩
      rw [gx_I_f (gx_O_no e)]; rfl
    | true =>
      refine br_f (by decide) ⟨vp_in_nI hi (by decide), ?_⟩
      rw [hs i hi]
      cases e2 : gx_R m f t (nI u) (-1) i with
      | false =>
        refine br_t (gx_I_f rfl) ⟨hin, nm_e (nm_r (nI_1 i) (hk _ (hput _ ?_)))⟩
        rw [gx_I_t (by unfold gx_O; rw [e, e2]; rfl)]; rfl
      | true =>
        refine br_f (by decide) ⟨hin, nm_e (nm_r (nI_1 i) (hk _ (hput _ ?_)))⟩
        rw [gx_I_f (by unfold gx_O; rw [e, e2]; rfl)]; rfl
theorem ye_tab (K : gx_k n m f t a b) {post : SY → Prop} (hp : ∀ s' l' o', ye_k l' (gx_L m f t) → (∀ u v, u < 24 → v < 24 → o' (24 * u + v) = gx_I (gx_O m f t u v)) → post (nI n, nI m, a, b, s', l', o')) :
    wpY_tabulate post (nI n, nI m, a, b, s, l, o) := by
  unfold wpY_tabulate
  refine ye_reach K (fun s1 hs1 => ?_)
  dsimp only
  refine loop_0 (fun k i (l' : Nat → Int32) => wY_tabulate_8 post (nI n) (nI m) k (nI i) a b s1 l' o) (fun i l' => ∀ v, v < i → l' v = gx_I (gx_L m f t v)) 24 l (fun v hv => absurd hv (by omega)) ?_ ?_
  · intro k l' hl
    refine br_t (nI_le (a := 24) (b := 24) (Nat.le_refl _) (by decide)) ?_
    refine loop_0 (fun k u (w : (Nat → Int32) × (Nat → Int32)) => wY_tabulate_34 post k (nI u) (nI n) (nI m) a b w.1 l' w.2) (fun u w => ye_o m f t w.2 (24 * u)) 24 (s1, o) (fun u v _ _ h => absurd h (by omega)) ?_ ?_
    · intro k w hw
      exact br_t (nI_le (a := 24) (b := 24) (Nat.le_refl _) (by decide)) (hp _ _ _ hl (fun u v hu hv => hw u v hu hv (by omega)))
    · intro k u w hu hw hk
      refine br_f (nI_ge (b := 24) hu (by decide)) (ye_reach K (fun s2 hs2 => ?_))
      dsimp only
      refine ye_tab_in K hu hl hs2 hw (fun o' ho' => ?_)
      rw [nI_1 u]
      exact hk (s2, o') ho'
  · intro k i l' hi hl hk
    refine br_f (nI_ge (b := 24) hi (by decide)) ⟨vp_in_nI hi (by decide), vp_in_nI hi (by decide), nm_e (nm_r (nI_1 i) (hk _ ?_))⟩
    intro v hv
    rw [nI_clamp (by omega)]
    by_cases e : v = i
    · rw [e, pk_us, hs1 i hi, gx_I_nar]; rfl
    · rw [pk_un e]; exact hl v (by omega)
end
