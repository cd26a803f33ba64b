/-! the questions -/
theorem i_vc_reachable {k : Nat} {u : SX} {v : SY} (I : i_Rel k u v) (hk : k + 3 ≤ 1537) (v1 : Int32) : wpX_reachable (fun r => wpY_reachable (fun r' v' => r' = r ∧ i_Rel (k + 3) u v') v v1) u v1 := by
  obtain ⟨n, m, f, t, a, b, s, l, o, K, rfl, rfl⟩ := I
  have hn := K.2.1
  unfold wpX_reachable wpY_reachable
  dsimp only
  rcases gx_ix (n := n) (by omega) v1 with h | ⟨j, hj, rfl⟩
  · exact xe_bad h (br_t rfl (ye_bad h (br_f (by decide) ⟨rfl, gx_rel K _⟩)))
  · refine xe_ok hj hn (br_f (by decide) ?_)
    cases hL : gx_L m f t j with
    | true =>
      refine xe_isr_t K hj hL (br_f (by decide) (ye_ok hj hn (br_t rfl (ye_tab K (fun s' l' o' hl ho => ?_)))))
      exact ye_lv hl (by omega) (fun h => by rw [hL] at h; cases h) (fun _ => ⟨rfl, gx_rel K _⟩)
    | false =>
      refine xe_isr_f K hj hL (br_t rfl (ye_ok hj hn (br_t rfl (ye_tab K (fun s' l' o' hl ho => ?_)))))
      exact ye_lv hl (by omega) (fun _ => ⟨rfl, gx_rel K _⟩) (fun h => by rw [hL] at h; cases h)
theorem i_vc_reachableCount {k : Nat} {u : SX} {v : SY} (I : i_Rel k u v) (hk : k + 3 ≤ 1537) : wpX_reachableCount (fun r => wpY_reachableCount (fun r' v' => r' = r ∧ i_Rel (k + 3) u v') v) u := by
  obtain ⟨n, m, f, t, a, b, s, l, o, K, rfl, rfl⟩ := I
  unfold wpX_reachableCount wpY_reachableCount
  dsimp only
  refine xe_reach K (fun r hr => xe_size_R K hr (fun v h => h) (ye_tab K (fun s' l' o' hl ho => ?_)))
  exact ye_rcount K hl ⟨rfl, gx_rel K _⟩
theorem i_vc_immediate {k : Nat} {u : SX} {v : SY} (I : i_Rel k u v) (hk : k + 3 ≤ 1537) (v1 : Int32) : wpX_immediate (fun r => wpY_immediate (fun r' v' => r' = r ∧ i_Rel (k + 3) u v') v v1) u v1 := by
  obtain ⟨n, m, f, t, a, b, s, l, o, K, rfl, rfl⟩ := I
  have hn := K.2.1
  unfold wpX_immediate wpY_immediate
  dsimp only
  rcases gx_ix (n := n) (by omega) v1 with h | ⟨j, hj, rfl⟩
  · exact xe_bad h (br_t rfl (ye_bad h (br_f (by decide) ⟨rfl, gx_rel K _⟩)))
  · refine xe_ok hj hn (br_f (by decide) ?_)
    cases hL : gx_L m f t j with
    | true =>
      refine xe_isr_t K hj hL (br_f (by decide) ?_)
      by_cases e : j = 0
      · have e0 : nI j = 0 := by rw [e]; rfl
        refine br_t e0 (ye_ok hj hn (br_t rfl (ye_tab K (fun s' l' o' hl ho => ?_))))
        exact ye_lv hl (by omega) (fun h => by rw [hL] at h; cases h) (fun _ => br_t e0 ⟨rfl, gx_rel K _⟩)
      · have e0 : ¬ nI j = 0 := nI_ne0 (by omega) (by omega)
        refine br_f e0 (xe_domof K hj (fun r hr => nm_e (xe_last K (P := gx_o m f t j) (fun w hw => ?_) ?_)))
        · rw [gb_not _ _ w (by omega), hr w (by omega), gb_one w (by omega) j (by omega)]
          unfold gx_D gx_o
          rw [decide_eq_true hw]
          by_cases z : w = j
          · simp [z]
          · simp [z]
        · refine ye_ok hj hn (br_t rfl (ye_tab K (fun s' l' o' hl ho => ?_)))
          exact ye_lv hl (by omega) (fun h => by rw [hL] at h; cases h) (fun _ => br_f e0 (ye_above K ho (by omega) ⟨gx_idom2 K e hL (-1) 0, gx_rel K _⟩))
    | false =>
      refine xe_isr_f K hj hL (br_t rfl (ye_ok hj hn (br_t rfl (ye_tab K (fun s' l' o' hl ho => ?_)))))
      exact ye_lv hl (by omega) (fun _ => ⟨rfl, gx_rel K _⟩) (fun h => by rw [hL] at h; cases h)
theorem i_vc_dominates {k : Nat} {u : SX} {v : SY} (I : i_Rel k u v) (hk : k + 3 ≤ 1537) (v1 : Int32) (v2 : Int32) : wpX_dominates (fun r => wpY_dominates (fun r' v' => r' = r ∧ i_Rel (k + 3) u v') v v1 v2) u v1 v2 := by
  obtain ⟨n, m, f, t, a, b, s, l, o, K, rfl, rfl⟩ := I
  have hn := K.2.1
  unfold wpX_dominates wpY_dominates
  dsimp only
  rcases gx_ix (n := n) (by omega) v1 with h | ⟨j1, hj1, rfl⟩
  · exact xe_bad h (br_t rfl (ye_bad h (br_f (by decide) ⟨rfl, gx_rel K _⟩)))
  · refine xe_ok hj1 hn (br_f (by decide) ?_)
    rcases gx_ix (n := n) (by omega) v2 with h | ⟨j2, hj2, rfl⟩
    · exact xe_bad h (br_t rfl (ye_ok hj1 hn (br_t rfl (ye_bad h (br_f (by decide) ⟨rfl, gx_rel K _⟩)))))
    · refine xe_ok hj2 hn (br_f (by decide) ?_)
      cases hL : gx_L m f t j2 with
      | false =>
        refine xe_isr_f K hj2 hL (br_t rfl (ye_ok hj1 hn (br_t rfl (ye_ok hj2 hn (br_t rfl (ye_tab K (fun s' l' o' hl ho => ?_)))))))
        exact ye_lv hl (by omega) (fun _ => ⟨rfl, gx_rel K _⟩) (fun h => by rw [hL] at h; cases h)
      | true =>
        refine xe_isr_t K hj2 hL (br_f (by decide) (xe_domby K (fun r hr => ?_)))
        cases hO : gx_O m f t j1 j2 with
        | true =>
          refine xe_con_t (by omega) ((hr j2 (by omega)).trans hO) (br_f (by decide) (ye_ok hj1 hn (br_t rfl (ye_ok hj2 hn (br_t rfl (ye_tab K (fun s' l' o' hl ho => ?_)))))))
          exact ye_lv hl (by omega) (fun h => by rw [hL] at h; cases h) (fun _ => ye_br ho (by omega) (by omega) (fun h => by rw [hO] at h; cases h) (fun _ => ⟨rfl, gx_rel K _⟩))
        | false =>
          refine xe_con_f (by omega) ((hr j2 (by omega)).trans hO) (br_t rfl (ye_ok hj1 hn (br_t rfl (ye_ok hj2 hn (br_t rfl (ye_tab K (fun s' l' o' hl ho => ?_)))))))
          exact ye_lv hl (by omega) (fun h => by rw [hL] at h; cases h) (fun _ => ye_br ho (by omega) (by omega) (fun _ => ⟨rfl, gx_rel K _⟩) (fun h => by rw [hO] at h; cases h))
theorem i_vc_common {k : Nat} {u : SX} {v : SY} (I : i_Rel k u v) (hk : k + 3 ≤ 1537) (v1 : Int32) : wpX_common (fun r => wpY_common (fun r' v' => r' = r ∧ i_Rel (k + 3) u v') v v1) u v1 := by
  obtain ⟨n, m, f, t, a, b, s, l, o, K, rfl, rfl⟩ := I
  have hn := K.2.1
  unfold wpX_common wpY_common
  dsimp only
  rcases gx_ix (n := n) (by omega) v1 with h | ⟨j, hj, rfl⟩
  · exact xe_bad h (br_t rfl (ye_bad h (br_f (by decide) ⟨rfl, gx_rel K _⟩)))
  · refine xe_ok hj hn (br_f (by decide) ?_)
    cases hL : gx_L m f t j with
    | true =>
      refine xe_isr_t K hj hL (br_f (by decide) (xe_depth K hj (ye_ok hj hn (br_t rfl (ye_tab K (fun s' l' o' hl ho => ?_))))))
      exact ye_lv hl (by omega) (fun h => by rw [hL] at h; cases h) (fun _ => ye_doms K ho (by omega) ⟨rfl, gx_rel K _⟩)
    | false =>
      refine xe_isr_f K hj hL (br_t rfl (ye_ok hj hn (br_t rfl (ye_tab K (fun s' l' o' hl ho => ?_)))))
      exact ye_lv hl (by omega) (fun _ => ⟨rfl, gx_rel K _⟩) (fun h => by rw [hL] at h; cases h)
theorem i_vc_nearest {k : Nat} {u : SX} {v : SY} (I : i_Rel k u v) (hk : k + 3 ≤ 1537) (v1 : Int32) (v2 : Int32) : wpX_nearest (fun r => wpY_nearest (fun r' v' => r' = r ∧ i_Rel (k + 3) u v') v v1 v2) u v1 v2 := by
  obtain ⟨n, m, f, t, a, b, s, l, o, K, rfl, rfl⟩ := I
  have hn := K.2.1
  unfold wpX_nearest wpY_nearest
  dsimp only
  rcases gx_ix (n := n) (by omega) v1 with h | ⟨j1, hj1, rfl⟩
  · exact xe_bad h (br_t rfl (ye_bad h (br_f (by decide) ⟨rfl, gx_rel K _⟩)))
  · refine xe_ok hj1 hn (br_f (by decide) ?_)
    rcases gx_ix (n := n) (by omega) v2 with h | ⟨j2, hj2, rfl⟩
    · exact xe_bad h (br_t rfl (ye_ok hj1 hn (br_t rfl (ye_bad h (br_f (by decide) ⟨rfl, gx_rel K _⟩)))))
    · refine xe_ok hj2 hn (br_f (by decide) ?_)
      cases hL1 : gx_L m f t j1 with
      | false =>
        refine xe_isr_f K hj1 hL1 (br_t rfl (ye_ok hj1 hn (br_t rfl (ye_ok hj2 hn (br_t rfl (ye_tab K (fun s' l' o' hl ho => ?_)))))))
        exact ye_lv hl (by omega) (fun _ => ⟨rfl, gx_rel K _⟩) (fun h => by rw [hL1] at h; cases h)
      | true =>
        refine xe_isr_t K hj1 hL1 (br_f (by decide) ?_)
        cases hL2 : gx_L m f t j2 with
        | false =>
          refine xe_isr_f K hj2 hL2 (br_t rfl (ye_ok hj1 hn (br_t rfl (ye_ok hj2 hn (br_t rfl (ye_tab K (fun s' l' o' hl ho => ?_)))))))
          exact ye_lv hl (by omega) (fun h => by rw [hL1] at h; cases h) (fun _ => ye_lv hl (by omega) (fun _ => ⟨rfl, gx_rel K _⟩) (fun h => by rw [hL2] at h; cases h))
        | true =>
          refine xe_isr_t K hj2 hL2 (br_f (by decide) (xe_domof K hj1 (fun r1 hr1 => xe_domof K hj2 (fun r2 hr2 => nm_e (xe_last K (P := fun w => gx_O m f t w j1 && gx_O m f t w j2) (fun w hw => ?_) ?_)))))
          · rw [b_and, hr1 w (by omega), hr2 w (by omega)]
            unfold gx_D
            rw [decide_eq_true hw]; rfl
          · refine ye_ok hj1 hn (br_t rfl (ye_ok hj2 hn (br_t rfl (ye_tab K (fun s' l' o' hl ho => ?_)))))
            exact ye_lv hl (by omega) (fun h => by rw [hL1] at h; cases h) (fun _ => ye_lv hl (by omega) (fun h => by rw [hL2] at h; cases h) (fun _ => ye_near K ho (by omega) (by omega) ⟨rfl, gx_rel K _⟩))
theorem i_vc_below {k : Nat} {u : SX} {v : SY} (I : i_Rel k u v) (hk : k + 3 ≤ 1537) (v1 : Int32) : wpX_below (fun r => wpY_below (fun r' v' => r' = r ∧ i_Rel (k + 3) u v') v v1) u v1 := by
  obtain ⟨n, m, f, t, a, b, s, l, o, K, rfl, rfl⟩ := I
  have hn := K.2.1
  unfold wpX_below wpY_below
  dsimp only
  rcases gx_ix (n := n) (by omega) v1 with h | ⟨j, hj, rfl⟩
  · exact xe_bad h (br_t rfl (ye_bad h (br_f (by decide) ⟨rfl, gx_rel K _⟩)))
  · refine xe_ok hj hn (br_f (by decide) ?_)
    cases hL : gx_L m f t j with
    | true =>
      refine xe_isr_t K hj hL (br_f (by decide) (xe_domby K (fun r hr => xe_size_R K hr (fun v h => gx_O_L h) (ye_ok hj hn (br_t rfl (ye_tab K (fun s' l' o' hl ho => ?_)))))))
      exact ye_lv hl (by omega) (fun h => by rw [hL] at h; cases h) (fun _ => ye_below K ho (by omega) ⟨rfl, gx_rel K _⟩)
    | false =>
      refine xe_isr_f K hj hL (br_t rfl (ye_ok hj hn (br_t rfl (ye_tab K (fun s' l' o' hl ho => ?_)))))
      exact ye_lv hl (by omega) (fun _ => ⟨rfl, gx_rel K _⟩) (fun h => by rw [hL] at h; cases h)
theorem i_vc_children {k : Nat} {u : SX} {v : SY} (I : i_Rel k u v) (hk : k + 3 ≤ 1537) (v1 : Int32) : wpX_children (fun r => wpY_children (fun r' v' => r' = r ∧ i_Rel (k + 3) u v') v v1) u v1 := by
  obtain ⟨n, m, f, t, a, b, s, l, o, K, rfl, rfl⟩ := I
  have hn := K.2.1
  unfold wpX_children wpY_children
  dsimp only
  rcases gx_ix (n := n) (by omega) v1 with h | ⟨j, hj, rfl⟩
  · exact xe_bad h (br_t rfl (ye_bad h (br_f (by decide) ⟨rfl, gx_rel K _⟩)))
  · refine xe_ok hj hn (br_f (by decide) ?_)
    cases hL : gx_L m f t j with
    | true =>
      refine xe_isr_t K hj hL (br_f (by decide) (xe_domby K (fun r hr => xe_depth K hj (nm_r (nI_1 _) (xe_childs K hr (ye_ok hj hn (br_t rfl (ye_tab K (fun s' l' o' hl ho => ?_)))))))))
      exact ye_lv hl (by omega) (fun h => by rw [hL] at h; cases h) (fun _ => ye_childs K hl ho hj ⟨rfl, gx_rel K _⟩)
    | false =>
      refine xe_isr_f K hj hL (br_t rfl (ye_ok hj hn (br_t rfl (ye_tab K (fun s' l' o' hl ho => ?_)))))
      exact ye_lv hl (by omega) (fun _ => ⟨rfl, gx_rel K _⟩) (fun h => by rw [hL] at h; cases h)
theorem i_vc_border {k : Nat} {u : SX} {v : SY} (I : i_Rel k u v) (hk : k + 3 ≤ 1537) (v1 : Int32) (v2 : Int32) : wpX_border (fun r => wpY_border (fun r' v' => r' = r ∧ i_Rel (k + 3) u v') v v1 v2) u v1 v2 := by
  obtain ⟨n, m, f, t, a, b, s, l, o, K, rfl, rfl⟩ := I
  have hn := K.2.1
  unfold wpX_border wpY_border
  dsimp only
  rcases gx_ix (n := n) (by omega) v1 with h | ⟨j1, hj1, rfl⟩
  · exact xe_bad h (br_t rfl (ye_bad h (br_f (by decide) ⟨rfl, gx_rel K _⟩)))
  · refine xe_ok hj1 hn (br_f (by decide) ?_)
    rcases gx_ix (n := n) (by omega) v2 with h | ⟨j2, hj2, rfl⟩
    · exact xe_bad h (br_t rfl (ye_ok hj1 hn (br_t rfl (ye_bad h (br_f (by decide) ⟨rfl, gx_rel K _⟩)))))
    · refine xe_ok hj2 hn (br_f (by decide) ?_)
      cases hL1 : gx_L m f t j1 with
      | false =>
        refine xe_isr_f K hj1 hL1 (br_t rfl (ye_ok hj1 hn (br_t rfl (ye_ok hj2 hn (br_t rfl (ye_tab K (fun s' l' o' hl ho => ?_)))))))
        exact ye_lv hl (by omega) (fun _ => ⟨rfl, gx_rel K _⟩) (fun h => by rw [hL1] at h; cases h)
      | true =>
        refine xe_isr_t K hj1 hL1 (br_f (by decide) ?_)
        cases hL2 : gx_L m f t j2 with
        | false =>
          refine xe_isr_f K hj2 hL2 (br_t rfl (ye_ok hj1 hn (br_t rfl (ye_ok hj2 hn (br_t rfl (ye_tab K (fun s' l' o' hl ho => ?_)))))))
          exact ye_lv hl (by omega) (fun h => by rw [hL1] at h; cases h) (fun _ => ye_lv hl (by omega) (fun _ => ⟨rfl, gx_rel K _⟩) (fun h => by rw [hL2] at h; cases h))
        | true =>
          refine xe_isr_t K hj2 hL2 (br_f (by decide) (xe_domby K (fun r hr => ?_)))
          by_cases e : j1 = j2
          · have e0 : nI j1 = nI j2 := by rw [e]
            refine br_t e0 (xe_bord K hj2 hr (fun hb => ?_) (fun hb => ?_))
            · refine ye_ok hj1 hn (br_t rfl (ye_ok hj2 hn (br_t rfl (ye_tab K (fun s' l' o' hl ho => ?_)))))
              exact ye_lv hl (by omega) (fun h => by rw [hL1] at h; cases h) (fun _ => ye_lv hl (by omega) (fun h => by rw [hL2] at h; cases h) (fun _ => br_t e0 (ye_bord K ho hj1 hj2 (fun _ => ⟨rfl, gx_rel K _⟩) (fun h => absurd hb h))))
            · refine ye_ok hj1 hn (br_t rfl (ye_ok hj2 hn (br_t rfl (ye_tab K (fun s' l' o' hl ho => ?_)))))
              exact ye_lv hl (by omega) (fun h => by rw [hL1] at h; cases h) (fun _ => ye_lv hl (by omega) (fun h => by rw [hL2] at h; cases h) (fun _ => br_t e0 (ye_bord K ho hj1 hj2 (fun h => absurd h hb) (fun _ => ⟨rfl, gx_rel K _⟩))))
          · have e0 : ¬ nI j1 = nI j2 := by rw [nI_eq (by omega) (by omega)]; exact e
            refine br_f e0 ?_
            cases hO : gx_O m f t j1 j2 with
            | true =>
              refine xe_con_t (by omega) ((hr j2 (by omega)).trans hO) (br_f (by decide) ?_)
              refine ye_ok hj1 hn (br_t rfl (ye_ok hj2 hn (br_t rfl (ye_tab K (fun s' l' o' hl ho => ?_)))))
              exact ye_lv hl (by omega) (fun h => by rw [hL1] at h; cases h) (fun _ => ye_lv hl (by omega) (fun h => by rw [hL2] at h; cases h) (fun _ => br_f e0 (ye_br ho (by omega) (by omega) (fun h => by rw [hO] at h; cases h) (fun _ => ⟨rfl, gx_rel K _⟩))))
            | false =>
              refine xe_con_f (by omega) ((hr j2 (by omega)).trans hO) (br_t rfl (xe_bord K hj2 hr (fun hb => ?_) (fun hb => ?_)))
              · refine ye_ok hj1 hn (br_t rfl (ye_ok hj2 hn (br_t rfl (ye_tab K (fun s' l' o' hl ho => ?_)))))
                exact ye_lv hl (by omega) (fun h => by rw [hL1] at h; cases h) (fun _ => ye_lv hl (by omega) (fun h => by rw [hL2] at h; cases h) (fun _ => br_f e0 (ye_br ho (by omega) (by omega) (fun _ => ye_bord K ho hj1 hj2 (fun _ => ⟨rfl, gx_rel K _⟩) (fun h => absurd hb h)) (fun h => by rw [hO] at h; cases h))))
              · refine ye_ok hj1 hn (br_t rfl (ye_ok hj2 hn (br_t rfl (ye_tab K (fun s' l' o' hl ho => ?_)))))
                exact ye_lv hl (by omega) (fun h => by rw [hL1] at h; cases h) (fun _ => ye_lv hl (by omega) (fun h => by rw [hL2] at h; cases h) (fun _ => br_f e0 (ye_br ho (by omega) (by omega) (fun _ => ye_bord K ho hj1 hj2 (fun h => absurd h hb) (fun _ => ⟨rfl, gx_rel K _⟩)) (fun h => by rw [hO] at h; cases h))))
theorem i_vc_needs {k : Nat} {u : SX} {v : SY} (I : i_Rel k u v) (hk : k + 3 ≤ 1537) (v1 : Int32) (v2 : Int32) : wpX_needs (fun r => wpY_needs (fun r' v' => r' = r ∧ i_Rel (k + 3) u v') v v1 v2) u v1 v2 := by
  obtain ⟨n, m, f, t, a, b, s, l, o, K, rfl, rfl⟩ := I
  have hn := K.2.1
  have hm := K.2.2.1
  unfold wpX_needs wpY_needs
  dsimp only
  rcases gx_ix (n := m) (by omega) v1 with h | ⟨i, hi, rfl⟩
  · refine xe_pbad h (br_t rfl ?_)
    by_cases z : v1 < 0
    · exact br_t z ⟨rfl, gx_rel K _⟩
    · exact br_f z (br_f (fun y => Int32.lt_irrefl (Int32.lt_of_le_of_lt (h.resolve_left z) y)) ⟨rfl, gx_rel K _⟩)
  · have h0 : ¬ nI i < 0 := nI_pos (by omega)
    have h1 : nI i < nI m := nI_lt hi (by omega)
    refine xe_pok hi hm (br_f (by decide) ?_)
    rcases gx_ix (n := n) (by omega) v2 with h | ⟨j, hj, rfl⟩
    · exact xe_bad h (br_t rfl (br_f h0 (br_t h1 (ye_bad h (br_f (by decide) ⟨rfl, gx_rel K _⟩)))))
    · refine xe_ok hj hn (br_f (by decide) ?_)
      cases hL : gx_L m f t j with
      | false =>
        refine xe_isr_f K hj hL (br_t rfl (br_f h0 (br_t h1 (ye_ok hj hn (br_t rfl (ye_reach K (fun s' hs => ?_)))))))
        exact ye_lv hs (by omega) (fun _ => ⟨rfl, gx_rel K _⟩) (fun h => by rw [show gx_R m f t (-1) (-1) j = false from hL] at h; cases h)
      | true =>
        refine xe_isr_t K hj hL (br_f (by decide) (xe_reach K (fun r hr => ?_)))
        cases hR : gx_R m f t (-1) (nI i) j with
        | true =>
          refine xe_con_t (by omega) ((hr j (by omega)).trans hR) (br_f (by decide) (br_f h0 (br_t h1 (ye_ok hj hn (br_t rfl (ye_reach K (fun s' hs => ?_)))))))
          refine ye_lv hs (by omega) (fun h => by rw [show gx_R m f t (-1) (-1) j = true from hL] at h; cases h) (fun _ => ye_reach K (fun s2 hs2 => ?_))
          exact ye_lv hs2 (by omega) (fun h => by rw [hR] at h; cases h) (fun _ => ⟨rfl, gx_rel K _⟩)
        | false =>
          refine xe_con_f (by omega) ((hr j (by omega)).trans hR) (br_t rfl (br_f h0 (br_t h1 (ye_ok hj hn (br_t rfl (ye_reach K (fun s' hs => ?_)))))))
          refine ye_lv hs (by omega) (fun h => by rw [show gx_R m f t (-1) (-1) j = true from hL] at h; cases h) (fun _ => ye_reach K (fun s2 hs2 => ?_))
          exact ye_lv hs2 (by omega) (fun _ => ⟨rfl, gx_rel K _⟩) (fun h => by rw [hR] at h; cases h)
theorem i_vc_bridges {k : Nat} {u : SX} {v : SY} (I : i_Rel k u v) (hk : k + 3 ≤ 1537) : wpX_bridges (fun r => wpY_bridges (fun r' v' => r' = r ∧ i_Rel (k + 3) u v') v) u := by
  obtain ⟨n, m, f, t, a, b, s, l, o, K, rfl, rfl⟩ := I
  refine xe_bridges K ?_
  unfold wpY_bridges
  dsimp only
  exact ye_tab K (fun s' l' o' hl ho => ye_bridges K hl (fun s2 => ⟨rfl, gx_rel K _⟩))
theorem i_vc_height {k : Nat} {u : SX} {v : SY} (I : i_Rel k u v) (hk : k + 3 ≤ 1537) : wpX_height (fun r => wpY_height (fun r' v' => r' = r ∧ i_Rel (k + 3) u v') v) u := by
  obtain ⟨n, m, f, t, a, b, s, l, o, K, rfl, rfl⟩ := I
  refine xe_height K ?_
  unfold wpY_height
  dsimp only
  exact ye_tab K (fun s' l' o' hl ho => ye_height K hl ho ⟨rfl, gx_rel K _⟩)
