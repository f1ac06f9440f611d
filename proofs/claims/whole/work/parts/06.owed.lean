theorem i_vc_clear {k : Nat} {u : SX} {v : SY} (I : i_Rel k u v) (hk : k + 4 ≤ 2049) : wpX_clear (fun r u' => wpY_clear (fun r' v' => r' = r ∧ i_Rel (k + 4) u' v') v) u := by
  obtain ⟨n, d, D, C, A, O, g, h, rfl, rfl, ok⟩ := I
  have h7 := ok.2.2.1
  obtain ⟨r, hr, hX, hY⟩ := ob_fb ok ok (ob_no ok.2.1)
  obtain ⟨A', ok', pX, pY⟩ := ob_perf ok hr
  unfold wpX_clear wpY_clear
  dsimp only
  exact hX _ g fun g1 => pX _ g1 (ob_xt h7 (hY _ h fun h1 => pY _ h1 fun h2 => ⟨rfl, ob_rel ok'⟩))
theorem i_vc_carryOut {k : Nat} {u : SX} {v : SY} (I : i_Rel k u v) (hk : k + 4 ≤ 2049) (v1 : Int32) : wpX_carryOut (fun r u' => wpY_carryOut (fun r' v' => r' = r ∧ i_Rel (k + 4) u' v') v v1) u v1 := by
  obtain ⟨n, d, D, C, A, O, g, h, rfl, rfl, ok⟩ := I
  have h7 := ok.2.2.1
  unfold wpX_carryOut wpY_carryOut
  dsimp only
  refine ob_xc ok (ob_no ok.2.1) (fun hcl g1 => br_f (by decide) ?_) (fun hcl g1 => br_t rfl ?_)
  · obtain ⟨A', ok', pX, pY⟩ := ob_perf ok hcl
    exact pX _ g1 (ob_xt h7 (pY _ h fun h2 => ⟨rfl, ob_rel ok'⟩))
  · unfold wpY_perform
    dsimp only
    refine ob_yt ok (fun h => absurd h hcl) (fun _ g' => ⟨1, ?_⟩)
    by_cases z : nI d ≤ 0
    · exact br_t z ⟨rfl, ob_rel ok⟩
    · exact br_f z (br_f (by decide) (br_t (by decide) ⟨rfl, ob_rel ok⟩))
theorem i_vc_best {k : Nat} {u : SX} {v : SY} (I : i_Rel k u v) (hk : k + 4 ≤ 2049) : wpX_best (fun r u' => wpY_best (fun r' v' => r' = r ∧ i_Rel (k + 4) u' v') v) u := by
  obtain ⟨n, d, D, C, A, O, g, h, rfl, rfl, ok⟩ := I
  obtain ⟨r, hX, hY⟩ := ob_bt ok ok (ob_no ok.2.1)
  unfold wpX_best wpY_best
  dsimp only
  exact hX _ g fun g1 => hY _ h fun h1 => ⟨rfl, ob_rel ok⟩
theorem i_vc_bestCode {k : Nat} {u : SX} {v : SY} (I : i_Rel k u v) (hk : k + 4 ≤ 2049) : wpX_bestCode (fun r u' => wpY_bestCode (fun r' v' => r' = r ∧ i_Rel (k + 4) u' v') v) u := by
  obtain ⟨n, d, D, C, A, O, g, h, rfl, rfl, ok⟩ := I
  obtain ⟨r, hr, hX, hY⟩ := ob_fb ok ok (ob_no ok.2.1)
  unfold wpX_bestCode wpY_bestCode
  dsimp only
  exact hX _ g fun g1 => hY _ h fun h1 => ⟨rfl, ob_rel ok⟩
theorem i_vc_isClearing {k : Nat} {u : SX} {v : SY} (I : i_Rel k u v) (hk : k + 4 ≤ 2049) (v1 : Int32) : wpX_isClearing (fun r u' => wpY_isClearing (fun r' v' => r' = r ∧ i_Rel (k + 4) u' v') v v1) u v1 := by
  obtain ⟨n, d, D, C, A, O, g, h, rfl, rfl, ok⟩ := I
  have hp := ob_totP d v1 d ok.2.2.1
  unfold wpX_isClearing wpY_isClearing
  dsimp only
  refine ob_xc ok (ob_no ok.2.1) (fun hcl g1 => br_f (by decide) ?_) (fun hcl g1 => br_t rfl ?_)
  · exact ob_yt ok (fun _ h1 => br_t hp ⟨rfl, ob_rel ok⟩) (fun h => absurd hcl h)
  · exact ob_yt ok (fun h => absurd h hcl) (fun _ h1 => br_f (by decide) ⟨rfl, ob_rel ok⟩)
theorem ob_wt {O : Nat → Int32} {a : Nat} (hO : ∀ j, O j = 0 ∨ O j = 1) : upd (upd O a 1) a (vp_nar .boolean (O a)) = O := by
  have e : vp_nar .boolean (O a) = O a := by
    rcases hO a with z | z
    · rw [z]; exact ob_nar0
    · rw [z]; exact ob_nar1
  rw [e]
  funext i
  by_cases z : i = a
  · rw [z]; exact pk_us
  · rw [pk_un z, pk_un z]
theorem i_vc_weight {k : Nat} {u : SX} {v : SY} (I : i_Rel k u v) (hk : k + 4 ≤ 2049) (v1 : Int32) : wpX_weight (fun r u' => wpY_weight (fun r' v' => r' = r ∧ i_Rel (k + 4) u' v') v v1) u v1 := by
  obtain ⟨n, d, D, C, A, O, g, h, rfl, rfl, ok⟩ := I
  have ok' := ok
  obtain ⟨h2, h5, h7, hD, hC, hA, hO⟩ := ok'
  unfold wpX_weight wpY_weight
  dsimp only
  rcases ob_ix v1 (n := n) (by omega) with hv | ⟨a, ha, rfl⟩
  · exact ob_xf0 hv (br_t rfl (ob_yf0 hv (br_f (by decide) ⟨rfl, ob_rel ok⟩)))
  have e : (nI a).toNatClampNeg = a := nI_clamp (by omega)
  have hi : vp_in (nI a) 5 := vp_in_nI (by omega) (by decide)
  have okP : ob_ok n d D C A (upd O a 1) := ⟨h2, h5, h7, hD, hC, hA, ob_out hO (Or.inr rfl)⟩
  have hw : ∀ q, q < n → (upd O a 1 q = 0 ↔ O q = 0 ∧ ¬ nI q = nI a) := by
    intro q hq
    by_cases z : q = a
    · rw [z, pk_us]
      exact ⟨fun h => absurd h (by decide), fun h => absurd rfl h.2⟩
    · rw [pk_un z]
      exact ⟨fun h => ⟨h, fun h' => z ((nI_eq (by omega) (by omega)).mp h')⟩, fun h => h.1⟩
  obtain ⟨r, hX, hY⟩ := ob_bt ok ok (ob_no h5)
  obtain ⟨r2, hX2, hY2⟩ := ob_bt ok okP hw
  refine ob_xf1 h5 ha (br_f (by decide) (hX _ g fun g1 => hX2 _ g1 fun g2 => ob_yf1 h5 ha (br_t rfl (hY _ h fun h1 => ⟨hi, fun x ex => ⟨hi, fun O' eO => ?_⟩⟩))))
  rw [e] at ex eO
  rw [ob_nar1] at eO
  subst ex eO
  refine hY2 _ h1 fun h3 => ⟨hi, fun O' eO => ?_⟩
  rw [e, ob_wt hO] at eO
  subst eO
  exact ⟨rfl, ob_rel ok⟩
theorem i_vc_most {k : Nat} {u : SX} {v : SY} (I : i_Rel k u v) (hk : k + 4 ≤ 2049) (v1 : Int32) : wpX_most (fun r u' => wpY_most (fun r' v' => r' = r ∧ i_Rel (k + 4) u' v') v v1) u v1 := by
  obtain ⟨n, d, D, C, A, O, g, h, rfl, rfl, ok⟩ := I
  have h7 := ok.2.2.1
  unfold wpX_most wpY_most
  dsimp only
  rcases ob_ix v1 (n := d) (by omega) with hv | ⟨a, ha, rfl⟩
  · exact ob_xd0 hv (br_t rfl (ob_yd0 hv (br_f (by decide) ⟨rfl, ob_rel ok⟩)))
  obtain ⟨r, hX, hY⟩ := ob_mst ok ha (ob_E d) 0 0 (by omega)
  exact ob_xd1 h7 ha (br_f (by decide) (ob_xcc h7 ⟨ob_E d + 1, hX _ g fun g1 => ob_yd1 h7 ha (br_t rfl ⟨ob_E d + 1, hY _ h fun h1 => ⟨rfl, ob_rel ok⟩⟩)⟩))
theorem i_vc_possible {k : Nat} {u : SX} {v : SY} (I : i_Rel k u v) (hk : k + 4 ≤ 2049) : wpX_possible (fun r u' => wpY_possible (fun r' v' => r' = r ∧ i_Rel (k + 4) u' v') v) u := by
  obtain ⟨n, d, D, C, A, O, g, h, rfl, rfl, ok⟩ := I
  obtain ⟨r, hX, hY⟩ := ob_bt ok ok (ob_no ok.2.1)
  unfold wpX_possible wpY_possible
  dsimp only
  by_cases z : r ≤ 0
  · exact hX _ g fun g1 => br_t z (hY _ h fun h1 => br_t z ⟨rfl, ob_rel ok⟩)
  · exact hX _ g fun g1 => br_f z (hY _ h fun h1 => br_f z ⟨rfl, ob_rel ok⟩)
