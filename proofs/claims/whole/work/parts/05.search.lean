/-! totals, and the search in lockstep -/
theorem ob_xt4 {post : Int32 → Prop} {d : Nat} {x c : Int32} {D C A O g : Nat → Int32} (h7 : d ≤ 7) (h : post (ob_tot d c d)) : ∀ m j, j + m = d → wX_totalOf_4 post c x (nI d) D C A O g (m + 1) (ob_tot d c j) (nI j) := by
  intro m
  induction m with
  | zero =>
    intro j hj
    have hjd : j = d := by omega
    subst hjd
    exact br_t (nI_le (by omega) (by omega)) h
  | succ m ih =>
    intro j hj
    refine br_f (nI_ge (by omega) (by omega)) (ob_xs fun s es y ey => ?_)
    rw [nI_1] at ey
    subst es ey
    exact ih (j + 1) (by omega)
theorem ob_xt {post : Int32 → Prop} {d : Nat} {x c : Int32} {D C A O g : Nat → Int32} (h7 : d ≤ 7) (h : post (ob_tot d c d)) : wpX_totalOf post (x, nI d, D, C, A, O, g) c := ⟨d + 1, ob_xt4 h7 h d 0 (by omega)⟩
theorem ob_m1 {d : Nat} {c : Int32} (h7 : d ≤ 7) : (-1 : Int32) ≤ ob_tot d c d := Int32.le_trans (by decide) (ob_totP d c d h7)
theorem ob_srch {n d : Nat} {D C A O P : Nat → Int32} {w : Int32} (ok : ob_ok n d D C A O) (okP : ob_ok n d D C A P) (hw : ∀ a, a < n → (P a = 0 ↔ O a = 0 ∧ ¬ nI a = w)) : ∀ (m k : Nat) (b : Int32), k + m = ob_E d → ob_cl n d D C A P b → ∃ r, ob_cl n d D C A P r ∧ (∀ (post : Int32 → SX → Prop) (g : Nat → Int32), (∀ g', post r (nI n, nI d, D, C, A, O, g')) → wX_findBest_13 post w (nI (ob_E d)) (m + 1) b (ob_tot d b d) (nI k) (nI n) (nI d) D C A O g) ∧ (∀ (post : Int32 → SY → Prop) (g : Nat → Int32), (∀ g', post r (nI n, nI d, D, C, A, P, g')) → wY_search_6 post (m + 1) b (ob_tot d b d) (nI k) (nI n) (nI d) D C A P g) := by
  have h7 := ok.2.2.1
  have hE := ob_Eb d (by omega)
  have hcc := ob_cc d (by omega)
  intro m
  induction m with
  | zero =>
    intro k b hk hb
    have hc : nI (ob_E d) ≤ nI k := nI_le (by omega) (by omega)
    have hc' : (1 : Int32) <<< ((2 * nI d) &&& 31) ≤ nI k := by rw [hcc]; exact hc
    exact ⟨b, hb, fun post g hp => br_t hc (hp g), fun post g hp => br_t hc' (hp g)⟩
  | succ m ih =>
    intro k b hk hb
    have hc : ¬ nI (ob_E d) ≤ nI k := nI_ge (by omega) (by omega)
    have hc' : ¬ (1 : Int32) <<< ((2 * nI d) &&& 31) ≤ nI k := by rw [hcc]; exact hc
    by_cases hcl : ob_cl n d D C A P (nI k)
    · by_cases z : ob_tot d (nI k) d ≤ ob_tot d b d
      · obtain ⟨r, hr, hX, hY⟩ := ih (k + 1) b (by omega) hb
        refine ⟨r, hr, fun post g hp => br_f hc (ob_xt h7 (br_t z fun x ex => ?_)), fun post g hp => br_f hc' (ob_yt okP (fun _ g' => br_t z fun x ex => ?_) (fun h => absurd hcl h))⟩
        · rw [ex, nI_1]; exact hX post g hp
        · rw [ex, nI_1]; exact hY post g' hp
      · obtain ⟨r, hr, hX, hY⟩ := ih (k + 1) (nI k) (by omega) hcl
        refine ⟨r, hr, fun post g hp => br_f hc (ob_xt h7 (br_f z (ob_xc ok hw (fun _ g' => br_f (by decide) fun x ex => ?_) (fun h => absurd hcl h)))), fun post g hp => br_f hc' (ob_yt okP (fun _ g' => br_f z fun x ex => ?_) (fun h => absurd hcl h))⟩
        · rw [ex, nI_1]; exact hX post g' hp
        · rw [ex, nI_1]; exact hY post g' hp
    · obtain ⟨r, hr, hX, hY⟩ := ih (k + 1) b (by omega) hb
      refine ⟨r, hr, fun post g hp => br_f hc (ob_xt h7 ?_), fun post g hp => br_f hc' (ob_yt okP (fun h => absurd h hcl) (fun _ g' => br_t (ob_m1 h7) fun x ex => ?_))⟩
      · by_cases z : ob_tot d (nI k) d ≤ ob_tot d b d
        · refine br_t z fun x ex => ?_
          rw [ex, nI_1]; exact hX post g hp
        · refine br_f z (ob_xc ok hw (fun h => absurd h hcl) (fun _ g' => br_t rfl fun x ex => ?_))
          rw [ex, nI_1]; exact hX post g' hp
      · rw [ex, nI_1]; exact hY post g' hp
theorem ob_fb {n d : Nat} {D C A O P : Nat → Int32} {w : Int32} (ok : ob_ok n d D C A O) (okP : ob_ok n d D C A P) (hw : ∀ a, a < n → (P a = 0 ↔ O a = 0 ∧ ¬ nI a = w)) : ∃ r, ob_cl n d D C A P r ∧ (∀ (post : Int32 → SX → Prop) (g : Nat → Int32), (∀ g', post r (nI n, nI d, D, C, A, O, g')) → wpX_findBest post (nI n, nI d, D, C, A, O, g) w) ∧ (∀ (post : Int32 → SY → Prop) (g : Nat → Int32), (∀ g', post r (nI n, nI d, D, C, A, P, g')) → wpY_search post (nI n, nI d, D, C, A, P, g)) := by
  have h7 := ok.2.2.1
  have hE := ob_Eb d (by omega)
  have hcc := ob_cc d (by omega)
  have t0 : ob_tot d 0 d = 0 := ob_tot00 d d
  obtain ⟨r, hr, hX, hY⟩ := ob_srch ok okP hw (ob_E d - 1) 1 0 (by omega) (ob_cl0 okP)
  rw [t0] at hX hY
  refine ⟨r, hr, fun post g hp => ?_, fun post g hp => ?_⟩
  · unfold wpX_findBest
    dsimp only
    exact ob_xcc h7 ⟨ob_E d - 1 + 1, hX post g hp⟩
  · have hc : ¬ (1 : Int32) <<< ((2 * nI d) &&& 31) ≤ 0 := by rw [hcc]; exact nI_nle hE.1 (by omega)
    have z : ob_tot d 0 d ≤ 0 := by rw [t0]; decide
    refine ⟨ob_E d - 1 + 1 + 1, br_f hc (ob_yt okP (fun _ g' => br_t z fun x ex => ?_) (fun h => absurd (ob_cl0 okP) h))⟩
    have ex' : x = nI 1 := ex
    rw [ex']
    exact hY post g' hp
theorem ob_bt {n d : Nat} {D C A O P : Nat → Int32} {w : Int32} (ok : ob_ok n d D C A O) (okP : ob_ok n d D C A P) (hw : ∀ a, a < n → (P a = 0 ↔ O a = 0 ∧ ¬ nI a = w)) : ∃ r, (∀ (post : Int32 → SX → Prop) (g : Nat → Int32), (∀ g', post r (nI n, nI d, D, C, A, O, g')) → wpX_bestTotal post (nI n, nI d, D, C, A, O, g) w) ∧ (∀ (post : Int32 → SY → Prop) (g : Nat → Int32), (∀ g', post r (nI n, nI d, D, C, A, P, g')) → wpY_greatest post (nI n, nI d, D, C, A, P, g)) := by
  have h7 := ok.2.2.1
  obtain ⟨r, hr, hX, hY⟩ := ob_fb ok okP hw
  refine ⟨ob_tot d r d, fun post g hp => ?_, fun post g hp => ?_⟩
  · unfold wpX_bestTotal
    dsimp only
    exact hX _ g fun g' => ob_xt h7 (hp g')
  · unfold wpY_greatest
    dsimp only
    exact hY _ g fun g' => ob_yt okP (fun _ g'' => hp g'') (fun h => absurd hr h)
theorem ob_no {n : Nat} {O : Nat → Int32} (hn : n ≤ 5) : ∀ a, a < n → (O a = 0 ↔ O a = 0 ∧ ¬ nI a = -1) := by
  intro a ha
  have h : ¬ nI a = -1 := by
    intro z
    have p := nI_pos (n := a) (by omega)
    rw [z] at p
    exact p (by decide)
  exact ⟨fun z => ⟨z, h⟩, fun z => z.1⟩
theorem ob_mst {n d q : Nat} {D C A O : Nat → Int32} (ok : ob_ok n d D C A O) (hq : q < d) : ∀ (m k : Nat) (b : Int32), k + m = ob_E d → ∃ r, (∀ (post : Int32 → SX → Prop) (g : Nat → Int32), (∀ g', post r (nI n, nI d, D, C, A, O, g')) → wX_most_20 post (nI q) (nI (ob_E d)) (m + 1) b (nI k) (nI n) (nI d) D C A O g) ∧ (∀ (post : Int32 → SY → Prop) (g : Nat → Int32), (∀ g', post r (nI n, nI d, D, C, A, O, g')) → wY_most_14 post (nI q) (m + 1) b (nI k) (nI n) (nI d) D C A O g) := by
  have h7 := ok.2.2.1
  have hw := ob_no (O := O) ok.2.1
  have hE := ob_Eb d (by omega)
  have hcc := ob_cc d (by omega)
  intro m
  induction m with
  | zero =>
    intro k b hk
    have hc : nI (ob_E d) ≤ nI k := nI_le (by omega) (by omega)
    have hc' : (1 : Int32) <<< ((2 * nI d) &&& 31) ≤ nI k := by rw [hcc]; exact hc
    exact ⟨b, fun post g hp => br_t hc (hp g), fun post g hp => br_t hc' (hp g)⟩
  | succ m ih =>
    intro k b hk
    have hc : ¬ nI (ob_E d) ≤ nI k := nI_ge (by omega) (by omega)
    have hc' : ¬ (1 : Int32) <<< ((2 * nI d) &&& 31) ≤ nI k := by rw [hcc]; exact hc
    have hp0 : ¬ ob_tot d (nI k) d < 0 := Int32.not_lt.mpr (ob_totP d (nI k) d h7)
    by_cases z : ob_dg d (nI k) q ≤ b
    · obtain ⟨r, hX, hY⟩ := ih (k + 1) b (by omega)
      refine ⟨r, fun post g hp => br_f hc (ob_xs (br_t z fun x ex => ?_)), fun post g hp => br_f hc' (ob_yd h7 hq (br_t z fun x ex => ?_))⟩
      · rw [ex, nI_1]; exact hX post g hp
      · rw [ex, nI_1]; exact hY post g hp
    · by_cases hcl : ob_cl n d D C A O (nI k)
      · obtain ⟨r, hX, hY⟩ := ih (k + 1) (ob_dg d (nI k) q) (by omega)
        refine ⟨r, fun post g hp => br_f hc (ob_xs (br_f z (ob_xc ok hw (fun _ g' => br_f (by decide) fun x ex => ?_) (fun h => absurd hcl h)))), fun post g hp => br_f hc' (ob_yd h7 hq (br_f z (ob_yt ok (fun _ g' => br_f hp0 fun x ex => ?_) (fun h => absurd hcl h))))⟩
        · rw [ex, nI_1]; exact hX post g' hp
        · rw [ex, nI_1]; exact hY post g' hp
      · obtain ⟨r, hX, hY⟩ := ih (k + 1) b (by omega)
        refine ⟨r, fun post g hp => br_f hc (ob_xs (br_f z (ob_xc ok hw (fun h => absurd h hcl) (fun _ g' => br_t rfl fun x ex => ?_)))), fun post g hp => br_f hc' (ob_yd h7 hq (br_f z (ob_yt ok (fun h => absurd h hcl) (fun _ g' => br_t (by decide) fun x ex => ?_))))⟩
        · rw [ex, nI_1]; exact hX post g' hp
        · rw [ex, nI_1]; exact hY post g' hp
/-! striking off, in lockstep -/
theorem ob_upd_id (A : Nat → Int32) (j : Nat) : upd A j (A j) = A := by
  funext i
  by_cases z : i = j
  · rw [z]; exact pk_us
  · exact pk_un z
theorem ob_str {n d : Nat} {D C O : Nat → Int32} {c t : Int32} (h7 : d ≤ 7) (ht : ¬ t ≤ 0) : ∀ (m j : Nat) (A : Nat → Int32), j + m = d → (∀ i, i < d → ∃ a, a < 4 ∧ A i = nI a) → (∀ i, j ≤ i → i < d → ob_dg d c i ≤ A i) → ∃ A', (∀ i, i < d → ∃ a, a < 4 ∧ A' i = nI a) ∧ ((∀ i, i < d → ob_dg d c i = 0) → A' = A) ∧ (∀ (post : SX → Prop) (g : Nat → Int32), post (nI n, nI d, D, C, A', O, g) → wX_strikeOff_2 post c (nI n) (nI d) (m + 1) (nI j) D C A O g) ∧ (∀ (post : Int32 → SY → Prop) (g : Nat → Int32), post t (nI n, nI d, D, C, A', O, g) → wY_perform_8 post c t (nI n) (nI d) (m + 1) (nI j) D C A O g) := by
  intro m
  induction m with
  | zero =>
    intro j A hj hA hf
    have hc : nI d ≤ nI j := nI_le (by omega) (by omega)
    exact ⟨A, hA, fun _ => rfl, fun post g hp => br_t hc hp, fun post g hp => br_t hc hp⟩
  | succ m ih =>
    intro j A hj hA hf
    have hjd : j < d := by omega
    have hc : ¬ nI d ≤ nI j := nI_ge hjd (by omega)
    have h6 : ¬ 7 ≤ nI j := nI_ge (b := 7) (by omega) (by decide)
    have e : (nI j).toNatClampNeg = j := nI_clamp (by omega)
    have i7 : vp_in (nI j) 7 := vp_in_nI (by omega) (by decide)
    obtain ⟨a, ha, ea⟩ := hA j hjd
    obtain ⟨p, hp4, ep⟩ := ob_dgN d c j
    have hle : p ≤ a := by
      have h := hf j (by omega) hjd
      rw [ea, ep] at h
      exact (nI_leI (by omega) (by omega)).mp h
    have es : A j - ob_dg d c j = nI (a - p) := by rw [ea, ep]; exact pk_sub hle
    obtain ⟨A', hA', hz, hX, hY⟩ := ih (j + 1) (upd A j (A j - ob_dg d c j)) (by omega) (by rw [es]; exact ob_put (fun i x y => hA i x) (by omega)) (fun i x y => by rw [pk_un (by omega)]; exact hf i (by omega) y)
    refine ⟨A', hA', fun k => ?_, fun post g hp => br_f hc ⟨i7, ob_xs ⟨i7, fun A1 eA x ex => ?_⟩⟩, fun post g hp => br_f hc (br_f h6 (br_f ht ⟨i7, ob_yd h7 hjd ⟨i7, fun A1 eA x ex => ?_⟩⟩))⟩
    · rw [hz k, k j hjd, Int32.sub_zero]; exact ob_upd_id A j
    · rw [e] at eA
      rw [nI_1] at ex
      subst eA ex
      exact hX post g hp
    · rw [e] at eA
      rw [nI_1] at ex
      subst eA ex
      exact hY post g hp
/-- the component strikes the code off and answers its total; the reference performs it; c being a clearing -/
theorem ob_perf {n d : Nat} {D C A O : Nat → Int32} {c : Int32} (ok : ob_ok n d D C A O) (hcl : ob_cl n d D C A O c) : ∃ A', ob_ok n d D C A' O ∧ (∀ (post : SX → Prop) (g : Nat → Int32), post (nI n, nI d, D, C, A', O, g) → wpX_strikeOff post (nI n, nI d, D, C, A, O, g) c) ∧ (∀ (post : Int32 → SY → Prop) (g : Nat → Int32), (∀ g', post (ob_tot d c d) (nI n, nI d, D, C, A', O, g')) → wpY_perform post (nI n, nI d, D, C, A, O, g) c) := by
  have ok' := ok
  obtain ⟨h2, h5, h7, hD, hC, hA, hO⟩ := ok'
  have hfit : ∀ i, 0 ≤ i → i < d → ob_dg d c i ≤ A i := fun i _ hi => (hcl.2.2.1 i hi).1
  by_cases ht : ob_tot d c d ≤ 0
  · obtain ⟨q, hq, eq⟩ := ob_totN d c d
    have hq0 : q = 0 := by
      rw [eq] at ht
      by_cases z : q = 0
      · exact z
      · exact absurd ht (nI_nle (by omega) (by omega))
    have t0 : ob_tot d c d = 0 := by rw [eq, hq0]; rfl
    obtain ⟨A', hA', hz, hX, hY⟩ := ob_str (n := n) (D := D) (C := C) (O := O) (c := c) (t := 1) h7 (by decide) d 0 A (by omega) hA hfit
    have hAA := hz (ob_tot0 d c d h7 t0)
    rw [hAA] at hX
    refine ⟨A, ok, fun post g hp => ⟨d + 1, hX post g hp⟩, fun post g hp => ?_⟩
    unfold wpY_perform
    dsimp only
    refine ob_yt ok (fun _ g' => ⟨1, ?_⟩) (fun h => absurd hcl h)
    by_cases z : nI d ≤ 0
    · exact br_t z (hp g')
    · exact br_f z (br_f (by decide) (br_t ht (hp g')))
  · obtain ⟨A', hA', hz, hX, hY⟩ := ob_str (n := n) (D := D) (C := C) (O := O) (c := c) h7 ht d 0 A (by omega) hA hfit
    refine ⟨A', ⟨h2, h5, h7, hD, hC, hA', hO⟩, fun post g hp => ⟨d + 1, hX post g hp⟩, fun post g hp => ?_⟩
    unfold wpY_perform
    dsimp only
    exact ob_yt ok (fun _ g' => ⟨d + 1, hY post g' (hp g')⟩) (fun h => absurd hcl h)
