/-! the reference's total -/
theorem ob_yd {post : Int32 → Prop} {d j : Nat} {x c : Int32} {D C A O g : Nat → Int32} (h7 : d ≤ 7) (hj : j < d) (h : post (ob_dg d c j)) : wpY_digit post (x, nI d, D, C, A, O, g) c (nI j) := by
  intro s es
  subst es
  exact br_t (ob_sft d (by omega) j hj) h
theorem ob_y157 {post : Int32 → SY → Prop} {t x y : Int32} {D C A O g : Nat → Int32} : ∀ m j, j + m = 5 → ((∀ q, j ≤ q → q < 5 → g q = 0) → post t (x, y, D, C, A, O, g)) → ((∃ q, q < 5 ∧ ¬ g q = 0) → post (-1) (x, y, D, C, A, O, g)) → wY_total_157 post t x y D C A O g (m + 1) (nI j) := by
  intro m
  induction m with
  | zero =>
    intro j hj h1 h0
    exact br_t (nI_le (a := 5) (by omega) (by omega)) (h1 fun q p s => absurd s (by omega))
  | succ m ih =>
    intro j hj h1 h0
    have e : (nI j).toNatClampNeg = j := nI_clamp (by omega)
    refine br_f (nI_ge (b := 5) (by omega) (by decide)) ⟨vp_in_nI (by omega) (by decide), ?_⟩
    rw [e]
    by_cases z : g j = 0
    · refine br_t z fun x ex => ?_
      rw [ex, nI_1]
      refine ih (j + 1) (by omega) (fun k => h1 fun q p s => ?_) h0
      by_cases w : q = j
      · rw [w]; exact z
      · exact k q (by omega) s
    · exact br_f z (h0 ⟨j, by omega, z⟩)
theorem ob_y112 {post : Int32 → SY → Prop} {J : Int32 → Int32 → (Nat → Int32) → (Nat → Int32) → (Nat → Int32) → (Nat → Int32) → (Nat → Int32) → Prop} {n d N : Nat} {D C A O g : Nat → Int32} {c t : Int32} {j : Nat} (ok : ob_ok n d D C A O) (hj : j < d) (hg : ∀ q, q < N → g q = ob_gn d D C c j q) (hK : ∀ g', (∀ q, q < N → g' q = ob_gn d D C c (j + 1) q) → J (t + ob_dg d c j) (nI (j + 1)) D C A O g') : wY_total_112 post J c t (nI j) (ob_dg d c j) (nI n) (nI d) D C A O g := by
  obtain ⟨h2, h5, h7, hD, hC, hA, hO⟩ := ok
  obtain ⟨a, ha, ea⟩ := hD j hj
  obtain ⟨b, hb, eb⟩ := hC j hj
  have e : (nI j).toNatClampNeg = j := nI_clamp (by omega)
  have e1 : (nI a).toNatClampNeg = a := nI_clamp (by omega)
  have e2 : (nI b).toNatClampNeg = b := nI_clamp (by omega)
  have i7 : vp_in (nI j) 7 := vp_in_nI (by omega) (by decide)
  have ia : vp_in (nI a) 5 := vp_in_nI (by omega) (by decide)
  have ib : vp_in (nI b) 5 := vp_in_nI (by omega) (by decide)
  unfold wY_total_112
  rw [e, ea, eb, e1, e2]
  refine ⟨i7, ia, ia, fun g1 eg1 => ⟨i7, ib, ib, fun g2 eg2 s es x ex => ?_⟩⟩
  rw [nI_1] at ex
  subst es ex eg1
  refine hK g2 fun q hq => ?_
  rw [eg2, ob_gy]
  show _ = ob_gn d D C c j q + (if q = (C j).toNatClampNeg then ob_dg d c j else 0) - (if q = (D j).toNatClampNeg then ob_dg d c j else 0)
  rw [ea, eb, e1, e2, hg q hq]
theorem ob_y42 {post : Int32 → SY → Prop} {n d : Nat} {D C A O : Nat → Int32} {c : Int32} (ok : ob_ok n d D C A O) : ∀ (m j : Nat) (g : Nat → Int32), j + m = d → (∀ q, q < 5 → g q = ob_gn d D C c j q) → ((∀ i, j ≤ i → i < d → ob_fit d D C A O c i) ∧ (∀ q, q < n → ob_gn d D C c d q = 0) → ∀ g', post (ob_tot d c d) (nI n, nI d, D, C, A, O, g')) → (¬ ((∀ i, j ≤ i → i < d → ob_fit d D C A O c i) ∧ (∀ q, q < n → ob_gn d D C c d q = 0)) → ∀ g', post (-1) (nI n, nI d, D, C, A, O, g')) → wY_total_42 post c (nI n) (nI d) (m + 1) (ob_tot d c j) (nI j) D C A O g := by
  have ok' := ok
  obtain ⟨h2, h5, h7, hD, hC, hA, hO⟩ := ok'
  intro m
  induction m with
  | zero =>
    intro j g hj hg h1 h0
    have hjd : j = d := by omega
    subst hjd
    refine br_t (nI_le (by omega) (by omega)) ⟨5 + 1, ob_y157 5 0 (by omega) (fun k => h1 ⟨fun i p s => absurd s (by omega), fun q hq => ?_⟩ g) (fun ⟨q, hq, z⟩ => h0 (fun k => z ?_) g)⟩
    · rw [← hg q (by omega)]; exact k q (by omega) (by omega)
    · rw [hg q hq]
      by_cases hn : q < n
      · exact k.2 q hn
      · exact ob_gn_out ok (by omega) j (by omega)
  | succ m ih =>
    intro j g hj hg h1 h0
    have hjd : j < d := by omega
    have e : (nI j).toNatClampNeg = j := nI_clamp (by omega)
    obtain ⟨a, ha, ea⟩ := hD j hjd
    obtain ⟨b, hb, eb⟩ := hC j hjd
    have i7 : vp_in (nI j) 7 := vp_in_nI (by omega) (by decide)
    have ia : vp_in (D j) 5 := by rw [ea]; exact vp_in_nI (by omega) (by decide)
    have ib : vp_in (C j) 5 := by rw [eb]; exact vp_in_nI (by omega) (by decide)
    have step : ob_fit d D C A O c j → wY_total_112 post (wY_total_42 post c (nI n) (nI d) (m + 1)) c (ob_tot d c j) (nI j) (ob_dg d c j) (nI n) (nI d) D C A O g := by
      intro hf
      refine ob_y112 ok hjd hg fun g' hg' => ?_
      refine ih (j + 1) g' (by omega) hg' (fun k => h1 ⟨fun i p s => ?_, k.2⟩) (fun k => h0 fun k' => k ⟨fun i p s => k'.1 i (by omega) s, k'.2⟩)
      by_cases z : i = j
      · rw [z]; exact hf
      · exact k.1 i (by omega) s
    refine br_f (nI_ge hjd (by omega)) (br_f (nI_ge (b := 7) (by omega) (by decide)) (ob_yd h7 hjd ⟨i7, ?_⟩))
    rw [e]
    by_cases zA : ob_dg d c j ≤ A j
    · refine br_t zA ?_
      by_cases z0 : ob_dg d c j ≤ 0
      · exact br_t z0 (step ⟨zA, Or.inl z0⟩)
      · refine br_f z0 ⟨i7, ia, ?_⟩
        by_cases z1 : O (D j).toNatClampNeg = 0
        · refine br_t z1 ⟨i7, ib, ?_⟩
          by_cases z2 : O (C j).toNatClampNeg = 0
          · exact br_t z2 (step ⟨zA, Or.inr ⟨z1, z2⟩⟩)
          · exact br_f z2 (h0 (fun k => (k.1 j (by omega) hjd).2.elim z0 fun p => z2 p.2) g)
        · exact br_f z1 (h0 (fun k => (k.1 j (by omega) hjd).2.elim z0 fun p => z1 p.1) g)
    · exact br_f zA (h0 (fun k => zA (k.1 j (by omega) hjd).1) g)
theorem ob_y20 {post : Int32 → SY → Prop} {n d : Nat} {D C A O : Nat → Int32} {c : Int32} (ok : ob_ok n d D C A O) (h1 : (∀ i, i < d → ob_fit d D C A O c i) ∧ (∀ q, q < n → ob_gn d D C c d q = 0) → ∀ g', post (ob_tot d c d) (nI n, nI d, D, C, A, O, g')) (h0 : ¬ ((∀ i, i < d → ob_fit d D C A O c i) ∧ (∀ q, q < n → ob_gn d D C c d q = 0)) → ∀ g', post (-1) (nI n, nI d, D, C, A, O, g')) : ∀ (m j : Nat) (g : Nat → Int32), j + m = 5 → (∀ q, q < j → g q = 0) → wY_total_20 post c (nI n) (nI d) (m + 1) (nI j) D C A O g := by
  intro m
  induction m with
  | zero =>
    intro j g hj hg
    refine br_t (nI_le (a := 5) (by omega) (by omega)) ⟨d + 1, ob_y42 ok d 0 g (by omega) (fun q hq => hg q (by omega)) (fun k => h1 ⟨fun i s => k.1 i (by omega) s, k.2⟩) (fun k => h0 fun k' => k ⟨fun i p s => k'.1 i s, k'.2⟩)⟩
  | succ m ih =>
    intro j g hj hg
    have e : (nI j).toNatClampNeg = j := nI_clamp (by omega)
    refine br_f (nI_ge (b := 5) (by omega) (by decide)) ⟨vp_in_nI (by omega) (by decide), fun g' eg x ex => ?_⟩
    rw [e] at eg
    rw [ex, nI_1]
    refine ih (j + 1) g' (by omega) fun q hq => ?_
    rw [eg]
    by_cases z : q = j
    · rw [z]; exact pk_us
    · rw [pk_un z]; exact hg q (by omega)
theorem ob_yt {post : Int32 → SY → Prop} {n d : Nat} {D C A O : Nat → Int32} {c : Int32} {g : Nat → Int32} (ok : ob_ok n d D C A O) (h1 : ob_cl n d D C A O c → ∀ g', post (ob_tot d c d) (nI n, nI d, D, C, A, O, g')) (h0 : ¬ ob_cl n d D C A O c → ∀ g', post (-1) (nI n, nI d, D, C, A, O, g')) : wpY_total post (nI n, nI d, D, C, A, O, g) c := by
  unfold wpY_total
  dsimp only
  have h7 := ok.2.2.1
  rw [ob_cc d (by omega)]
  by_cases z0 : c < 0
  · exact br_t z0 (h0 (fun k => k.1 z0) g)
  · refine br_f z0 ?_
    by_cases z1 : c < nI (ob_E d)
    · exact br_t z1 ⟨5 + 1, ob_y20 ok (fun k => h1 ⟨z0, z1, k.1, k.2⟩) (fun k => h0 fun k' => k ⟨k'.2.2.1, k'.2.2.2⟩) 5 0 g (by omega) (fun q hq => absurd hq (by omega))⟩
    · exact br_f z1 (h0 (fun k => z1 k.2.1) g)
