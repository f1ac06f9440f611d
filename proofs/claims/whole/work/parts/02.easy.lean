/-! pay: both shift the same cells, the component at j + 1, the reference at j -/
theorem ob_sh1 {X : Nat → Int32} {d j m : Nat} (h : ∀ i, i < d → ∃ a, a < m ∧ X i = nI a) (hj : j + 1 < d) : ∀ i, i < d → ∃ a, a < m ∧ upd X j (X (j + 1)) i = nI a := by
  obtain ⟨b, hb, e⟩ := h (j + 1) hj
  rw [e]
  exact ob_put (fun i p q => h i p) hb
theorem ob_pay {n d : Nat} {O g h : Nat → Int32} (h7 : d ≤ 7) : ∀ (m j : Nat) (D C A : Nat → Int32), j + 1 + m = d → ob_ok n d D C A O → ∃ D' C' A', ob_ok n (d - 1) D' C' A' O ∧ (∀ post : Int32 → SX → Prop, post (nI (d - 1)) (nI n, nI (d - 1), D', C', A', O, g) → wX_pay_14 post (nI n) (nI d) (m + 1) (nI (j + 1)) D C A O g) ∧ (∀ post : Int32 → SY → Prop, post (nI (d - 1)) (nI n, nI (d - 1), D', C', A', O, h) → wY_pay_12 post (nI n) (nI d) (m + 1) (nI j) D C A O h) := by
  intro m
  induction m with
  | zero =>
    intro j D C A hj ok
    have e1 : nI d - 1 = nI (d - 1) := pk_sub (b := 1) (by omega)
    obtain ⟨h2, h5, h7, hD, hC, hA, hO⟩ := ok
    refine ⟨D, C, A, ⟨h2, h5, by omega, fun i p => hD i (by omega), fun i p => hC i (by omega), fun i p => hA i (by omega), hO⟩, fun post hp => ?_, fun post hp => ?_⟩
    · refine br_t (nI_le (by omega) (by omega)) fun f ef => ?_
      rw [ef, e1]
      exact hp
    · have hc : nI d - 1 ≤ nI j := by rw [e1]; exact nI_le (by omega) (by omega)
      refine br_t hc fun f ef => ?_
      rw [ef, e1]
      exact hp
  | succ m ih =>
    intro j D C A hj ok
    have e1 : nI d - 1 = nI (d - 1) := pk_sub (b := 1) (by omega)
    have e2 : nI (j + 1) - 1 = nI j := pk_sub (b := 1) (by omega)
    have e3 : (nI j).toNatClampNeg = j := nI_clamp (by omega)
    have e4 : (nI (j + 1)).toNatClampNeg = j + 1 := nI_clamp (by omega)
    have i1 : vp_in (nI j) 7 := vp_in_nI (by omega) (by decide)
    have i2 : vp_in (nI (j + 1)) 7 := vp_in_nI (by omega) (by decide)
    obtain ⟨h2, h5, h7, hD, hC, hA, hO⟩ := ok
    obtain ⟨D', C', A', ok', hX, hY⟩ := ih (j + 1) (upd D j (D (j + 1))) (upd C j (C (j + 1))) (upd A j (A (j + 1))) (by omega) ⟨h2, h5, h7, ob_sh1 hD (by omega), ob_sh1 hC (by omega), ob_sh1 hA (by omega), hO⟩
    refine ⟨D', C', A', ok', fun post hp => ?_, fun post hp => ?_⟩
    · refine br_f (nI_ge (by omega) (by omega)) ?_
      rw [e2, e3, e4]
      refine ⟨i2, i1, fun D1 eD => ⟨i2, i1, fun C1 eC => ⟨i2, i1, fun A1 eA => fun x ex => ?_⟩⟩⟩
      rw [nI_1] at ex
      subst eD eC eA ex
      exact hX post hp
    · have hc : ¬ nI d - 1 ≤ nI j := by rw [e1]; exact nI_ge (by omega) (by omega)
      refine br_f hc (br_f (nI_ge (b := 6) (by omega) (by decide)) ?_)
      rw [nI_1, e3, e4]
      refine ⟨i2, i1, fun D1 eD => ⟨i2, i1, fun C1 eC => ⟨i2, i1, fun A1 eA => fun x ex => ?_⟩⟩⟩
      subst eD eC eA ex
      exact hY post hp
theorem i_vc_pay {k : Nat} {u : SX} {v : SY} (I : i_Rel k u v) (hk : k + 4 ≤ 2049) (v1 : Int32) : wpX_pay (fun r u' => wpY_pay (fun r' v' => r' = r ∧ i_Rel (k + 4) u' v') v v1) u v1 := by
  obtain ⟨n, d, D, C, A, O, g, h, rfl, rfl, ok⟩ := I
  have h7 := ok.2.2.1
  unfold wpX_pay wpY_pay
  dsimp only
  rcases ob_ix v1 (n := d) (by omega) with hv | ⟨a, ha, rfl⟩
  · exact ob_xd0 hv (br_t rfl (ob_yd0 hv (br_f (by decide) ⟨rfl, ob_rel ok⟩)))
  obtain ⟨D', C', A', ok', hX, hY⟩ := ob_pay (g := g) (h := h) h7 (d - (a + 1)) a D C A (by omega) ok
  refine ob_xd1 h7 ha (br_f (by decide) fun x ex => ⟨d - (a + 1) + 1, ?_⟩)
  rw [ex, nI_1]
  exact hX _ (ob_yd1 h7 ha (br_t rfl ⟨d - (a + 1) + 1, hY _ ⟨rfl, ob_rel ok'⟩⟩))
theorem ob_nar0 : vp_nar .boolean 0 = 0 := by decide
theorem ob_nar1 : vp_nar .boolean 1 = 1 := by decide
theorem ob_out {O : Nat → Int32} {a : Nat} {x : Int32} (h : ∀ j, O j = 0 ∨ O j = 1) (hx : x = 0 ∨ x = 1) : ∀ j, upd O a x j = 0 ∨ upd O a x j = 1 := by
  intro j
  by_cases z : j = a
  · rw [z, pk_us]; exact hx
  · rw [pk_un z]; exact h j
theorem ob_excl {k n d a : Nat} {D C A O g h : Nat → Int32} (ok : ob_ok n d D C A O) (ha : a < n) (z v2 : Int32) {PY : Prop} (hY : (∀ r, (r = z → wY_exclude_24 (fun r' v' => r' = r ∧ i_Rel (k + 4) (nI n, nI d, D, C, A, (if v2 = 0 then upd O a 0 else upd O a 1), g) v') (nI a) v2 z (nI n) (nI d) D C A O h)) → PY) : PY := by
  obtain ⟨h2, h5, h7, hD, hC, hA, hO⟩ := ok
  have e : (nI a).toNatClampNeg = a := nI_clamp (by omega)
  have hi : vp_in (nI a) 5 := vp_in_nI (by omega) (by decide)
  refine hY fun r er => ?_
  by_cases z2 : v2 = 0
  · rw [if_pos z2]
    refine br_t z2 ⟨hi, fun O' eO => ?_⟩
    rw [e, ob_nar0] at eO
    subst eO
    exact ⟨er.symm, ob_rel ⟨h2, h5, h7, hD, hC, hA, ob_out hO (Or.inl rfl)⟩⟩
  · rw [if_neg z2]
    refine br_f z2 ⟨hi, fun O' eO => ?_⟩
    rw [e, ob_nar1] at eO
    subst eO
    exact ⟨er.symm, ob_rel ⟨h2, h5, h7, hD, hC, hA, ob_out hO (Or.inr rfl)⟩⟩
theorem ob_xexcl {post : Int32 → SX → Prop} {n d a : Nat} {D C A O g : Nat → Int32} (h5 : n ≤ 5) (ha : a < n) (z v2 : Int32) (hp : post z (nI n, nI d, D, C, A, (if v2 = 0 then upd O a 0 else upd O a 1), g)) : wX_exclude_24 post (nI a) v2 z (nI n) (nI d) D C A O g := by
  have e : (nI a).toNatClampNeg = a := nI_clamp (by omega)
  have hi : vp_in (nI a) 5 := vp_in_nI (by omega) (by decide)
  by_cases z2 : v2 = 0
  · rw [if_pos z2] at hp
    refine br_t z2 ⟨hi, fun O' eO => ?_⟩
    rw [e, ob_nar0] at eO
    subst eO
    exact hp
  · rw [if_neg z2] at hp
    refine br_f z2 ⟨hi, fun O' eO => ?_⟩
    rw [e, ob_nar1] at eO
    subst eO
    exact hp
theorem i_vc_exclude {k : Nat} {u : SX} {v : SY} (I : i_Rel k u v) (hk : k + 4 ≤ 2049) (v1 : Int32) (v2 : Int32) : wpX_exclude (fun r u' => wpY_exclude (fun r' v' => r' = r ∧ i_Rel (k + 4) u' v') v v1 v2) u v1 v2 := by
  obtain ⟨n, d, D, C, A, O, g, h, rfl, rfl, ok⟩ := I
  have h5 := ok.2.1
  unfold wpX_exclude wpY_exclude
  dsimp only
  rcases ob_ix v1 (n := n) (by omega) with hv | ⟨a, ha, rfl⟩
  · exact ob_xf0 hv (br_t rfl (ob_yf0 hv (br_f (by decide) ⟨rfl, ob_rel ok⟩)))
  have hi : vp_in (nI a) 5 := vp_in_nI (by omega) (by decide)
  by_cases z : O (nI a).toNatClampNeg = 0
  · refine ob_xf1 h5 ha (br_f (by decide) ⟨hi, br_t z (ob_xexcl h5 ha 0 v2 (ob_yf1 h5 ha (br_t rfl ⟨hi, br_t z ?_⟩)))⟩)
    exact ob_excl ok ha 0 v2 (fun H => H 0 rfl)
  · refine ob_xf1 h5 ha (br_f (by decide) ⟨hi, br_f z (ob_xexcl h5 ha 1 v2 (ob_yf1 h5 ha (br_t rfl ⟨hi, br_f z ?_⟩)))⟩)
    exact ob_excl ok ha 1 v2 (fun H => H 1 rfl)
theorem i_vc_debts {k : Nat} {u : SX} {v : SY} (I : i_Rel k u v) (hk : k + 4 ≤ 2049) : wpX_debts (fun r => wpY_debts (fun r' => r' = r ∧ i_Rel (k + 4) u v) v) u := by
  obtain ⟨n, d, D, C, A, O, g, h, rfl, rfl, ok⟩ := I
  exact ⟨rfl, ob_rel ok⟩
theorem i_vc_amount {k : Nat} {u : SX} {v : SY} (I : i_Rel k u v) (hk : k + 4 ≤ 2049) (v1 : Int32) : wpX_amount (fun r => wpY_amount (fun r' => r' = r ∧ i_Rel (k + 4) u v) v v1) u v1 := by
  obtain ⟨n, d, D, C, A, O, g, h, rfl, rfl, ok⟩ := I
  have h7 := ok.2.2.1
  unfold wpX_amount wpY_amount
  dsimp only
  rcases ob_ix v1 (n := d) (by omega) with hv | ⟨a, ha, rfl⟩
  · exact ob_xd0 hv (br_t rfl (ob_yd0 hv (br_f (by decide) ⟨rfl, ob_rel ok⟩)))
  have hi : vp_in (nI a) 7 := vp_in_nI (by omega) (by decide)
  exact ob_xd1 h7 ha (br_f (by decide) ⟨hi, ob_yd1 h7 ha (br_t rfl ⟨hi, ⟨rfl, ob_rel ok⟩⟩)⟩)
/-! sums over the debts, in lockstep -/
theorem ob_outs {n d : Nat} {D C A O g h : Nat → Int32} (h7 : d ≤ 7) : ∀ (m j : Nat) (s : Int32), j + m = d → ∃ r : Int32, (∀ post : Int32 → Prop, post r → wX_outstanding_4 post (nI n) (nI d) D C A O g (m + 1) s (nI j)) ∧ (∀ post : Int32 → Prop, post r → wY_outstanding_4 post (nI n) (nI d) D C A O h (m + 1) s (nI j)) := by
  intro m
  induction m with
  | zero =>
    intro j s hj
    have hc : nI d ≤ nI j := nI_le (by omega) (by omega)
    exact ⟨s, fun _ hp => br_t hc hp, fun _ hp => br_t hc hp⟩
  | succ m ih =>
    intro j s hj
    have hc : ¬ nI d ≤ nI j := nI_ge (by omega) (by omega)
    have h6 : ¬ 7 ≤ nI j := nI_ge (b := 7) (by omega) (by decide)
    have hi : vp_in (nI j) 7 := vp_in_nI (by omega) (by decide)
    obtain ⟨r, hX, hY⟩ := ih (j + 1) (s + A (nI j).toNatClampNeg) (by omega)
    refine ⟨r, fun post hp => br_f hc ⟨hi, fun s' es x ex => ?_⟩, fun post hp => br_f hc (br_f h6 ⟨hi, fun s' es x ex => ?_⟩)⟩
    · rw [nI_1] at ex; subst es ex; exact hX post hp
    · rw [nI_1] at ex; subst es ex; exact hY post hp
theorem i_vc_outstanding {k : Nat} {u : SX} {v : SY} (I : i_Rel k u v) (hk : k + 4 ≤ 2049) : wpX_outstanding (fun r => wpY_outstanding (fun r' => r' = r ∧ i_Rel (k + 4) u v) v) u := by
  obtain ⟨n, d, D, C, A, O, g, h, rfl, rfl, ok⟩ := I
  obtain ⟨r, hX, hY⟩ := ob_outs (n := n) (D := D) (C := C) (A := A) (O := O) (g := g) (h := h) ok.2.2.1 d 0 0 (by omega)
  exact ⟨d + 1, hX _ ⟨d + 1, hY _ ⟨rfl, ob_rel ok⟩⟩⟩
theorem ob_bals {n d : Nat} {D C A O g h : Nat → Int32} {f : Int32} (h7 : d ≤ 7) : ∀ (m j : Nat) (s : Int32), j + m = d → ∃ r : Int32, (∀ post : Int32 → Prop, post r → wX_balanceOf_4 post f (nI n) (nI d) D C A O g (m + 1) s (nI j)) ∧ (∀ post : Int32 → Prop, post r → wY_saldo_4 post f (nI n) (nI d) D C A O h (m + 1) s (nI j)) := by
  intro m
  induction m with
  | zero =>
    intro j s hj
    have hc : nI d ≤ nI j := nI_le (by omega) (by omega)
    exact ⟨s, fun _ hp => br_t hc hp, fun _ hp => br_t hc hp⟩
  | succ m ih =>
    intro j s hj
    have hc : ¬ nI d ≤ nI j := nI_ge (by omega) (by omega)
    have h6 : ¬ 7 ≤ nI j := nI_ge (b := 7) (by omega) (by decide)
    have hi : vp_in (nI j) 7 := vp_in_nI (by omega) (by decide)
    have key : ∀ s1 : Int32, ∃ r : Int32, (∀ post : Int32 → Prop, post r → wX_balanceOf_31 post (wX_balanceOf_4 post f (nI n) (nI d) D C A O g (m + 1)) f s1 (nI j) (nI n) (nI d) D C A O g) ∧ (∀ post : Int32 → Prop, post r → wY_saldo_37 post (wY_saldo_4 post f (nI n) (nI d) D C A O h (m + 1)) f s1 (nI j) (nI n) (nI d) D C A O h) := by
      intro s1
      by_cases z : D (nI j).toNatClampNeg = f
      · obtain ⟨r, hX, hY⟩ := ih (j + 1) (s1 - A (nI j).toNatClampNeg) (by omega)
        refine ⟨r, fun post hp => ⟨hi, br_t z ⟨hi, fun s' es x ex => ?_⟩⟩, fun post hp => ⟨hi, br_t z ⟨hi, fun s' es x ex => ?_⟩⟩⟩
        · rw [nI_1] at ex; subst es ex; exact hX post hp
        · rw [nI_1] at ex; subst es ex; exact hY post hp
      · obtain ⟨r, hX, hY⟩ := ih (j + 1) s1 (by omega)
        refine ⟨r, fun post hp => ⟨hi, br_f z fun x ex => ?_⟩, fun post hp => ⟨hi, br_f z fun x ex => ?_⟩⟩
        · rw [nI_1] at ex; subst ex; exact hX post hp
        · rw [nI_1] at ex; subst ex; exact hY post hp
    by_cases z : C (nI j).toNatClampNeg = f
    · obtain ⟨r, hX, hY⟩ := key (s + A (nI j).toNatClampNeg)
      refine ⟨r, fun post hp => br_f hc ⟨hi, br_t z ⟨hi, fun s' es => ?_⟩⟩, fun post hp => br_f hc (br_f h6 ⟨hi, br_t z ⟨hi, fun s' es => ?_⟩⟩)⟩
      · subst es; exact hX post hp
      · subst es; exact hY post hp
    · obtain ⟨r, hX, hY⟩ := key s
      exact ⟨r, fun post hp => br_f hc ⟨hi, br_f z (hX post hp)⟩, fun post hp => br_f hc (br_f h6 ⟨hi, br_f z (hY post hp)⟩)⟩
theorem ob_bal {n d : Nat} {D C A O : Nat → Int32} (g h : Nat → Int32) (f : Int32) (h7 : d ≤ 7) : ∃ r : Int32, (∀ post : Int32 → Prop, post r → wpX_balanceOf post (nI n, nI d, D, C, A, O, g) f) ∧ (∀ post : Int32 → Prop, post r → wpY_saldo post (nI n, nI d, D, C, A, O, h) f) := by
  obtain ⟨r, hX, hY⟩ := ob_bals (n := n) (D := D) (C := C) (A := A) (O := O) (g := g) (h := h) (f := f) h7 d 0 0 (by omega)
  exact ⟨r, fun post hp => ⟨d + 1, hX post hp⟩, fun post hp => ⟨d + 1, hY post hp⟩⟩
theorem i_vc_balance {k : Nat} {u : SX} {v : SY} (I : i_Rel k u v) (hk : k + 4 ≤ 2049) (v1 : Int32) : wpX_balance (fun r => wpY_balance (fun r' => r' = r ∧ i_Rel (k + 4) u v) v v1) u v1 := by
  obtain ⟨n, d, D, C, A, O, g, h, rfl, rfl, ok⟩ := I
  have h5 := ok.2.1
  unfold wpX_balance wpY_balance
  dsimp only
  rcases ob_ix v1 (n := n) (by omega) with hv | ⟨a, ha, rfl⟩
  · exact ob_xf0 hv (br_t rfl (ob_yf0 hv (br_f (by decide) ⟨rfl, ob_rel ok⟩)))
  obtain ⟨r, hX, hY⟩ := ob_bal (n := n) (D := D) (C := C) (A := A) (O := O) g h (nI a) ok.2.2.1
  exact ob_xf1 h5 ha (br_f (by decide) (hX _ (ob_yf1 h5 ha (br_t rfl (hY _ ⟨rfl, ob_rel ok⟩)))))
theorem ob_least {n d : Nat} {D C A O g h : Nat → Int32} (h5 : n ≤ 5) (h7 : d ≤ 7) : ∀ (m j : Nat) (s : Int32), j + m = n → ∃ r : Int32, (∀ post : Int32 → Prop, post r → wX_least_4 post (nI n) (nI d) D C A O g (m + 1) s (nI j)) ∧ (∀ post : Int32 → Prop, post r → wY_least_4 post (nI n) (nI d) D C A O h (m + 1) s (nI j)) := by
  intro m
  induction m with
  | zero =>
    intro j s hj
    have hc : nI n ≤ nI j := nI_le (by omega) (by omega)
    exact ⟨s, fun _ hp => br_t hc hp, fun _ hp => br_t hc hp⟩
  | succ m ih =>
    intro j s hj
    have hc : ¬ nI n ≤ nI j := nI_ge (by omega) (by omega)
    obtain ⟨b, bX, bY⟩ := ob_bal (n := n) (D := D) (C := C) (A := A) (O := O) g h (nI j) h7
    by_cases z : b ≤ 0
    · obtain ⟨r, hX, hY⟩ := ih (j + 1) s (by omega)
      refine ⟨r, fun post hp => br_f hc (bX _ (br_t z fun x ex => ?_)), fun post hp => br_f hc (bY _ (br_t z fun x ex => ?_))⟩
      · rw [nI_1] at ex; subst ex; exact hX post hp
      · rw [nI_1] at ex; subst ex; exact hY post hp
    · obtain ⟨r, hX, hY⟩ := ih (j + 1) (s + b) (by omega)
      refine ⟨r, fun post hp => br_f hc (bX _ (br_f z fun s' es x ex => ?_)), fun post hp => br_f hc (bY _ (br_f z fun s' es x ex => ?_))⟩
      · rw [nI_1] at ex; subst es ex; exact hX post hp
      · rw [nI_1] at ex; subst es ex; exact hY post hp
theorem i_vc_least {k : Nat} {u : SX} {v : SY} (I : i_Rel k u v) (hk : k + 4 ≤ 2049) : wpX_least (fun r => wpY_least (fun r' => r' = r ∧ i_Rel (k + 4) u v) v) u := by
  obtain ⟨n, d, D, C, A, O, g, h, rfl, rfl, ok⟩ := I
  obtain ⟨r, hX, hY⟩ := ob_least (n := n) (D := D) (C := C) (A := A) (O := O) (g := g) (h := h) ok.2.1 ok.2.2.1 n 0 0 (by omega)
  exact ⟨n + 1, hX _ ⟨n + 1, hY _ ⟨rfl, ob_rel ok⟩⟩⟩
