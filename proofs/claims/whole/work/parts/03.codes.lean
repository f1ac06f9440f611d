/-! codes: digits, totals, gains, and what a clearing is -/
def ob_E (d : Nat) : Nat := 4 ^ d
theorem ob_Eb : ∀ d, d < 8 → 0 < ob_E d ∧ ob_E d ≤ 16384 := by decide +kernel
theorem ob_cc : ∀ d, d < 8 → (1 : Int32) <<< ((2 * nI d) &&& 31) = nI (ob_E d) := by decide +kernel
theorem ob_sft : ∀ d, d < 8 → ∀ i, i < d → (0 : Int32) ≤ 2 * ((nI d - 1) - nI i) := by decide +kernel
def ob_dg (d : Nat) (c : Int32) (i : Nat) : Int32 := (c >>> ((2 * ((nI d - 1) - nI i)) &&& 31)) &&& 3
theorem ob_dgN (d : Nat) (c : Int32) (i : Nat) : ∃ q, q < 4 ∧ ob_dg d c i = nI q := pk_andE _ 2 (by decide)
theorem ob_dg0 (d i : Nat) : ob_dg d 0 i = 0 := by simp [ob_dg]
def ob_tot (d : Nat) (c : Int32) : Nat → Int32
  | 0 => 0
  | i + 1 => ob_tot d c i + ob_dg d c i
theorem ob_totN (d : Nat) (c : Int32) : ∀ i, ∃ q, q ≤ 3 * i ∧ ob_tot d c i = nI q := by
  intro i
  induction i with
  | zero => exact ⟨0, by omega, rfl⟩
  | succ i ih =>
    obtain ⟨q, hq, e⟩ := ih
    obtain ⟨p, hp, e'⟩ := ob_dgN d c i
    refine ⟨q + p, by omega, ?_⟩
    show ob_tot d c i + ob_dg d c i = _
    rw [e, e', nI_add]
theorem ob_tot0 (d : Nat) (c : Int32) : ∀ i, i ≤ 7 → ob_tot d c i = 0 → ∀ j, j < i → ob_dg d c j = 0 := by
  intro i
  induction i with
  | zero => intro _ _ j hj; exact absurd hj (by omega)
  | succ i ih =>
    intro hi h j hj
    obtain ⟨q, hq, e⟩ := ob_totN d c i
    obtain ⟨p, hp, e'⟩ := ob_dgN d c i
    have h' : nI (q + p) = nI 0 := by
      rw [← nI_add, ← e, ← e']
      exact h
    have h0 : q + p = 0 := (nI_eq (by omega) (by omega)).mp h'
    have hq0 : q = 0 := by omega
    have hp0 : p = 0 := by omega
    subst hq0 hp0
    by_cases z : j = i
    · rw [z, e']; rfl
    · exact ih (by omega) e j (by omega)
theorem ob_tot00 (d : Nat) : ∀ i, ob_tot d 0 i = 0 := by
  intro i
  induction i with
  | zero => rfl
  | succ i ih =>
    show ob_tot d 0 i + ob_dg d 0 i = 0
    rw [ih, ob_dg0]; rfl
theorem ob_totP (d : Nat) (c : Int32) (i : Nat) (hi : i ≤ 7) : 0 ≤ ob_tot d c i := by
  obtain ⟨q, hq, e⟩ := ob_totN d c i
  rw [e]
  exact nI_pos' (by omega)
/-- what each firm has gained by the first debts' digits -/
def ob_gn (d : Nat) (D C : Nat → Int32) (c : Int32) : Nat → Nat → Int32
  | 0 => fun _ => 0
  | i + 1 => fun j => ob_gn d D C c i j + (if j = (C i).toNatClampNeg then ob_dg d c i else 0) - (if j = (D i).toNatClampNeg then ob_dg d c i else 0)
theorem ob_gn_out {n d : Nat} {D C A O : Nat → Int32} {c : Int32} (ok : ob_ok n d D C A O) {q : Nat} (hq : n ≤ q) : ∀ i, i ≤ d → ob_gn d D C c i q = 0 := by
  obtain ⟨h2, h5, h7, hD, hC, hA, hO⟩ := ok
  intro i
  induction i with
  | zero => intro _; rfl
  | succ i ih =>
    intro hi
    obtain ⟨a, ha, ea⟩ := hD i (by omega)
    obtain ⟨b, hb, eb⟩ := hC i (by omega)
    show ob_gn d D C c i q + (if q = (C i).toNatClampNeg then ob_dg d c i else 0) - (if q = (D i).toNatClampNeg then ob_dg d c i else 0) = 0
    rw [ea, eb, nI_clamp (by omega), nI_clamp (by omega), if_neg (by omega), if_neg (by omega), ih (by omega)]
    rfl
theorem ob_gn0 (d : Nat) (D C : Nat → Int32) (q : Nat) : ∀ i, ob_gn d D C 0 i q = 0 := by
  intro i
  induction i with
  | zero => rfl
  | succ i ih =>
    show ob_gn d D C 0 i q + (if q = (C i).toNatClampNeg then ob_dg d 0 i else 0) - (if q = (D i).toNatClampNeg then ob_dg d 0 i else 0) = 0
    rw [ih, ob_dg0]
    simp
def ob_fit (d : Nat) (D C A P : Nat → Int32) (c : Int32) (i : Nat) : Prop := ob_dg d c i ≤ A i ∧ (ob_dg d c i ≤ 0 ∨ (P (D i).toNatClampNeg = 0 ∧ P (C i).toNatClampNeg = 0))
/-- the code c is that of a clearing, the firms with P not 0 being out -/
def ob_cl (n d : Nat) (D C A P : Nat → Int32) (c : Int32) : Prop := ¬ c < 0 ∧ c < nI (ob_E d) ∧ (∀ i, i < d → ob_fit d D C A P c i) ∧ (∀ q, q < n → ob_gn d D C c d q = 0)
theorem ob_cl0 {n d : Nat} {D C A O : Nat → Int32} (ok : ob_ok n d D C A O) : ob_cl n d D C A O 0 := by
  obtain ⟨h2, h5, h7, hD, hC, hA, hO⟩ := ok
  have hE := ob_Eb d (by omega)
  refine ⟨by decide, nI_lt (a := 0) hE.1 (by omega), fun i hi => ?_, fun q hq => ob_gn0 d D C q d⟩
  obtain ⟨a, ha, e⟩ := hA i hi
  unfold ob_fit
  rw [ob_dg0, e]
  exact ⟨nI_pos' (by omega), Or.inl (by decide)⟩
/-! the component's clears -/
theorem ob_xs {post : Int32 → Prop} {d j : Nat} {x c : Int32} {D C A O g : Nat → Int32} (h : post (ob_dg d c j)) : wpX_struckOff post (x, nI d, D, C, A, O, g) c (nI j) := h
theorem ob_xcc {post : Int32 → Prop} {d : Nat} {x : Int32} {D C A O g : Nat → Int32} (h7 : d ≤ 7) (h : post (nI (ob_E d))) : wpX_codeCount post (x, nI d, D, C, A, O, g) := by
  unfold wpX_codeCount
  dsimp only
  rw [ob_cc d (by omega)]
  exact h
theorem ob_xl {post : Int32 → Prop} {n d j : Nat} {D C A O P g : Nat → Int32} {w : Int32} (ok : ob_ok n d D C A O) (hw : ∀ a, a < n → (P a = 0 ↔ O a = 0 ∧ ¬ nI a = w)) (hj : j < d) (h1 : P (D j).toNatClampNeg = 0 ∧ P (C j).toNatClampNeg = 0 → post (A j)) (h0 : ¬ (P (D j).toNatClampNeg = 0 ∧ P (C j).toNatClampNeg = 0) → post 0) : wpX_limit post (nI n, nI d, D, C, A, O, g) (nI j) w := by
  obtain ⟨h2, h5, h7, hD, hC, hA, hO⟩ := ok
  obtain ⟨a, ha, ea⟩ := hD j hj
  obtain ⟨b, hb, eb⟩ := hC j hj
  have e : (nI j).toNatClampNeg = j := nI_clamp (by omega)
  have e1 : (nI a).toNatClampNeg = a := nI_clamp (by omega)
  have e2 : (nI b).toNatClampNeg = b := nI_clamp (by omega)
  have i7 : vp_in (nI j) 7 := vp_in_nI (by omega) (by decide)
  have ia : vp_in (nI a) 5 := vp_in_nI (by omega) (by decide)
  have ib : vp_in (nI b) 5 := vp_in_nI (by omega) (by decide)
  rw [ea, eb, e1, e2, hw a ha, hw b hb] at h1 h0
  refine ⟨i7, fun x ex => ⟨i7, fun y ey => ?_⟩⟩
  rw [e, ea] at ex
  rw [e, eb] at ey
  subst ex ey
  refine ⟨ia, ?_⟩
  rw [e1]
  by_cases z1 : O a = 0
  · refine br_t z1 ⟨ib, ?_⟩
    rw [e2]
    by_cases z2 : O b = 0
    · refine br_t z2 ?_
      by_cases z3 : nI a = w
      · exact br_t z3 (br_f (by decide) (h0 fun k => k.1.2 z3))
      · refine br_f z3 ?_
        by_cases z4 : nI b = w
        · exact br_t z4 (br_f (by decide) (h0 fun k => k.2.2 z4))
        · refine br_f z4 (br_t rfl ⟨i7, ?_⟩)
          rw [e]
          exact h1 ⟨⟨z1, z3⟩, z2, z4⟩
    · exact br_f z2 (br_f (by decide) (h0 fun k => z2 k.2.1))
  · exact br_f z1 (br_f (by decide) (h0 fun k => z1 k.1.1))
theorem ob_x108 {post : Int32 → SX → Prop} {n : Nat} {y : Int32} {D C A O g : Nat → Int32} (hn : n ≤ 5) : ∀ m j, j + m = n → ((∀ q, j ≤ q → q < n → g q = 0) → post 1 (nI n, y, D, C, A, O, g)) → ((∃ q, q < n ∧ ¬ g q = 0) → post 0 (nI n, y, D, C, A, O, g)) → wX_clears_108 post (nI n) y D C A O g (m + 1) (nI j) := by
  intro m
  induction m with
  | zero =>
    intro j hj h1 h0
    exact br_t (nI_le (by omega) (by omega)) (h1 fun q p s => absurd s (by omega))
  | succ m ih =>
    intro j hj h1 h0
    have e : (nI j).toNatClampNeg = j := nI_clamp (by omega)
    refine br_f (nI_ge (by omega) (by omega)) ⟨vp_in_nI (by omega) (by decide), ?_⟩
    rw [e]
    by_cases z : g j = 0
    · refine br_t z fun x ex => ?_
      rw [ex, nI_1]
      refine ih (j + 1) (by omega) (fun k => h1 fun q p s => ?_) h0
      by_cases w : q = j
      · rw [w]; exact z
      · exact k q (by omega) s
    · exact br_f z (h0 ⟨j, by omega, z⟩)
theorem ob_gx {g : Nat → Int32} {a b q : Nat} {x : Int32} : upd (upd g b (g b + x)) a (upd g b (g b + x) a - x) q = g q + (if q = b then x else 0) - (if q = a then x else 0) := by
  unfold upd
  by_cases z1 : q = a
  · subst z1
    by_cases z2 : q = b
    · subst z2; simp
    · simp [z2]
  · by_cases z2 : q = b
    · subst z2; simp [z1]
    · simp [z1, z2]
theorem ob_gy {g : Nat → Int32} {a b q : Nat} {x : Int32} : upd (upd g a (g a - x)) b (upd g a (g a - x) b + x) q = g q + (if q = b then x else 0) - (if q = a then x else 0) := by
  unfold upd
  by_cases z1 : q = a
  · subst z1
    by_cases z2 : q = b
    · subst z2; simp
    · simp [z2]
  · by_cases z2 : q = b
    · subst z2; simp [z1]
    · simp [z1, z2]
theorem ob_xg {n d N : Nat} {D C A O g : Nat → Int32} {c : Int32} {j : Nat} {K : (Nat → Int32) → Prop} (ok : ob_ok n d D C A O) (hj : j < d) (hg : ∀ q, q < N → g q = ob_gn d D C c j q) (hK : ∀ g', (∀ q, q < N → g' q = ob_gn d D C c (j + 1) q) → K g') : vp_in (nI j) 7 ∧ (vp_in (C (nI j).toNatClampNeg) 5 ∧ (vp_in (C (nI j).toNatClampNeg) 5 ∧ ∀ g1 : Nat → Int32, g1 = upd g (C (nI j).toNatClampNeg).toNatClampNeg ((g (C (nI j).toNatClampNeg).toNatClampNeg) + ob_dg d c j) → (vp_in (nI j) 7 ∧ (vp_in (D (nI j).toNatClampNeg) 5 ∧ (vp_in (D (nI j).toNatClampNeg) 5 ∧ ∀ g2 : Nat → Int32, g2 = upd g1 (D (nI j).toNatClampNeg).toNatClampNeg ((g1 (D (nI j).toNatClampNeg).toNatClampNeg) - ob_dg d c j) → K g2))))) := by
  obtain ⟨h2, h5, h7, hD, hC, hA, hO⟩ := ok
  obtain ⟨a, ha, ea⟩ := hD j hj
  obtain ⟨b, hb, eb⟩ := hC j hj
  have e : (nI j).toNatClampNeg = j := nI_clamp (by omega)
  have e1 : (nI a).toNatClampNeg = a := nI_clamp (by omega)
  have e2 : (nI b).toNatClampNeg = b := nI_clamp (by omega)
  have i7 : vp_in (nI j) 7 := vp_in_nI (by omega) (by decide)
  have ia : vp_in (nI a) 5 := vp_in_nI (by omega) (by decide)
  have ib : vp_in (nI b) 5 := vp_in_nI (by omega) (by decide)
  rw [e, ea, eb, e1, e2]
  refine ⟨i7, ib, ib, fun g1 eg1 => ⟨i7, ia, ia, fun g2 eg2 => hK g2 fun q hq => ?_⟩⟩
  subst eg1
  rw [eg2, ob_gx]
  show _ = ob_gn d D C c j q + (if q = (C j).toNatClampNeg then ob_dg d c j else 0) - (if q = (D j).toNatClampNeg then ob_dg d c j else 0)
  rw [ea, eb, e1, e2, hg q hq]
theorem ob_x39 {post : Int32 → SX → Prop} {n d : Nat} {D C A O P : Nat → Int32} {c w : Int32} (ok : ob_ok n d D C A O) (hw : ∀ a, a < n → (P a = 0 ↔ O a = 0 ∧ ¬ nI a = w)) : ∀ (m j : Nat) (g : Nat → Int32), j + m = d → (∀ q, q < n → g q = ob_gn d D C c j q) → ((∀ i, j ≤ i → i < d → ob_fit d D C A P c i) ∧ (∀ q, q < n → ob_gn d D C c d q = 0) → ∀ g', post 1 (nI n, nI d, D, C, A, O, g')) → (¬ ((∀ i, j ≤ i → i < d → ob_fit d D C A P c i) ∧ (∀ q, q < n → ob_gn d D C c d q = 0)) → ∀ g', post 0 (nI n, nI d, D, C, A, O, g')) → wX_clears_39 post c w (nI n) (nI d) (m + 1) (nI j) D C A O g := by
  have ok' := ok
  obtain ⟨h2, h5, h7, hD, hC, hA, hO⟩ := ok'
  intro m
  induction m with
  | zero =>
    intro j g hj hg h1 h0
    have hjd : j = d := by omega
    subst hjd
    refine br_t (nI_le (by omega) (by omega)) ⟨n + 1, ob_x108 h5 n 0 (by omega) (fun k => h1 ⟨fun i p s => absurd s (by omega), fun q hq => ?_⟩ g) (fun ⟨q, hq, z⟩ => h0 (fun k => z ?_) g)⟩
    · rw [← hg q hq]; exact k q (by omega) hq
    · rw [hg q hq]; exact k.2 q hq
  | succ m ih =>
    intro j g hj hg h1 h0
    have hjd : j < d := by omega
    refine br_f (nI_ge hjd (by omega)) (ob_xs ?_)
    obtain ⟨a, ha, ea⟩ := hA j hjd
    have step : ob_fit d D C A P c j → ∀ g', (∀ q, q < n → g' q = ob_gn d D C c (j + 1) q) → ∀ x, x = nI j + 1 → wX_clears_39 post c w (nI n) (nI d) (m + 1) x D C A O g' := by
      intro hf g' hg' x ex
      rw [ex, nI_1]
      refine ih (j + 1) g' (by omega) hg' (fun k => h1 ⟨fun i p s => ?_, k.2⟩) (fun k => h0 fun k' => k ⟨fun i p s => k'.1 i (by omega) s, k'.2⟩)
      by_cases z : i = j
      · rw [z]; exact hf
      · exact k.1 i (by omega) s
    refine ob_xl ok hw hjd (fun hb => ?_) (fun hb => ?_)
    · by_cases z : ob_dg d c j ≤ A j
      · exact br_t z (ob_xg ok hjd hg (step ⟨z, Or.inr hb⟩))
      · exact br_f z (h0 (fun k => z (k.1 j (by omega) hjd).1) g)
    · by_cases z : ob_dg d c j ≤ 0
      · have zA : ob_dg d c j ≤ A j := by rw [ea]; exact Int32.le_trans z (nI_pos' (by omega))
        exact br_t z (ob_xg ok hjd hg (step ⟨zA, Or.inl z⟩))
      · exact br_f z (h0 (fun k => (k.1 j (by omega) hjd).2.elim z hb) g)
theorem ob_x16 {post : Int32 → SX → Prop} {n d : Nat} {D C A O P : Nat → Int32} {c w : Int32} (ok : ob_ok n d D C A O) (hw : ∀ a, a < n → (P a = 0 ↔ O a = 0 ∧ ¬ nI a = w)) (h1 : (∀ i, i < d → ob_fit d D C A P c i) ∧ (∀ q, q < n → ob_gn d D C c d q = 0) → ∀ g', post 1 (nI n, nI d, D, C, A, O, g')) (h0 : ¬ ((∀ i, i < d → ob_fit d D C A P c i) ∧ (∀ q, q < n → ob_gn d D C c d q = 0)) → ∀ g', post 0 (nI n, nI d, D, C, A, O, g')) : ∀ (m j : Nat) (g : Nat → Int32), j + m = n → (∀ q, q < j → g q = 0) → wX_clears_16 post c w (nI n) (nI d) (m + 1) (nI j) D C A O g := by
  have ok' := ok
  obtain ⟨h2, h5, h7, hD, hC, hA, hO⟩ := ok'
  intro m
  induction m with
  | zero =>
    intro j g hj hg
    refine br_t (nI_le (by omega) (by omega)) ⟨d + 1, ob_x39 ok hw d 0 g (by omega) (fun q hq => hg q (by omega)) (fun k => h1 ⟨fun i s => k.1 i (by omega) s, k.2⟩) (fun k => h0 fun k' => k ⟨fun i p s => k'.1 i s, k'.2⟩)⟩
  | succ m ih =>
    intro j g hj hg
    have e : (nI j).toNatClampNeg = j := nI_clamp (by omega)
    refine br_f (nI_ge (by omega) (by omega)) ⟨vp_in_nI (by omega) (by decide), fun g' eg x ex => ?_⟩
    rw [e] at eg
    rw [ex, nI_1]
    refine ih (j + 1) g' (by omega) fun q hq => ?_
    rw [eg]
    by_cases z : q = j
    · rw [z]; exact pk_us
    · rw [pk_un z]; exact hg q (by omega)
theorem ob_xc {post : Int32 → SX → Prop} {n d : Nat} {D C A O P : Nat → Int32} {c w : Int32} {g : Nat → Int32} (ok : ob_ok n d D C A O) (hw : ∀ a, a < n → (P a = 0 ↔ O a = 0 ∧ ¬ nI a = w)) (h1 : ob_cl n d D C A P c → ∀ g', post 1 (nI n, nI d, D, C, A, O, g')) (h0 : ¬ ob_cl n d D C A P c → ∀ g', post 0 (nI n, nI d, D, C, A, O, g')) : wpX_clears post (nI n, nI d, D, C, A, O, g) c w := by
  unfold wpX_clears
  dsimp only
  by_cases z0 : c < 0
  · exact br_t z0 (h0 (fun k => k.1 z0) g)
  · refine br_f z0 (ob_xcc ok.2.2.1 ?_)
    by_cases z1 : c < nI (ob_E d)
    · exact br_t z1 ⟨n + 1, ob_x16 ok hw (fun k => h1 ⟨z0, z1, k.1, k.2⟩) (fun k => h0 fun k' => k ⟨k'.2.2.1, k'.2.2.2⟩) n 0 g (by omega) (fun q hq => absurd hq (by omega))⟩
    · exact br_f z1 (h0 (fun k => z1 k.2.1) g)
