section
/-! rows pk_* are pasted from kit/rows; the rest is this claim's own -/
theorem pk_us {f : Nat → Int32} {k : Nat} {x : Int32} : upd f k x k = x := if_pos rfl
theorem pk_un {f : Nat → Int32} {k j : Nat} {x : Int32} (h : j ≠ k) : upd f k x j = f j := if_neg h
theorem pk_sub {a b : Nat} (h : b ≤ a) : nI a - nI b = nI (a - b) := by
  obtain ⟨c, rfl⟩ : ∃ c, a = c + b := ⟨a - b, by omega⟩
  rw [← nI_add, Int32.add_sub_cancel, Nat.add_sub_cancel]
theorem pk_mul (a b : Nat) : nI a * nI b = nI (a * b) := (Int32.ofNat_mul a b).symm
theorem pk_ix (x : Int32) {n : Nat} (hn : n < 2 ^ 31) : x < 0 ∨ nI n ≤ x ∨ ∃ j : Nat, j < n ∧ x = nI j := by
  by_cases h : x < 0
  · exact Or.inl h
  · obtain ⟨j, hj, rfl⟩ := nI_of h
    by_cases h2 : j < n
    · exact Or.inr (Or.inr ⟨j, h2, rfl⟩)
    · exact Or.inr (Or.inl (nI_le (by omega) hj))
theorem pk_and (x : Int32) {m : Int32} (k : Nat) (hm : m.toBitVec.toNat = 2 ^ k - 1) : x &&& m = nI (x.toBitVec.toNat % 2 ^ k) := by
  apply Int32.toBitVec_inj.mp
  apply BitVec.eq_of_toNat_eq
  rw [Int32.toBitVec_and, BitVec.toNat_and, hm, Nat.and_two_pow_sub_one_eq_mod]
  show _ = (BitVec.ofNat 32 _).toNat
  rw [BitVec.toNat_ofNat]
  exact (Nat.mod_eq_of_lt (Nat.lt_of_le_of_lt (Nat.mod_le _ _) x.toBitVec.isLt)).symm
theorem pk_andE (x : Int32) {m : Int32} (k : Nat) (hm : m.toBitVec.toNat = 2 ^ k - 1) : ∃ j : Nat, j < 2 ^ k ∧ x &&& m = nI j := ⟨_, Nat.mod_lt _ (Nat.two_pow_pos k), pk_and x k hm⟩
/-- what a state of both sides keeps: n firms, d debts, firms within, amounts 0 .. 3, flags 0 or 1 -/
def ob_ok (n d : Nat) (D C A O : Nat → Int32) : Prop :=
  2 ≤ n ∧ n ≤ 5 ∧ d ≤ 7 ∧ (∀ j, j < d → ∃ a, a < n ∧ D j = nI a) ∧ (∀ j, j < d → ∃ a, a < n ∧ C j = nI a) ∧ (∀ j, j < d → ∃ a, a < 4 ∧ A j = nI a) ∧ (∀ j, O j = 0 ∨ O j = 1)
/-- the two states are the same but for the scratch arrays -/
def i_Rel (_ : Nat) (u : SX) (v : SY) : Prop := ∃ (n d : Nat) (D C A O g h : Nat → Int32), u = (nI n, nI d, D, C, A, O, g) ∧ v = (nI n, nI d, D, C, A, O, h) ∧ ob_ok n d D C A O
theorem ob_rel {k n d : Nat} {D C A O g h : Nat → Int32} (ok : ob_ok n d D C A O) : i_Rel k (nI n, nI d, D, C, A, O, g) (nI n, nI d, D, C, A, O, h) := ⟨n, d, D, C, A, O, g, h, rfl, rfl, ok⟩
theorem i_up {k : Nat} {u : SX} {v : SY} (h : i_Rel k u v) : i_Rel (k + 4) u v := h
theorem ob_rel0 {k n : Nat} (h2 : 2 ≤ n) (h5 : n ≤ 5) : i_Rel k (nI n, 0, (fun _ => 0), (fun _ => 0), (fun _ => 0), (fun _ => 0), (fun _ => 0)) (nI n, 0, (fun _ => 0), (fun _ => 0), (fun _ => 0), (fun _ => 0), (fun _ => 0)) :=
  ⟨n, 0, (fun _ => 0), (fun _ => 0), (fun _ => 0), (fun _ => 0), (fun _ => 0), (fun _ => 0), rfl, rfl, h2, h5, by omega, fun j h => absurd h (by omega), fun j h => absurd h (by omega), fun j h => absurd h (by omega), fun j => Or.inl rfl⟩
theorem i_vc0 (k0 : Int32) : wpX_init (fun u => wpY_init (fun v => i_Rel 1 u v) k0) k0 := by
  by_cases h2 : 2 ≤ k0
  · by_cases h5 : k0 ≤ 5
    · have h0 : ¬ k0 < 0 := Int32.not_lt.mpr (Int32.le_trans (by decide) h2)
      obtain ⟨j, hj, rfl⟩ := nI_of2 (M := 5) (n := 5) (by decide) h0 h5
      have h2' : 2 ≤ j := (nI_leI (a := 2) (by omega) (by omega)).mp h2
      exact br_t h2 (br_t h5 (br_t h2 (br_t h5 (ob_rel0 h2' hj))))
    · exact br_t h2 (br_f h5 (br_t h2 (br_f h5 (ob_rel0 (n := 5) (by omega) (by omega)))))
  · exact br_f h2 (br_f h2 (ob_rel0 (n := 2) (by omega) (by omega)))
/-! the tests of firms, debts and amounts -/
theorem ob_xf1 {post : Int32 → Prop} {n a : Nat} {y : Int32} {D C A O g : Nat → Int32} (hn : n ≤ 5) (ha : a < n) (h : post 1) : wpX_isFirm post (nI n, y, D, C, A, O, g) (nI a) := br_f (nI_pos (by omega)) (br_f (nI_ge ha (by omega)) h)
theorem ob_xf0 {post : Int32 → Prop} {n : Nat} {x y : Int32} {D C A O g : Nat → Int32} (hx : x < 0 ∨ nI n ≤ x) (h : post 0) : wpX_isFirm post (nI n, y, D, C, A, O, g) x := by
  by_cases h0 : x < 0
  · exact br_t h0 h
  · exact br_f h0 (br_t (hx.resolve_left h0) h)
theorem ob_yf1 {post : Int32 → Prop} {n a : Nat} {y : Int32} {D C A O g : Nat → Int32} (hn : n ≤ 5) (ha : a < n) (h : post 0) : wpY_badFirm post (nI n, y, D, C, A, O, g) (nI a) := br_f (nI_pos (by omega)) (br_f (nI_ge ha (by omega)) (br_t (nI_le (b := 4) (by omega) (by decide)) h))
theorem ob_yf0 {post : Int32 → Prop} {n : Nat} {x y : Int32} {D C A O g : Nat → Int32} (hx : x < 0 ∨ nI n ≤ x) (h : post 1) : wpY_badFirm post (nI n, y, D, C, A, O, g) x := by
  by_cases h0 : x < 0
  · exact br_t h0 h
  · exact br_f h0 (br_t (hx.resolve_left h0) h)
theorem ob_xd1 {post : Int32 → Prop} {d a : Nat} {y : Int32} {D C A O g : Nat → Int32} (hd : d ≤ 7) (ha : a < d) (h : post 1) : wpX_isDebt post (y, nI d, D, C, A, O, g) (nI a) := br_f (nI_pos (by omega)) (br_f (nI_ge ha (by omega)) h)
theorem ob_xd0 {post : Int32 → Prop} {d : Nat} {x y : Int32} {D C A O g : Nat → Int32} (hx : x < 0 ∨ nI d ≤ x) (h : post 0) : wpX_isDebt post (y, nI d, D, C, A, O, g) x := by
  by_cases h0 : x < 0
  · exact br_t h0 h
  · exact br_f h0 (br_t (hx.resolve_left h0) h)
theorem ob_yd1 {post : Int32 → Prop} {d a : Nat} {y : Int32} {D C A O g : Nat → Int32} (hd : d ≤ 7) (ha : a < d) (h : post 0) : wpY_bad post (y, nI d, D, C, A, O, g) (nI a) := br_f (nI_pos (by omega)) (br_f (nI_ge ha (by omega)) (br_t (nI_le (b := 6) (by omega) (by decide)) h))
theorem ob_yd0 {post : Int32 → Prop} {d : Nat} {x y : Int32} {D C A O g : Nat → Int32} (hx : x < 0 ∨ nI d ≤ x) (h : post 1) : wpY_bad post (y, nI d, D, C, A, O, g) x := by
  by_cases h0 : x < 0
  · exact br_t h0 h
  · exact br_f h0 (br_t (hx.resolve_left h0) h)
/-- good by what is known of an index -/
theorem ob_ix (x : Int32) {n : Nat} (hn : n ≤ 7) : (x < 0 ∨ nI n ≤ x) ∨ ∃ a, a < n ∧ x = nI a := by
  rcases pk_ix x (n := n) (by omega) with h | h | h
  · exact Or.inl (Or.inl h)
  · exact Or.inl (Or.inr h)
  · exact Or.inr h
theorem ob_put {X : Nat → Int32} {d k m b : Nat} (h : ∀ j, j < d → j ≠ k → ∃ a, a < m ∧ X j = nI a) (hb : b < m) : ∀ j, j < d → ∃ a, a < m ∧ upd X k (nI b) j = nI a := by
  intro j hj
  by_cases z : j = k
  · exact ⟨b, hb, by rw [z]; exact pk_us⟩
  · obtain ⟨a, ha, e⟩ := h j hj z
    exact ⟨a, ha, by rw [pk_un z]; exact e⟩
theorem i_vc_owe {k : Nat} {u : SX} {v : SY} (I : i_Rel k u v) (hk : k + 4 ≤ 2049) (v1 : Int32) (v2 : Int32) (v3 : Int32) : wpX_owe (fun r u' => wpY_owe (fun r' v' => r' = r ∧ i_Rel (k + 4) u' v') v v1 v2 v3) u v1 v2 v3 := by
  obtain ⟨n, d, D, C, A, O, g, h, rfl, rfl, ok⟩ := I
  have ok' := ok
  obtain ⟨h2, h5, h7, hD, hC, hA, hO⟩ := ok'
  unfold wpX_owe wpY_owe
  dsimp only
  rcases ob_ix v1 (n := n) (by omega) with hv | ⟨a, ha, rfl⟩
  · exact ob_xf0 hv (br_t rfl (ob_yf0 hv (br_f (by decide) ⟨rfl, ob_rel ok⟩)))
  refine ob_xf1 h5 ha (br_f (by decide) ?_)
  rcases ob_ix v2 (n := n) (by omega) with hv | ⟨b, hb, rfl⟩
  · exact ob_xf0 hv (br_t rfl (ob_yf1 h5 ha (br_t rfl (ob_yf0 hv (br_f (by decide) ⟨rfl, ob_rel ok⟩)))))
  refine ob_xf1 h5 hb (br_f (by decide) ?_)
  by_cases hne : nI a = nI b
  · exact br_t hne (ob_yf1 h5 ha (br_t rfl (ob_yf1 h5 hb (br_t rfl (br_t hne ⟨rfl, ob_rel ok⟩)))))
  refine br_f hne ?_
  by_cases h0 : v3 < 0
  · exact br_t h0 (br_t rfl (ob_yf1 h5 ha (br_t rfl (ob_yf1 h5 hb (br_t rfl (br_f hne (br_t h0 ⟨rfl, ob_rel ok⟩)))))))
  by_cases h3 : 3 < v3
  · have h3' : ¬ v3 ≤ 3 := Int32.not_le.mpr h3
    exact br_f h0 (br_t h3 (br_t rfl (ob_yf1 h5 ha (br_t rfl (ob_yf1 h5 hb (br_t rfl (br_f hne (br_f h0 (br_f h3' ⟨rfl, ob_rel ok⟩)))))))))
  have h3' : v3 ≤ 3 := Int32.not_lt.mp h3
  refine br_f h0 (br_f h3 (br_f (by decide) ?_))
  by_cases hd : d < 7
  · obtain ⟨c, hc, rfl⟩ := nI_of2 (M := 3) (n := 3) (by decide) h0 h3'
    have hi : vp_in (nI d) 7 := vp_in_nI hd (by decide)
    have e : (nI d).toNatClampNeg = d := nI_clamp (by omega)
    refine br_t (nI_lt (b := 7) hd (by decide)) ⟨hi, fun D' eD => ⟨hi, fun C' eC => ⟨hi, fun A' eA => fun f ef => ?_⟩⟩⟩
    rw [e] at eD eC eA
    rw [nI_1] at ef
    subst eD eC eA ef
    refine ob_yf1 h5 ha (br_t rfl (ob_yf1 h5 hb (br_t rfl (br_f hne (br_f h0 (br_t h3' (br_t (nI_le (b := 6) (by omega) (by decide)) ⟨hi, fun D' eD => ⟨hi, fun C' eC => ⟨hi, fun A' eA => fun f ef => ?_⟩⟩⟩)))))))
    rw [e] at eD eC eA
    rw [nI_1] at ef
    subst eD eC eA ef
    exact ⟨rfl, ob_rel ⟨h2, h5, by omega, ob_put (fun j p q => hD j (by omega)) ha, ob_put (fun j p q => hC j (by omega)) hb, ob_put (fun j p q => hA j (by omega)) (by omega), hO⟩⟩
  · have h7' : ¬ nI d < 7 := nI_nlt (b := 7) (by omega) (by omega)
    have h6 : ¬ nI d ≤ 6 := nI_ge (a := 6) (b := d) (by omega) (by omega)
    exact br_f h7' (ob_yf1 h5 ha (br_t rfl (ob_yf1 h5 hb (br_t rfl (br_f hne (br_f h0 (br_t h3' (br_f h6 ⟨rfl, ob_rel ok⟩))))))))
theorem i_vc_change {k : Nat} {u : SX} {v : SY} (I : i_Rel k u v) (hk : k + 4 ≤ 2049) (v1 : Int32) (v2 : Int32) : wpX_change (fun r u' => wpY_change (fun r' v' => r' = r ∧ i_Rel (k + 4) u' v') v v1 v2) u v1 v2 := by
  obtain ⟨n, d, D, C, A, O, g, h, rfl, rfl, ok⟩ := I
  have ok' := ok
  obtain ⟨h2, h5, h7, hD, hC, hA, hO⟩ := ok'
  unfold wpX_change wpY_change
  dsimp only
  rcases ob_ix v1 (n := d) (by omega) with hv | ⟨a, ha, rfl⟩
  · exact ob_xd0 hv (br_t rfl (ob_yd0 hv (br_f (by decide) ⟨rfl, ob_rel ok⟩)))
  refine ob_xd1 h7 ha (br_f (by decide) ?_)
  by_cases h0 : v2 < 0
  · exact br_t h0 (br_t rfl (ob_yd1 h7 ha (br_t rfl (br_t h0 ⟨rfl, ob_rel ok⟩))))
  by_cases h3 : 3 < v2
  · have h3' : ¬ v2 ≤ 3 := Int32.not_le.mpr h3
    exact br_f h0 (br_t h3 (br_t rfl (ob_yd1 h7 ha (br_t rfl (br_f h0 (br_f h3' ⟨rfl, ob_rel ok⟩))))))
  have h3' : v2 ≤ 3 := Int32.not_lt.mp h3
  obtain ⟨c, hc, rfl⟩ := nI_of2 (M := 3) (n := 3) (by decide) h0 h3'
  have hi : vp_in (nI a) 7 := vp_in_nI (by omega) (by decide)
  have e : (nI a).toNatClampNeg = a := nI_clamp (by omega)
  refine br_f h0 (br_f h3 (br_f (by decide) ⟨hi, fun x ex => ⟨hi, fun A' eA => ?_⟩⟩))
  rw [e] at ex eA
  subst ex eA
  refine ob_yd1 h7 ha (br_t rfl (br_f h0 (br_t h3' ⟨hi, fun x ex => ⟨hi, fun A' eA => ?_⟩⟩)))
  rw [e] at ex eA
  subst ex eA
  exact ⟨rfl, ob_rel ⟨h2, h5, h7, hD, hC, ob_put (fun j p q => hA j p) (by omega), hO⟩⟩
end
section
/-! pay: both shift the same cells, the component at j + 1, the reference at j -/
theorem ob_sh1 {X : Nat → Int32} {d j m : Nat} (h : ∀ i, i < d → ∃ a, a < m ∧ X i = nI a) (hj : j + 1 < d) : ∀ i, i < d → ∃ a, a < m ∧ upd X j (X (j + 1)) i = nI a := by
  obtain ⟨b, hb, e⟩ := h (j + 1) hj
  rw [e]
  exact ob_put (fun i p q => h i p) hb
theorem ob_pay {n d : Nat} {O g h : Nat → Int32} (h7 : d ≤ 7) : ∀ (m j : Nat) (D C A : Nat → Int32), j + 1 + m = d → ob_ok n d D C A O → ∃ D' C' A', ob_ok n (d - 1) D' C' A' O ∧ (∀ post : Int32 → SX → Prop, post (nI (d - 1)) (nI n, nI (d - 1), D', C', A', O, g) → wX_pay_14 post (nI n) (nI d) (m + 1) (nI (j + 1)) D C A O g) ∧ (∀ post : Int32 → SY → Prop, post (nI (d - 1)) (nI n, nI (d - 1), D', C', A', O, h) → wY_pay_12 post (nI n) (nI d) (m + 1) (nI j) D C A O h) := by
  intro m
  induction m with
  | zero =>
    intro j D C A hj ok
    have e1 : nI d - 1 = nI (d - 1) := pk_sub (b := 1) (by omega)
    obtain ⟨h2, h5, h7, hD, hC, hA, hO⟩ := ok
    refine ⟨D, C, A, ⟨h2, h5, by omega, fun i p => hD i (by omega), fun i p => hC i (by omega), fun i p => hA i (by omega), hO⟩, fun post hp => ?_, fun post hp => ?_⟩
    · refine br_t (nI_le (by omega) (by omega)) fun f ef => ?_
      rw [ef, e1]
      exact hp
    · have hc : nI d - 1 ≤ nI j := by rw [e1]; exact nI_le (by omega) (by omega)
      refine br_t hc fun f ef => ?_
      rw [ef, e1]
      exact hp
  | succ m ih =>
    intro j D C A hj ok
    have e1 : nI d - 1 = nI (d - 1) := pk_sub (b := 1) (by omega)
    have e2 : nI (j + 1) - 1 = nI j := pk_sub (b := 1) (by omega)
    have e3 : (nI j).toNatClampNeg = j := nI_clamp (by omega)
    have e4 : (nI (j + 1)).toNatClampNeg = j + 1 := nI_clamp (by omega)
    have i1 : vp_in (nI j) 7 := vp_in_nI (by omega) (by decide)
    have i2 : vp_in (nI (j + 1)) 7 := vp_in_nI (by omega) (by decide)
    obtain ⟨h2, h5, h7, hD, hC, hA, hO⟩ := ok
    obtain ⟨D', C', A', ok', hX, hY⟩ := ih (j + 1) (upd D j (D (j + 1))) (upd C j (C (j + 1))) (upd A j (A (j + 1))) (by omega) ⟨h2, h5, h7, ob_sh1 hD (by omega), ob_sh1 hC (by omega), ob_sh1 hA (by omega), hO⟩
    refine ⟨D', C', A', ok', fun post hp => ?_, fun post hp => ?_⟩
    · refine br_f (nI_ge (by omega) (by omega)) ?_
      rw [e2, e3, e4]
      refine ⟨i2, i1, fun D1 eD => ⟨i2, i1, fun C1 eC => ⟨i2, i1, fun A1 eA => fun x ex => ?_⟩⟩⟩
      rw [nI_1] at ex
      subst eD eC eA ex
      exact hX post hp
    · have hc : ¬ nI d - 1 ≤ nI j := by rw [e1]; exact nI_ge (by omega) (by omega)
      refine br_f hc (br_f (nI_ge (b := 6) (by omega) (by decide)) ?_)
      rw [nI_1, e3, e4]
      refine ⟨i2, i1, fun D1 eD => ⟨i2, i1, fun C1 eC => ⟨i2, i1, fun A1 eA => fun x ex => ?_⟩⟩⟩
      subst eD eC eA ex
      exact hY post hp
theorem i_vc_pay {k : Nat} {u : SX} {v : SY} (I : i_Rel k u v) (hk : k + 4 ≤ 2049) (v1 : Int32) : wpX_pay (fun r u' => wpY_pay (fun r' v' => r' = r ∧ i_Rel (k + 4) u' v') v v1) u v1 := by
  obtain ⟨n, d, D, C, A, O, g, h, rfl, rfl, ok⟩ := I
  have h7 := ok.2.2.1
  unfold wpX_pay wpY_pay
  dsimp only
  rcases ob_ix v1 (n := d) (by omega) with hv | ⟨a, ha, rfl⟩
  · exact ob_xd0 hv (br_t rfl (ob_yd0 hv (br_f (by decide) ⟨rfl, ob_rel ok⟩)))
  obtain ⟨D', C', A', ok', hX, hY⟩ := ob_pay (g := g) (h := h) h7 (d - (a + 1)) a D C A (by omega) ok
  refine ob_xd1 h7 ha (br_f (by decide) fun x ex => ⟨d - (a + 1) + 1, ?_⟩)
  rw [ex, nI_1]
  exact hX _ (ob_yd1 h7 ha (br_t rfl ⟨d - (a + 1) + 1, hY _ ⟨rfl, ob_rel ok'⟩⟩))
theorem ob_nar0 : vp_nar .boolean 0 = 0 := by decide
theorem ob_nar1 : vp_nar .boolean 1 = 1 := by decide
theorem ob_out {O : Nat → Int32} {a : Nat} {x : Int32} (h : ∀ j, O j = 0 ∨ O j = 1) (hx : x = 0 ∨ x = 1) : ∀ j, upd O a x j = 0 ∨ upd O a x j = 1 := by
  intro j
  by_cases z : j = a
  · rw [z, pk_us]; exact hx
  · rw [pk_un z]; exact h j
theorem ob_excl {k n d a : Nat} {D C A O g h : Nat → Int32} (ok : ob_ok n d D C A O) (ha : a < n) (z v2 : Int32) {PY : Prop} (hY : (∀ r, (r = z → wY_exclude_24 (fun r' v' => r' = r ∧ i_Rel (k + 4) (nI n, nI d, D, C, A, (if v2 = 0 then upd O a 0 else upd O a 1), g) v') (nI a) v2 z (nI n) (nI d) D C A O h)) → PY) : PY := by
  obtain ⟨h2, h5, h7, hD, hC, hA, hO⟩ := ok
  have e : (nI a).toNatClampNeg = a := nI_clamp (by omega)
  have hi : vp_in (nI a) 5 := vp_in_nI (by omega) (by decide)
  refine hY fun r er => ?_
  by_cases z2 : v2 = 0
  · rw [if_pos z2]
    refine br_t z2 ⟨hi, fun O' eO => ?_⟩
    rw [e, ob_nar0] at eO
    subst eO
    exact ⟨er.symm, ob_rel ⟨h2, h5, h7, hD, hC, hA, ob_out hO (Or.inl rfl)⟩⟩
  · rw [if_neg z2]
    refine br_f z2 ⟨hi, fun O' eO => ?_⟩
    rw [e, ob_nar1] at eO
    subst eO
    exact ⟨er.symm, ob_rel ⟨h2, h5, h7, hD, hC, hA, ob_out hO (Or.inr rfl)⟩⟩
theorem ob_xexcl {post : Int32 → SX → Prop} {n d a : Nat} {D C A O g : Nat → Int32} (h5 : n ≤ 5) (ha : a < n) (z v2 : Int32) (hp : post z (nI n, nI d, D, C, A, (if v2 = 0 then upd O a 0 else upd O a 1), g)) : wX_exclude_24 post (nI a) v2 z (nI n) (nI d) D C A O g := by
  have e : (nI a).toNatClampNeg = a := nI_clamp (by omega)
  have hi : vp_in (nI a) 5 := vp_in_nI (by omega) (by decide)
  by_cases z2 : v2 = 0
  · rw [if_pos z2] at hp
    refine br_t z2 ⟨hi, fun O' eO => ?_⟩
    rw [e, ob_nar0] at eO
    subst eO
    exact hp
  · rw [if_neg z2] at hp
    refine br_f z2 ⟨hi, fun O' eO => ?_⟩
    rw [e, ob_nar1] at eO
    subst eO
    exact hp
theorem i_vc_exclude {k : Nat} {u : SX} {v : SY} (I : i_Rel k u v) (hk : k + 4 ≤ 2049) (v1 : Int32) (v2 : Int32) : wpX_exclude (fun r u' => wpY_exclude (fun r' v' => r' = r ∧ i_Rel (k + 4) u' v') v v1 v2) u v1 v2 := by
  obtain ⟨n, d, D, C, A, O, g, h, rfl, rfl, ok⟩ := I
  have h5 := ok.2.1
  unfold wpX_exclude wpY_exclude
  dsimp only
  rcases ob_ix v1 (n := n) (by omega) with hv | ⟨a, ha, rfl⟩
  · exact ob_xf0 hv (br_t rfl (ob_yf0 hv (br_f (by decide) ⟨rfl, ob_rel ok⟩)))
  have hi : vp_in (nI a) 5 := vp_in_nI (by omega) (by decide)
  by_cases z : O (nI a).toNatClampNeg = 0
  · refine ob_xf1 h5 ha (br_f (by decide) ⟨hi, br_t z (ob_xexcl h5 ha 0 v2 (ob_yf1 h5 ha (br_t rfl ⟨hi, br_t z ?_⟩)))⟩)
    exact ob_excl ok ha 0 v2 (fun H => H 0 rfl)
  · refine ob_xf1 h5 ha (br_f (by decide) ⟨hi, br_f z (ob_xexcl h5 ha 1 v2 (ob_yf1 h5 ha (br_t rfl ⟨hi, br_f z ?_⟩)))⟩)
    exact ob_excl ok ha 1 v2 (fun H => H 1 rfl)
theorem i_vc_debts {k : Nat} {u : SX} {v : SY} (I : i_Rel k u v) (hk : k + 4 ≤ 2049) : wpX_debts (fun r => wpY_debts (fun r' => r' = r ∧ i_Rel (k + 4) u v) v) u := by
  obtain ⟨n, d, D, C, A, O, g, h, rfl, rfl, ok⟩ := I
  exact ⟨rfl, ob_rel ok⟩
theorem i_vc_amount {k : Nat} {u : SX} {v : SY} (I : i_Rel k u v) (hk : k + 4 ≤ 2049) (v1 : Int32) : wpX_amount (fun r => wpY_amount (fun r' => r' = r ∧ i_Rel (k + 4) u v) v v1) u v1 := by
  obtain ⟨n, d, D, C, A, O, g, h, rfl, rfl, ok⟩ := I
  have h7 := ok.2.2.1
  unfold wpX_amount wpY_amount
  dsimp only
  rcases ob_ix v1 (n := d) (by omega) with hv | ⟨a, ha, rfl⟩
  · exact ob_xd0 hv (br_t rfl (ob_yd0 hv (br_f (by decide) ⟨rfl, ob_rel ok⟩)))
  have hi : vp_in (nI a) 7 := vp_in_nI (by omega) (by decide)
  exact ob_xd1 h7 ha (br_f (by decide) ⟨hi, ob_yd1 h7 ha (br_t rfl ⟨hi, ⟨rfl, ob_rel ok⟩⟩)⟩)
/-! sums over the debts, in lockstep -/
theorem ob_outs {n d : Nat} {D C A O g h : Nat → Int32} (h7 : d ≤ 7) : ∀ (m j : Nat) (s : Int32), j + m = d → ∃ r : Int32, (∀ post : Int32 → Prop, post r → wX_outstanding_4 post (nI n) (nI d) D C A O g (m + 1) s (nI j)) ∧ (∀ post : Int32 → Prop, post r → wY_outstanding_4 post (nI n) (nI d) D C A O h (m + 1) s (nI j)) := by
  intro m
  induction m with
  | zero =>
    intro j s hj
    have hc : nI d ≤ nI j := nI_le (by omega) (by omega)
    exact ⟨s, fun _ hp => br_t hc hp, fun _ hp => br_t hc hp⟩
  | succ m ih =>
    intro j s hj
    have hc : ¬ nI d ≤ nI j := nI_ge (by omega) (by omega)
    have h6 : ¬ 7 ≤ nI j := nI_ge (b := 7) (by omega) (by decide)
    have hi : vp_in (nI j) 7 := vp_in_nI (by omega) (by decide)
    obtain ⟨r, hX, hY⟩ := ih (j + 1) (s + A (nI j).toNatClampNeg) (by omega)
    refine ⟨r, fun post hp => br_f hc ⟨hi, fun s' es x ex => ?_⟩, fun post hp => br_f hc (br_f h6 ⟨hi, fun s' es x ex => ?_⟩)⟩
    · rw [nI_1] at ex; subst es ex; exact hX post hp
    · rw [nI_1] at ex; subst es ex; exact hY post hp
theorem i_vc_outstanding {k : Nat} {u : SX} {v : SY} (I : i_Rel k u v) (hk : k + 4 ≤ 2049) : wpX_outstanding (fun r => wpY_outstanding (fun r' => r' = r ∧ i_Rel (k + 4) u v) v) u := by
  obtain ⟨n, d, D, C, A, O, g, h, rfl, rfl, ok⟩ := I
  obtain ⟨r, hX, hY⟩ := ob_outs (n := n) (D := D) (C := C) (A := A) (O := O) (g := g) (h := h) ok.2.2.1 d 0 0 (by omega)
  exact ⟨d + 1, hX _ ⟨d + 1, hY _ ⟨rfl, ob_rel ok⟩⟩⟩
theorem ob_bals {n d : Nat} {D C A O g h : Nat → Int32} {f : Int32} (h7 : d ≤ 7) : ∀ (m j : Nat) (s : Int32), j + m = d → ∃ r : Int32, (∀ post : Int32 → Prop, post r → wX_balanceOf_4 post f (nI n) (nI d) D C A O g (m + 1) s (nI j)) ∧ (∀ post : Int32 → Prop, post r → wY_saldo_4 post f (nI n) (nI d) D C A O h (m + 1) s (nI j)) := by
  intro m
  induction m with
  | zero =>
    intro j s hj
    have hc : nI d ≤ nI j := nI_le (by omega) (by omega)
    exact ⟨s, fun _ hp => br_t hc hp, fun _ hp => br_t hc hp⟩
  | succ m ih =>
    intro j s hj
    have hc : ¬ nI d ≤ nI j := nI_ge (by omega) (by omega)
    have h6 : ¬ 7 ≤ nI j := nI_ge (b := 7) (by omega) (by decide)
    have hi : vp_in (nI j) 7 := vp_in_nI (by omega) (by decide)
    have key : ∀ s1 : Int32, ∃ r : Int32, (∀ post : Int32 → Prop, post r → wX_balanceOf_31 post (wX_balanceOf_4 post f (nI n) (nI d) D C A O g (m + 1)) f s1 (nI j) (nI n) (nI d) D C A O g) ∧ (∀ post : Int32 → Prop, post r → wY_saldo_37 post (wY_saldo_4 post f (nI n) (nI d) D C A O h (m + 1)) f s1 (nI j) (nI n) (nI d) D C A O h) := by
      intro s1
      by_cases z : D (nI j).toNatClampNeg = f
      · obtain ⟨r, hX, hY⟩ := ih (j + 1) (s1 - A (nI j).toNatClampNeg) (by omega)
        refine ⟨r, fun post hp => ⟨hi, br_t z ⟨hi, fun s' es x ex => ?_⟩⟩, fun post hp => ⟨hi, br_t z ⟨hi, fun s' es x ex => ?_⟩⟩⟩
        · rw [nI_1] at ex; subst es ex; exact hX post hp
        · rw [nI_1] at ex; subst es ex; exact hY post hp
      · obtain ⟨r, hX, hY⟩ := ih (j + 1) s1 (by omega)
        refine ⟨r, fun post hp => ⟨hi, br_f z fun x ex => ?_⟩, fun post hp => ⟨hi, br_f z fun x ex => ?_⟩⟩
        · rw [nI_1] at ex; subst ex; exact hX post hp
        · rw [nI_1] at ex; subst ex; exact hY post hp
    by_cases z : C (nI j).toNatClampNeg = f
    · obtain ⟨r, hX, hY⟩ := key (s + A (nI j).toNatClampNeg)
      refine ⟨r, fun post hp => br_f hc ⟨hi, br_t z ⟨hi, fun s' es => ?_⟩⟩, fun post hp => br_f hc (br_f h6 ⟨hi, br_t z ⟨hi, fun s' es => ?_⟩⟩)⟩
      · subst es; exact hX post hp
      · subst es; exact hY post hp
    · obtain ⟨r, hX, hY⟩ := key s
      exact ⟨r, fun post hp => br_f hc ⟨hi, br_f z (hX post hp)⟩, fun post hp => br_f hc (br_f h6 ⟨hi, br_f z (hY post hp)⟩)⟩
theorem ob_bal {n d : Nat} {D C A O : Nat → Int32} (g h : Nat → Int32) (f : Int32) (h7 : d ≤ 7) : ∃ r : Int32, (∀ post : Int32 → Prop, post r → wpX_balanceOf post (nI n, nI d, D, C, A, O, g) f) ∧ (∀ post : Int32 → Prop, post r → wpY_saldo post (nI n, nI d, D, C, A, O, h) f) := by
  obtain ⟨r, hX, hY⟩ := ob_bals (n := n) (D := D) (C := C) (A := A) (O := O) (g := g) (h := h) (f := f) h7 d 0 0 (by omega)
  exact ⟨r, fun post hp => ⟨d + 1, hX post hp⟩, fun post hp => ⟨d + 1, hY post hp⟩⟩
theorem i_vc_balance {k : Nat} {u : SX} {v : SY} (I : i_Rel k u v) (hk : k + 4 ≤ 2049) (v1 : Int32) : wpX_balance (fun r => wpY_balance (fun r' => r' = r ∧ i_Rel (k + 4) u v) v v1) u v1 := by
  obtain ⟨n, d, D, C, A, O, g, h, rfl, rfl, ok⟩ := I
  have h5 := ok.2.1
  unfold wpX_balance wpY_balance
  dsimp only
  rcases ob_ix v1 (n := n) (by omega) with hv | ⟨a, ha, rfl⟩
  · exact ob_xf0 hv (br_t rfl (ob_yf0 hv (br_f (by decide) ⟨rfl, ob_rel ok⟩)))
  obtain ⟨r, hX, hY⟩ := ob_bal (n := n) (D := D) (C := C) (A := A) (O := O) g h (nI a) ok.2.2.1
  exact ob_xf1 h5 ha (br_f (by decide) (hX _ (ob_yf1 h5 ha (br_t rfl (hY _ ⟨rfl, ob_rel ok⟩)))))
theorem ob_least {n d : Nat} {D C A O g h : Nat → Int32} (h5 : n ≤ 5) (h7 : d ≤ 7) : ∀ (m j : Nat) (s : Int32), j + m = n → ∃ r : Int32, (∀ post : Int32 → Prop, post r → wX_least_4 post (nI n) (nI d) D C A O g (m + 1) s (nI j)) ∧ (∀ post : Int32 → Prop, post r → wY_least_4 post (nI n) (nI d) D C A O h (m + 1) s (nI j)) := by
  intro m
  induction m with
  | zero =>
    intro j s hj
    have hc : nI n ≤ nI j := nI_le (by omega) (by omega)
    exact ⟨s, fun _ hp => br_t hc hp, fun _ hp => br_t hc hp⟩
  | succ m ih =>
    intro j s hj
    have hc : ¬ nI n ≤ nI j := nI_ge (by omega) (by omega)
    obtain ⟨b, bX, bY⟩ := ob_bal (n := n) (D := D) (C := C) (A := A) (O := O) g h (nI j) h7
    by_cases z : b ≤ 0
    · obtain ⟨r, hX, hY⟩ := ih (j + 1) s (by omega)
      refine ⟨r, fun post hp => br_f hc (bX _ (br_t z fun x ex => ?_)), fun post hp => br_f hc (bY _ (br_t z fun x ex => ?_))⟩
      · rw [nI_1] at ex; subst ex; exact hX post hp
      · rw [nI_1] at ex; subst ex; exact hY post hp
    · obtain ⟨r, hX, hY⟩ := ih (j + 1) (s + b) (by omega)
      refine ⟨r, fun post hp => br_f hc (bX _ (br_f z fun s' es x ex => ?_)), fun post hp => br_f hc (bY _ (br_f z fun s' es x ex => ?_))⟩
      · rw [nI_1] at ex; subst es ex; exact hX post hp
      · rw [nI_1] at ex; subst es ex; exact hY post hp
theorem i_vc_least {k : Nat} {u : SX} {v : SY} (I : i_Rel k u v) (hk : k + 4 ≤ 2049) : wpX_least (fun r => wpY_least (fun r' => r' = r ∧ i_Rel (k + 4) u v) v) u := by
  obtain ⟨n, d, D, C, A, O, g, h, rfl, rfl, ok⟩ := I
  obtain ⟨r, hX, hY⟩ := ob_least (n := n) (D := D) (C := C) (A := A) (O := O) (g := g) (h := h) ok.2.1 ok.2.2.1 n 0 0 (by omega)
  exact ⟨n + 1, hX _ ⟨n + 1, hY _ ⟨rfl, ob_rel ok⟩⟩⟩
end
section
/-! codes: digits, totals, gains, and what a clearing is -/
def ob_E (d : Nat) : Nat := 4 ^ d
theorem ob_Eb : ∀ d, d < 8 → 0 < ob_E d ∧ ob_E d ≤ 16384 := by decide +kernel
theorem ob_cc : ∀ d, d < 8 → (1 : Int32) <<< ((2 * nI d) &&& 31) = nI (ob_E d) := by decide +kernel
theorem ob_sft : ∀ d, d < 8 → ∀ i, i < d → (0 : Int32) ≤ 2 * ((nI d - 1) - nI i) := by decide +kernel
def ob_dg (d : Nat) (c : Int32) (i : Nat) : Int32 := (c >>> ((2 * ((nI d - 1) - nI i)) &&& 31)) &&& 3
theorem ob_dgN (d : Nat) (c : Int32) (i : Nat) : ∃ q, q < 4 ∧ ob_dg d c i = nI q := pk_andE _ 2 (by decide)
theorem ob_dg0 (d i : Nat) : ob_dg d 0 i = 0 := by simp [ob_dg]
def ob_tot (d : Nat) (c : Int32) : Nat → Int32
  | 0 => 0
  | i + 1 => ob_tot d c i + ob_dg d c i
theorem ob_totN (d : Nat) (c : Int32) : ∀ i, ∃ q, q ≤ 3 * i ∧ ob_tot d c i = nI q := by
  intro i
  induction i with
  | zero => exact ⟨0, by omega, rfl⟩
  | succ i ih =>
    obtain ⟨q, hq, e⟩ := ih
    obtain ⟨p, hp, e'⟩ := ob_dgN d c i
    refine ⟨q + p, by omega, ?_⟩
    show ob_tot d c i + ob_dg d c i = _
    rw [e, e', nI_add]
theorem ob_tot0 (d : Nat) (c : Int32) : ∀ i, i ≤ 7 → ob_tot d c i = 0 → ∀ j, j < i → ob_dg d c j = 0 := by
  intro i
  induction i with
  | zero => intro _ _ j hj; exact absurd hj (by omega)
  | succ i ih =>
    intro hi h j hj
    obtain ⟨q, hq, e⟩ := ob_totN d c i
    obtain ⟨p, hp, e'⟩ := ob_dgN d c i
    have h' : nI (q + p) = nI 0 := by
      rw [← nI_add, ← e, ← e']
      exact h
    have h0 : q + p = 0 := (nI_eq (by omega) (by omega)).mp h'
    have hq0 : q = 0 := by omega
    have hp0 : p = 0 := by omega
    subst hq0 hp0
    by_cases z : j = i
    · rw [z, e']; rfl
    · exact ih (by omega) e j (by omega)
theorem ob_tot00 (d : Nat) : ∀ i, ob_tot d 0 i = 0 := by
  intro i
  induction i with
  | zero => rfl
  | succ i ih =>
    show ob_tot d 0 i + ob_dg d 0 i = 0
    rw [ih, ob_dg0]; rfl
theorem ob_totP (d : Nat) (c : Int32) (i : Nat) (hi : i ≤ 7) : 0 ≤ ob_tot d c i := by
  obtain ⟨q, hq, e⟩ := ob_totN d c i
  rw [e]
  exact nI_pos' (by omega)
/-- what each firm has gained by the first debts' digits -/
def ob_gn (d : Nat) (D C : Nat → Int32) (c : Int32) : Nat → Nat → Int32
  | 0 => fun _ => 0
  | i + 1 => fun j => ob_gn d D C c i j + (if j = (C i).toNatClampNeg then ob_dg d c i else 0) - (if j = (D i).toNatClampNeg then ob_dg d c i else 0)
theorem ob_gn_out {n d : Nat} {D C A O : Nat → Int32} {c : Int32} (ok : ob_ok n d D C A O) {q : Nat} (hq : n ≤ q) : ∀ i, i ≤ d → ob_gn d D C c i q = 0 := by
  obtain ⟨h2, h5, h7, hD, hC, hA, hO⟩ := ok
  intro i
  induction i with
  | zero => intro _; rfl
  | succ i ih =>
    intro hi
    obtain ⟨a, ha, ea⟩ := hD i (by omega)
    obtain ⟨b, hb, eb⟩ := hC i (by omega)
    show ob_gn d D C c i q + (if q = (C i).toNatClampNeg then ob_dg d c i else 0) - (if q = (D i).toNatClampNeg then ob_dg d c i else 0) = 0
    rw [ea, eb, nI_clamp (by omega), nI_clamp (by omega), if_neg (by omega), if_neg (by omega), ih (by omega)]
    rfl
theorem ob_gn0 (d : Nat) (D C : Nat → Int32) (q : Nat) : ∀ i, ob_gn d D C 0 i q = 0 := by
  intro i
  induction i with
  | zero => rfl
  | succ i ih =>
    show ob_gn d D C 0 i q + (if q = (C i).toNatClampNeg then ob_dg d 0 i else 0) - (if q = (D i).toNatClampNeg then ob_dg d 0 i else 0) = 0
    rw [ih, ob_dg0]
    simp
def ob_fit (d : Nat) (D C A P : Nat → Int32) (c : Int32) (i : Nat) : Prop := ob_dg d c i ≤ A i ∧ (ob_dg d c i ≤ 0 ∨ (P (D i).toNatClampNeg = 0 ∧ P (C i).toNatClampNeg = 0))
/-- the code c is that of a clearing, the firms with P not 0 being out -/
def ob_cl (n d : Nat) (D C A P : Nat → Int32) (c : Int32) : Prop := ¬ c < 0 ∧ c < nI (ob_E d) ∧ (∀ i, i < d → ob_fit d D C A P c i) ∧ (∀ q, q < n → ob_gn d D C c d q = 0)
theorem ob_cl0 {n d : Nat} {D C A O : Nat → Int32} (ok : ob_ok n d D C A O) : ob_cl n d D C A O 0 := by
  obtain ⟨h2, h5, h7, hD, hC, hA, hO⟩ := ok
  have hE := ob_Eb d (by omega)
  refine ⟨by decide, nI_lt (a := 0) hE.1 (by omega), fun i hi => ?_, fun q hq => ob_gn0 d D C q d⟩
  obtain ⟨a, ha, e⟩ := hA i hi
  unfold ob_fit
  rw [ob_dg0, e]
  exact ⟨nI_pos' (by omega), Or.inl (by decide)⟩
/-! the component's clears -/
theorem ob_xs {post : Int32 → Prop} {d j : Nat} {x c : Int32} {D C A O g : Nat → Int32} (h : post (ob_dg d c j)) : wpX_struckOff post (x, nI d, D, C, A, O, g) c (nI j) := h
theorem ob_xcc {post : Int32 → Prop} {d : Nat} {x : Int32} {D C A O g : Nat → Int32} (h7 : d ≤ 7) (h : post (nI (ob_E d))) : wpX_codeCount post (x, nI d, D, C, A, O, g) := by
  unfold wpX_codeCount
  dsimp only
  rw [ob_cc d (by omega)]
  exact h
theorem ob_xl {post : Int32 → Prop} {n d j : Nat} {D C A O P g : Nat → Int32} {w : Int32} (ok : ob_ok n d D C A O) (hw : ∀ a, a < n → (P a = 0 ↔ O a = 0 ∧ ¬ nI a = w)) (hj : j < d) (h1 : P (D j).toNatClampNeg = 0 ∧ P (C j).toNatClampNeg = 0 → post (A j)) (h0 : ¬ (P (D j).toNatClampNeg = 0 ∧ P (C j).toNatClampNeg = 0) → post 0) : wpX_limit post (nI n, nI d, D, C, A, O, g) (nI j) w := by
  obtain ⟨h2, h5, h7, hD, hC, hA, hO⟩ := ok
  obtain ⟨a, ha, ea⟩ := hD j hj
  obtain ⟨b, hb, eb⟩ := hC j hj
  have e : (nI j).toNatClampNeg = j := nI_clamp (by omega)
  have e1 : (nI a).toNatClampNeg = a := nI_clamp (by omega)
  have e2 : (nI b).toNatClampNeg = b := nI_clamp (by omega)
  have i7 : vp_in (nI j) 7 := vp_in_nI (by omega) (by decide)
  have ia : vp_in (nI a) 5 := vp_in_nI (by omega) (by decide)
  have ib : vp_in (nI b) 5 := vp_in_nI (by omega) (by decide)
  rw [ea, eb, e1, e2, hw a ha, hw b hb] at h1 h0
  refine ⟨i7, fun x ex => ⟨i7, fun y ey => ?_⟩⟩
  rw [e, ea] at ex
  rw [e, eb] at ey
  subst ex ey
  refine ⟨ia, ?_⟩
  rw [e1]
  by_cases z1 : O a = 0
  · refine br_t z1 ⟨ib, ?_⟩
    rw [e2]
    by_cases z2 : O b = 0
    · refine br_t z2 ?_
      by_cases z3 : nI a = w
      · exact br_t z3 (br_f (by decide) (h0 fun k => k.1.2 z3))
      · refine br_f z3 ?_
        by_cases z4 : nI b = w
        · exact br_t z4 (br_f (by decide) (h0 fun k => k.2.2 z4))
        · refine br_f z4 (br_t rfl ⟨i7, ?_⟩)
          rw [e]
          exact h1 ⟨⟨z1, z3⟩, z2, z4⟩
    · exact br_f z2 (br_f (by decide) (h0 fun k => z2 k.2.1))
  · exact br_f z1 (br_f (by decide) (h0 fun k => z1 k.1.1))
theorem ob_x108 {post : Int32 → SX → Prop} {n : Nat} {y : Int32} {D C A O g : Nat → Int32} (hn : n ≤ 5) : ∀ m j, j + m = n → ((∀ q, j ≤ q → q < n → g q = 0) → post 1 (nI n, y, D, C, A, O, g)) → ((∃ q, q < n ∧ ¬ g q = 0) → post 0 (nI n, y, D, C, A, O, g)) → wX_clears_108 post (nI n) y D C A O g (m + 1) (nI j) := by
  intro m
  induction m with
  | zero =>
    intro j hj h1 h0
    exact br_t (nI_le (by omega) (by omega)) (h1 fun q p s => absurd s (by omega))
  | succ m ih =>
    intro j hj h1 h0
    have e : (nI j).toNatClampNeg = j := nI_clamp (by omega)
    refine br_f (nI_ge (by omega) (by omega)) ⟨vp_in_nI (by omega) (by decide), ?_⟩
    rw [e]
    by_cases z : g j = 0
    · refine br_t z fun x ex => ?_
      rw [ex, nI_1]
      refine ih (j + 1) (by omega) (fun k => h1 fun q p s => ?_) h0
      by_cases w : q = j
      · rw [w]; exact z
      · exact k q (by omega) s
    · exact br_f z (h0 ⟨j, by omega, z⟩)
theorem ob_gx {g : Nat → Int32} {a b q : Nat} {x : Int32} : upd (upd g b (g b + x)) a (upd g b (g b + x) a - x) q = g q + (if q = b then x else 0) - (if q = a then x else 0) := by
  unfold upd
  by_cases z1 : q = a
  · subst z1
    by_cases z2 : q = b
    · subst z2; simp
    · simp [z2]
  · by_cases z2 : q = b
    · subst z2; simp [z1]
    · simp [z1, z2]
theorem ob_gy {g : Nat → Int32} {a b q : Nat} {x : Int32} : upd (upd g a (g a - x)) b (upd g a (g a - x) b + x) q = g q + (if q = b then x else 0) - (if q = a then x else 0) := by
  unfold upd
  by_cases z1 : q = a
  · subst z1
    by_cases z2 : q = b
    · subst z2; simp
    · simp [z2]
  · by_cases z2 : q = b
    · subst z2; simp [z1]
    · simp [z1, z2]
theorem ob_xg {n d N : Nat} {D C A O g : Nat → Int32} {c : Int32} {j : Nat} {K : (Nat → Int32) → Prop} (ok : ob_ok n d D C A O) (hj : j < d) (hg : ∀ q, q < N → g q = ob_gn d D C c j q) (hK : ∀ g', (∀ q, q < N → g' q = ob_gn d D C c (j + 1) q) → K g') : vp_in (nI j) 7 ∧ (vp_in (C (nI j).toNatClampNeg) 5 ∧ (vp_in (C (nI j).toNatClampNeg) 5 ∧ ∀ g1 : Nat → Int32, g1 = upd g (C (nI j).toNatClampNeg).toNatClampNeg ((g (C (nI j).toNatClampNeg).toNatClampNeg) + ob_dg d c j) → (vp_in (nI j) 7 ∧ (vp_in (D (nI j).toNatClampNeg) 5 ∧ (vp_in (D (nI j).toNatClampNeg) 5 ∧ ∀ g2 : Nat → Int32, g2 = upd g1 (D (nI j).toNatClampNeg).toNatClampNeg ((g1 (D (nI j).toNatClampNeg).toNatClampNeg) - ob_dg d c j) → K g2))))) := by
  obtain ⟨h2, h5, h7, hD, hC, hA, hO⟩ := ok
  obtain ⟨a, ha, ea⟩ := hD j hj
  obtain ⟨b, hb, eb⟩ := hC j hj
  have e : (nI j).toNatClampNeg = j := nI_clamp (by omega)
  have e1 : (nI a).toNatClampNeg = a := nI_clamp (by omega)
  have e2 : (nI b).toNatClampNeg = b := nI_clamp (by omega)
  have i7 : vp_in (nI j) 7 := vp_in_nI (by omega) (by decide)
  have ia : vp_in (nI a) 5 := vp_in_nI (by omega) (by decide)
  have ib : vp_in (nI b) 5 := vp_in_nI (by omega) (by decide)
  rw [e, ea, eb, e1, e2]
  refine ⟨i7, ib, ib, fun g1 eg1 => ⟨i7, ia, ia, fun g2 eg2 => hK g2 fun q hq => ?_⟩⟩
  subst eg1
  rw [eg2, ob_gx]
  show _ = ob_gn d D C c j q + (if q = (C j).toNatClampNeg then ob_dg d c j else 0) - (if q = (D j).toNatClampNeg then ob_dg d c j else 0)
  rw [ea, eb, e1, e2, hg q hq]
theorem ob_x39 {post : Int32 → SX → Prop} {n d : Nat} {D C A O P : Nat → Int32} {c w : Int32} (ok : ob_ok n d D C A O) (hw : ∀ a, a < n → (P a = 0 ↔ O a = 0 ∧ ¬ nI a = w)) : ∀ (m j : Nat) (g : Nat → Int32), j + m = d → (∀ q, q < n → g q = ob_gn d D C c j q) → ((∀ i, j ≤ i → i < d → ob_fit d D C A P c i) ∧ (∀ q, q < n → ob_gn d D C c d q = 0) → ∀ g', post 1 (nI n, nI d, D, C, A, O, g')) → (¬ ((∀ i, j ≤ i → i < d → ob_fit d D C A P c i) ∧ (∀ q, q < n → ob_gn d D C c d q = 0)) → ∀ g', post 0 (nI n, nI d, D, C, A, O, g')) → wX_clears_39 post c w (nI n) (nI d) (m + 1) (nI j) D C A O g := by
  have ok' := ok
  obtain ⟨h2, h5, h7, hD, hC, hA, hO⟩ := ok'
  intro m
  induction m with
  | zero =>
    intro j g hj hg h1 h0
    have hjd : j = d := by omega
    subst hjd
    refine br_t (nI_le (by omega) (by omega)) ⟨n + 1, ob_x108 h5 n 0 (by omega) (fun k => h1 ⟨fun i p s => absurd s (by omega), fun q hq => ?_⟩ g) (fun ⟨q, hq, z⟩ => h0 (fun k => z ?_) g)⟩
    · rw [← hg q hq]; exact k q (by omega) hq
    · rw [hg q hq]; exact k.2 q hq
  | succ m ih =>
    intro j g hj hg h1 h0
    have hjd : j < d := by omega
    refine br_f (nI_ge hjd (by omega)) (ob_xs ?_)
    obtain ⟨a, ha, ea⟩ := hA j hjd
    have step : ob_fit d D C A P c j → ∀ g', (∀ q, q < n → g' q = ob_gn d D C c (j + 1) q) → ∀ x, x = nI j + 1 → wX_clears_39 post c w (nI n) (nI d) (m + 1) x D C A O g' := by
      intro hf g' hg' x ex
      rw [ex, nI_1]
      refine ih (j + 1) g' (by omega) hg' (fun k => h1 ⟨fun i p s => ?_, k.2⟩) (fun k => h0 fun k' => k ⟨fun i p s => k'.1 i (by omega) s, k'.2⟩)
      by_cases z : i = j
      · rw [z]; exact hf
      · exact k.1 i (by omega) s
    refine ob_xl ok hw hjd (fun hb => ?_) (fun hb => ?_)
    · by_cases z : ob_dg d c j ≤ A j
      · exact br_t z (ob_xg ok hjd hg (step ⟨z, Or.inr hb⟩))
      · exact br_f z (h0 (fun k => z (k.1 j (by omega) hjd).1) g)
    · by_cases z : ob_dg d c j ≤ 0
      · have zA : ob_dg d c j ≤ A j := by rw [ea]; exact Int32.le_trans z (nI_pos' (by omega))
        exact br_t z (ob_xg ok hjd hg (step ⟨zA, Or.inl z⟩))
      · exact br_f z (h0 (fun k => (k.1 j (by omega) hjd).2.elim z hb) g)
theorem ob_x16 {post : Int32 → SX → Prop} {n d : Nat} {D C A O P : Nat → Int32} {c w : Int32} (ok : ob_ok n d D C A O) (hw : ∀ a, a < n → (P a = 0 ↔ O a = 0 ∧ ¬ nI a = w)) (h1 : (∀ i, i < d → ob_fit d D C A P c i) ∧ (∀ q, q < n → ob_gn d D C c d q = 0) → ∀ g', post 1 (nI n, nI d, D, C, A, O, g')) (h0 : ¬ ((∀ i, i < d → ob_fit d D C A P c i) ∧ (∀ q, q < n → ob_gn d D C c d q = 0)) → ∀ g', post 0 (nI n, nI d, D, C, A, O, g')) : ∀ (m j : Nat) (g : Nat → Int32), j + m = n → (∀ q, q < j → g q = 0) → wX_clears_16 post c w (nI n) (nI d) (m + 1) (nI j) D C A O g := by
  have ok' := ok
  obtain ⟨h2, h5, h7, hD, hC, hA, hO⟩ := ok'
  intro m
  induction m with
  | zero =>
    intro j g hj hg
    refine br_t (nI_le (by omega) (by omega)) ⟨d + 1, ob_x39 ok hw d 0 g (by omega) (fun q hq => hg q (by omega)) (fun k => h1 ⟨fun i s => k.1 i (by omega) s, k.2⟩) (fun k => h0 fun k' => k ⟨fun i p s => k'.1 i s, k'.2⟩)⟩
  | succ m ih =>
    intro j g hj hg
    have e : (nI j).toNatClampNeg = j := nI_clamp (by omega)
    refine br_f (nI_ge (by omega) (by omega)) ⟨vp_in_nI (by omega) (by decide), fun g' eg x ex => ?_⟩
    rw [e] at eg
    rw [ex, nI_1]
    refine ih (j + 1) g' (by omega) fun q hq => ?_
    rw [eg]
    by_cases z : q = j
    · rw [z]; exact pk_us
    · rw [pk_un z]; exact hg q (by omega)
theorem ob_xc {post : Int32 → SX → Prop} {n d : Nat} {D C A O P : Nat → Int32} {c w : Int32} {g : Nat → Int32} (ok : ob_ok n d D C A O) (hw : ∀ a, a < n → (P a = 0 ↔ O a = 0 ∧ ¬ nI a = w)) (h1 : ob_cl n d D C A P c → ∀ g', post 1 (nI n, nI d, D, C, A, O, g')) (h0 : ¬ ob_cl n d D C A P c → ∀ g', post 0 (nI n, nI d, D, C, A, O, g')) : wpX_clears post (nI n, nI d, D, C, A, O, g) c w := by
  unfold wpX_clears
  dsimp only
  by_cases z0 : c < 0
  · exact br_t z0 (h0 (fun k => k.1 z0) g)
  · refine br_f z0 (ob_xcc ok.2.2.1 ?_)
    by_cases z1 : c < nI (ob_E d)
    · exact br_t z1 ⟨n + 1, ob_x16 ok hw (fun k => h1 ⟨z0, z1, k.1, k.2⟩) (fun k => h0 fun k' => k ⟨k'.2.2.1, k'.2.2.2⟩) n 0 g (by omega) (fun q hq => absurd hq (by omega))⟩
    · exact br_f z1 (h0 (fun k => z1 k.2.1) g)
end
section
/-! the reference's total -/
theorem ob_yd {post : Int32 → Prop} {d j : Nat} {x c : Int32} {D C A O g : Nat → Int32} (h7 : d ≤ 7) (hj : j < d) (h : post (ob_dg d c j)) : wpY_digit post (x, nI d, D, C, A, O, g) c (nI j) := by
  intro s es
  subst es
  exact br_t (ob_sft d (by omega) j hj) h
theorem ob_y157 {post : Int32 → SY → Prop} {t x y : Int32} {D C A O g : Nat → Int32} : ∀ m j, j + m = 5 → ((∀ q, j ≤ q → q < 5 → g q = 0) → post t (x, y, D, C, A, O, g)) → ((∃ q, q < 5 ∧ ¬ g q = 0) → post (-1) (x, y, D, C, A, O, g)) → wY_total_157 post t x y D C A O g (m + 1) (nI j) := by
  intro m
  induction m with
  | zero =>
    intro j hj h1 h0
    exact br_t (nI_le (a := 5) (by omega) (by omega)) (h1 fun q p s => absurd s (by omega))
  | succ m ih =>
    intro j hj h1 h0
    have e : (nI j).toNatClampNeg = j := nI_clamp (by omega)
    refine br_f (nI_ge (b := 5) (by omega) (by decide)) ⟨vp_in_nI (by omega) (by decide), ?_⟩
    rw [e]
    by_cases z : g j = 0
    · refine br_t z fun x ex => ?_
      rw [ex, nI_1]
      refine ih (j + 1) (by omega) (fun k => h1 fun q p s => ?_) h0
      by_cases w : q = j
      · rw [w]; exact z
      · exact k q (by omega) s
    · exact br_f z (h0 ⟨j, by omega, z⟩)
theorem ob_y112 {post : Int32 → SY → Prop} {J : Int32 → Int32 → (Nat → Int32) → (Nat → Int32) → (Nat → Int32) → (Nat → Int32) → (Nat → Int32) → Prop} {n d N : Nat} {D C A O g : Nat → Int32} {c t : Int32} {j : Nat} (ok : ob_ok n d D C A O) (hj : j < d) (hg : ∀ q, q < N → g q = ob_gn d D C c j q) (hK : ∀ g', (∀ q, q < N → g' q = ob_gn d D C c (j + 1) q) → J (t + ob_dg d c j) (nI (j + 1)) D C A O g') : wY_total_112 post J c t (nI j) (ob_dg d c j) (nI n) (nI d) D C A O g := by
  obtain ⟨h2, h5, h7, hD, hC, hA, hO⟩ := ok
  obtain ⟨a, ha, ea⟩ := hD j hj
  obtain ⟨b, hb, eb⟩ := hC j hj
  have e : (nI j).toNatClampNeg = j := nI_clamp (by omega)
  have e1 : (nI a).toNatClampNeg = a := nI_clamp (by omega)
  have e2 : (nI b).toNatClampNeg = b := nI_clamp (by omega)
  have i7 : vp_in (nI j) 7 := vp_in_nI (by omega) (by decide)
  have ia : vp_in (nI a) 5 := vp_in_nI (by omega) (by decide)
  have ib : vp_in (nI b) 5 := vp_in_nI (by omega) (by decide)
  unfold wY_total_112
  rw [e, ea, eb, e1, e2]
  refine ⟨i7, ia, ia, fun g1 eg1 => ⟨i7, ib, ib, fun g2 eg2 s es x ex => ?_⟩⟩
  rw [nI_1] at ex
  subst es ex eg1
  refine hK g2 fun q hq => ?_
  rw [eg2, ob_gy]
  show _ = ob_gn d D C c j q + (if q = (C j).toNatClampNeg then ob_dg d c j else 0) - (if q = (D j).toNatClampNeg then ob_dg d c j else 0)
  rw [ea, eb, e1, e2, hg q hq]
theorem ob_y42 {post : Int32 → SY → Prop} {n d : Nat} {D C A O : Nat → Int32} {c : Int32} (ok : ob_ok n d D C A O) : ∀ (m j : Nat) (g : Nat → Int32), j + m = d → (∀ q, q < 5 → g q = ob_gn d D C c j q) → ((∀ i, j ≤ i → i < d → ob_fit d D C A O c i) ∧ (∀ q, q < n → ob_gn d D C c d q = 0) → ∀ g', post (ob_tot d c d) (nI n, nI d, D, C, A, O, g')) → (¬ ((∀ i, j ≤ i → i < d → ob_fit d D C A O c i) ∧ (∀ q, q < n → ob_gn d D C c d q = 0)) → ∀ g', post (-1) (nI n, nI d, D, C, A, O, g')) → wY_total_42 post c (nI n) (nI d) (m + 1) (ob_tot d c j) (nI j) D C A O g := by
  have ok' := ok
  obtain ⟨h2, h5, h7, hD, hC, hA, hO⟩ := ok'
  intro m
  induction m with
  | zero =>
    intro j g hj hg h1 h0
    have hjd : j = d := by omega
    subst hjd
    refine br_t (nI_le (by omega) (by omega)) ⟨5 + 1, ob_y157 5 0 (by omega) (fun k => h1 ⟨fun i p s => absurd s (by omega), fun q hq => ?_⟩ g) (fun ⟨q, hq, z⟩ => h0 (fun k => z ?_) g)⟩
    · rw [← hg q (by omega)]; exact k q (by omega) (by omega)
    · rw [hg q hq]
      by_cases hn : q < n
      · exact k.2 q hn
      · exact ob_gn_out ok (by omega) j (by omega)
  | succ m ih =>
    intro j g hj hg h1 h0
    have hjd : j < d := by omega
    have e : (nI j).toNatClampNeg = j := nI_clamp (by omega)
    obtain ⟨a, ha, ea⟩ := hD j hjd
    obtain ⟨b, hb, eb⟩ := hC j hjd
    have i7 : vp_in (nI j) 7 := vp_in_nI (by omega) (by decide)
    have ia : vp_in (D j) 5 := by rw [ea]; exact vp_in_nI (by omega) (by decide)
    have ib : vp_in (C j) 5 := by rw [eb]; exact vp_in_nI (by omega) (by decide)
    have step : ob_fit d D C A O c j → wY_total_112 post (wY_total_42 post c (nI n) (nI d) (m + 1)) c (ob_tot d c j) (nI j) (ob_dg d c j) (nI n) (nI d) D C A O g := by
      intro hf
      refine ob_y112 ok hjd hg fun g' hg' => ?_
      refine ih (j + 1) g' (by omega) hg' (fun k => h1 ⟨fun i p s => ?_, k.2⟩) (fun k => h0 fun k' => k ⟨fun i p s => k'.1 i (by omega) s, k'.2⟩)
      by_cases z : i = j
      · rw [z]; exact hf
      · exact k.1 i (by omega) s
    refine br_f (nI_ge hjd (by omega)) (br_f (nI_ge (b := 7) (by omega) (by decide)) (ob_yd h7 hjd ⟨i7, ?_⟩))
    rw [e]
    by_cases zA : ob_dg d c j ≤ A j
    · refine br_t zA ?_
      by_cases z0 : ob_dg d c j ≤ 0
      · exact br_t z0 (step ⟨zA, Or.inl z0⟩)
      · refine br_f z0 ⟨i7, ia, ?_⟩
        by_cases z1 : O (D j).toNatClampNeg = 0
        · refine br_t z1 ⟨i7, ib, ?_⟩
          by_cases z2 : O (C j).toNatClampNeg = 0
          · exact br_t z2 (step ⟨zA, Or.inr ⟨z1, z2⟩⟩)
          · exact br_f z2 (h0 (fun k => (k.1 j (by omega) hjd).2.elim z0 fun p => z2 p.2) g)
        · exact br_f z1 (h0 (fun k => (k.1 j (by omega) hjd).2.elim z0 fun p => z1 p.1) g)
    · exact br_f zA (h0 (fun k => zA (k.1 j (by omega) hjd).1) g)
theorem ob_y20 {post : Int32 → SY → Prop} {n d : Nat} {D C A O : Nat → Int32} {c : Int32} (ok : ob_ok n d D C A O) (h1 : (∀ i, i < d → ob_fit d D C A O c i) ∧ (∀ q, q < n → ob_gn d D C c d q = 0) → ∀ g', post (ob_tot d c d) (nI n, nI d, D, C, A, O, g')) (h0 : ¬ ((∀ i, i < d → ob_fit d D C A O c i) ∧ (∀ q, q < n → ob_gn d D C c d q = 0)) → ∀ g', post (-1) (nI n, nI d, D, C, A, O, g')) : ∀ (m j : Nat) (g : Nat → Int32), j + m = 5 → (∀ q, q < j → g q = 0) → wY_total_20 post c (nI n) (nI d) (m + 1) (nI j) D C A O g := by
  intro m
  induction m with
  | zero =>
    intro j g hj hg
    refine br_t (nI_le (a := 5) (by omega) (by omega)) ⟨d + 1, ob_y42 ok d 0 g (by omega) (fun q hq => hg q (by omega)) (fun k => h1 ⟨fun i s => k.1 i (by omega) s, k.2⟩) (fun k => h0 fun k' => k ⟨fun i p s => k'.1 i s, k'.2⟩)⟩
  | succ m ih =>
    intro j g hj hg
    have e : (nI j).toNatClampNeg = j := nI_clamp (by omega)
    refine br_f (nI_ge (b := 5) (by omega) (by decide)) ⟨vp_in_nI (by omega) (by decide), fun g' eg x ex => ?_⟩
    rw [e] at eg
    rw [ex, nI_1]
    refine ih (j + 1) g' (by omega) fun q hq => ?_
    rw [eg]
    by_cases z : q = j
    · rw [z]; exact pk_us
    · rw [pk_un z]; exact hg q (by omega)
theorem ob_yt {post : Int32 → SY → Prop} {n d : Nat} {D C A O : Nat → Int32} {c : Int32} {g : Nat → Int32} (ok : ob_ok n d D C A O) (h1 : ob_cl n d D C A O c → ∀ g', post (ob_tot d c d) (nI n, nI d, D, C, A, O, g')) (h0 : ¬ ob_cl n d D C A O c → ∀ g', post (-1) (nI n, nI d, D, C, A, O, g')) : wpY_total post (nI n, nI d, D, C, A, O, g) c := by
  unfold wpY_total
  dsimp only
  have h7 := ok.2.2.1
  rw [ob_cc d (by omega)]
  by_cases z0 : c < 0
  · exact br_t z0 (h0 (fun k => k.1 z0) g)
  · refine br_f z0 ?_
    by_cases z1 : c < nI (ob_E d)
    · exact br_t z1 ⟨5 + 1, ob_y20 ok (fun k => h1 ⟨z0, z1, k.1, k.2⟩) (fun k => h0 fun k' => k ⟨k'.2.2.1, k'.2.2.2⟩) 5 0 g (by omega) (fun q hq => absurd hq (by omega))⟩
    · exact br_f z1 (h0 (fun k => z1 k.2.1) g)
end
section
/-! totals, and the search in lockstep -/
theorem ob_xt4 {post : Int32 → Prop} {d : Nat} {x c : Int32} {D C A O g : Nat → Int32} (h7 : d ≤ 7) (h : post (ob_tot d c d)) : ∀ m j, j + m = d → wX_totalOf_4 post c x (nI d) D C A O g (m + 1) (ob_tot d c j) (nI j) := by
  intro m
  induction m with
  | zero =>
    intro j hj
    have hjd : j = d := by omega
    subst hjd
    exact br_t (nI_le (by omega) (by omega)) h
  | succ m ih =>
    intro j hj
    refine br_f (nI_ge (by omega) (by omega)) (ob_xs fun s es y ey => ?_)
    rw [nI_1] at ey
    subst es ey
    exact ih (j + 1) (by omega)
theorem ob_xt {post : Int32 → Prop} {d : Nat} {x c : Int32} {D C A O g : Nat → Int32} (h7 : d ≤ 7) (h : post (ob_tot d c d)) : wpX_totalOf post (x, nI d, D, C, A, O, g) c := ⟨d + 1, ob_xt4 h7 h d 0 (by omega)⟩
theorem ob_m1 {d : Nat} {c : Int32} (h7 : d ≤ 7) : (-1 : Int32) ≤ ob_tot d c d := Int32.le_trans (by decide) (ob_totP d c d h7)
theorem ob_srch {n d : Nat} {D C A O P : Nat → Int32} {w : Int32} (ok : ob_ok n d D C A O) (okP : ob_ok n d D C A P) (hw : ∀ a, a < n → (P a = 0 ↔ O a = 0 ∧ ¬ nI a = w)) : ∀ (m k : Nat) (b : Int32), k + m = ob_E d → ob_cl n d D C A P b → ∃ r, ob_cl n d D C A P r ∧ (∀ (post : Int32 → SX → Prop) (g : Nat → Int32), (∀ g', post r (nI n, nI d, D, C, A, O, g')) → wX_findBest_13 post w (nI (ob_E d)) (m + 1) b (ob_tot d b d) (nI k) (nI n) (nI d) D C A O g) ∧ (∀ (post : Int32 → SY → Prop) (g : Nat → Int32), (∀ g', post r (nI n, nI d, D, C, A, P, g')) → wY_search_6 post (m + 1) b (ob_tot d b d) (nI k) (nI n) (nI d) D C A P g) := by
  have h7 := ok.2.2.1
  have hE := ob_Eb d (by omega)
  have hcc := ob_cc d (by omega)
  intro m
  induction m with
  | zero =>
    intro k b hk hb
    have hc : nI (ob_E d) ≤ nI k := nI_le (by omega) (by omega)
    have hc' : (1 : Int32) <<< ((2 * nI d) &&& 31) ≤ nI k := by rw [hcc]; exact hc
    exact ⟨b, hb, fun post g hp => br_t hc (hp g), fun post g hp => br_t hc' (hp g)⟩
  | succ m ih =>
    intro k b hk hb
    have hc : ¬ nI (ob_E d) ≤ nI k := nI_ge (by omega) (by omega)
    have hc' : ¬ (1 : Int32) <<< ((2 * nI d) &&& 31) ≤ nI k := by rw [hcc]; exact hc
    by_cases hcl : ob_cl n d D C A P (nI k)
    · by_cases z : ob_tot d (nI k) d ≤ ob_tot d b d
      · obtain ⟨r, hr, hX, hY⟩ := ih (k + 1) b (by omega) hb
        refine ⟨r, hr, fun post g hp => br_f hc (ob_xt h7 (br_t z fun x ex => ?_)), fun post g hp => br_f hc' (ob_yt okP (fun _ g' => br_t z fun x ex => ?_) (fun h => absurd hcl h))⟩
        · rw [ex, nI_1]; exact hX post g hp
        · rw [ex, nI_1]; exact hY post g' hp
      · obtain ⟨r, hr, hX, hY⟩ := ih (k + 1) (nI k) (by omega) hcl
        refine ⟨r, hr, fun post g hp => br_f hc (ob_xt h7 (br_f z (ob_xc ok hw (fun _ g' => br_f (by decide) fun x ex => ?_) (fun h => absurd hcl h)))), fun post g hp => br_f hc' (ob_yt okP (fun _ g' => br_f z fun x ex => ?_) (fun h => absurd hcl h))⟩
        · rw [ex, nI_1]; exact hX post g' hp
        · rw [ex, nI_1]; exact hY post g' hp
    · obtain ⟨r, hr, hX, hY⟩ := ih (k + 1) b (by omega) hb
      refine ⟨r, hr, fun post g hp => br_f hc (ob_xt h7 ?_), fun post g hp => br_f hc' (ob_yt okP (fun h => absurd h hcl) (fun _ g' => br_t (ob_m1 h7) fun x ex => ?_))⟩
      · by_cases z : ob_tot d (nI k) d ≤ ob_tot d b d
        · refine br_t z fun x ex => ?_
          rw [ex, nI_1]; exact hX post g hp
        · refine br_f z (ob_xc ok hw (fun h => absurd h hcl) (fun _ g' => br_t rfl fun x ex => ?_))
          rw [ex, nI_1]; exact hX post g' hp
      · rw [ex, nI_1]; exact hY post g' hp
theorem ob_fb {n d : Nat} {D C A O P : Nat → Int32} {w : Int32} (ok : ob_ok n d D C A O) (okP : ob_ok n d D C A P) (hw : ∀ a, a < n → (P a = 0 ↔ O a = 0 ∧ ¬ nI a = w)) : ∃ r, ob_cl n d D C A P r ∧ (∀ (post : Int32 → SX → Prop) (g : Nat → Int32), (∀ g', post r (nI n, nI d, D, C, A, O, g')) → wpX_findBest post (nI n, nI d, D, C, A, O, g) w) ∧ (∀ (post : Int32 → SY → Prop) (g : Nat → Int32), (∀ g', post r (nI n, nI d, D, C, A, P, g')) → wpY_search post (nI n, nI d, D, C, A, P, g)) := by
  have h7 := ok.2.2.1
  have hE := ob_Eb d (by omega)
  have hcc := ob_cc d (by omega)
  have t0 : ob_tot d 0 d = 0 := ob_tot00 d d
  obtain ⟨r, hr, hX, hY⟩ := ob_srch ok okP hw (ob_E d - 1) 1 0 (by omega) (ob_cl0 okP)
  rw [t0] at hX hY
  refine ⟨r, hr, fun post g hp => ?_, fun post g hp => ?_⟩
  · unfold wpX_findBest
    dsimp only
    exact ob_xcc h7 ⟨ob_E d - 1 + 1, hX post g hp⟩
  · have hc : ¬ (1 : Int32) <<< ((2 * nI d) &&& 31) ≤ 0 := by rw [hcc]; exact nI_nle hE.1 (by omega)
    have z : ob_tot d 0 d ≤ 0 := by rw [t0]; decide
    refine ⟨ob_E d - 1 + 1 + 1, br_f hc (ob_yt okP (fun _ g' => br_t z fun x ex => ?_) (fun h => absurd (ob_cl0 okP) h))⟩
    have ex' : x = nI 1 := ex
    rw [ex']
    exact hY post g' hp
theorem ob_bt {n d : Nat} {D C A O P : Nat → Int32} {w : Int32} (ok : ob_ok n d D C A O) (okP : ob_ok n d D C A P) (hw : ∀ a, a < n → (P a = 0 ↔ O a = 0 ∧ ¬ nI a = w)) : ∃ r, (∀ (post : Int32 → SX → Prop) (g : Nat → Int32), (∀ g', post r (nI n, nI d, D, C, A, O, g')) → wpX_bestTotal post (nI n, nI d, D, C, A, O, g) w) ∧ (∀ (post : Int32 → SY → Prop) (g : Nat → Int32), (∀ g', post r (nI n, nI d, D, C, A, P, g')) → wpY_greatest post (nI n, nI d, D, C, A, P, g)) := by
  have h7 := ok.2.2.1
  obtain ⟨r, hr, hX, hY⟩ := ob_fb ok okP hw
  refine ⟨ob_tot d r d, fun post g hp => ?_, fun post g hp => ?_⟩
  · unfold wpX_bestTotal
    dsimp only
    exact hX _ g fun g' => ob_xt h7 (hp g')
  · unfold wpY_greatest
    dsimp only
    exact hY _ g fun g' => ob_yt okP (fun _ g'' => hp g'') (fun h => absurd hr h)
theorem ob_no {n : Nat} {O : Nat → Int32} (hn : n ≤ 5) : ∀ a, a < n → (O a = 0 ↔ O a = 0 ∧ ¬ nI a = -1) := by
  intro a ha
  have h : ¬ nI a = -1 := by
    intro z
    have p := nI_pos (n := a) (by omega)
    rw [z] at p
    exact p (by decide)
  exact ⟨fun z => ⟨z, h⟩, fun z => z.1⟩
theorem ob_mst {n d q : Nat} {D C A O : Nat → Int32} (ok : ob_ok n d D C A O) (hq : q < d) : ∀ (m k : Nat) (b : Int32), k + m = ob_E d → ∃ r, (∀ (post : Int32 → SX → Prop) (g : Nat → Int32), (∀ g', post r (nI n, nI d, D, C, A, O, g')) → wX_most_20 post (nI q) (nI (ob_E d)) (m + 1) b (nI k) (nI n) (nI d) D C A O g) ∧ (∀ (post : Int32 → SY → Prop) (g : Nat → Int32), (∀ g', post r (nI n, nI d, D, C, A, O, g')) → wY_most_14 post (nI q) (m + 1) b (nI k) (nI n) (nI d) D C A O g) := by
  have h7 := ok.2.2.1
  have hw := ob_no (O := O) ok.2.1
  have hE := ob_Eb d (by omega)
  have hcc := ob_cc d (by omega)
  intro m
  induction m with
  | zero =>
    intro k b hk
    have hc : nI (ob_E d) ≤ nI k := nI_le (by omega) (by omega)
    have hc' : (1 : Int32) <<< ((2 * nI d) &&& 31) ≤ nI k := by rw [hcc]; exact hc
    exact ⟨b, fun post g hp => br_t hc (hp g), fun post g hp => br_t hc' (hp g)⟩
  | succ m ih =>
    intro k b hk
    have hc : ¬ nI (ob_E d) ≤ nI k := nI_ge (by omega) (by omega)
    have hc' : ¬ (1 : Int32) <<< ((2 * nI d) &&& 31) ≤ nI k := by rw [hcc]; exact hc
    have hp0 : ¬ ob_tot d (nI k) d < 0 := Int32.not_lt.mpr (ob_totP d (nI k) d h7)
    by_cases z : ob_dg d (nI k) q ≤ b
    · obtain ⟨r, hX, hY⟩ := ih (k + 1) b (by omega)
      refine ⟨r, fun post g hp => br_f hc (ob_xs (br_t z fun x ex => ?_)), fun post g hp => br_f hc' (ob_yd h7 hq (br_t z fun x ex => ?_))⟩
      · rw [ex, nI_1]; exact hX post g hp
      · rw [ex, nI_1]; exact hY post g hp
    · by_cases hcl : ob_cl n d D C A O (nI k)
      · obtain ⟨r, hX, hY⟩ := ih (k + 1) (ob_dg d (nI k) q) (by omega)
        refine ⟨r, fun post g hp => br_f hc (ob_xs (br_f z (ob_xc ok hw (fun _ g' => br_f (by decide) fun x ex => ?_) (fun h => absurd hcl h)))), fun post g hp => br_f hc' (ob_yd h7 hq (br_f z (ob_yt ok (fun _ g' => br_f hp0 fun x ex => ?_) (fun h => absurd hcl h))))⟩
        · rw [ex, nI_1]; exact hX post g' hp
        · rw [ex, nI_1]; exact hY post g' hp
      · obtain ⟨r, hX, hY⟩ := ih (k + 1) b (by omega)
        refine ⟨r, fun post g hp => br_f hc (ob_xs (br_f z (ob_xc ok hw (fun h => absurd h hcl) (fun _ g' => br_t rfl fun x ex => ?_)))), fun post g hp => br_f hc' (ob_yd h7 hq (br_f z (ob_yt ok (fun h => absurd h hcl) (fun _ g' => br_t (by decide) fun x ex => ?_))))⟩
        · rw [ex, nI_1]; exact hX post g' hp
        · rw [ex, nI_1]; exact hY post g' hp
/-! striking off, in lockstep -/
theorem ob_upd_id (A : Nat → Int32) (j : Nat) : upd A j (A j) = A := by
  funext i
  by_cases z : i = j
  · rw [z]; exact pk_us
  · exact pk_un z
theorem ob_str {n d : Nat} {D C O : Nat → Int32} {c t : Int32} (h7 : d ≤ 7) (ht : ¬ t ≤ 0) : ∀ (m j : Nat) (A : Nat → Int32), j + m = d → (∀ i, i < d → ∃ a, a < 4 ∧ A i = nI a) → (∀ i, j ≤ i → i < d → ob_dg d c i ≤ A i) → ∃ A', (∀ i, i < d → ∃ a, a < 4 ∧ A' i = nI a) ∧ ((∀ i, i < d → ob_dg d c i = 0) → A' = A) ∧ (∀ (post : SX → Prop) (g : Nat → Int32), post (nI n, nI d, D, C, A', O, g) → wX_strikeOff_2 post c (nI n) (nI d) (m + 1) (nI j) D C A O g) ∧ (∀ (post : Int32 → SY → Prop) (g : Nat → Int32), post t (nI n, nI d, D, C, A', O, g) → wY_perform_8 post c t (nI n) (nI d) (m + 1) (nI j) D C A O g) := by
  intro m
  induction m with
  | zero =>
    intro j A hj hA hf
    have hc : nI d ≤ nI j := nI_le (by omega) (by omega)
    exact ⟨A, hA, fun _ => rfl, fun post g hp => br_t hc hp, fun post g hp => br_t hc hp⟩
  | succ m ih =>
    intro j A hj hA hf
    have hjd : j < d := by omega
    have hc : ¬ nI d ≤ nI j := nI_ge hjd (by omega)
    have h6 : ¬ 7 ≤ nI j := nI_ge (b := 7) (by omega) (by decide)
    have e : (nI j).toNatClampNeg = j := nI_clamp (by omega)
    have i7 : vp_in (nI j) 7 := vp_in_nI (by omega) (by decide)
    obtain ⟨a, ha, ea⟩ := hA j hjd
    obtain ⟨p, hp4, ep⟩ := ob_dgN d c j
    have hle : p ≤ a := by
      have h := hf j (by omega) hjd
      rw [ea, ep] at h
      exact (nI_leI (by omega) (by omega)).mp h
    have es : A j - ob_dg d c j = nI (a - p) := by rw [ea, ep]; exact pk_sub hle
    obtain ⟨A', hA', hz, hX, hY⟩ := ih (j + 1) (upd A j (A j - ob_dg d c j)) (by omega) (by rw [es]; exact ob_put (fun i x y => hA i x) (by omega)) (fun i x y => by rw [pk_un (by omega)]; exact hf i (by omega) y)
    refine ⟨A', hA', fun k => ?_, fun post g hp => br_f hc ⟨i7, ob_xs ⟨i7, fun A1 eA x ex => ?_⟩⟩, fun post g hp => br_f hc (br_f h6 (br_f ht ⟨i7, ob_yd h7 hjd ⟨i7, fun A1 eA x ex => ?_⟩⟩))⟩
    · rw [hz k, k j hjd, Int32.sub_zero]; exact ob_upd_id A j
    · rw [e] at eA
      rw [nI_1] at ex
      subst eA ex
      exact hX post g hp
    · rw [e] at eA
      rw [nI_1] at ex
      subst eA ex
      exact hY post g hp
/-- the component strikes the code off and answers its total; the reference performs it; c being a clearing -/
theorem ob_perf {n d : Nat} {D C A O : Nat → Int32} {c : Int32} (ok : ob_ok n d D C A O) (hcl : ob_cl n d D C A O c) : ∃ A', ob_ok n d D C A' O ∧ (∀ (post : SX → Prop) (g : Nat → Int32), post (nI n, nI d, D, C, A', O, g) → wpX_strikeOff post (nI n, nI d, D, C, A, O, g) c) ∧ (∀ (post : Int32 → SY → Prop) (g : Nat → Int32), (∀ g', post (ob_tot d c d) (nI n, nI d, D, C, A', O, g')) → wpY_perform post (nI n, nI d, D, C, A, O, g) c) := by
  have ok' := ok
  obtain ⟨h2, h5, h7, hD, hC, hA, hO⟩ := ok'
  have hfit : ∀ i, 0 ≤ i → i < d → ob_dg d c i ≤ A i := fun i _ hi => (hcl.2.2.1 i hi).1
  by_cases ht : ob_tot d c d ≤ 0
  · obtain ⟨q, hq, eq⟩ := ob_totN d c d
    have hq0 : q = 0 := by
      rw [eq] at ht
      by_cases z : q = 0
      · exact z
      · exact absurd ht (nI_nle (by omega) (by omega))
    have t0 : ob_tot d c d = 0 := by rw [eq, hq0]; rfl
    obtain ⟨A', hA', hz, hX, hY⟩ := ob_str (n := n) (D := D) (C := C) (O := O) (c := c) (t := 1) h7 (by decide) d 0 A (by omega) hA hfit
    have hAA := hz (ob_tot0 d c d h7 t0)
    rw [hAA] at hX
    refine ⟨A, ok, fun post g hp => ⟨d + 1, hX post g hp⟩, fun post g hp => ?_⟩
    unfold wpY_perform
    dsimp only
    refine ob_yt ok (fun _ g' => ⟨1, ?_⟩) (fun h => absurd hcl h)
    by_cases z : nI d ≤ 0
    · exact br_t z (hp g')
    · exact br_f z (br_f (by decide) (br_t ht (hp g')))
  · obtain ⟨A', hA', hz, hX, hY⟩ := ob_str (n := n) (D := D) (C := C) (O := O) (c := c) h7 ht d 0 A (by omega) hA hfit
    refine ⟨A', ⟨h2, h5, h7, hD, hC, hA', hO⟩, fun post g hp => ⟨d + 1, hX post g hp⟩, fun post g hp => ?_⟩
    unfold wpY_perform
    dsimp only
    exact ob_yt ok (fun _ g' => ⟨d + 1, hY post g' (hp g')⟩) (fun h => absurd hcl h)
end
section
theorem i_vc_clear {k : Nat} {u : SX} {v : SY} (I : i_Rel k u v) (hk : k + 4 ≤ 2049) : wpX_clear (fun r u' => wpY_clear (fun r' v' => r' = r ∧ i_Rel (k + 4) u' v') v) u := by
  obtain ⟨n, d, D, C, A, O, g, h, rfl, rfl, ok⟩ := I
  have h7 := ok.2.2.1
  obtain ⟨r, hr, hX, hY⟩ := ob_fb ok ok (ob_no ok.2.1)
  obtain ⟨A', ok', pX, pY⟩ := ob_perf ok hr
  unfold wpX_clear wpY_clear
  dsimp only
  exact hX _ g fun g1 => pX _ g1 (ob_xt h7 (hY _ h fun h1 => pY _ h1 fun h2 => ⟨rfl, ob_rel ok'⟩))
theorem i_vc_carryOut {k : Nat} {u : SX} {v : SY} (I : i_Rel k u v) (hk : k + 4 ≤ 2049) (v1 : Int32) : wpX_carryOut (fun r u' => wpY_carryOut (fun r' v' => r' = r ∧ i_Rel (k + 4) u' v') v v1) u v1 := by
  obtain ⟨n, d, D, C, A, O, g, h, rfl, rfl, ok⟩ := I
  have h7 := ok.2.2.1
  unfold wpX_carryOut wpY_carryOut
  dsimp only
  refine ob_xc ok (ob_no ok.2.1) (fun hcl g1 => br_f (by decide) ?_) (fun hcl g1 => br_t rfl ?_)
  · obtain ⟨A', ok', pX, pY⟩ := ob_perf ok hcl
    exact pX _ g1 (ob_xt h7 (pY _ h fun h2 => ⟨rfl, ob_rel ok'⟩))
  · unfold wpY_perform
    dsimp only
    refine ob_yt ok (fun h => absurd h hcl) (fun _ g' => ⟨1, ?_⟩)
    by_cases z : nI d ≤ 0
    · exact br_t z ⟨rfl, ob_rel ok⟩
    · exact br_f z (br_f (by decide) (br_t (by decide) ⟨rfl, ob_rel ok⟩))
theorem i_vc_best {k : Nat} {u : SX} {v : SY} (I : i_Rel k u v) (hk : k + 4 ≤ 2049) : wpX_best (fun r u' => wpY_best (fun r' v' => r' = r ∧ i_Rel (k + 4) u' v') v) u := by
  obtain ⟨n, d, D, C, A, O, g, h, rfl, rfl, ok⟩ := I
  obtain ⟨r, hX, hY⟩ := ob_bt ok ok (ob_no ok.2.1)
  unfold wpX_best wpY_best
  dsimp only
  exact hX _ g fun g1 => hY _ h fun h1 => ⟨rfl, ob_rel ok⟩
theorem i_vc_bestCode {k : Nat} {u : SX} {v : SY} (I : i_Rel k u v) (hk : k + 4 ≤ 2049) : wpX_bestCode (fun r u' => wpY_bestCode (fun r' v' => r' = r ∧ i_Rel (k + 4) u' v') v) u := by
  obtain ⟨n, d, D, C, A, O, g, h, rfl, rfl, ok⟩ := I
  obtain ⟨r, hr, hX, hY⟩ := ob_fb ok ok (ob_no ok.2.1)
  unfold wpX_bestCode wpY_bestCode
  dsimp only
  exact hX _ g fun g1 => hY _ h fun h1 => ⟨rfl, ob_rel ok⟩
theorem i_vc_isClearing {k : Nat} {u : SX} {v : SY} (I : i_Rel k u v) (hk : k + 4 ≤ 2049) (v1 : Int32) : wpX_isClearing (fun r u' => wpY_isClearing (fun r' v' => r' = r ∧ i_Rel (k + 4) u' v') v v1) u v1 := by
  obtain ⟨n, d, D, C, A, O, g, h, rfl, rfl, ok⟩ := I
  have hp := ob_totP d v1 d ok.2.2.1
  unfold wpX_isClearing wpY_isClearing
  dsimp only
  refine ob_xc ok (ob_no ok.2.1) (fun hcl g1 => br_f (by decide) ?_) (fun hcl g1 => br_t rfl ?_)
  · exact ob_yt ok (fun _ h1 => br_t hp ⟨rfl, ob_rel ok⟩) (fun h => absurd hcl h)
  · exact ob_yt ok (fun h => absurd h hcl) (fun _ h1 => br_f (by decide) ⟨rfl, ob_rel ok⟩)
theorem ob_wt {O : Nat → Int32} {a : Nat} (hO : ∀ j, O j = 0 ∨ O j = 1) : upd (upd O a 1) a (vp_nar .boolean (O a)) = O := by
  have e : vp_nar .boolean (O a) = O a := by
    rcases hO a with z | z
    · rw [z]; exact ob_nar0
    · rw [z]; exact ob_nar1
  rw [e]
  funext i
  by_cases z : i = a
  · rw [z]; exact pk_us
  · rw [pk_un z, pk_un z]
theorem i_vc_weight {k : Nat} {u : SX} {v : SY} (I : i_Rel k u v) (hk : k + 4 ≤ 2049) (v1 : Int32) : wpX_weight (fun r u' => wpY_weight (fun r' v' => r' = r ∧ i_Rel (k + 4) u' v') v v1) u v1 := by
  obtain ⟨n, d, D, C, A, O, g, h, rfl, rfl, ok⟩ := I
  have ok' := ok
  obtain ⟨h2, h5, h7, hD, hC, hA, hO⟩ := ok'
  unfold wpX_weight wpY_weight
  dsimp only
  rcases ob_ix v1 (n := n) (by omega) with hv | ⟨a, ha, rfl⟩
  · exact ob_xf0 hv (br_t rfl (ob_yf0 hv (br_f (by decide) ⟨rfl, ob_rel ok⟩)))
  have e : (nI a).toNatClampNeg = a := nI_clamp (by omega)
  have hi : vp_in (nI a) 5 := vp_in_nI (by omega) (by decide)
  have okP : ob_ok n d D C A (upd O a 1) := ⟨h2, h5, h7, hD, hC, hA, ob_out hO (Or.inr rfl)⟩
  have hw : ∀ q, q < n → (upd O a 1 q = 0 ↔ O q = 0 ∧ ¬ nI q = nI a) := by
    intro q hq
    by_cases z : q = a
    · rw [z, pk_us]
      exact ⟨fun h => absurd h (by decide), fun h => absurd rfl h.2⟩
    · rw [pk_un z]
      exact ⟨fun h => ⟨h, fun h' => z ((nI_eq (by omega) (by omega)).mp h')⟩, fun h => h.1⟩
  obtain ⟨r, hX, hY⟩ := ob_bt ok ok (ob_no h5)
  obtain ⟨r2, hX2, hY2⟩ := ob_bt ok okP hw
  refine ob_xf1 h5 ha (br_f (by decide) (hX _ g fun g1 => hX2 _ g1 fun g2 => ob_yf1 h5 ha (br_t rfl (hY _ h fun h1 => ⟨hi, fun x ex => ⟨hi, fun O' eO => ?_⟩⟩))))
  rw [e] at ex eO
  rw [ob_nar1] at eO
  subst ex eO
  refine hY2 _ h1 fun h3 => ⟨hi, fun O' eO => ?_⟩
  rw [e, ob_wt hO] at eO
  subst eO
  exact ⟨rfl, ob_rel ok⟩
theorem i_vc_most {k : Nat} {u : SX} {v : SY} (I : i_Rel k u v) (hk : k + 4 ≤ 2049) (v1 : Int32) : wpX_most (fun r u' => wpY_most (fun r' v' => r' = r ∧ i_Rel (k + 4) u' v') v v1) u v1 := by
  obtain ⟨n, d, D, C, A, O, g, h, rfl, rfl, ok⟩ := I
  have h7 := ok.2.2.1
  unfold wpX_most wpY_most
  dsimp only
  rcases ob_ix v1 (n := d) (by omega) with hv | ⟨a, ha, rfl⟩
  · exact ob_xd0 hv (br_t rfl (ob_yd0 hv (br_f (by decide) ⟨rfl, ob_rel ok⟩)))
  obtain ⟨r, hX, hY⟩ := ob_mst ok ha (ob_E d) 0 0 (by omega)
  exact ob_xd1 h7 ha (br_f (by decide) (ob_xcc h7 ⟨ob_E d + 1, hX _ g fun g1 => ob_yd1 h7 ha (br_t rfl ⟨ob_E d + 1, hY _ h fun h1 => ⟨rfl, ob_rel ok⟩⟩)⟩))
theorem i_vc_possible {k : Nat} {u : SX} {v : SY} (I : i_Rel k u v) (hk : k + 4 ≤ 2049) : wpX_possible (fun r u' => wpY_possible (fun r' v' => r' = r ∧ i_Rel (k + 4) u' v') v) u := by
  obtain ⟨n, d, D, C, A, O, g, h, rfl, rfl, ok⟩ := I
  obtain ⟨r, hX, hY⟩ := ob_bt ok ok (ob_no ok.2.1)
  unfold wpX_possible wpY_possible
  dsimp only
  by_cases z : r ≤ 0
  · exact hX _ g fun g1 => br_t z (hY _ h fun h1 => br_t z ⟨rfl, ob_rel ok⟩)
  · exact hX _ g fun g1 => br_f z (hY _ h fun h1 => br_f z ⟨rfl, ob_rel ok⟩)
end
