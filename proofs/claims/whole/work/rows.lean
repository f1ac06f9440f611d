section
/-! rows pk_* are pasted from kit/rows; the rest is this claim's own -/
theorem pk_us {f : Nat → Int32} {k : Nat} {x : Int32} : upd f k x k = x := if_pos rfl
theorem pk_un {f : Nat → Int32} {k j : Nat} {x : Int32} (h : j ≠ k) : upd f k x j = f j := if_neg h
theorem pk_sub {a b : Nat} (h : b ≤ a) : nI a - nI b = nI (a - b) := by
  obtain ⟨c, rfl⟩ : ∃ c, a = c + b := ⟨a - b, by omega⟩
  rw [← nI_add, Int32.add_sub_cancel, Nat.add_sub_cancel]
theorem pk_mul (a b : Nat) : nI a * nI b = nI (a * b) := (Int32.ofNat_mul a b).symm
theorem pk_ix (x : Int32) {n : Nat} (hn : n < 2 ^ 31) : x < 0 ∨ nI n ≤ x ∨ ∃ j : Nat, j < n ∧ x = nI j := by
  by_cases h : x < 0
  · exact Or.inl h
  · obtain ⟨j, hj, rfl⟩ := nI_of h
    by_cases h2 : j < n
    · exact Or.inr (Or.inr ⟨j, h2, rfl⟩)
    · exact Or.inr (Or.inl (nI_le (by omega) hj))
theorem pk_and (x : Int32) {m : Int32} (k : Nat) (hm : m.toBitVec.toNat = 2 ^ k - 1) : x &&& m = nI (x.toBitVec.toNat % 2 ^ k) := by
  apply Int32.toBitVec_inj.mp
  apply BitVec.eq_of_toNat_eq
  rw [Int32.toBitVec_and, BitVec.toNat_and, hm, Nat.and_two_pow_sub_one_eq_mod]
  show _ = (BitVec.ofNat 32 _).toNat
  rw [BitVec.toNat_ofNat]
  exact (Nat.mod_eq_of_lt (Nat.lt_of_le_of_lt (Nat.mod_le _ _) x.toBitVec.isLt)).symm
theorem pk_andE (x : Int32) {m : Int32} (k : Nat) (hm : m.toBitVec.toNat = 2 ^ k - 1) : ∃ j : Nat, j < 2 ^ k ∧ x &&& m = nI j := ⟨_, Nat.mod_lt _ (Nat.two_pow_pos k), pk_and x k hm⟩
/-- what a state of both sides keeps: n firms, d debts, firms within, amounts 0 .. 3, flags 0 or 1 -/
def ob_ok (n d : Nat) (D C A O : Nat → Int32) : Prop :=
  2 ≤ n ∧ n ≤ 5 ∧ d ≤ 7 ∧ (∀ j, j < d → ∃ a, a < n ∧ D j = nI a) ∧ (∀ j, j < d → ∃ a, a < n ∧ C j = nI a) ∧ (∀ j, j < d → ∃ a, a < 4 ∧ A j = nI a) ∧ (∀ j, O j = 0 ∨ O j = 1)
/-- the two states are the same but for the scratch arrays -/
def i_Rel (_ : Nat) (u : SX) (v : SY) : Prop := ∃ (n d : Nat) (D C A O g h : Nat → Int32), u = (nI n, nI d, D, C, A, O, g) ∧ v = (nI n, nI d, D, C, A, O, h) ∧ ob_ok n d D C A O
theorem ob_rel {k n d : Nat} {D C A O g h : Nat → Int32} (ok : ob_ok n d D C A O) : i_Rel k (nI n, nI d, D, C, A, O, g) (nI n, nI d, D, C, A, O, h) := ⟨n, d, D, C, A, O, g, h, rfl, rfl, ok⟩
theorem i_up {k : Nat} {u : SX} {v : SY} (h : i_Rel k u v) : i_Rel (k + 4) u v := h
theorem ob_rel0 {k n : Nat} (h2 : 2 ≤ n) (h5 : n ≤ 5) : i_Rel k (nI n, 0, (fun _ => 0), (fun _ => 0), (fun _ => 0), (fun _ => 0), (fun _ => 0)) (nI n, 0, (fun _ => 0), (fun _ => 0), (fun _ => 0), (fun _ => 0), (fun _ => 0)) :=
  ⟨n, 0, (fun _ => 0), (fun _ => 0), (fun _ => 0), (fun _ => 0), (fun _ => 0), (fun _ => 0), rfl, rfl, h2, h5, by omega, fun j h => absurd h (by omega), fun j h => absurd h (by omega), fun j h => absurd h (by omega), fun j => Or.inl rfl⟩
theorem i_vc0 (k0 : Int32) : wpX_init (fun u => wpY_init (fun v => i_Rel 1 u v) k0) k0 := by
  by_cases h2 : 2 ≤ k0
  · by_cases h5 : k0 ≤ 5
    · have h0 : ¬ k0 < 0 := Int32.not_lt.mpr (Int32.le_trans (by decide) h2)
      obtain ⟨j, hj, rfl⟩ := nI_of2 (M := 5) (n := 5) (by decide) h0 h5
      have h2' : 2 ≤ j := (nI_leI (a := 2) (by omega) (by omega)).mp h2
      exact br_t h2 (br_t h5 (br_t h2 (br_t h5 (ob_rel0 h2' hj))))
    · exact br_t h2 (br_f h5 (br_t h2 (br_f h5 (ob_rel0 (n := 5) (by omega) (by omega)))))
  · exact br_f h2 (br_f h2 (ob_rel0 (n := 2) (by omega) (by omega)))
/-! the tests of firms, debts and amounts -/
theorem ob_xf1 {post : Int32 → Prop} {n a : Nat} {y : Int32} {D C A O g : Nat → Int32} (hn : n ≤ 5) (ha : a < n) (h : post 1) : wpX_isFirm post (nI n, y, D, C, A, O, g) (nI a) := br_f (nI_pos (by omega)) (br_f (nI_ge ha (by omega)) h)
theorem ob_xf0 {post : Int32 → Prop} {n : Nat} {x y : Int32} {D C A O g : Nat → Int32} (hx : x < 0 ∨ nI n ≤ x) (h : post 0) : wpX_isFirm post (nI n, y, D, C, A, O, g) x := by
  by_cases h0 : x < 0
  · exact br_t h0 h
  · exact br_f h0 (br_t (hx.resolve_left h0) h)
theorem ob_yf1 {post : Int32 → Prop} {n a : Nat} {y : Int32} {D C A O g : Nat → Int32} (hn : n ≤ 5) (ha : a < n) (h : post 0) : wpY_badFirm post (nI n, y, D, C, A, O, g) (nI a) := br_f (nI_pos (by omega)) (br_f (nI_ge ha (by omega)) (br_t (nI_le (b := 4) (by omega) (by decide)) h))
theorem ob_yf0 {post : Int32 → Prop} {n : Nat} {x y : Int32} {D C A O g : Nat → Int32} (hx : x < 0 ∨ nI n ≤ x) (h : post 1) : wpY_badFirm post (nI n, y, D, C, A, O, g) x := by
  by_cases h0 : x < 0
  · exact br_t h0 h
  · exact br_f h0 (br_t (hx.resolve_left h0) h)
theorem ob_xd1 {post : Int32 → Prop} {d a : Nat} {y : Int32} {D C A O g : Nat → Int32} (hd : d ≤ 7) (ha : a < d) (h : post 1) : wpX_isDebt post (y, nI d, D, C, A, O, g) (nI a) := br_f (nI_pos (by omega)) (br_f (nI_ge ha (by omega)) h)
theorem ob_xd0 {post : Int32 → Prop} {d : Nat} {x y : Int32} {D C A O g : Nat → Int32} (hx : x < 0 ∨ nI d ≤ x) (h : post 0) : wpX_isDebt post (y, nI d, D, C, A, O, g) x := by
  by_cases h0 : x < 0
  · exact br_t h0 h
  · exact br_f h0 (br_t (hx.resolve_left h0) h)
theorem ob_yd1 {post : Int32 → Prop} {d a : Nat} {y : Int32} {D C A O g : Nat → Int32} (hd : d ≤ 7) (ha : a < d) (h : post 0) : wpY_bad post (y, nI d, D, C, A, O, g) (nI a) := br_f (nI_pos (by omega)) (br_f (nI_ge ha (by omega)) (br_t (nI_le (b := 6) (by omega) (by decide)) h))
theorem ob_yd0 {post : Int32 → Prop} {d : Nat} {x y : Int32} {D C A O g : Nat → Int32} (hx : x < 0 ∨ nI d ≤ x) (h : post 1) : wpY_bad post (y, nI d, D, C, A, O, g) x := by
  by_cases h0 : x < 0
  · exact br_t h0 h
  · exact br_f h0 (br_t (hx.resolve_left h0) h)
/-- good by what is known of an index -/
theorem ob_ix (x : Int32) {n : Nat} (hn : n ≤ 7) : (x < 0 ∨ nI n ≤ x) ∨ ∃ a, a < n ∧ x = nI a := by
  rcases pk_ix x (n := n) (by omega) with h | h | h
  · exact Or.inl (Or.inl h)
  · exact Or.inl (Or.inr h)
  · exact Or.inr h
theorem ob_put {X : Nat → Int32} {d k m b : Nat} (h : ∀ j, j < d → j ≠ k → ∃ a, a < m ∧ X j = nI a) (hb : b < m) : ∀ j, j < d → ∃ a, a < m ∧ upd X k (nI b) j = nI a := by
  intro j hj
  by_cases z : j = k
  · exact ⟨b, hb, by rw [z]; exact pk_us⟩
  · obtain ⟨a, ha, e⟩ := h j hj z
    exact ⟨a, ha, by rw [pk_un z]; exact e⟩
theorem i_vc_owe {k : Nat} {u : SX} {v : SY} (I : i_Rel k u v) (hk : k + 4 ≤ 2049) (v1 : Int32) (v2 : Int32) (v3 : Int32) : wpX_owe (fun r u' => wpY_owe (fun r' v' => r' = r ∧ i_Rel (k + 4) u' v') v v1 v2 v3) u v1 v2 v3 := by
  obtain ⟨n, d, D, C, A, O, g, h, rfl, rfl, ok⟩ := I
  have ok' := ok
  obtain ⟨h2, h5, h7, hD, hC, hA, hO⟩ := ok'
  unfold wpX_owe wpY_owe
  dsimp only
  rcases ob_ix v1 (n := n) (by omega) with hv | ⟨a, ha, rfl⟩
  · exact ob_xf0 hv (br_t rfl (ob_yf0 hv (br_f (by decide) ⟨rfl, ob_rel ok⟩)))
  refine ob_xf1 h5 ha (br_f (by decide) ?_)
  rcases ob_ix v2 (n := n) (by omega) with hv | ⟨b, hb, rfl⟩
  · exact ob_xf0 hv (br_t rfl (ob_yf1 h5 ha (br_t rfl (ob_yf0 hv (br_f (by decide) ⟨rfl, ob_rel ok⟩)))))
  refine ob_xf1 h5 hb (br_f (by decide) ?_)
  by_cases hne : nI a = nI b
  · exact br_t hne (ob_yf1 h5 ha (br_t rfl (ob_yf1 h5 hb (br_t rfl (br_t hne ⟨rfl, ob_rel ok⟩)))))
  refine br_f hne ?_
  by_cases h0 : v3 < 0
  · exact br_t h0 (br_t rfl (ob_yf1 h5 ha (br_t rfl (ob_yf1 h5 hb (br_t rfl (br_f hne (br_t h0 ⟨rfl, ob_rel ok⟩)))))))
  by_cases h3 : 3 < v3
  · have h3' : ¬ v3 ≤ 3 := Int32.not_le.mpr h3
    exact br_f h0 (br_t h3 (br_t rfl (ob_yf1 h5 ha (br_t rfl (ob_yf1 h5 hb (br_t rfl (br_f hne (br_f h0 (br_f h3' ⟨rfl, ob_rel ok⟩)))))))))
  have h3' : v3 ≤ 3 := Int32.not_lt.mp h3
  refine br_f h0 (br_f h3 (br_f (by decide) ?_))
  by_cases hd : d < 7
  · obtain ⟨c, hc, rfl⟩ := nI_of2 (M := 3) (n := 3) (by decide) h0 h3'
    have hi : vp_in (nI d) 7 := vp_in_nI hd (by decide)
    have e : (nI d).toNatClampNeg = d := nI_clamp (by omega)
    refine br_t (nI_lt (b := 7) hd (by decide)) ⟨hi, fun D' eD => ⟨hi, fun C' eC => ⟨hi, fun A' eA => fun f ef => ?_⟩⟩⟩
    rw [e] at eD eC eA
    rw [nI_1] at ef
    subst eD eC eA ef
    refine ob_yf1 h5 ha (br_t rfl (ob_yf1 h5 hb (br_t rfl (br_f hne (br_f h0 (br_t h3' (br_t (nI_le (b := 6) (by omega) (by decide)) ⟨hi, fun D' eD => ⟨hi, fun C' eC => ⟨hi, fun A' eA => fun f ef => ?_⟩⟩⟩)))))))
    rw [e] at eD eC eA
    rw [nI_1] at ef
    subst eD eC eA ef
    exact ⟨rfl, ob_rel ⟨h2, h5, by omega, ob_put (fun j p q => hD j (by omega)) ha, ob_put (fun j p q => hC j (by omega)) hb, ob_put (fun j p q => hA j (by omega)) (by omega), hO⟩⟩
  · have h7' : ¬ nI d < 7 := nI_nlt (b := 7) (by omega) (by omega)
    have h6 : ¬ nI d ≤ 6 := nI_ge (a := 6) (b := d) (by omega) (by omega)
    exact br_f h7' (ob_yf1 h5 ha (br_t rfl (ob_yf1 h5 hb (br_t rfl (br_f hne (br_f h0 (br_t h3' (br_f h6 ⟨rfl, ob_rel ok⟩))))))))
theorem i_vc_change {k : Nat} {u : SX} {v : SY} (I : i_Rel k u v) (hk : k + 4 ≤ 2049) (v1 : Int32) (v2 : Int32) : wpX_change (fun r u' => wpY_change (fun r' v' => r' = r ∧ i_Rel (k + 4) u' v') v v1 v2) u v1 v2 := by
  obtain ⟨n, d, D, C, A, O, g, h, rfl, rfl, ok⟩ := I
  have ok' := ok
  obtain ⟨h2, h5, h7, hD, hC, hA, hO⟩ := ok'
  unfold wpX_change wpY_change
  dsimp only
  rcases ob_ix v1 (n := d) (by omega) with hv | ⟨a, ha, rfl⟩
  · exact ob_xd0 hv (br_t rfl (ob_yd0 hv (br_f (by decide) ⟨rfl, ob_rel ok⟩)))
  refine ob_xd1 h7 ha (br_f (by decide) ?_)
  by_cases h0 : v2 < 0
  · exact br_t h0 (br_t rfl (ob_yd1 h7 ha (br_t rfl (br_t h0 ⟨rfl, ob_rel ok⟩))))
  by_cases h3 : 3 < v2
  · have h3' : ¬ v2 ≤ 3 := Int32.not_le.mpr h3
    exact br_f h0 (br_t h3 (br_t rfl (ob_yd1 h7 ha (br_t rfl (br_f h0 (br_f h3' ⟨rfl, ob_rel ok⟩))))))
  have h3' : v2 ≤ 3 := Int32.not_lt.mp h3
  obtain ⟨c, hc, rfl⟩ := nI_of2 (M := 3) (n := 3) (by decide) h0 h3'
  have hi : vp_in (nI a) 7 := vp_in_nI (by omega) (by decide)
  have e : (nI a).toNatClampNeg = a := nI_clamp (by omega)
  refine br_f h0 (br_f h3 (br_f (by decide) ⟨hi, fun x ex => ⟨hi, fun A' eA => ?_⟩⟩))
  rw [e] at ex eA
  subst ex eA
  refine ob_yd1 h7 ha (br_t rfl (br_f h0 (br_t h3' ⟨hi, fun x ex => ⟨hi, fun A' eA => ?_⟩⟩)))
  rw [e] at ex eA
  subst ex eA
  exact ⟨rfl, ob_rel ⟨h2, h5, h7, hD, hC, ob_put (fun j p q => hA j p) (by omega), hO⟩⟩
end
section
/-! pay: both shift the same cells, the component at j + 1, the reference at j -/
theorem ob_sh1 {X : Nat → Int32} {d j m : Nat} (h : ∀ i, i < d → ∃ a, a < m ∧ X i = nI a) (hj : j + 1 < d) : ∀ i, i < d → ∃ a, a < m ∧ upd X j (X (j + 1)) i = nI a := by
  obtain ⟨b, hb, e⟩ := h (j + 1) hj
  rw [e]
  exact ob_put (fun i p q => h i p) hb
theorem ob_pay {n d : Nat} {O g h : Nat → Int32} (h7 : d ≤ 7) : ∀ (m j : Nat) (D C A : Nat → Int32), j + 1 + m = d → ob_ok n d D C A O → ∃ D' C' A', ob_ok n (d - 1) D' C' A' O ∧ (∀ post : Int32 → SX → Prop, post (nI (d - 1)) (nI n, nI (d - 1), D', C', A', O, g) → wX_pay_14 post (nI n) (nI d) (m + 1) (nI (j + 1)) D C A O g) ∧ (∀ post : Int32 → SY → Prop, post (nI (d - 1)) (nI n, nI (d - 1), D', C', A', O, h) → wY_pay_12 post (nI n) (nI d) (m + 1) (nI j) D C A O h) := by
  intro m
  induction m with
  | zero =>
    intro j D C A hj ok
    have e1 : nI d - 1 = nI (d - 1) := pk_sub (b := 1) (by omega)
    obtain ⟨h2, h5, h7, hD, hC, hA, hO⟩ := ok
    refine ⟨D, C, A, ⟨h2, h5, by omega, fun i p => hD i (by omega), fun i p => hC i (by omega), fun i p => hA i (by omega), hO⟩, fun post hp => ?_, fun post hp => ?_⟩
    · refine br_t (nI_le (by omega) (by omega)) fun f ef => ?_
      rw [ef, e1]
      exact hp
    · have hc : nI d - 1 ≤ nI j := by rw [e1]; exact nI_le (by omega) (by omega)
      refine br_t hc fun f ef => ?_
      rw [ef, e1]
      exact hp
  | succ m ih =>
    intro j D C A hj ok
    have e1 : nI d - 1 = nI (d - 1) := pk_sub (b := 1) (by omega)
    have e2 : nI (j + 1) - 1 = nI j := pk_sub (b := 1) (by omega)
    have e3 : (nI j).toNatClampNeg = j := nI_clamp (by omega)
    have e4 : (nI (j + 1)).toNatClampNeg = j + 1 := nI_clamp (by omega)
    have i1 : vp_in (nI j) 7 := vp_in_nI (by omega) (by decide)
    have i2 : vp_in (nI (j + 1)) 7 := vp_in_nI (by omega) (by decide)
    obtain ⟨h2, h5, h7, hD, hC, hA, hO⟩ := ok
    obtain ⟨D', C', A', ok', hX, hY⟩ := ih (j + 1) (upd D j (D (j + 1))) (upd C j (C (j + 1))) (upd A j (A (j + 1))) (by omega) ⟨h2, h5, h7, ob_sh1 hD (by omega), ob_sh1 hC (by omega), ob_sh1 hA (by omega), hO⟩
    refine ⟨D', C', A', ok', fun post hp => ?_, fun post hp => ?_⟩
    · refine br_f (nI_ge (by omega) (by omega)) ?_
      rw [e2, e3, e4]
      refine ⟨i2, i1, fun D1 eD => ⟨i2, i1, fun C1 eC => ⟨i2, i1, fun A1 eA => fun x ex => ?_⟩⟩⟩
      rw [nI_1] at ex
      subst eD eC eA ex
      exact hX post hp
    · have hc : ¬ nI d - 1 ≤ nI j := by rw [e1]; exact nI_ge (by omega) (by omega)
      refine br_f hc (br_f (nI_ge (b := 6) (by omega) (by decide)) ?_)
      rw [nI_1, e3, e4]
      refine ⟨i2, i1, fun D1 eD => ⟨i2, i1, fun C1 eC => ⟨i2, i1, fun A1 eA => fun x ex => ?_⟩⟩⟩
      subst eD eC eA ex
      exact hY post hp
theorem i_vc_pay {k : Nat} {u : SX} {v : SY} (I : i_Rel k u v) (hk : k + 4 ≤ 2049) (v1 : Int32) : wpX_pay (fun r u' => wpY_pay (fun r' v' => r' = r ∧ i_Rel (k + 4) u' v') v v1) u v1 := by
  obtain ⟨n, d, D, C, A, O, g, h, rfl, rfl, ok⟩ := I
  have h7 := ok.2.2.1
  unfold wpX_pay wpY_pay
  dsimp only
  rcases ob_ix v1 (n := d) (by omega) with hv | ⟨a, ha, rfl⟩
  · exact ob_xd0 hv (br_t rfl (ob_yd0 hv (br_f (by decide) ⟨rfl, ob_rel ok⟩)))
  obtain ⟨D', C', A', ok', hX, hY⟩ := ob_pay (g := g) (h := h) h7 (d - (a + 1)) a D C A (by omega) ok
  refine ob_xd1 h7 ha (br_f (by decide) fun x ex => ⟨d - (a + 1) + 1, ?_⟩)
  rw [ex, nI_1]
  exact hX _ (ob_yd1 h7 ha (br_t rfl ⟨d - (a + 1) + 1, hY _ ⟨rfl, ob_rel ok'⟩⟩))
theorem ob_nar0 : vp_nar .boolean 0 = 0 := by decide
theorem ob_nar1 : vp_nar .boolean 1 = 1 := by decide
theorem ob_out {O : Nat → Int32} {a : Nat} {x : Int32} (h : ∀ j, O j = 0 ∨ O j = 1) (hx : x = 0 ∨ x = 1) : ∀ j, upd O a x j = 0 ∨ upd O a x j = 1 := by
  intro j
  by_cases z : j = a
  · rw [z, pk_us]; exact hx
  · rw [pk_un z]; exact h j
theorem ob_excl {k n d a : Nat} {D C A O g h : Nat → Int32} (ok : ob_ok n d D C A O) (ha : a < n) (z v2 : Int32) {PY : Prop} (hY : (∀ r, (r = z → wY_exclude_24 (fun r' v' => r' = r ∧ i_Rel (k + 4) (nI n, nI d, D, C, A, (if v2 = 0 then upd O a 0 else upd O a 1), g) v') (nI a) v2 z (nI n) (nI d) D C A O h)) → PY) : PY := by
  obtain ⟨h2, h5, h7, hD, hC, hA, hO⟩ := ok
  have e : (nI a).toNatClampNeg = a := nI_clamp (by omega)
  have hi : vp_in (nI a) 5 := vp_in_nI (by omega) (by decide)
  refine hY fun r er => ?_
  by_cases z2 : v2 = 0
  · rw [if_pos z2]
    refine br_t z2 ⟨hi, fun O' eO => ?_⟩
    rw [e, ob_nar0] at eO
    subst eO
    exact ⟨er.symm, ob_rel ⟨h2, h5, h7, hD, hC, hA, ob_out hO (Or.inl rfl)⟩⟩
  · rw [if_neg z2]
    refine br_f z2 ⟨hi, fun O' eO => ?_⟩
    rw [e, ob_nar1] at eO
    subst eO
    exact ⟨er.symm, ob_rel ⟨h2, h5, h7, hD, hC, hA, ob_out hO (Or.inr rfl)⟩⟩
theorem ob_xexcl {post : Int32 → SX → Prop} {n d a : Nat} {D C A O g : Nat → Int32} (h5 : n ≤ 5) (ha : a < n) (z v2 : Int32) (hp : post z (nI n, nI d, D, C, A, (if v2 = 0 then upd O a 0 else upd O a 1), g)) : wX_exclude_24 post (nI a) v2 z (nI n) (nI d) D C A O g := by
  have e : (nI a).toNatClampNeg = a := nI_clamp (by omega)
  have hi : vp_in (nI a) 5 := vp_in_nI (by omega) (by decide)
  by_cases z2 : v2 = 0
  · rw [if_pos z2] at hp
    refine br_t z2 ⟨hi, fun O' eO => ?_⟩
    rw [e, ob_nar0] at eO
    subst eO
    exact hp
  · rw [if_neg z2] at hp
    refine br_f z2 ⟨hi, fun O' eO => ?_⟩
    rw [e, ob_nar1] at eO
    subst eO
    exact hp
theorem i_vc_exclude {k : Nat} {u : SX} {v : SY} (I : i_Rel k u v) (hk : k + 4 ≤ 2049) (v1 : Int32) (v2 : Int32) : wpX_exclude (fun r u' => wpY_exclude (fun r' v' => r' = r ∧ i_Rel (k + 4) u' v') v v1 v2) u v1 v2 := by
  obtain ⟨n, d, D, C, A, O, g, h, rfl, rfl, ok⟩ := I
  have h5 := ok.2.1
  unfold wpX_exclude wpY_exclude
  dsimp only
  rcases ob_ix v1 (n := n) (by omega) with hv | ⟨a, ha, rfl⟩
  · exact ob_xf0 hv (br_t rfl (ob_yf0 hv (br_f (by decide) ⟨rfl, ob_rel ok⟩)))
  have hi : vp_in (nI a) 5 := vp_in_nI (by omega) (by decide)
  by_cases z : O (nI a).toNatClampNeg = 0
  · refine ob_xf1 h5 ha (br_f (by decide) ⟨hi, br_t z (ob_xexcl h5 ha 0 v2 (ob_yf1 h5 ha (br_t rfl ⟨hi, br_t z ?_⟩)))⟩)
    exact ob_excl ok ha 0 v2 (fun H => H 0 rfl)
  · refine ob_xf1 h5 ha (br_f (by decide) ⟨hi, br_f z (ob_xexcl h5 ha 1 v2 (ob_yf1 h5 ha (br_t rfl ⟨hi, br_f z ?_⟩)))⟩)
    exact ob_excl ok ha 1 v2 (fun H => H 1 rfl)
theorem i_vc_debts {k : Nat} {u : SX} {v : SY} (I : i_Rel k u v) (hk : k + 4 ≤ 2049) : wpX_debts (fun r => wpY_debts (fun r' => r' = r ∧ i_Rel (k + 4) u v) v) u := by
  obtain ⟨n, d, D, C, A, O, g, h, rfl, rfl, ok⟩ := I
  exact ⟨rfl, ob_rel ok⟩
theorem i_vc_amount {k : Nat} {u : SX} {v : SY} (I : i_Rel k u v) (hk : k + 4 ≤ 2049) (v1 : Int32) : wpX_amount (fun r => wpY_amount (fun r' => r' = r ∧ i_Rel (k + 4) u v) v v1) u v1 := by
  obtain ⟨n, d, D, C, A, O, g, h, rfl, rfl, ok⟩ := I
  have h7 := ok.2.2.1
  unfold wpX_amount wpY_amount
  dsimp only
  rcases ob_ix v1 (n := d) (by omega) with hv | ⟨a, ha, rfl⟩
  · exact ob_xd0 hv (br_t rfl (ob_yd0 hv (br_f (by decide) ⟨rfl, ob_rel ok⟩)))
  have hi : vp_in (nI a) 7 := vp_in_nI (by omega) (by decide)
  exact ob_xd1 h7 ha (br_f (by decide) ⟨hi, ob_yd1 h7 ha (br_t rfl ⟨hi, ⟨rfl, ob_rel ok⟩⟩)⟩)
/-! sums over the debts, in lockstep -/
theorem ob_outs {n d : Nat} {D C A O g h : Nat → Int32} (h7 : d ≤ 7) : ∀ (m j : Nat) (s : Int32), j + m = d → ∃ r : Int32, (∀ post : Int32 → Prop, post r → wX_outstanding_4 post (nI n) (nI d) D C A O g (m + 1) s (nI j)) ∧ (∀ post : Int32 → Prop, post r → wY_outstanding_4 post (nI n) (nI d) D C A O h (m + 1) s (nI j)) := by
  intro m
  induction m with
  | zero =>
    intro j s hj
    have hc : nI d ≤ nI j := nI_le (by omega) (by omega)
    exact ⟨s, fun _ hp => br_t hc hp, fun _ hp => br_t hc hp⟩
  | succ m ih =>
    intro j s hj
    have hc : ¬ nI d ≤ nI j := nI_ge (by omega) (by omega)
    have h6 : ¬ 7 ≤ nI j := nI_ge (b := 7) (by omega) (by decide)
    have hi : vp_in (nI j) 7 := vp_in_nI (by omega) (by decide)
    obtain ⟨r, hX, hY⟩ := ih (j + 1) (s + A (nI j).toNatClampNeg) (by omega)
    refine ⟨r, fun post hp => br_f hc ⟨hi, fun s' es x ex => ?_⟩, fun post hp => br_f hc (br_f h6 ⟨hi, fun s' es x ex => ?_⟩)⟩
    · rw [nI_1] at ex; subst es ex; exact hX post hp
    · rw [nI_1] at ex; subst es ex; exact hY post hp
theorem i_vc_outstanding {k : Nat} {u : SX} {v : SY} (I : i_Rel k u v) (hk : k + 4 ≤ 2049) : wpX_outstanding (fun r => wpY_outstanding (fun r' => r' = r ∧ i_Rel (k + 4) u v) v) u := by
  obtain ⟨n, d, D, C, A, O, g, h, rfl, rfl, ok⟩ := I
  obtain ⟨r, hX, hY⟩ := ob_outs (n := n) (D := D) (C := C) (A := A) (O := O) (g := g) (h := h) ok.2.2.1 d 0 0 (by omega)
  exact ⟨d + 1, hX _ ⟨d + 1, hY _ ⟨rfl, ob_rel ok⟩⟩⟩
theorem ob_bals {n d : Nat} {D C A O g h : Nat → Int32} {f : Int32} (h7 : d ≤ 7) : ∀ (m j : Nat) (s : Int32), j + m = d → ∃ r : Int32, (∀ post : Int32 → Prop, post r → wX_balanceOf_4 post f (nI n) (nI d) D C A O g (m + 1) s (nI j)) ∧ (∀ post : Int32 → Prop, post r → wY_saldo_4 post f (nI n) (nI d) D C A O h (m + 1) s (nI j)) := by
  intro m
  induction m with
  | zero =>
    intro j s hj
    have hc : nI d ≤ nI j := nI_le (by omega) (by omega)
    exact ⟨s, fun _ hp => br_t hc hp, fun _ hp => br_t hc hp⟩
  | succ m ih =>
    intro j s hj
    have hc : ¬ nI d ≤ nI j := nI_ge (by omega) (by omega)
    have h6 : ¬ 7 ≤ nI j := nI_ge (b := 7) (by omega) (by decide)
    have hi : vp_in (nI j) 7 := vp_in_nI (by omega) (by decide)
    have key : ∀ s1 : Int32, ∃ r : Int32, (∀ post : Int32 → Prop, post r → wX_balanceOf_31 post (wX_balanceOf_4 post f (nI n) (nI d) D C A O g (m + 1)) f s1 (nI j) (nI n) (nI d) D C A O g) ∧ (∀ post : Int32 → Prop, post r → wY_saldo_37 post (wY_saldo_4 post f (nI n) (nI d) D C A O h (m + 1)) f s1 (nI j) (nI n) (nI d) D C A O h) := by
      intro s1
      by_cases z : D (nI j).toNatClampNeg = f
      · obtain ⟨r, hX, hY⟩ := ih (j + 1) (s1 - A (nI j).toNatClampNeg) (by omega)
        refine ⟨r, fun post hp => ⟨hi, br_t z ⟨hi, fun s' es x ex => ?_⟩⟩, fun post hp => ⟨hi, br_t z ⟨hi, fun s' es x ex => ?_⟩⟩⟩
        · rw [nI_1] at ex; subst es ex; exact hX post hp
        · rw [nI_1] at ex; subst es ex; exact hY post hp
      · obtain ⟨r, hX, hY⟩ := ih (j + 1) s1 (by omega)
        refine ⟨r, fun post hp => ⟨hi, br_f z fun x ex => ?_⟩, fun post hp => ⟨hi, br_f z fun x ex => ?_⟩⟩
        · rw [nI_1] at ex; subst ex; exact hX post hp
        · rw [nI_1] at ex; subst ex; exact hY post hp
    by_cases z : C (nI j).toNatClampNeg = f
    · obtain ⟨r, hX, hY⟩ := key (s + A (nI j).toNatClampNeg)
      refine ⟨r, fun post hp => br_f hc ⟨hi, br_t z ⟨hi, fun s' es => ?_⟩⟩, fun post hp => br_f hc (br_f h6 ⟨hi, br_t z ⟨hi, fun s' es => ?_⟩⟩)⟩
      · subst es; exact hX post hp
      · subst es; exact hY post hp
    · obtain ⟨r, hX, hY⟩ := key s
      exact ⟨r, fun post hp => br_f hc ⟨hi, br_f z (hX post hp)⟩, fun post hp => br_f hc (br_f h6 ⟨hi, br_f z (hY post hp)⟩)⟩
theorem ob_bal {n d : Nat} {D C A O : Nat → Int32} (g h : Nat → Int32) (f : Int32) (h7 : d ≤ 7) : ∃ r : Int32, (∀ post : Int32 → Prop, post r → wpX_balanceOf post (nI n, nI d, D, C, A, O, g) f) ∧ (∀ post : Int32 → Prop, post r → wpY_saldo post (nI n, nI d, D, C, A, O, h) f) := by
  obtain ⟨r, hX, hY⟩ := ob_bals (n := n) (D := D) (C := C) (A := A) (O := O) (g := g) (h := h) (f := f) h7 d 0 0 (by omega)
  exact ⟨r, fun post hp => ⟨d + 1, hX post hp⟩, fun post hp => ⟨d + 1, hY post hp⟩⟩
theorem i_vc_balance {k : Nat} {u : SX} {v : SY} (I : i_Rel k u v) (hk : k + 4 ≤ 2049) (v1 : Int32) : wpX_balance (fun r => wpY_balance (fun r' => r' = r ∧ i_Rel (k + 4) u v) v v1) u v1 := by
  obtain ⟨n, d, D, C, A, O, g, h, rfl, rfl, ok⟩ := I
  have h5 := ok.2.1
  unfold wpX_balance wpY_balance
  dsimp only
  rcases ob_ix v1 (n := n) (by omega) with hv | ⟨a, ha, rfl⟩
  · exact ob_xf0 hv (br_t rfl (ob_yf0 hv (br_f (by decide) ⟨rfl, ob_rel ok⟩)))
  obtain ⟨r, hX, hY⟩ := ob_bal (n := n) (D := D) (C := C) (A := A) (O := O) g h (nI a) ok.2.2.1
  exact ob_xf1 h5 ha (br_f (by decide) (hX _ (ob_yf1 h5 ha (br_t rfl (hY _ ⟨rfl, ob_rel ok⟩)))))
theorem ob_least {n d : Nat} {D C A O g h : Nat → Int32} (h5 : n ≤ 5) (h7 : d ≤ 7) : ∀ (m j : Nat) (s : Int32), j + m = n → ∃ r : Int32, (∀ post : Int32 → Prop, post r → wX_least_4 post (nI n) (nI d) D C A O g (m + 1) s (nI j)) ∧ (∀ post : Int32 → Prop, post r → wY_least_4 post (nI n) (nI d) D C A O h (m + 1) s (nI j)) := by
  intro m
  induction m with
  | zero =>
    intro j s hj
    have hc : nI n ≤ nI j := nI_le (by omega) (by omega)
    exact ⟨s, fun _ hp => br_t hc hp, fun _ hp => br_t hc hp⟩
  | succ m ih =>
    intro j s hj
    have hc : ¬ nI n ≤ nI j := nI_ge (by omega) (by omega)
    obtain ⟨b, bX, bY⟩ := ob_bal (n := n) (D := D) (C := C) (A := A) (O := O) g h (nI j) h7
    by_cases z : b ≤ 0
    · obtain ⟨r, hX, hY⟩ := ih (j + 1) s (by omega)
      refine ⟨r, fun post hp => br_f hc (bX _ (br_t z fun x ex => ?_)), fun post hp => br_f hc (bY _ (br_t z fun x ex => ?_))⟩
      · rw [nI_1] at ex; subst ex; exact hX post hp
      · rw [nI_1] at ex; subst ex; exact hY post hp
    · obtain ⟨r, hX, hY⟩ := ih (j + 1) (s + b) (by omega)
      refine ⟨r, fun post hp => br_f hc (bX _ (br_f z fun s' es x ex => ?_)), fun post hp => br_f hc (bY _ (br_f z fun s' es x ex => ?_))⟩
      · rw [nI_1] at ex; subst es ex; exact hX post hp
      · rw [nI_1] at ex; subst es ex; exact hY post hp
theorem i_vc_least {k : Nat} {u : SX} {v : SY} (I : i_Rel k u v) (hk : k + 4 ≤ 2049) : wpX_least (fun r => wpY_least (fun r' => r' = r ∧ i_Rel (k + 4) u v) v) u := by
  obtain ⟨n, d, D, C, A, O, g, h, rfl, rfl, ok⟩ := I
  obtain ⟨r, hX, hY⟩ := ob_least (n := n) (D := D) (C := C) (A := A) (O := O) (g := g) (h := h) ok.2.1 ok.2.2.1 n 0 0 (by omega)
  exact ⟨n + 1, hX _ ⟨n + 1, hY _ ⟨rfl, ob_rel ok⟩⟩⟩
end
