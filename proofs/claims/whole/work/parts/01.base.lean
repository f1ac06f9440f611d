/-! rows pk_* are pasted from kit/rows; the rest is this claim's own -/
theorem pk_us {f : Nat → Int32} {k : Nat} {x : Int32} : upd f k x k = x := if_pos rfl
theorem pk_un {f : Nat → Int32} {k j : Nat} {x : Int32} (h : j ≠ k) : upd f k x j = f j := if_neg h
theorem pk_sub {a b : Nat} (h : b ≤ a) : nI a - nI b = nI (a - b) := by
  obtain ⟨c, rfl⟩ : ∃ c, a = c + b := ⟨a - b, by omega⟩
  rw [← nI_add, Int32.add_sub_cancel, Nat.add_sub_cancel]
theorem pk_mul (a b : Nat) : nI a * nI b = nI (a * b) := (Int32.ofNat_mul a b).symm
theorem pk_ix (x : Int32) {n : Nat} (hn : n < 2 ^ 31) : x < 0 ∨ nI n ≤ x ∨ ∃ j : Nat, j < n ∧ x = nI j := by
  by_cases h : x < 0
  · exact Or.inl h
  · obtain ⟨j, hj, rfl⟩ := nI_of h
    by_cases h2 : j < n
    · exact Or.inr (Or.inr ⟨j, h2, rfl⟩)
    · exact Or.inr (Or.inl (nI_le (by omega) hj))
theorem pk_and (x : Int32) {m : Int32} (k : Nat) (hm : m.toBitVec.toNat = 2 ^ k - 1) : x &&& m = nI (x.toBitVec.toNat % 2 ^ k) := by
  apply Int32.toBitVec_inj.mp
  apply BitVec.eq_of_toNat_eq
  rw [Int32.toBitVec_and, BitVec.toNat_and, hm, Nat.and_two_pow_sub_one_eq_mod]
  show _ = (BitVec.ofNat 32 _).toNat
  rw [BitVec.toNat_ofNat]
  exact (Nat.mod_eq_of_lt (Nat.lt_of_le_of_lt (Nat.mod_le _ _) x.toBitVec.isLt)).symm
theorem pk_andE (x : Int32) {m : Int32} (k : Nat) (hm : m.toBitVec.toNat = 2 ^ k - 1) : ∃ j : Nat, j < 2 ^ k ∧ x &&& m = nI j := ⟨_, Nat.mod_lt _ (Nat.two_pow_pos k), pk_and x k hm⟩
/-- what a state of both sides keeps: n firms, d debts, firms within, amounts 0 .. 3, flags 0 or 1 -/
def ob_ok (n d : Nat) (D C A O : Nat → Int32) : Prop :=
  2 ≤ n ∧ n ≤ 5 ∧ d ≤ 7 ∧ (∀ j, j < d → ∃ a, a < n ∧ D j = nI a) ∧ (∀ j, j < d → ∃ a, a < n ∧ C j = nI a) ∧ (∀ j, j < d → ∃ a, a < 4 ∧ A j = nI a) ∧ (∀ j, O j = 0 ∨ O j = 1)
/-- the two states are the same but for the scratch arrays -/
def i_Rel (_ : Nat) (u : SX) (v : SY) : Prop := ∃ (n d : Nat) (D C A O g h : Nat → Int32), u = (nI n, nI d, D, C, A, O, g) ∧ v = (nI n, nI d, D, C, A, O, h) ∧ ob_ok n d D C A O
theorem ob_rel {k n d : Nat} {D C A O g h : Nat → Int32} (ok : ob_ok n d D C A O) : i_Rel k (nI n, nI d, D, C, A, O, g) (nI n, nI d, D, C, A, O, h) := ⟨n, d, D, C, A, O, g, h, rfl, rfl, ok⟩
theorem i_up {k : Nat} {u : SX} {v : SY} (h : i_Rel k u v) : i_Rel (k + 4) u v := h
theorem ob_rel0 {k n : Nat} (h2 : 2 ≤ n) (h5 : n ≤ 5) : i_Rel k (nI n, 0, (fun _ => 0), (fun _ => 0), (fun _ => 0), (fun _ => 0), (fun _ => 0)) (nI n, 0, (fun _ => 0), (fun _ => 0), (fun _ => 0), (fun _ => 0), (fun _ => 0)) :=
  ⟨n, 0, (fun _ => 0), (fun _ => 0), (fun _ => 0), (fun _ => 0), (fun _ => 0), (fun _ => 0), rfl, rfl, h2, h5, by omega, fun j h => absurd h (by omega), fun j h => absurd h (by omega), fun j h => absurd h (by omega), fun j => Or.inl rfl⟩
theorem i_vc0 (k0 : Int32) : wpX_init (fun u => wpY_init (fun v => i_Rel 1 u v) k0) k0 := by
  by_cases h2 : 2 ≤ k0
  · by_cases h5 : k0 ≤ 5
    · have h0 : ¬ k0 < 0 := Int32.not_lt.mpr (Int32.le_trans (by decide) h2)
      obtain ⟨j, hj, rfl⟩ := nI_of2 (M := 5) (n := 5) (by decide) h0 h5
      have h2' : 2 ≤ j := (nI_leI (a := 2) (by omega) (by omega)).mp h2
      exact br_t h2 (br_t h5 (br_t h2 (br_t h5 (ob_rel0 h2' hj))))
    · exact br_t h2 (br_f h5 (br_t h2 (br_f h5 (ob_rel0 (n := 5) (by omega) (by omega)))))
  · exact br_f h2 (br_f h2 (ob_rel0 (n := 2) (by omega) (by omega)))
/-! the tests of firms, debts and amounts -/
theorem ob_xf1 {post : Int32 → Prop} {n a : Nat} {y : Int32} {D C A O g : Nat → Int32} (hn : n ≤ 5) (ha : a < n) (h : post 1) : wpX_isFirm post (nI n, y, D, C, A, O, g) (nI a) := br_f (nI_pos (by omega)) (br_f (nI_ge ha (by omega)) h)
theorem ob_xf0 {post : Int32 → Prop} {n : Nat} {x y : Int32} {D C A O g : Nat → Int32} (hx : x < 0 ∨ nI n ≤ x) (h : post 0) : wpX_isFirm post (nI n, y, D, C, A, O, g) x := by
  by_cases h0 : x < 0
  · exact br_t h0 h
  · exact br_f h0 (br_t (hx.resolve_left h0) h)
theorem ob_yf1 {post : Int32 → Prop} {n a : Nat} {y : Int32} {D C A O g : Nat → Int32} (hn : n ≤ 5) (ha : a < n) (h : post 0) : wpY_badFirm post (nI n, y, D, C, A, O, g) (nI a) := br_f (nI_pos (by omega)) (br_f (nI_ge ha (by omega)) (br_t (nI_le (b := 4) (by omega) (by decide)) h))
theorem ob_yf0 {post : Int32 → Prop} {n : Nat} {x y : Int32} {D C A O g : Nat → Int32} (hx : x < 0 ∨ nI n ≤ x) (h : post 1) : wpY_badFirm post (nI n, y, D, C, A, O, g) x := by
  by_cases h0 : x < 0
  · exact br_t h0 h
  · exact br_f h0 (br_t (hx.resolve_left h0) h)
theorem ob_xd1 {post : Int32 → Prop} {d a : Nat} {y : Int32} {D C A O g : Nat → Int32} (hd : d ≤ 7) (ha : a < d) (h : post 1) : wpX_isDebt post (y, nI d, D, C, A, O, g) (nI a) := br_f (nI_pos (by omega)) (br_f (nI_ge ha (by omega)) h)
theorem ob_xd0 {post : Int32 → Prop} {d : Nat} {x y : Int32} {D C A O g : Nat → Int32} (hx : x < 0 ∨ nI d ≤ x) (h : post 0) : wpX_isDebt post (y, nI d, D, C, A, O, g) x := by
  by_cases h0 : x < 0
  · exact br_t h0 h
  · exact br_f h0 (br_t (hx.resolve_left h0) h)
theorem ob_yd1 {post : Int32 → Prop} {d a : Nat} {y : Int32} {D C A O g : Nat → Int32} (hd : d ≤ 7) (ha : a < d) (h : post 0) : wpY_bad post (y, nI d, D, C, A, O, g) (nI a) := br_f (nI_pos (by omega)) (br_f (nI_ge ha (by omega)) (br_t (nI_le (b := 6) (by omega) (by decide)) h))
theorem ob_yd0 {post : Int32 → Prop} {d : Nat} {x y : Int32} {D C A O g : Nat → Int32} (hx : x < 0 ∨ nI d ≤ x) (h : post 1) : wpY_bad post (y, nI d, D, C, A, O, g) x := by
  by_cases h0 : x < 0
  · exact br_t h0 h
  · exact br_f h0 (br_t (hx.resolve_left h0) h)
/-- good by what is known of an index -/
theorem ob_ix (x : Int32) {n : Nat} (hn : n ≤ 7) : (x < 0 ∨ nI n ≤ x) ∨ ∃ a, a < n ∧ x = nI a := by
  rcases pk_ix x (n := n) (by omega) with h | h | h
  · exact Or.inl (Or.inl h)
  · exact Or.inl (Or.inr h)
  · exact Or.inr h
theorem ob_put {X : Nat → Int32} {d k m b : Nat} (h : ∀ j, j < d → j ≠ k → ∃ a, a < m ∧ X j = nI a) (hb : b < m) : ∀ j, j < d → ∃ a, a < m ∧ upd X k (nI b) j = nI a := by
  intro j hj
  by_cases z : j = k
  · exact ⟨b, hb, by rw [z]; exact pk_us⟩
  · obtain ⟨a, ha, e⟩ := h j hj z
    exact ⟨a, ha, by rw [pk_un z]; exact e⟩
theorem i_vc_owe {k : Nat} {u : SX} {v : SY} (I : i_Rel k u v) (hk : k + 4 ≤ 2049) (v1 : Int32) (v2 : Int32) (v3 : Int32) : wpX_owe (fun r u' => wpY_owe (fun r' v' => r' = r ∧ i_Rel (k + 4) u' v') v v1 v2 v3) u v1 v2 v3 := by
  obtain ⟨n, d, D, C, A, O, g, h, rfl, rfl, ok⟩ := I
  have ok' := ok
  obtain ⟨h2, h5, h7, hD, hC, hA, hO⟩ := ok'
  unfold wpX_owe wpY_owe
  dsimp only
  rcases ob_ix v1 (n := n) (by omega) with hv | ⟨a, ha, rfl⟩
  · exact ob_xf0 hv (br_t rfl (ob_yf0 hv (br_f (by decide) ⟨rfl, ob_rel ok⟩)))
  refine ob_xf1 h5 ha (br_f (by decide) ?_)
  rcases ob_ix v2 (n := n) (by omega) with hv | ⟨b, hb, rfl⟩
  · exact ob_xf0 hv (br_t rfl (ob_yf1 h5 ha (br_t rfl (ob_yf0 hv (br_f (by decide) ⟨rfl, ob_rel ok⟩)))))
  refine ob_xf1 h5 hb (br_f (by decide) ?_)
  by_cases hne : nI a = nI b
  · exact br_t hne (ob_yf1 h5 ha (br_t rfl (ob_yf1 h5 hb (br_t rfl (br_t hne ⟨rfl, ob_rel ok⟩)))))
  refine br_f hne ?_
  by_cases h0 : v3 < 0
  · exact br_t h0 (br_t rfl (ob_yf1 h5 ha (br_t rfl (ob_yf1 h5 hb (br_t rfl (br_f hne (br_t h0 ⟨rfl, ob_rel ok⟩)))))))
  by_cases h3 : 3 < v3
  · have h3' : ¬ v3 ≤ 3 := Int32.not_le.mpr h3
    exact br_f h0 (br_t h3 (br_t rfl (ob_yf1 h5 ha (br_t rfl (ob_yf1 h5 hb (br_t rfl (br_f hne (br_f h0 (br_f h3' ⟨rfl, ob_rel ok⟩)))))))))
  have h3' : v3 ≤ 3 := Int32.not_lt.mp h3
  refine br_f h0 (br_f h3 (br_f (by decide) ?_))
  by_cases hd : d < 7
  · obtain ⟨c, hc, rfl⟩ := nI_of2 (M := 3) (n := 3) (by decide) h0 h3'
    have hi : vp_in (nI d) 7 := vp_in_nI hd (by decide)
    have e : (nI d).toNatClampNeg = d := nI_clamp (by omega)
    refine br_t (nI_lt (b := 7) hd (by decide)) ⟨hi, fun D' eD => ⟨hi, fun C' eC => ⟨hi, fun A' eA => fun f ef => ?_⟩⟩⟩
    rw [e] at eD eC eA
    rw [nI_1] at ef
    subst eD eC eA ef
    refine ob_yf1 h5 ha (br_t rfl (ob_yf1 h5 hb (br_t rfl (br_f hne (br_f h0 (br_t h3' (br_t (nI_le (b := 6) (by omega) (by decide)) ⟨hi, fun D' eD => ⟨hi, fun C' eC => ⟨hi, fun A' eA => fun f ef => ?_⟩⟩⟩)))))))
    rw [e] at eD eC eA
    rw [nI_1] at ef
    subst eD eC eA ef
    exact ⟨rfl, ob_rel ⟨h2, h5, by omega, ob_put (fun j p q => hD j (by omega)) ha, ob_put (fun j p q => hC j (by omega)) hb, ob_put (fun j p q => hA j (by omega)) (by omega), hO⟩⟩
  · have h7' : ¬ nI d < 7 := nI_nlt (b := 7) (by omega) (by omega)
    have h6 : ¬ nI d ≤ 6 := nI_ge (a := 6) (b := d) (by omega) (by omega)
    exact br_f h7' (ob_yf1 h5 ha (br_t rfl (ob_yf1 h5 hb (br_t rfl (br_f hne (br_f h0 (br_t h3' (br_f h6 ⟨rfl, ob_rel ok⟩))))))))
theorem i_vc_change {k : Nat} {u : SX} {v : SY} (I : i_Rel k u v) (hk : k + 4 ≤ 2049) (v1 : Int32) (v2 : Int32) : wpX_change (fun r u' => wpY_change (fun r' v' => r' = r ∧ i_Rel (k + 4) u' v') v v1 v2) u v1 v2 := by
  obtain ⟨n, d, D, C, A, O, g, h, rfl, rfl, ok⟩ := I
  have ok' := ok
  obtain ⟨h2, h5, h7, hD, hC, hA, hO⟩ := ok'
  unfold wpX_change wpY_change
  dsimp only
  rcases ob_ix v1 (n := d) (by omega) with hv | ⟨a, ha, rfl⟩
  · exact ob_xd0 hv (br_t rfl (ob_yd0 hv (br_f (by decide) ⟨rfl, ob_rel ok⟩)))
  refine ob_xd1 h7 ha (br_f (by decide) ?_)
  by_cases h0 : v2 < 0
  · exact br_t h0 (br_t rfl (ob_yd1 h7 ha (br_t rfl (br_t h0 ⟨rfl, ob_rel ok⟩))))
  by_cases h3 : 3 < v2
  · have h3' : ¬ v2 ≤ 3 := Int32.not_le.mpr h3
    exact br_f h0 (br_t h3 (br_t rfl (ob_yd1 h7 ha (br_t rfl (br_f h0 (br_f h3' ⟨rfl, ob_rel ok⟩))))))
  have h3' : v2 ≤ 3 := Int32.not_lt.mp h3
  obtain ⟨c, hc, rfl⟩ := nI_of2 (M := 3) (n := 3) (by decide) h0 h3'
  have hi : vp_in (nI a) 7 := vp_in_nI (by omega) (by decide)
  have e : (nI a).toNatClampNeg = a := nI_clamp (by omega)
  refine br_f h0 (br_f h3 (br_f (by decide) ⟨hi, fun x ex => ⟨hi, fun A' eA => ?_⟩⟩))
  rw [e] at ex eA
  subst ex eA
  refine ob_yd1 h7 ha (br_t rfl (br_f h0 (br_t h3' ⟨hi, fun x ex => ⟨hi, fun A' eA => ?_⟩⟩)))
  rw [e] at ex eA
  subst ex eA
  exact ⟨rfl, ob_rel ⟨h2, h5, h7, hD, hC, ob_put (fun j p q => hA j p) (by omega), hO⟩⟩
