/-! the owed statements of the list -/
theorem i_up {k : Nat} {u : SX} {v : SY} (h : i_Rel k u v) : i_Rel (k + 4) u v := by
  obtain ⟨n, kn, s, l, r, sh, lf, rt, tr, co, ri, fo, ty, rfl, rfl, h, hk, _⟩ := h
  exact cd_rel h hk
theorem i_vc0 : wpX_init (fun u => wpY_init (fun v => i_Rel 0 u v)) := by
  show i_Rel 0 (0, (fun _ => 0), (fun _ => 0), (fun _ => 0), (fun _ => 0), (fun _ => 0)) (0, 0, (fun _ => 0), (fun _ => 0), (fun _ => 0), (fun _ => 0), (fun _ => 0))
  refine cd_rel (n := 0) (s := fun _ => 0) (l := fun _ => 0) (r := fun _ => 0) ⟨⟨by decide, fun _ => rfl, fun _ => rfl, fun _ => rfl, fun _ => Nat.zero_le 4, fun _ => (by decide : 0 < 11), fun _ => (by decide : 0 < 11), fun f hf => absurd hf (Nat.not_lt_zero _)⟩, fun f hf => absurd hf (Nat.not_lt_zero _), fun j hj => ?_, fun _ _ => rfl, fun j hj => absurd hj (by decide : ¬ (0 : Nat) = 3)⟩ (Or.inl rfl)
  have e : j = 0 := by
    have : (2 : Nat) ^ 0 = 1 := rfl
    omega
  subst e
  refine ⟨fun g z => ?_, fun f hf => absurd hf (Nat.not_lt_zero _), fun S hS hC g z => ?_, fun g z => ?_⟩
  · rw [Nat.zero_testBit] at z
    exact Bool.noConfusion z
  · have z' : bt 0 g = true := z
    rw [b_0] at z'
    exact Bool.noConfusion z'
  · have z' : bt 0 g = true := z
    rw [b_0] at z'
    exact Bool.noConfusion z'
theorem i_vc_atom {k : Nat} {u : SX} {v : SY} (I : i_Rel k u v) (hk : k + 4 ≤ 2048) (v1 : Int32) : wpX_atom (fun r u' => wpY_atom (fun r' v' => r' = r ∧ i_Rel (k + 4) u' v') v v1) u v1 := by
  have hR := i_up I
  obtain ⟨n, kn, s, l, r, sh, lf, rt, tr, co, ri, fo, ty, rfl, rfl, h, hK, _⟩ := I
  have hn := h.1.1
  rcases pk_ix v1 (n := 4) (by decide) with z | z | ⟨j, hj, rfl⟩
  · unfold wpX_atom wpY_atom
    exact br_t z (br_t z ⟨rfl, hR⟩)
  · have h0 : ¬ v1 < 0 := fun y => by
      have y1 := Int32.lt_iff_toInt_lt.mp y
      have z1 := Int32.le_iff_toInt_le.mp z
      rw [show (nI 4).toInt = 4 from by decide] at z1
      rw [show (0 : Int32).toInt = 0 from by decide] at y1
      omega
    have h4 : ¬ v1 < 4 := fun y => Int32.lt_irrefl (Int32.lt_of_lt_of_le y z)
    have h3 : ¬ v1 ≤ 3 := fun y => by
      have y1 := Int32.le_iff_toInt_le.mp y
      have z1 := Int32.le_iff_toInt_le.mp z
      rw [show (nI 4).toInt = 4 from by decide] at z1
      rw [show (3 : Int32).toInt = 3 from by decide] at y1
      omega
    unfold wpX_atom wpY_atom
    exact br_f h0 (br_f h4 (br_f h0 (br_f h3 ⟨rfl, hR⟩)))
  · have h0 : ¬ nI j < 0 := nI_pos (by omega)
    have h4 : nI j < 4 := nI_lt (b := 4) (by omega) (by decide)
    have h3 : nI j ≤ 3 := nI_le (b := 3) (by omega) (by decide)
    obtain ⟨a, ⟨w1, w2, w3, w4, w5, w6, w7⟩, hY, hX⟩ := cd_put (k := k + 4) (ty := ty) (x := 3) (y := j) (z := j) (z' := 0) h hK (by decide) (by omega) (by omega) (fun w => absurd w (by decide)) (fun _ => ⟨by omega, rfl, rfl⟩) (fun w => absurd rfl w)
    unfold wpX_atom
    refine br_f h0 (br_t h4 (hX _ (fun u' hu => ?_)))
    obtain ⟨a1, a2, a3, a4, a5, a6⟩ := u'
    show wpY_atom _ _ _
    unfold wpY_atom
    exact br_f h0 (br_t h3 (hY _ ⟨rfl, hu⟩))
theorem i_vc_falsum {k : Nat} {u : SX} {v : SY} (I : i_Rel k u v) (hk : k + 4 ≤ 2048) : wpX_falsum (fun r u' => wpY_falsum (fun r' v' => r' = r ∧ i_Rel (k + 4) u' v') v) u := by
  obtain ⟨n, kn, s, l, r, sh, lf, rt, tr, co, ri, fo, ty, rfl, rfl, h, hK, _⟩ := I
  obtain ⟨a, ⟨w1, w2, w3, w4, w5, w6, w7⟩, hY, hX⟩ := cd_put (k := k + 4) (ty := ty) (x := 4) (y := 0) (z := 0) (z' := 0) h hK (by decide) (by omega) (by omega) (fun w => absurd w (by decide)) (fun w => absurd w (by decide)) (fun _ => rfl)
  unfold wpX_falsum
  refine hX _ (fun u' hu => ?_)
  obtain ⟨a1, a2, a3, a4, a5, a6⟩ := u'
  show wpY_falsum _ _
  unfold wpY_falsum
  exact hY _ ⟨rfl, hu⟩
theorem i_vc_join {k : Nat} {u : SX} {v : SY} (I : i_Rel k u v) (hk : k + 4 ≤ 2048) (v1 : Int32) (v2 : Int32) (v3 : Int32) : wpX_join (fun r u' => wpY_join (fun r' v' => r' = r ∧ i_Rel (k + 4) u' v') v v1 v2 v3) u v1 v2 v3 := by
  have hR := i_up I
  obtain ⟨n, kn, s, l, r, sh, lf, rt, tr, co, ri, fo, ty, rfl, rfl, h, hK, _⟩ := I
  have hn := h.1.1
  by_cases z0 : v1 < 0
  · unfold wpX_join wpY_join
    exact br_t z0 (br_t z0 ⟨rfl, hR⟩)
  obtain ⟨x, hx, rfl⟩ := nI_of z0
  by_cases z2 : 2 < nI x
  · unfold wpX_join wpY_join
    exact br_f z0 (br_t z2 (br_f z0 (br_t z2 ⟨rfl, hR⟩)))
  have hx2 : x < 3 := by
    rcases Nat.lt_or_ge x 3 with w | w
    · exact w
    · exact absurd (nI_lt (a := 2) (b := x) (by omega) hx) z2
  have o2 : v2 < 0 ∨ nI n ≤ v2 ∨ ∃ j, j < n ∧ v2 = nI j := pk_ix v2 (by omega)
  have o3 : v3 < 0 ∨ nI n ≤ v3 ∨ ∃ j, j < n ∧ v3 = nI j := pk_ix v3 (by omega)
  by_cases q2 : v2 < 0 ∨ nI n ≤ v2
  · unfold wpX_join wpY_join
    exact br_f z0 (br_f z2 (cx_is0 q2 (br_t rfl (br_f z0 (br_f z2 (cy_is0 q2 (br_t rfl ⟨rfl, hR⟩)))))))
  obtain ⟨i, hi, rfl⟩ : ∃ j, j < n ∧ v2 = nI j := by
    rcases o2 with w | w | w
    · exact absurd (Or.inl w) q2
    · exact absurd (Or.inr w) q2
    · exact w
  by_cases q3 : v3 < 0 ∨ nI n ≤ v3
  · unfold wpX_join wpY_join
    exact br_f z0 (br_f z2 (cx_is1 hn hi (br_f (by decide) (cx_is0 q3 (br_t rfl (br_f z0 (br_f z2 (cy_is1 hn hi (br_f (by decide) (cy_is0 q3 (br_t rfl ⟨rfl, hR⟩)))))))))))
  obtain ⟨j, hj, rfl⟩ : ∃ j, j < n ∧ v3 = nI j := by
    rcases o3 with w | w | w
    · exact absurd (Or.inl w) q3
    · exact absurd (Or.inr w) q3
    · exact w
  obtain ⟨a, ⟨w1, w2, w3, w4, w5, w6, w7⟩, hY, hX⟩ := cd_put (k := k + 4) (ty := ty) (x := x) (y := i) (z := j) (z' := j) h hK (by omega) (by omega) (by omega) (fun _ => ⟨hi, hj⟩) (fun w => by omega) (fun _ => rfl)
  unfold wpX_join
  refine br_f z0 (br_f z2 (cx_is1 hn hi (br_f (by decide) (cx_is1 hn hj (br_f (by decide) (hX _ (fun u' hu => ?_)))))))
  obtain ⟨a1, a2, a3, a4, a5, a6⟩ := u'
  show wpY_join _ _ _ _ _
  unfold wpY_join
  exact br_f z0 (br_f z2 (cy_is1 hn hi (br_f (by decide) (cy_is1 hn hj (br_f (by decide) (hY _ ⟨rfl, hu⟩))))))
theorem i_vc_drop {k : Nat} {u : SX} {v : SY} (I : i_Rel k u v) (hk : k + 4 ≤ 2048) : wpX_drop (fun r u' => wpY_drop (fun r' v' => r' = r ∧ i_Rel (k + 4) u' v') v) u := by
  have hR := i_up I
  obtain ⟨n, kn, s, l, r, sh, lf, rt, tr, co, ri, fo, ty, rfl, rfl, h, hK, _⟩ := I
  obtain ⟨⟨hn, hsh, hlf, hrt, hs4, hl, hr, wf⟩, hT, hG, h1, h2⟩ := h
  cases n with
  | zero =>
    unfold wpX_drop wpY_drop
    exact br_t rfl (br_t rfl ⟨rfl, hR⟩)
  | succ n =>
    have e : ¬ nI (n + 1) = 0 := nI_ne0 (by omega) (by omega)
    have hL : cd_L n s l r sh lf rt := ⟨by omega, hsh, hlf, hrt, hs4, hl, hr, fun f hf => wf f (by omega)⟩
    unfold wpX_drop
    refine br_f e (nm_r (nI_pred n) (cx_settle hL (fun c2 hG2 => ?_)))
    show wpY_drop _ _
    unfold wpY_drop
    exact br_f e (nm_r (nI_pred n) ⟨rfl, cd_rel ⟨hL, fun f hf => hT f (by omega), hG2, h1, h2⟩ (Or.inl rfl)⟩)
theorem i_vc_size {k : Nat} {u : SX} {v : SY} (I : i_Rel k u v) (hk : k + 4 ≤ 2048) : wpX_size (fun r => wpY_size (fun r' => r' = r ∧ i_Rel (k + 4) u v) v) u := by
  have hR := i_up I
  obtain ⟨n, kn, s, l, r, sh, lf, rt, tr, co, ri, fo, ty, rfl, rfl, h, hK, _⟩ := I
  unfold wpX_size wpY_size
  exact ⟨rfl, hR⟩
