/-! saturated sets -/
section
variable {n m : Nat} {s l r : Nat → Nat} {kn : Int32} {sh lf rt tr co ri fo ty : Nat → Int32}
theorem cy_43n {post J : Int32 → Prop} {j : Nat} (H : cd_I n s l r sh lf rt tr co ri) (hj : j < n)
    (h : bt (nI m) j = false ∨ s j ≠ 1 ∨ bt (nI m) (l j) = true ∨ bt (nI m) (r j) = true) (p : J (nI (j + 1))) : wY_isWorld_43 post J (nI m) (nI j) (nI n) kn sh lf ri fo ty := by
  have Hy := cd_Iy H
  obtain ⟨hn, hsh, hlf, hri, hs4, hl, hr, wf⟩ := Hy
  have vj : vp_in (nI j) 11 := vp_in_nI (by omega) (by omega)
  have cj : (nI j).toNatClampNeg = j := nI_clamp (by omega)
  have hl' := hl j
  have hr' := hr j
  have hs' := hs4 j
  unfold wY_isWorld_43
  refine cy_has (by omega) (fun z => br_f (by decide) ⟨vj, ?_⟩) (fun z => br_t rfl (nm_r (nI_1 j) p))
  rw [cj, hsh j, hlf j]
  by_cases e : s j = 1
  · rw [e, hri j (by omega)]
    refine br_t rfl ⟨vj, cy_has (by omega) (fun w => br_f (by decide) (nm_r (nI_1 j) p)) (fun w => br_t rfl ⟨vj, cy_has (by omega) (fun y => br_f (by decide) (nm_r (nI_1 j) p)) (fun y => ?_)⟩)⟩
    rw [z, w, y] at h
    rcases h with h | h | h | h
    · exact Bool.noConfusion h
    · exact absurd e h
    · exact Bool.noConfusion h
    · exact Bool.noConfusion h
  · exact br_f (fun y => e ((nI_eq (a := s j) (b := 1) (by omega) (by decide)).mp y)) (nm_r (nI_1 j) p)
theorem cy_43z {post J : Int32 → Prop} {j : Nat} (H : cd_I n s l r sh lf rt tr co ri) (hj : j < n)
    (h1 : bt (nI m) j = true) (e : s j = 1) (h2 : bt (nI m) (l j) = false) (h3 : bt (nI m) (r j) = false) (p : post 0) : wY_isWorld_43 post J (nI m) (nI j) (nI n) kn sh lf ri fo ty := by
  have Hy := cd_Iy H
  obtain ⟨hn, hsh, hlf, hri, hs4, hl, hr, wf⟩ := Hy
  have vj : vp_in (nI j) 11 := vp_in_nI (by omega) (by omega)
  have cj : (nI j).toNatClampNeg = j := nI_clamp (by omega)
  have hl' := hl j
  have hr' := hr j
  unfold wY_isWorld_43
  refine cy_hasT (by omega) h1 (br_f (by decide) ⟨vj, ?_⟩)
  rw [cj, hsh j, hlf j, e, hri j (by omega)]
  exact br_t rfl ⟨vj, cy_hasF (by omega) h2 (br_t rfl ⟨vj, cy_hasF (by omega) h3 (br_t rfl p)⟩)⟩
theorem cd_sat14 (H : cd_I n s l r sh lf rt tr co ri) : ∀ d j, j + d = n → ∃ b : Int32,
    (∀ post : Int32 → Prop, post b → wX_isSaturated_14 post (nI m) (nI n) sh lf rt tr co (d + 1) (nI j)) ∧ (∀ (kn : Int32) (fo ty : Nat → Int32) (post : Int32 → Prop), post b → wY_isWorld_14 post (nI m) (nI n) kn sh lf ri fo ty (d + 1) (nI j)) := by
  have HI := H
  obtain ⟨⟨hn, hsh, hlf, hrt, hs4, hl, hr, wf⟩, hT, hG, q1, q2⟩ := H
  intro d
  induction d with
  | zero =>
    intro j hj
    have e : j = n := by omega
    subst e
    exact ⟨1, fun _ h => br_t (Int32.le_refl _) h, fun _ _ _ _ h => br_t (Int32.le_refl _) h⟩
  | succ d ih =>
    intro j hj
    have hjn : j < n := by omega
    have hle : ¬ nI n ≤ nI j := nI_ge hjn (by omega)
    have vj : vp_in (nI j) 11 := vp_in_nI (by omega) (by omega)
    have cj : (nI j).toNatClampNeg = j := nI_clamp (by omega)
    have hl' := hl j
    have hr' := hr j
    have hs' := hs4 j
    obtain ⟨b, hX, hY⟩ := ih (j + 1) (by omega)
    cases z : bt (nI m) j
    · exact ⟨b, fun post hp => br_f hle (cx_hasF (by omega) z (br_t rfl (nm_r (nI_1 j) (hX post hp)))), fun kn fo ty post hp => br_f hle (cy_hasF (by omega) z (br_t rfl (cy_43n HI hjn (Or.inl z) (hY kn fo ty post hp))))⟩
    · by_cases e4 : s j = 4
      · refine ⟨0, fun post hp => br_f hle (cx_hasT (by omega) z (br_f (by decide) ⟨vj, ?_⟩)), fun kn fo ty post hp => br_f hle (cy_hasT (by omega) z (br_f (by decide) ⟨vj, ?_⟩))⟩
        · rw [cj, hsh j, e4]; exact br_t rfl hp
        · rw [cj, hsh j, e4]; exact br_t rfl hp
      · have n4 : ¬ nI (s j) = 4 := fun y => e4 ((nI_eq (a := s j) (b := 4) (by omega) (by decide)).mp y)
        have fy : ∀ (kn : Int32) (fo ty : Nat → Int32) (post : Int32 → Prop), wY_isWorld_43 post (wY_isWorld_14 post (nI m) (nI n) kn sh lf ri fo ty (d + 1)) (nI m) (nI j) (nI n) kn sh lf ri fo ty → wY_isWorld_14 post (nI m) (nI n) kn sh lf ri fo ty (d + 1 + 1) (nI j) := by
          intro kn fo ty post hp
          refine br_f hle (cy_hasT (by omega) z (br_f (by decide) ⟨vj, ?_⟩))
          rw [cj, hsh j]
          exact br_f n4 hp
        by_cases e1 : s j = 1
        · cases w : bt (nI m) (l j)
          · cases y : bt (nI m) (r j)
            · refine ⟨0, fun post hp => br_f hle (cx_hasT (by omega) z (br_f (by decide) ⟨vj, ?_⟩)), fun kn fo ty post hp => fy kn fo ty post (cy_43z HI hjn z e1 w y hp)⟩
              rw [cj, hsh j, hlf j, hrt j]
              refine br_f n4 ⟨vj, br_t (by rw [e1]; rfl) ⟨vj, cx_hasF (by omega) w (br_t rfl ⟨vj, cx_hasF (by omega) y (br_t rfl hp)⟩)⟩⟩
            · refine ⟨b, fun post hp => br_f hle (cx_hasT (by omega) z (br_f (by decide) ⟨vj, ?_⟩)), fun kn fo ty post hp => fy kn fo ty post (cy_43n HI hjn (Or.inr (Or.inr (Or.inr y))) (hY kn fo ty post hp))⟩
              rw [cj, hsh j, hlf j, hrt j]
              refine br_f n4 ⟨vj, br_t (by rw [e1]; rfl) ⟨vj, cx_hasF (by omega) w (br_t rfl ⟨vj, cx_hasT (by omega) y (br_f (by decide) (nm_r (nI_1 j) (hX post hp)))⟩)⟩⟩
          · refine ⟨b, fun post hp => br_f hle (cx_hasT (by omega) z (br_f (by decide) ⟨vj, ?_⟩)), fun kn fo ty post hp => fy kn fo ty post (cy_43n HI hjn (Or.inr (Or.inr (Or.inl w))) (hY kn fo ty post hp))⟩
            rw [cj, hsh j, hlf j, hrt j]
            refine br_f n4 ⟨vj, br_t (by rw [e1]; rfl) ⟨vj, cx_hasT (by omega) w (br_f (by decide) (nm_r (nI_1 j) (hX post hp)))⟩⟩
        · have n1 : ¬ nI (s j) = 1 := fun y => e1 ((nI_eq (a := s j) (b := 1) (by omega) (by decide)).mp y)
          refine ⟨b, fun post hp => br_f hle (cx_hasT (by omega) z (br_f (by decide) ⟨vj, ?_⟩)), fun kn fo ty post hp => fy kn fo ty post (cy_43n HI hjn (Or.inr (Or.inl e1)) (hY kn fo ty post hp))⟩
          rw [cj, hsh j, hlf j, hrt j]
          exact br_f n4 ⟨vj, br_f n1 (nm_r (nI_1 j) (hX post hp))⟩
theorem cd_sat (H : cd_I n s l r sh lf rt tr co ri) (hm : m < 2 ^ n) : ∃ b : Int32,
    (∀ post : Int32 → Prop, post b → wpX_isSaturated post (nI n, sh, lf, rt, tr, co) (nI m)) ∧ (∀ (kn : Int32) (fo ty : Nat → Int32), fo m = co m → ∀ post : Int32 → Prop, post b → wpY_isWorld post (nI n, kn, sh, lf, ri, fo, ty) (nI m)) := by
  have hn := H.1.1
  have h2 := cd_p2 hn
  have cm : (nI m).toNatClampNeg = m := nI_clamp (by omega)
  have vm : vp_in (nI m) 2048 := vp_in_nI (by omega) (by omega)
  by_cases e : co m = nI m
  · obtain ⟨b, hX, hY⟩ := cd_sat14 (m := m) H n 0 (by omega)
    refine ⟨b, fun post hp => ?_, fun kn fo ty hfo post hp => ?_⟩
    · unfold wpX_isSaturated
      refine ⟨vm, ?_⟩
      rw [cm]
      exact br_t e ⟨n + 1, hX post hp⟩
    · unfold wpY_isWorld
      refine ⟨vm, ?_⟩
      rw [cm, hfo]
      exact br_t e ⟨n + 1, hY kn fo ty post hp⟩
  · refine ⟨0, fun post hp => ?_, fun kn fo ty hfo post hp => ?_⟩
    · unfold wpX_isSaturated
      refine ⟨vm, ?_⟩
      rw [cm]
      exact br_f e hp
    · unfold wpY_isWorld
      refine ⟨vm, ?_⟩
      rw [cm, hfo]
      exact br_f e hp
theorem cd_wor (H : cd_I n s l r sh lf rt tr co ri) : ∀ d j (c : Int32), j + d = 2 ^ n → ∃ b : Int32,
    (∀ post : Int32 → Prop, post b → wX_worlds_4 post (nI n) sh lf rt tr co (d + 1) c (nI j)) ∧ (∀ (kn : Int32) (fo ty : Nat → Int32), (∀ i, i < 2 ^ n → fo i = co i) → ∀ post : Int32 → SY → Prop, post b (nI n, kn, sh, lf, ri, fo, ty) → wY_worlds_8 post (nI n) kn sh lf ri fo ty (d + 1) c (nI j)) := by
  have hn := H.1.1
  have h2 := cd_p2 hn
  have bn : (1 : Int32) <<< (nI n &&& 31) = nI (2 ^ n) := cd_bN n hn
  intro d
  induction d with
  | zero =>
    intro j c hj
    have e : j = 2 ^ n := by omega
    subst e
    have hle : (1 : Int32) <<< (nI n &&& 31) ≤ nI (2 ^ n) := by rw [bn]; exact Int32.le_refl _
    exact ⟨c, fun _ h => br_t hle h, fun _ _ _ _ _ h => br_t hle h⟩
  | succ d ih =>
    intro j c hj
    have hle : ¬ (1 : Int32) <<< (nI n &&& 31) ≤ nI j := by rw [bn]; exact nI_ge (by omega) (by omega)
    obtain ⟨t, tX, tY⟩ := cd_sat (m := j) H (by omega)
    by_cases e : t = 0
    · obtain ⟨b, hX, hY⟩ := ih (j + 1) c (by omega)
      exact ⟨b, fun post hp => br_f hle (tX _ (br_t e (nm_r (nI_1 j) (hX post hp)))), fun kn fo ty hf post hp => br_f hle (tY kn fo ty (hf j (by omega)) _ (br_t e (nm_r (nI_1 j) (hY kn fo ty hf post hp))))⟩
    · obtain ⟨b, hX, hY⟩ := ih (j + 1) (c + 1) (by omega)
      exact ⟨b, fun post hp => br_f hle (tX _ (br_f e (nm_e (nm_r (nI_1 j) (hX post hp))))), fun kn fo ty hf post hp => br_f hle (tY kn fo ty (hf j (by omega)) _ (br_f e (nm_e (nm_r (nI_1 j) (hY kn fo ty hf post hp)))))⟩
theorem cd_clo (H : cd_I n s l r sh lf rt tr co ri) : ∀ d j (c : Int32), j + d = 2 ^ n → ∃ b : Int32,
    (∀ post : Int32 → Prop, post b → wX_closedSets_4 post (nI n) sh lf rt tr co (d + 1) c (nI j)) ∧ (∀ (kn : Int32) (fo ty : Nat → Int32), (∀ i, i < 2 ^ n → fo i = co i) → ∀ post : Int32 → SY → Prop, post b (nI n, kn, sh, lf, ri, fo, ty) → wY_closedSets_8 post (nI n) kn sh lf ri fo ty (d + 1) c (nI j)) := by
  have hn := H.1.1
  have h2 := cd_p2 hn
  have bn : (1 : Int32) <<< (nI n &&& 31) = nI (2 ^ n) := cd_bN n hn
  intro d
  induction d with
  | zero =>
    intro j c hj
    have e : j = 2 ^ n := by omega
    subst e
    have hle : (1 : Int32) <<< (nI n &&& 31) ≤ nI (2 ^ n) := by rw [bn]; exact Int32.le_refl _
    exact ⟨c, fun _ h => br_t hle h, fun _ _ _ _ _ h => br_t hle h⟩
  | succ d ih =>
    intro j c hj
    have hle : ¬ (1 : Int32) <<< (nI n &&& 31) ≤ nI j := by rw [bn]; exact nI_ge (by omega) (by omega)
    have cj : (nI j).toNatClampNeg = j := nI_clamp (by omega)
    have vj : vp_in (nI j) 2048 := vp_in_nI (by omega) (by omega)
    by_cases e : co j = nI j
    · obtain ⟨b, hX, hY⟩ := ih (j + 1) (c + 1) (by omega)
      refine ⟨b, fun post hp => br_f hle ⟨vj, ?_⟩, fun kn fo ty hf post hp => br_f hle ⟨vj, ?_⟩⟩
      · rw [cj]; exact br_t e (nm_e (nm_r (nI_1 j) (hX post hp)))
      · rw [cj, hf j (by omega)]; exact br_t e (nm_e (nm_r (nI_1 j) (hY kn fo ty hf post hp)))
    · obtain ⟨b, hX, hY⟩ := ih (j + 1) c (by omega)
      refine ⟨b, fun post hp => br_f hle ⟨vj, ?_⟩, fun kn fo ty hf post hp => br_f hle ⟨vj, ?_⟩⟩
      · rw [cj]; exact br_f e (nm_r (nI_1 j) (hX post hp))
      · rw [cj, hf j (by omega)]; exact br_f e (nm_r (nI_1 j) (hY kn fo ty hf post hp))
theorem cd_aga {x3 : Int32} {c : Nat} (H : cd_I n s l r sh lf rt tr co ri) (hc : c < n) : ∀ d j, j + d = 2 ^ n → ∃ b : Int32,
    (∀ post : Int32 → Prop, post b → wX_against_19 post (nI c) x3 (nI n) sh lf rt tr co (d + 1) (nI j)) ∧ (∀ (kn : Int32) (fo ty : Nat → Int32), (∀ i, i < 2 ^ n → fo i = co i) → ∀ post : Int32 → SY → Prop, post b (nI n, kn, sh, lf, ri, fo, ty) → wY_against_19 post (nI c) x3 (nI n) kn sh lf ri fo ty (d + 1) (nI j)) := by
  have hn := H.1.1
  have h2 := cd_p2 hn
  have bn : (1 : Int32) <<< (nI n &&& 31) = nI (2 ^ n) := cd_bN n hn
  intro d
  induction d with
  | zero =>
    intro j hj
    have e : j = 2 ^ n := by omega
    subst e
    have hle : (1 : Int32) <<< (nI n &&& 31) ≤ nI (2 ^ n) := by rw [bn]; exact Int32.le_refl _
    exact ⟨-4, fun _ h => br_t hle h, fun _ _ _ _ _ h => br_t hle h⟩
  | succ d ih =>
    intro j hj
    have hle : ¬ (1 : Int32) <<< (nI n &&& 31) ≤ nI j := by rw [bn]; exact nI_ge (by omega) (by omega)
    obtain ⟨t, tX, tY⟩ := cd_sat (m := j) H (by omega)
    obtain ⟨b, hX, hY⟩ := ih (j + 1) (by omega)
    by_cases e : (x3 &&& (nI j ^^^ (-1))) = 0
    · cases z : bt (nI j) c
      · by_cases w : t = 0
        · exact ⟨b, fun post hp => br_f hle (br_t e (cx_hasF (by omega) z (br_t rfl (tX _ (br_t w (nm_r (nI_1 j) (hX post hp))))))), fun kn fo ty hf post hp => br_f hle (br_t e (cy_hasF (by omega) z (br_t rfl (tY kn fo ty (hf j (by omega)) _ (br_t w (nm_r (nI_1 j) (hY kn fo ty hf post hp)))))))⟩
        · exact ⟨nI j, fun post hp => br_f hle (br_t e (cx_hasF (by omega) z (br_t rfl (tX _ (br_f w hp))))), fun kn fo ty hf post hp => br_f hle (br_t e (cy_hasF (by omega) z (br_t rfl (tY kn fo ty (hf j (by omega)) _ (br_f w hp)))))⟩
      · exact ⟨b, fun post hp => br_f hle (br_t e (cx_hasT (by omega) z (br_f (by decide) (nm_r (nI_1 j) (hX post hp))))), fun kn fo ty hf post hp => br_f hle (br_t e (cy_hasT (by omega) z (br_f (by decide) (nm_r (nI_1 j) (hY kn fo ty hf post hp)))))⟩
    · exact ⟨b, fun post hp => br_f hle (br_f e (nm_r (nI_1 j) (hX post hp))), fun kn fo ty hf post hp => br_f hle (br_f e (nm_r (nI_1 j) (hY kn fo ty hf post hp)))⟩
end
theorem i_vc_saturated {k : Nat} {u : SX} {v : SY} (I : i_Rel k u v) (hk : k + 4 ≤ 2048) (v1 : Int32) : wpX_saturated (fun r => wpY_saturated (fun r' v' => r' = r ∧ i_Rel (k + 4) u v') v v1) u v1 := by
  obtain ⟨n, kn, s, l, r, sh, lf, rt, tr, co, ri, fo, ty, rfl, rfl, h, hK, _⟩ := I
  have hn := h.1.1
  obtain ⟨m, hm, em⟩ := cd_part v1 hn
  obtain ⟨b, hX, hY⟩ := cd_sat h hm
  unfold wpX_saturated
  refine cx_lp hn em (hX _ ?_)
  by_cases e : b = 0
  · refine br_t e ?_
    unfold wpY_saturated
    exact cy_taken h hK em (fun k2 c2 h3 h4 => hY k2 c2 ty (h4 m hm) _ (br_t e ⟨rfl, cd_rel h (Or.inr ⟨h3, h4⟩)⟩))
  · refine br_f e ?_
    unfold wpY_saturated
    exact cy_taken h hK em (fun k2 c2 h3 h4 => hY k2 c2 ty (h4 m hm) _ (br_f e ⟨rfl, cd_rel h (Or.inr ⟨h3, h4⟩)⟩))
theorem i_vc_worlds {k : Nat} {u : SX} {v : SY} (I : i_Rel k u v) (hk : k + 4 ≤ 2048) : wpX_worlds (fun r => wpY_worlds (fun r' v' => r' = r ∧ i_Rel (k + 4) u v') v) u := by
  obtain ⟨n, kn, s, l, r, sh, lf, rt, tr, co, ri, fo, ty, rfl, rfl, h, hK, _⟩ := I
  obtain ⟨b, hX, hY⟩ := cd_wor h (2 ^ n) 0 0 (by omega)
  unfold wpX_worlds
  refine ⟨2 ^ n + 1, hX _ ?_⟩
  unfold wpY_worlds
  exact cy_work (cd_Iy h) h.2.2.1 hK (fun k2 c2 h3 h4 => ⟨2 ^ n + 1, hY k2 c2 ty h4 _ ⟨rfl, cd_rel h (Or.inr ⟨h3, h4⟩)⟩⟩)
theorem i_vc_closedSets {k : Nat} {u : SX} {v : SY} (I : i_Rel k u v) (hk : k + 4 ≤ 2048) : wpX_closedSets (fun r => wpY_closedSets (fun r' v' => r' = r ∧ i_Rel (k + 4) u v') v) u := by
  obtain ⟨n, kn, s, l, r, sh, lf, rt, tr, co, ri, fo, ty, rfl, rfl, h, hK, _⟩ := I
  obtain ⟨b, hX, hY⟩ := cd_clo h (2 ^ n) 0 0 (by omega)
  unfold wpX_closedSets
  refine ⟨2 ^ n + 1, hX _ ?_⟩
  unfold wpY_closedSets
  exact cy_work (cd_Iy h) h.2.2.1 hK (fun k2 c2 h3 h4 => ⟨2 ^ n + 1, hY k2 c2 ty h4 _ ⟨rfl, cd_rel h (Or.inr ⟨h3, h4⟩)⟩⟩)
theorem i_vc_against {k : Nat} {u : SX} {v : SY} (I : i_Rel k u v) (hk : k + 4 ≤ 2048) (v1 : Int32) (v2 : Int32) : wpX_against (fun r => wpY_against (fun r' v' => r' = r ∧ i_Rel (k + 4) u v') v v1 v2) u v1 v2 := by
  have hR := i_up I
  obtain ⟨n, kn, s, l, r, sh, lf, rt, tr, co, ri, fo, ty, rfl, rfl, h, hK, _⟩ := I
  have hn := h.1.1
  rcases cd_lst v2 hn with q | ⟨c, hc, rfl⟩
  · unfold wpX_against
    refine cx_is0 q (br_t rfl ?_)
    unfold wpY_against
    exact cy_is0 q (br_t rfl ⟨rfl, hR⟩)
  obtain ⟨m, hm, em⟩ := cd_part v1 hn
  obtain ⟨b, hX, hY⟩ := cd_aga (x3 := nI m) h hc (2 ^ n - m) m (by omega)
  unfold wpX_against
  refine cx_is1 hn hc (br_f (by decide) (cx_lp hn em ⟨2 ^ n - m + 1, hX _ ?_⟩))
  unfold wpY_against
  exact cy_is1 hn hc (br_f (by decide) (cy_taken h hK em (fun k2 c2 h3 h4 => ⟨2 ^ n - m + 1, hY k2 c2 ty h4 _ ⟨rfl, cd_rel h (Or.inr ⟨h3, h4⟩)⟩⟩)))
