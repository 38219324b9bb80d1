/-! enough -/
section
variable {n m : Nat} {s l r : Nat → Nat} {kn : Int32} {sh lf rt tr co ri fo ty : Nat → Int32}
theorem cy_cnt4 {post : Int32 → Prop} {K : Int32} (hn : n < 12) (p : post (nI (cd_cn K n))) : ∀ d j, j + d = n → wY_count_4 post K (nI n) kn sh lf ri fo ty (d + 1) (nI (cd_cn K j)) (nI j) := by
  intro d
  induction d with
  | zero =>
    intro j hj
    have e : j = n := by omega
    subst e
    exact br_t (Int32.le_refl _) p
  | succ d ih =>
    intro j hj
    refine br_f (nI_ge (by omega) (by omega)) (nm_r (e' := nI (cd_cn K (j + 1))) ?_ (nm_r (nI_1 j) (ih (j + 1) (by omega))))
    rw [cd_sr (by omega), cd_cnS]
    by_cases z : bt K j = true
    · rw [if_pos z, if_pos z, nI_1]
    · rw [if_neg z, if_neg z, Int32.add_zero, Nat.add_zero]
theorem cy_cnt {post : Int32 → Prop} {K : Int32} (hn : n < 12) (p : post (nI (cd_cn K n))) : wpY_count post (nI n, kn, sh, lf, ri, fo, ty) K := by
  unfold wpY_count
  exact ⟨n + 1, cy_cnt4 hn p n 0 (by omega)⟩
theorem cd_cn11 {j : Nat} (hn : n < 12) (hj : j < 2 ^ n) : cd_cn (nI j) 11 = cd_cn (nI j) n := by
  have h2 := cd_p2 hn
  have h := cd_cnz (K := nI j) (n := n) (fun g z => by rw [cd_btM (by omega)] at z; exact cd_mlt hj z) (11 - n)
  rw [show n + (11 - n) = 11 from by omega] at h
  exact h
theorem cy_66z {post : Int32 → SY → Prop} {J : Int32 → Int32 → Prop} {x2 x3 x4 x6 : Int32} {j : Nat} (p : J x4 (nI (j + 1))) : wY_enough_66 post J x2 x3 x4 (nI j) x6 0 (nI n) kn sh lf ri fo ty := by
  unfold wY_enough_66
  exact br_t rfl (nm_r (nI_1 j) p)
theorem cy_65z {post : Int32 → SY → Prop} {J : Int32 → Int32 → Prop} {x2 x3 x4 x6 : Int32} {j : Nat} (p : J x4 (nI (j + 1))) : wY_enough_65 post J x2 x3 x4 (nI j) x6 (nI n) kn sh lf ri fo ty := by
  unfold wY_enough_65
  exact cy_66z p
theorem cd_eno {c : Nat} (H : cd_I n s l r sh lf rt tr co ri) (hm : m < 2 ^ n) (hc : c < n) : ∀ d j (x : Int32), j + d = m + 1 → (x = -4 ∨ ∃ q, q < 12 ∧ x = nI q) → ∃ b : Int32,
    (∀ post : Int32 → Prop, post b → wX_enough_23 post (nI c) (nI m) (nI n) sh lf rt tr co (d + 1) x (nI j)) ∧ (∀ (kn : Int32) (fo ty : Nat → Int32), (∀ i, i < 2 ^ n → fo i = co i) → ∀ post : Int32 → SY → Prop, post b (nI n, kn, sh, lf, ri, fo, ty) → wY_enough_23 post (nI c) (nI m) (nI n) kn sh lf ri fo ty (d + 1) x (nI j)) := by
  have hn := H.1.1
  have h2 := cd_p2 hn
  intro d
  induction d with
  | zero =>
    intro j x hj hx
    have hlt : nI m < nI j := nI_lt (by omega) (by omega)
    exact ⟨x, fun _ h => br_t hlt h, fun _ _ _ _ _ h => br_t hlt h⟩
  | succ d ih =>
    intro j x hj hx
    have hlt : ¬ nI m < nI j := nI_nlt (by omega) (by omega)
    have cj : (nI j).toNatClampNeg = j := nI_clamp (by omega)
    have vj : vp_in (nI j) 2048 := vp_in_nI (by omega) (by omega)
    have e11 := cd_cn11 (j := j) hn (by omega)
    have hq := cd_cnle (nI j) n
    obtain ⟨b, hX, hY⟩ := ih (j + 1) x (by omega) hx
    by_cases e : (nI j &&& (nI m ^^^ (-1))) = 0
    · cases z : bt (co j) c
      · refine ⟨b, fun post hp => br_f hlt (br_t e ⟨vj, ?_⟩), fun kn fo ty hf post hp => br_f hlt (cy_cnt hn (br_t e ⟨vj, ?_⟩))⟩
        · rw [cj]; exact cx_hasF (by omega) z (br_t rfl (nm_r (nI_1 j) (hX post hp)))
        · rw [cj, hf j (by omega)]; exact cy_hasF (by omega) z (br_t rfl (cy_65z (hY kn fo ty hf post hp)))
      · obtain ⟨b', hX', hY'⟩ := ih (j + 1) (nI (cd_cn (nI j) n)) (by omega) (Or.inr ⟨_, by omega, rfl⟩)
        rcases hx with hx | ⟨q, hq12, hx⟩
        · refine ⟨b', fun post hp => br_f hlt (br_t e ⟨vj, ?_⟩), fun kn fo ty hf post hp => br_f hlt (cy_cnt hn (br_t e ⟨vj, ?_⟩))⟩
          · rw [cj]
            refine cx_hasT (by omega) z (br_f (by decide) (cx_mem (br_t hx (nm_r (nI_1 j) ?_))))
            rw [e11]; exact hX' post hp
          · rw [cj, hf j (by omega)]
            refine cy_hasT (by omega) z (br_f (by decide) ?_)
            unfold wY_enough_66
            exact br_f (by decide) (br_t (by rw [hx]; decide) (nm_r (nI_1 j) (hY' kn fo ty hf post hp)))
        · have nx0 : ¬ x < 0 := by rw [hx]; exact nI_pos (by omega)
          have nx4 : ¬ x = -4 := fun w => nx0 (by rw [w]; decide)
          by_cases w : x ≤ nI (cd_cn (nI j) n)
          · refine ⟨b, fun post hp => br_f hlt (br_t e ⟨vj, ?_⟩), fun kn fo ty hf post hp => br_f hlt (cy_cnt hn (br_t e ⟨vj, ?_⟩))⟩
            · rw [cj]
              refine cx_hasT (by omega) z (br_f (by decide) (cx_mem (br_f nx4 ?_)))
              rw [e11]
              exact br_t w (nm_r (nI_1 j) (hX post hp))
            · rw [cj, hf j (by omega)]
              refine cy_hasT (by omega) z (br_f (by decide) ?_)
              unfold wY_enough_66
              exact br_f (by decide) (br_f nx0 (br_t w (nm_r (nI_1 j) (hY kn fo ty hf post hp))))
          · refine ⟨b', fun post hp => br_f hlt (br_t e ⟨vj, ?_⟩), fun kn fo ty hf post hp => br_f hlt (cy_cnt hn (br_t e ⟨vj, ?_⟩))⟩
            · rw [cj]
              refine cx_hasT (by omega) z (br_f (by decide) (cx_mem (br_f nx4 ?_)))
              rw [e11]
              exact br_f w (nm_r (nI_1 j) (hX' post hp))
            · rw [cj, hf j (by omega)]
              refine cy_hasT (by omega) z (br_f (by decide) ?_)
              unfold wY_enough_66
              exact br_f (by decide) (br_f nx0 (br_f w (nm_r (nI_1 j) (hY' kn fo ty hf post hp))))
    · exact ⟨b, fun post hp => br_f hlt (br_f e (nm_r (nI_1 j) (hX post hp))), fun kn fo ty hf post hp => br_f hlt (cy_cnt hn (br_f e (cy_65z (hY kn fo ty hf post hp))))⟩
end
theorem i_vc_enough {k : Nat} {u : SX} {v : SY} (I : i_Rel k u v) (hk : k + 4 ≤ 2048) (v1 : Int32) (v2 : Int32) : wpX_enough (fun r => wpY_enough (fun r' v' => r' = r ∧ i_Rel (k + 4) u v') v v1 v2) u v1 v2 := by
  have hR := i_up I
  obtain ⟨n, kn, s, l, r, sh, lf, rt, tr, co, ri, fo, ty, rfl, rfl, h, hK, _⟩ := I
  have hn := h.1.1
  rcases cd_lst v2 hn with q | ⟨c, hc, rfl⟩
  · unfold wpX_enough
    refine cx_is0 q (br_t rfl ?_)
    unfold wpY_enough
    exact cy_is0 q (br_t rfl ⟨rfl, hR⟩)
  obtain ⟨m, hm, em⟩ := cd_part v1 hn
  obtain ⟨b, hX, hY⟩ := cd_eno h hm hc (m + 1) 0 (-4) (by omega) (Or.inl rfl)
  unfold wpX_enough
  refine cx_is1 hn hc (br_f (by decide) (cx_lp hn em ⟨m + 1 + 1, hX _ ?_⟩))
  unfold wpY_enough
  exact cy_is1 hn hc (br_f (by decide) (cy_taken h hK em (fun k2 c2 h3 h4 => ⟨m + 1 + 1, hY k2 c2 ty h4 _ ⟨rfl, cd_rel h (Or.inr ⟨h3, h4⟩)⟩⟩)))
