/-! the relation, finding and putting a formula -/
def cd_I (n : Nat) (s l r : Nat → Nat) (sh lf rt tr co ri : Nat → Int32) : Prop :=
  cd_L n s l r sh lf rt ∧ cd_T n s l r tr ∧ (∀ j, j < 2 ^ n → cd_G n s l r co j) ∧ (∀ j, s j ≠ 3 → ri j = rt j) ∧ (∀ j, s j = 3 → ri j = 0 ∧ r j = l j)
def cd_K (n : Nat) (kn : Int32) (co fo : Nat → Int32) : Prop := kn = 0 ∨ (¬ kn = 0 ∧ ∀ j, j < 2 ^ n → fo j = co j)
def i_Rel (k : Nat) (u : SX) (v : SY) : Prop := ∃ (n : Nat) (kn : Int32) (s l r : Nat → Nat) (sh lf rt tr co ri fo ty : Nat → Int32), u = (nI n, sh, lf, rt, tr, co) ∧ v = (nI n, kn, sh, lf, ri, fo, ty) ∧ cd_I n s l r sh lf rt tr co ri ∧ cd_K n kn co fo ∧ 0 ≤ k
theorem cd_rel {k n : Nat} {kn : Int32} {s l r : Nat → Nat} {sh lf rt tr co ri fo ty : Nat → Int32} (h : cd_I n s l r sh lf rt tr co ri) (hk : cd_K n kn co fo) : i_Rel k (nI n, sh, lf, rt, tr, co) (nI n, kn, sh, lf, ri, fo, ty) :=
  ⟨n, kn, s, l, r, sh, lf, rt, tr, co, ri, fo, ty, rfl, rfl, h, hk, Nat.zero_le k⟩
theorem cd_Iy {n : Nat} {s l r : Nat → Nat} {sh lf rt tr co ri : Nat → Int32} (h : cd_I n s l r sh lf rt tr co ri) : cd_Ly n s l r sh lf ri := by
  obtain ⟨⟨hn, hsh, hlf, hrt, hs4, hl, hr, wf⟩, hT, hG, h1, h3⟩ := h
  exact ⟨hn, hsh, hlf, fun j hj => by rw [h1 j (by omega), hrt j], hs4, hl, hr, wf⟩
section
variable {n : Nat} {s l r : Nat → Nat} {kn : Int32} {sh lf rt tr co ri fo ty : Nat → Int32}
theorem cd_find {x1 x2 x3 y3 : Int32} (hn : n < 12) (hm : ∀ j, sh j = x1 → lf j = x2 → (rt j = x3 ↔ ri j = y3)) : ∀ d j, j + d = n →
    (∃ i, i < n ∧ (∀ post : Int32 → SX → Prop, post (nI i) (nI n, sh, lf, rt, tr, co) → wX_numberOf_3 post x1 x2 x3 (nI n) sh lf rt tr co (d + 1) (nI j)) ∧ (∀ post : Int32 → Prop, post (nI i) → wY_find_3 post x1 x2 y3 (nI n) kn sh lf ri fo ty (d + 1) (nI j))) ∨
    ((∀ post : Int32 → SX → Prop, wX_numberOf_3 post x1 x2 x3 (nI n) sh lf rt tr co 1 (nI n) → wX_numberOf_3 post x1 x2 x3 (nI n) sh lf rt tr co (d + 1) (nI j)) ∧ (∀ post : Int32 → Prop, post (-1) → wY_find_3 post x1 x2 y3 (nI n) kn sh lf ri fo ty (d + 1) (nI j))) := by
  intro d
  induction d with
  | zero =>
    intro j hj
    have e : j = n := by omega
    subst e
    exact Or.inr ⟨fun _ h => h, fun _ h => br_t (Int32.le_refl _) h⟩
  | succ d ih =>
    intro j hj
    have hjn : j < n := by omega
    have hle : ¬ nI n ≤ nI j := nI_ge hjn (by omega)
    have vj : vp_in (nI j) 11 := vp_in_nI (by omega) (by omega)
    have cj : (nI j).toNatClampNeg = j := nI_clamp (by omega)
    by_cases h1 : sh j = x1
    · by_cases h2 : lf j = x2
      · by_cases h3 : rt j = x3
        · have h3' := (hm j h1 h2).mp h3
          refine Or.inl ⟨j, hjn, fun post hp => br_f hle ⟨vj, ?_⟩, fun post hp => br_f hle ⟨vj, ?_⟩⟩
          · rw [cj]; exact br_t h1 ⟨vj, br_t h2 ⟨vj, br_t h3 hp⟩⟩
          · rw [cj]; exact br_t h1 ⟨vj, br_t h2 ⟨vj, br_t h3' hp⟩⟩
        · have h3' : ¬ ri j = y3 := fun z => h3 ((hm j h1 h2).mpr z)
          have sx : ∀ post : Int32 → SX → Prop, wX_numberOf_3 post x1 x2 x3 (nI n) sh lf rt tr co (d + 1) (nI (j + 1)) → wX_numberOf_3 post x1 x2 x3 (nI n) sh lf rt tr co (d + 1 + 1) (nI j) := by
            intro post hp
            refine br_f hle ⟨vj, ?_⟩
            rw [cj]; exact br_t h1 ⟨vj, br_t h2 ⟨vj, br_f h3 (nm_r (nI_1 j) hp)⟩⟩
          have sy : ∀ post : Int32 → Prop, wY_find_3 post x1 x2 y3 (nI n) kn sh lf ri fo ty (d + 1) (nI (j + 1)) → wY_find_3 post x1 x2 y3 (nI n) kn sh lf ri fo ty (d + 1 + 1) (nI j) := by
            intro post hp
            refine br_f hle ⟨vj, ?_⟩
            rw [cj]; exact br_t h1 ⟨vj, br_t h2 ⟨vj, br_f h3' (nm_r (nI_1 j) hp)⟩⟩
          rcases ih (j + 1) (by omega) with ⟨i, hi, a, b⟩ | ⟨a, b⟩
          · exact Or.inl ⟨i, hi, fun post hp => sx post (a post hp), fun post hp => sy post (b post hp)⟩
          · exact Or.inr ⟨fun post hp => sx post (a post hp), fun post hp => sy post (b post hp)⟩
      · have sx : ∀ post : Int32 → SX → Prop, wX_numberOf_3 post x1 x2 x3 (nI n) sh lf rt tr co (d + 1) (nI (j + 1)) → wX_numberOf_3 post x1 x2 x3 (nI n) sh lf rt tr co (d + 1 + 1) (nI j) := by
          intro post hp
          refine br_f hle ⟨vj, ?_⟩
          rw [cj]; exact br_t h1 ⟨vj, br_f h2 (nm_r (nI_1 j) hp)⟩
        have sy : ∀ post : Int32 → Prop, wY_find_3 post x1 x2 y3 (nI n) kn sh lf ri fo ty (d + 1) (nI (j + 1)) → wY_find_3 post x1 x2 y3 (nI n) kn sh lf ri fo ty (d + 1 + 1) (nI j) := by
          intro post hp
          refine br_f hle ⟨vj, ?_⟩
          rw [cj]; exact br_t h1 ⟨vj, br_f h2 (nm_r (nI_1 j) hp)⟩
        rcases ih (j + 1) (by omega) with ⟨i, hi, a, b⟩ | ⟨a, b⟩
        · exact Or.inl ⟨i, hi, fun post hp => sx post (a post hp), fun post hp => sy post (b post hp)⟩
        · exact Or.inr ⟨fun post hp => sx post (a post hp), fun post hp => sy post (b post hp)⟩
    · have sx : ∀ post : Int32 → SX → Prop, wX_numberOf_3 post x1 x2 x3 (nI n) sh lf rt tr co (d + 1) (nI (j + 1)) → wX_numberOf_3 post x1 x2 x3 (nI n) sh lf rt tr co (d + 1 + 1) (nI j) := by
        intro post hp
        refine br_f hle ⟨vj, ?_⟩
        rw [cj]; exact br_f h1 (nm_r (nI_1 j) hp)
      have sy : ∀ post : Int32 → Prop, wY_find_3 post x1 x2 y3 (nI n) kn sh lf ri fo ty (d + 1) (nI (j + 1)) → wY_find_3 post x1 x2 y3 (nI n) kn sh lf ri fo ty (d + 1 + 1) (nI j) := by
        intro post hp
        refine br_f hle ⟨vj, ?_⟩
        rw [cj]; exact br_f h1 (nm_r (nI_1 j) hp)
      rcases ih (j + 1) (by omega) with ⟨i, hi, a, b⟩ | ⟨a, b⟩
      · exact Or.inl ⟨i, hi, fun post hp => sx post (a post hp), fun post hp => sy post (b post hp)⟩
      · exact Or.inr ⟨fun post hp => sx post (a post hp), fun post hp => sy post (b post hp)⟩
theorem cx_truth {post : Int32 → Prop} {x y z : Nat} (hx4 : x ≤ 4) (hy : y < 11) (hz : z < 11) (h3 : x = 3 → y < 4)
    (p : ∀ v : Int32, (∀ c, c < 16 → bt v c = cd_tv (cd_u s n x) (cd_u l n y) (cd_u r n z) (fun j => bt (tr j) c) c n) → post v) : wpX_truthOf post (nI n, sh, lf, rt, tr, co) (nI x) (nI y) (nI z) := by
  have cy : (nI y).toNatClampNeg = y := nI_clamp (by omega)
  have cz : (nI z).toNatClampNeg = z := nI_clamp (by omega)
  have vy : vp_in (nI y) 11 := vp_in_nI (by omega) (by omega)
  have vz : vp_in (nI z) 11 := vp_in_nI (by omega) (by omega)
  unfold wpX_truthOf
  unfold cd_tv at p
  rw [cd_us, cd_us, cd_us] at p
  rcases (show x = 0 ∨ x = 1 ∨ x = 2 ∨ x = 3 ∨ x = 4 from by omega) with e | e | e | e | e
  · subst e
    refine br_f (by decide) (br_f (by decide) (br_t rfl ⟨vy, vz, p _ (fun c hc => ?_)⟩))
    rw [cy, cz, if_pos rfl, b_and]
  · subst e
    refine br_f (by decide) (br_f (by decide) (br_f (by decide) (br_t rfl ⟨vy, vz, p _ (fun c hc => ?_)⟩)))
    rw [cy, cz, if_neg (by decide), if_pos rfl, b_or]
  · subst e
    refine br_f (by decide) (br_f (by decide) (br_f (by decide) (br_f (by decide) (br_t rfl ⟨vy, vz, p _ (fun c hc => ?_)⟩))))
    rw [cy, cz, if_neg (by decide), if_neg (by decide), if_pos rfl, cd_imp _ _ hc]
  · subst e
    refine br_f (by decide) (br_f (by decide) (br_f (by decide) (br_f (by decide) (br_f (by decide) (br_t rfl ?_)))))
    have hy4 := h3 rfl
    unfold wpX_truthOfAtom
    rcases (show y = 0 ∨ y = 1 ∨ y = 2 ∨ y = 3 from by omega) with e | e | e | e
    · subst e
      refine br_f (by decide) (br_f (by decide) (br_t rfl (p _ (fun c hc => ?_))))
      rw [if_neg (by decide), if_neg (by decide), if_neg (by decide), if_pos rfl]; exact cd_m0 c hc
    · subst e
      refine br_f (by decide) (br_f (by decide) (br_f (by decide) (br_t rfl (p _ (fun c hc => ?_)))))
      rw [if_neg (by decide), if_neg (by decide), if_neg (by decide), if_pos rfl]; exact cd_m1 c hc
    · subst e
      refine br_f (by decide) (br_f (by decide) (br_f (by decide) (br_f (by decide) (br_t rfl (p _ (fun c hc => ?_))))))
      rw [if_neg (by decide), if_neg (by decide), if_neg (by decide), if_pos rfl]; exact cd_m2 c hc
    · subst e
      refine br_f (by decide) (br_t (by decide) (p _ (fun c hc => ?_)))
      rw [if_neg (by decide), if_neg (by decide), if_neg (by decide), if_pos rfl]; exact cd_m3 c hc
  · subst e
    refine br_f (by decide) (br_t (by decide) (p _ (fun c hc => ?_)))
    rw [if_neg (by decide), if_neg (by decide), if_neg (by decide), if_neg (by decide), b_0]
theorem cd_Lapp {x y z : Nat} (H : cd_L n s l r sh lf rt) (hn : n < 11) (hx4 : x ≤ 4) (hy : y < 11) (hz : z < 11) (hx : x < 3 → y < n ∧ z < n) :
    cd_L (n + 1) (cd_u s n x) (cd_u l n y) (cd_u r n z) (upd sh n (nI x)) (upd lf n (nI y)) (upd rt n (nI z)) := by
  obtain ⟨_, hsh, hlf, hrt, hs4, hl, hr, wf⟩ := H
  refine ⟨by omega, cd_uI hsh n x, cd_uI hlf n y, cd_uI hrt n z, fun j => ?_, fun j => ?_, fun j => ?_, cd_wfapp wf hx⟩
  · by_cases e : j = n
    · subst e; rw [cd_us]; exact hx4
    · rw [cd_un e]; exact hs4 j
  · by_cases e : j = n
    · subst e; rw [cd_us]; exact hy
    · rw [cd_un e]; exact hl j
  · by_cases e : j = n
    · subst e; rw [cd_us]; exact hz
    · rw [cd_un e]; exact hr j
theorem cd_put {k x y z z' : Nat} (H : cd_I n s l r sh lf rt tr co ri) (hK : cd_K n kn co fo) (hx4 : x ≤ 4) (hy : y < 11) (hz : z < 11) (hx : x < 3 → y < n ∧ z < n) (h3 : x = 3 → y < 4 ∧ z = y ∧ z' = 0) (h3' : x ≠ 3 → z' = z) :
    ∃ (a : Int32) (v' : SY), (∀ post : Int32 → SY → Prop, post a v' → wpY_put post (nI n, kn, sh, lf, ri, fo, ty) (nI x) (nI y) (nI z')) ∧ (∀ post : Int32 → SX → Prop, (∀ u', i_Rel k u' v' → post a u') → wpX_numberOf post (nI n, sh, lf, rt, tr, co) (nI x) (nI y) (nI z)) := by
  have hI := H
  obtain ⟨HL, hT, hG, h1, h2⟩ := H
  have hL := HL
  obtain ⟨hn, hsh, hlf, hrt, hs4, hl, hr, wf⟩ := HL
  have hm : ∀ j, sh j = nI x → lf j = nI y → (rt j = nI z ↔ ri j = nI z') := by
    intro j e1 e2
    have es : s j = x := by
      rw [hsh j, nI_eq (by have := hs4 j; omega) (by omega)] at e1
      exact e1
    have el : l j = y := by
      rw [hlf j, nI_eq (by have := hl j; omega) (by omega)] at e2
      exact e2
    by_cases w : x = 3
    · have ⟨_, b, c⟩ := h3 w
      have ⟨d, e⟩ := h2 j (by omega)
      rw [d, hrt j, e, el, b, c]
      exact ⟨fun _ => rfl, fun _ => rfl⟩
    · rw [h1 j (by omega), h3' w]
  rcases cd_find (kn := kn) (fo := fo) (ty := ty) (tr := tr) (co := co) hn hm n 0 (by omega) with ⟨i, hi, a, b⟩ | ⟨a, b⟩
  · refine ⟨nI i, (nI n, kn, sh, lf, ri, fo, ty), fun post hp => ?_, fun post hp => ⟨n + 1, a post (hp _ (cd_rel hI hK))⟩⟩
    unfold wpY_put
    exact ⟨n + 1, b _ (br_f (nI_pos (by omega)) hp)⟩
  · by_cases hf : n = 11
    · refine ⟨-2, (nI n, kn, sh, lf, ri, fo, ty), fun post hp => ?_, fun post hp => ⟨n + 1, a post ?_⟩⟩
      · unfold wpY_put
        refine ⟨n + 1, b _ (br_t (by decide) (br_t (by rw [hf]; rfl) hp))⟩
      · exact br_t (Int32.le_refl _) (br_f (nI_nlt (a := n) (b := 11) (by omega) (by omega)) (hp _ (cd_rel hI hK)))
    · have cn : (nI n).toNatClampNeg = n := nI_clamp (by omega)
      have vn : vp_in (nI n) 11 := vp_in_nI (by omega) (by omega)
      refine ⟨nI (n + 1) - 1, (nI (n + 1), 0, upd sh n (nI x), upd lf n (nI y), upd ri n (nI z'), fo, ty), fun post hp => ?_, fun post hp => ⟨n + 1, a post ?_⟩⟩
      · unfold wpY_put
        refine ⟨n + 1, b _ (br_t (by decide) (br_f (fun e => hf ?_) ?_))⟩
        · exact (nI_eq (a := n) (b := 11) (by omega) (by omega)).mp e
        · rw [cn]
          exact ⟨vn, nm_e ⟨vn, nm_e ⟨vn, nm_e (nm_r (nI_1 n) hp)⟩⟩⟩
      · refine br_t (Int32.le_refl _) (br_t (nI_lt (a := n) (b := 11) (by omega) (by omega)) ?_)
        rw [cn]
        refine ⟨vn, nm_e ⟨vn, nm_e ⟨vn, nm_e (cx_truth (s := s) (l := l) (r := r) hx4 hy hz (fun w => (h3 w).1) (fun v hv => ?_))⟩⟩⟩
        have hL' := cd_Lapp hL (by omega) hx4 hy hz hx
        refine ⟨vn, nm_e (nm_r (nI_1 n) (cx_settle hL' (fun c2 hG2 => hp _ (cd_rel ⟨hL', cd_Tapp wf hT hx hv, hG2, fun j hj => ?_, fun j hj => ?_⟩ (Or.inl rfl)))))⟩
        · by_cases e : j = n
          · subst e
            rw [cd_us] at hj
            rw [pk_us, pk_us, h3' hj]
          · rw [cd_un e] at hj
            rw [pk_un e, pk_un e]
            exact h1 j hj
        · by_cases e : j = n
          · subst e
            rw [cd_us] at hj
            rw [pk_us, cd_us, cd_us, (h3 hj).2.2]
            exact ⟨rfl, (h3 hj).2.1⟩
          · rw [cd_un e] at hj
            rw [pk_un e, cd_un e, cd_un e]
            exact h2 j hj
end
