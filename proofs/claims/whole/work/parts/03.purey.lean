/-! Y's step -/
def cd_W (F : Nat → Int32) (m : Nat) (K : Int32) (a : Nat) : Int32 := if m.testBit a = true then K else F (m ||| 2 ^ a)
def cd_ym (n : Nat) (s l r : Nat → Nat) (F : Nat → Int32) (m : Nat) (K : Int32) (f : Nat) : Int32 :=
  if s f = 4 then (if bt K f = true then nI (2 ^ n - 1) else 0)
  else if s f = 3 then 0
  else if s f = 0 then (if bt K f = true then cd_b (l f) ||| cd_b (r f) else if bt K (l f) = true ∧ bt K (r f) = true then cd_b f else 0)
  else if s f = 2 then (if bt K f = true ∧ bt K (l f) = true then (if bt (cd_W F m K (l f)) (r f) = true then cd_b f else 0) ||| cd_b (r f) else (if bt (cd_W F m K (l f)) (r f) = true then cd_b f else 0))
  else (if bt K f = true then (cd_W F m K (l f) &&& cd_W F m K (r f)) ||| (if bt K (l f) = true ∨ bt K (r f) = true then cd_b f else 0) else (if bt K (l f) = true ∨ bt K (r f) = true then cd_b f else 0))
theorem cd_wdW (F : Nat → Int32) (m : Nat) (K : Int32) (a g : Nat) : cd_wd F m (fun g => bt K g = true) a g ↔ bt (cd_W F m K a) g = true := by
  unfold cd_wd cd_W
  cases e : m.testBit a
  · rw [if_neg (by decide)]
    exact ⟨fun w => w.elim (fun z => Bool.noConfusion z.1) (fun z => z.2), fun w => Or.inr ⟨rfl, w⟩⟩
  · rw [if_pos rfl]
    exact ⟨fun w => w.elim (fun z => z.2) (fun z => Bool.noConfusion z.1), fun w => Or.inl ⟨rfl, w⟩⟩
theorem cd_ifb {c : Prop} (d : Decidable c) {f : Nat} (hf : f < 32) (g : Nat) : bt (@ite _ c d (cd_b f) 0) g = true ↔ c ∧ g = f := by
  by_cases z : c
  · rw [if_pos z, cd_bt1 hf, decide_eq_true_eq]; exact ⟨fun h => ⟨z, h⟩, fun h => h.2⟩
  · rw [if_neg z, b_0]; exact ⟨fun h => Bool.noConfusion h, fun h => absurd h.1 z⟩
theorem cd_ymS {n : Nat} {s l r : Nat → Nat} {F : Nat → Int32} {m f : Nat} {K : Int32} (hn : n < 12) (hf : f < 32) (hl : l f < 32) (hr : r f < 32) (h4 : s f ≤ 4) (S : Nat → Prop) (c : cd_cf n s l r F m S f) (hS : ∀ g, bt K g = true → S g) :
    ∀ g, bt (cd_ym n s l r F m K f) g = true → S g := by
  intro g
  unfold cd_ym
  by_cases e4 : s f = 4
  · rw [if_pos e4]
    by_cases z : bt K f = true
    · rw [if_pos z, cd_btF hn, decide_eq_true_eq]
      exact c.2.2.2 e4 (hS f z) g
    · rw [if_neg z, b_0]; exact fun h => Bool.noConfusion h
  rw [if_neg e4]
  by_cases e3 : s f = 3
  · rw [if_pos e3, b_0]; exact fun h => Bool.noConfusion h
  rw [if_neg e3]
  by_cases e0 : s f = 0
  · rw [if_pos e0]
    have c0 := c.1 e0
    by_cases z : bt K f = true
    · rw [if_pos z, b_or, cd_bt1 hl, cd_bt1 hr, Bool.or_eq_true, decide_eq_true_eq, decide_eq_true_eq]
      intro h
      rcases h with h | h
      · rw [h]; exact c0.2.1 (hS f z)
      · rw [h]; exact c0.2.2 (hS f z)
    · rw [if_neg z, cd_ifb _ hf]
      intro h
      rw [h.2]; exact c0.1 (hS _ h.1.1) (hS _ h.1.2)
  rw [if_neg e0]
  by_cases e2 : s f = 2
  · rw [if_pos e2]
    have c2 := c.2.2.1 e2
    have ad : bt (if bt (cd_W F m K (l f)) (r f) = true then cd_b f else 0) g = true → S g := by
      rw [cd_ifb _ hf]
      intro h
      rw [h.2]; exact c2.1 (cd_wdmono hS ((cd_wdW F m K _ _).mpr h.1))
    by_cases z : bt K f = true ∧ bt K (l f) = true
    · rw [if_pos z, b_or, Bool.or_eq_true, cd_bt1 hr, decide_eq_true_eq]
      intro h
      rcases h with h | h
      · exact ad h
      · rw [h]; exact c2.2 (hS _ z.1) (hS _ z.2)
    · rw [if_neg z]; exact ad
  rw [if_neg e2]
  have e1 : s f = 1 := by omega
  have c1 := c.2.1 e1
  have ad : bt (if bt K (l f) = true ∨ bt K (r f) = true then cd_b f else 0) g = true → S g := by
    rw [cd_ifb _ hf]
    intro h
    rw [h.2]; exact h.1.elim (fun z => c1.1 (hS _ z)) (fun z => c1.2.1 (hS _ z))
  by_cases z : bt K f = true
  · rw [if_pos z, b_or, Bool.or_eq_true, b_and, Bool.and_eq_true]
    intro h
    rcases h with h | h
    · exact c1.2.2 (hS f z) g (cd_wdmono hS ((cd_wdW F m K _ _).mpr h.1)) (cd_wdmono hS ((cd_wdW F m K _ _).mpr h.2))
    · exact ad h
  · rw [if_neg z]; exact ad
theorem cd_ymC {n : Nat} {s l r : Nat → Nat} {F : Nat → Int32} {m f : Nat} {K : Int32} (hn : n < 12) (hf : f < 32) (hl : l f < 32) (hr : r f < 32)
    (h : ∀ g, bt (cd_ym n s l r F m K f) g = true → bt K g = true) : cd_cf n s l r F m (fun g => bt K g = true) f := by
  refine ⟨fun e => ?_, fun e => ?_, fun e => ?_, fun e => ?_⟩
  · have hy : cd_ym n s l r F m K f = (if bt K f = true then cd_b (l f) ||| cd_b (r f) else if bt K (l f) = true ∧ bt K (r f) = true then cd_b f else 0) := by
      unfold cd_ym; rw [if_neg (by omega), if_neg (by omega), if_pos e]
    rw [hy] at h
    refine ⟨fun p q => ?_, fun p => ?_, fun p => ?_⟩
    · by_cases z : bt K f = true
      · exact z
      · rw [if_neg z] at h
        exact h f ((cd_ifb _ hf f).mpr ⟨⟨p, q⟩, rfl⟩)
    · rw [if_pos p] at h
      exact h _ (by rw [b_or, cd_bt1 hl, decide_eq_true rfl, Bool.true_or])
    · rw [if_pos p] at h
      exact h _ (by rw [b_or, cd_bt1 hr, decide_eq_true rfl, Bool.or_true])
  · have hy : cd_ym n s l r F m K f = (if bt K f = true then (cd_W F m K (l f) &&& cd_W F m K (r f)) ||| (if bt K (l f) = true ∨ bt K (r f) = true then cd_b f else 0) else (if bt K (l f) = true ∨ bt K (r f) = true then cd_b f else 0)) := by
      unfold cd_ym; rw [if_neg (by omega), if_neg (by omega), if_neg (by omega), if_neg (by omega)]
    rw [hy] at h
    have ad : bt K (l f) = true ∨ bt K (r f) = true → bt K f = true := by
      intro p
      by_cases z : bt K f = true
      · exact z
      · rw [if_neg z] at h
        exact h f ((cd_ifb _ hf f).mpr ⟨p, rfl⟩)
    refine ⟨fun p => ad (Or.inl p), fun p => ad (Or.inr p), fun p g w1 w2 => ?_⟩
    rw [if_pos p] at h
    refine h g ?_
    rw [b_or, b_and, (cd_wdW F m K _ _).mp w1, (cd_wdW F m K _ _).mp w2]
    rfl
  · have hy : cd_ym n s l r F m K f = (if bt K f = true ∧ bt K (l f) = true then (if bt (cd_W F m K (l f)) (r f) = true then cd_b f else 0) ||| cd_b (r f) else (if bt (cd_W F m K (l f)) (r f) = true then cd_b f else 0)) := by
      unfold cd_ym; rw [if_neg (by omega), if_neg (by omega), if_neg (by omega), if_pos e]
    rw [hy] at h
    refine ⟨fun p => ?_, fun p q => ?_⟩
    · have w := (cd_wdW F m K _ _).mp p
      by_cases z : bt K f = true ∧ bt K (l f) = true
      · exact z.1
      · rw [if_neg z] at h
        exact h f ((cd_ifb _ hf f).mpr ⟨w, rfl⟩)
    · rw [if_pos ⟨p, q⟩] at h
      exact h _ (by rw [b_or, cd_bt1 hr, decide_eq_true rfl, Bool.or_true])
  · have hy : cd_ym n s l r F m K f = (if bt K f = true then nI (2 ^ n - 1) else 0) := by
      unfold cd_ym; rw [if_pos e]
    rw [hy] at h
    intro p g hg
    rw [if_pos p] at h
    exact h g (by rw [cd_btF hn, decide_eq_true hg])
theorem cd_stY {n : Nat} {s l r : Nat → Nat} {F : Nat → Int32} {m f : Nat} {K y : Int32} (hn : n < 12) (hf : f < 32) (hl : l f < 32) (hr : r f < 32) (h4 : s f ≤ 4) (hy : y = cd_ym n s l r F m K f) : cd_St n s l r F m f K (K ||| y) := by
  subst hy
  refine ⟨fun g z => by rw [b_or, z, Bool.true_or], fun S c hS g z => ?_, fun e => ?_⟩
  · rw [b_or, Bool.or_eq_true] at z
    exact z.elim (hS g) (cd_ymS hn hf hl hr h4 S c hS g)
  · refine cd_ymC hn hf hl hr (fun g z => ?_)
    rw [← e, b_or, z, Bool.or_true]
theorem cd_both {K : Int32} {a b : Nat} (ha : a < 32) (hb : b < 32) : (K &&& (cd_b a ||| cd_b b)) = (cd_b a ||| cd_b b) ↔ bt K a = true ∧ bt K b = true := by
  constructor
  · intro h
    constructor
    · have e : bt (K &&& (cd_b a ||| cd_b b)) a = bt (cd_b a ||| cd_b b) a := by rw [h]
      rw [b_and, b_or, cd_bt1 ha, decide_eq_true rfl, Bool.true_or, Bool.and_true] at e
      exact e
    · have e : bt (K &&& (cd_b a ||| cd_b b)) b = bt (cd_b a ||| cd_b b) b := by rw [h]
      rw [b_and, b_or, cd_bt1 hb, decide_eq_true rfl, Bool.or_true, Bool.and_true] at e
      exact e
  · intro h
    apply b_ext
    intro i _
    rw [b_and, b_or, cd_bt1 ha, cd_bt1 hb]
    by_cases e1 : i = a
    · rw [e1, h.1, Bool.true_and]
    · by_cases e2 : i = b
      · rw [e2, h.2, Bool.true_and]
      · rw [decide_eq_false e1, decide_eq_false e2, Bool.or_self, Bool.and_false]
theorem cd_any {K : Int32} {a b : Nat} (ha : a < 32) (hb : b < 32) : (K &&& (cd_b a ||| cd_b b)) = 0 ↔ ¬ (bt K a = true ∨ bt K b = true) := by
  constructor
  · intro h z
    have e : ∀ g, bt (K &&& (cd_b a ||| cd_b b)) g = false := fun g => by rw [h, b_0]
    rcases z with z | z
    · have e1 := e a
      rw [b_and, b_or, cd_bt1 ha, decide_eq_true rfl, Bool.true_or, Bool.and_true, z] at e1
      exact Bool.noConfusion e1
    · have e1 := e b
      rw [b_and, b_or, cd_bt1 hb, decide_eq_true rfl, Bool.or_true, Bool.and_true, z] at e1
      exact Bool.noConfusion e1
  · intro h
    apply b_ext
    intro i _
    rw [b_and, b_or, cd_bt1 ha, cd_bt1 hb, b_0]
    by_cases e1 : i = a
    · have z : bt K i = false := by cases e : bt K i with
        | false => rfl
        | true => exact absurd (Or.inl (e1 ▸ e)) h
      rw [z, Bool.false_and]
    · by_cases e2 : i = b
      · have z : bt K i = false := by cases e : bt K i with
          | false => rfl
          | true => exact absurd (Or.inr (e2 ▸ e)) h
        rw [z, Bool.false_and]
      · rw [decide_eq_false e1, decide_eq_false e2, Bool.or_self, Bool.and_false]
