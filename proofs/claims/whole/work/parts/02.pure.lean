/-! what is closed: the rules at one set m, over a table A of the greater sets -/
def cd_wd (A : Nat → Int32) (m : Nat) (S : Nat → Prop) (a g : Nat) : Prop :=
  (m.testBit a = true ∧ S g) ∨ (m.testBit a = false ∧ bt (A (m ||| 2 ^ a)) g = true)
def cd_cf (n : Nat) (s l r : Nat → Nat) (A : Nat → Int32) (m : Nat) (S : Nat → Prop) (f : Nat) : Prop :=
  (s f = 0 → (S (l f) → S (r f) → S f) ∧ (S f → S (l f)) ∧ (S f → S (r f))) ∧
  (s f = 1 → (S (l f) → S f) ∧ (S (r f) → S f) ∧ (S f → ∀ g, cd_wd A m S (l f) g → cd_wd A m S (r f) g → S g)) ∧
  (s f = 2 → (cd_wd A m S (l f) (r f) → S f) ∧ (S f → S (l f) → S (r f))) ∧
  (s f = 4 → S f → ∀ g, g < n → S g)
def cd_C (n : Nat) (s l r : Nat → Nat) (A : Nat → Int32) (m : Nat) (S : Nat → Prop) : Prop := ∀ f, f < n → cd_cf n s l r A m S f
def cd_G (n : Nat) (s l r : Nat → Nat) (A : Nat → Int32) (m : Nat) : Prop :=
  (∀ g, m.testBit g = true → bt (A m) g = true) ∧ cd_C n s l r A m (fun g => bt (A m) g = true) ∧
  (∀ S : Nat → Prop, (∀ g, m.testBit g = true → S g) → cd_C n s l r A m S → ∀ g, bt (A m) g = true → S g) ∧
  (∀ g, bt (A m) g = true → g < n)
/-- the list: a joined formula's parts stand before it -/
def cd_wf (n : Nat) (s l r : Nat → Nat) : Prop := ∀ f, f < n → s f < 3 → l f < f ∧ r f < f
theorem cd_wdmono {A : Nat → Int32} {m : Nat} {S T : Nat → Prop} (h : ∀ g, S g → T g) {a g : Nat} (w : cd_wd A m S a g) : cd_wd A m T a g :=
  w.elim (fun z => Or.inl ⟨z.1, h g z.2⟩) (fun z => Or.inr z)
theorem cd_wdcong {A B : Nat → Int32} {m : Nat} {S : Nat → Prop} {a g : Nat} (h : m.testBit a = false → A (m ||| 2 ^ a) = B (m ||| 2 ^ a)) : cd_wd A m S a g ↔ cd_wd B m S a g := by
  constructor
  · intro w
    exact w.elim (fun z => Or.inl z) (fun z => Or.inr ⟨z.1, by rw [← h z.1]; exact z.2⟩)
  · intro w
    exact w.elim (fun z => Or.inl z) (fun z => Or.inr ⟨z.1, by rw [h z.1]; exact z.2⟩)
theorem cd_wdA {A B : Nat → Int32} {m : Nat} {K : Int32} (h1 : B m = K) (h2 : ∀ k, k ≠ m → B k = A k) (a g : Nat) : cd_wd A m (fun g => bt K g = true) a g ↔ bt (B (m ||| 2 ^ a)) g = true := by
  unfold cd_wd
  cases e : m.testBit a
  · have := cd_orgt e
    rw [h2 _ (by omega)]
    constructor
    · intro w
      exact w.elim (fun z => Bool.noConfusion z.1) (fun z => z.2)
    · intro w
      exact Or.inr ⟨rfl, w⟩
  · rw [cd_oreq e, h1]
    constructor
    · intro w
      exact w.elim (fun z => z.2) (fun z => Bool.noConfusion z.1)
    · intro w
      exact Or.inl ⟨rfl, w⟩
theorem cd_Ccong {n : Nat} {s l r : Nat → Nat} {A B : Nat → Int32} {m : Nat} {S : Nat → Prop} (wf : cd_wf n s l r) (hm : m < 2 ^ n) (h : ∀ k, m < k → k < 2 ^ n → A k = B k) (c : cd_C n s l r A m S) : cd_C n s l r B m S := by
  intro f hf
  have cf := c f hf
  have hw : ∀ a g, a < n → (cd_wd A m S a g ↔ cd_wd B m S a g) := fun a g ha => cd_wdcong (fun z => h _ (cd_orgt z) (cd_orlt hm ha))
  refine ⟨cf.1, fun e => ?_, fun e => ?_, cf.2.2.2⟩
  · have ⟨p, q⟩ := wf f hf (by omega)
    have c1 := cf.2.1 e
    exact ⟨c1.1, c1.2.1, fun sf g w1 w2 => c1.2.2 sf g ((hw _ g (by omega)).mpr w1) ((hw _ g (by omega)).mpr w2)⟩
  · have ⟨p, q⟩ := wf f hf (by omega)
    have c1 := cf.2.2.1 e
    exact ⟨fun w => c1.1 ((hw _ _ (by omega)).mpr w), c1.2⟩
theorem cd_Gcong {n : Nat} {s l r : Nat → Nat} {A B : Nat → Int32} {m : Nat} (wf : cd_wf n s l r) (hm : m < 2 ^ n) (h : ∀ k, m ≤ k → k < 2 ^ n → A k = B k) (c : cd_G n s l r A m) : cd_G n s l r B m := by
  have e : A m = B m := h m (Nat.le_refl m) hm
  unfold cd_G at c ⊢
  rw [← e]
  refine ⟨c.1, cd_Ccong wf hm (fun k z => h k (by omega)) c.2.1, fun S hS hC => c.2.2.1 S hS ?_, c.2.2.2⟩
  exact cd_Ccong wf hm (fun k z y => (h k (by omega) y).symm) hC
theorem cd_uniq {n : Nat} {s l r : Nat → Nat} {A B : Nat → Int32} (wf : cd_wf n s l r) (hA : ∀ m, m < 2 ^ n → cd_G n s l r A m) (hB : ∀ m, m < 2 ^ n → cd_G n s l r B m) : ∀ d m, m < 2 ^ n → 2 ^ n - m ≤ d → A m = B m := by
  intro d
  induction d with
  | zero => intro m hm hd; omega
  | succ d ih =>
    intro m hm hd
    have hk : ∀ k, m < k → k < 2 ^ n → A k = B k := fun k z y => ih k y (by omega)
    have gA := hA m hm
    have gB := hB m hm
    apply cd_sub
    · exact gA.2.2.1 _ gB.1 (cd_Ccong wf hm (fun k z y => (hk k z y).symm) gB.2.1)
    · exact gB.2.2.1 _ gA.1 (cd_Ccong wf hm hk gA.2.1)
theorem cd_Cfull {n : Nat} {s l r : Nat → Nat} {A : Nat → Int32} {m : Nat} (wf : cd_wf n s l r) (hm : m < 2 ^ n) (h : ∀ k, m < k → k < 2 ^ n → ∀ g, bt (A k) g = true → g < n) : cd_C n s l r A m (fun g => g < n) := by
  intro f hf
  refine ⟨fun e => ?_, fun e => ?_, fun e => ?_, fun e _ g hg => hg⟩
  · have ⟨p, q⟩ := wf f hf (by omega)
    exact ⟨fun _ _ => hf, fun _ => Nat.lt_trans p hf, fun _ => Nat.lt_trans q hf⟩
  · have ⟨p, q⟩ := wf f hf (by omega)
    refine ⟨fun _ => hf, fun _ => hf, fun _ g w _ => ?_⟩
    exact w.elim (fun z => z.2) (fun z => h _ (cd_orgt z.1) (cd_orlt hm (Nat.lt_trans p hf)) g z.2)
  · have ⟨p, q⟩ := wf f hf (by omega)
    exact ⟨fun _ => hf, fun _ _ => Nat.lt_trans q hf⟩
/-! one step at a formula, a pass over all, rounds -/
def cd_St (n : Nat) (s l r : Nat → Nat) (A : Nat → Int32) (m f : Nat) (K L : Int32) : Prop :=
  (∀ g, bt K g = true → bt L g = true) ∧
  (∀ S : Nat → Prop, cd_cf n s l r A m S f → (∀ g, bt K g = true → S g) → ∀ g, bt L g = true → S g) ∧
  (L = K → cd_cf n s l r A m (fun g => bt K g = true) f)
def cd_P (n : Nat) (s l r : Nat → Nat) (A : Nat → Int32) (m f : Nat) (K L : Int32) : Prop :=
  (∀ g, bt K g = true → bt L g = true) ∧
  (∀ S : Nat → Prop, cd_C n s l r A m S → (∀ g, bt K g = true → S g) → ∀ g, bt L g = true → S g) ∧
  (L = K → ∀ f', f' < f → cd_cf n s l r A m (fun g => bt K g = true) f')
def cd_R (n : Nat) (s l r : Nat → Nat) (A : Nat → Int32) (m : Nat) (K : Int32) : Prop :=
  (∀ g, m.testBit g = true → bt K g = true) ∧
  (∀ S : Nat → Prop, (∀ g, m.testBit g = true → S g) → cd_C n s l r A m S → ∀ g, bt K g = true → S g)
theorem cd_P0 (n : Nat) (s l r : Nat → Nat) (A : Nat → Int32) (m : Nat) (K : Int32) : cd_P n s l r A m 0 K K :=
  ⟨fun _ h => h, fun _ _ h => h, fun _ f' hf => absurd hf (Nat.not_lt_zero _)⟩
theorem cd_PS {n : Nat} {s l r : Nat → Nat} {A : Nat → Int32} {m f : Nat} {K L M : Int32} (hf : f < n) (p : cd_P n s l r A m f K L) (t : cd_St n s l r A m f L M) : cd_P n s l r A m (f + 1) K M := by
  refine ⟨fun g h => t.1 g (p.1 g h), fun S c h => t.2.1 S (c f hf) (p.2.1 S c h), fun e => ?_⟩
  subst e
  have e2 : M = L := cd_sub p.1 t.1
  subst e2
  intro f' hf'
  by_cases z : f' = f
  · subst z; exact t.2.2 rfl
  · exact p.2.2 rfl f' (by omega)
theorem cd_R0 (n : Nat) (s l r : Nat → Nat) (A : Nat → Int32) {m : Nat} (hm : m < 2 ^ 32) : cd_R n s l r A m (nI m) :=
  ⟨fun g h => by rw [cd_btM hm]; exact h, fun S h _ g z => h g (by rw [cd_btM hm] at z; exact z)⟩
theorem cd_RP {n : Nat} {s l r : Nat → Nat} {A : Nat → Int32} {m : Nat} {K L : Int32} (h : cd_R n s l r A m K) (p : cd_P n s l r A m n K L) : cd_R n s l r A m L :=
  ⟨fun g z => p.1 g (h.1 g z), fun S hS c => p.2.1 S c (h.2 S hS c)⟩
theorem cd_RB {n : Nat} {s l r : Nat → Nat} {A : Nat → Int32} {m : Nat} {K : Int32} (wf : cd_wf n s l r) (hm : m < 2 ^ n) (ha : ∀ k, m < k → k < 2 ^ n → cd_G n s l r A k) (h : cd_R n s l r A m K) : ∀ g, bt K g = true → g < n :=
  h.2 (fun g => g < n) (fun _ z => cd_mlt hm z) (cd_Cfull wf hm (fun k z y => (ha k z y).2.2.2))
theorem cd_RG {n : Nat} {s l r : Nat → Nat} {A B : Nat → Int32} {m : Nat} {K : Int32} (wf : cd_wf n s l r) (hm : m < 2 ^ n) (ha : ∀ k, m < k → k < 2 ^ n → cd_G n s l r A k) (h : cd_R n s l r A m K) (p : cd_P n s l r A m n K K) (hB : B m = K) (hBA : ∀ k, k ≠ m → B k = A k) : cd_G n s l r B m := by
  have hk : ∀ k, m < k → k < 2 ^ n → A k = B k := fun k z _ => (hBA k (by omega)).symm
  unfold cd_G
  rw [hB]
  refine ⟨h.1, cd_Ccong wf hm hk (p.2.2 rfl), fun S hS hC => h.2 S hS ?_, cd_RB wf hm ha h⟩
  exact cd_Ccong wf hm (fun k z y => (hk k z y).symm) hC
theorem cd_Gup {n : Nat} {s l r : Nat → Nat} {A B : Nat → Int32} {m : Nat} (wf : cd_wf n s l r) (ha : ∀ k, m < k → k < 2 ^ n → cd_G n s l r A k) (hBA : ∀ k, k ≠ m → B k = A k) (hg : m < 2 ^ n → cd_G n s l r B m) : ∀ k, m ≤ k → k < 2 ^ n → cd_G n s l r B k := by
  intro k hk hn
  by_cases e : k = m
  · subst e; exact hg hn
  · exact cd_Gcong wf hn (fun j z _ => (hBA j (by omega)).symm) (ha k (by omega) hn)
theorem cd_grow {n : Nat} {s l r : Nat → Nat} {A : Nat → Int32} {m : Nat} {K L : Int32} (wf : cd_wf n s l r) (hm : m < 2 ^ n) (ha : ∀ k, m < k → k < 2 ^ n → cd_G n s l r A k) (h : cd_R n s l r A m K) (p : cd_P n s l r A m n K L) (hne : ¬ L = K) : cd_cn K n < cd_cn L n := by
  obtain ⟨f, _, h1, h2⟩ := cd_ne p.1 hne
  exact cd_cnlt p.1 h1 h2 n (cd_RB wf hm ha (cd_RP h p) f h2)
/-! X's step -/
def cd_mk (s l r : Nat → Nat) (A : Nat → Int32) (m f : Nat) : Bool :=
  if s f = 0 then bt (A m) (l f) && bt (A m) (r f)
  else if s f = 1 then bt (A m) (l f) || bt (A m) (r f)
  else if s f = 2 then bt (A (m ||| 2 ^ l f)) (r f)
  else false
def cd_yd (n : Nat) (s l r : Nat → Nat) (A : Nat → Int32) (m f : Nat) : Int32 :=
  if s f = 0 then cd_b (l f) ||| cd_b (r f)
  else if s f = 1 then A (m ||| 2 ^ l f) &&& A (m ||| 2 ^ r f)
  else if s f = 2 then (if bt (A m) (l f) = true then cd_b (r f) else 0)
  else if s f = 4 then nI (2 ^ n - 1)
  else 0
theorem cd_stX {n : Nat} {s l r : Nat → Nat} {A0 A B : Nat → Int32} {m f : Nat} {K K1 L y : Int32} {mk : Bool} (hn : n < 12) (hl : l f < 32) (hr : r f < 32) (hA : A m = K) (hA0 : ∀ k, k ≠ m → A k = A0 k) (hmk : cd_mk s l r A m f = mk)
    (h1 : ∀ g, bt K1 g = (bt K g || (mk && decide (g = f)))) (hB : B m = K1) (hBA : ∀ k, k ≠ m → B k = A0 k) (hy : cd_yd n s l r B m f = y)
    (h2 : ∀ g, bt L g = (bt K1 g || (bt K1 f && bt y g))) : cd_St n s l r A0 m f K L := by
  have i1 : ∀ g, bt K g = true → bt K1 g = true := fun g z => by rw [h1, z, Bool.true_or]
  have i2 : ∀ g, bt K1 g = true → bt L g = true := fun g z => by rw [h2, z, Bool.true_or]
  have wK : ∀ a g, cd_wd A0 m (fun g => bt K g = true) a g ↔ bt (A (m ||| 2 ^ a)) g = true := fun a g => cd_wdA hA hA0 a g
  have wB : ∀ a g, cd_wd A0 m (fun g => bt K1 g = true) a g ↔ bt (B (m ||| 2 ^ a)) g = true := fun a g => cd_wdA hB hBA a g
  have smk : ∀ S : Nat → Prop, cd_cf n s l r A0 m S f → (∀ g, bt K g = true → S g) → mk = true → S f := by
    intro S c hS e
    rw [← hmk] at e
    unfold cd_mk at e
    rw [hA] at e
    by_cases e0 : s f = 0
    · rw [if_pos e0, Bool.and_eq_true] at e
      exact (c.1 e0).1 (hS _ e.1) (hS _ e.2)
    · rw [if_neg e0] at e
      by_cases e1 : s f = 1
      · rw [if_pos e1, Bool.or_eq_true] at e
        exact e.elim (fun z => (c.2.1 e1).1 (hS _ z)) (fun z => (c.2.1 e1).2.1 (hS _ z))
      · rw [if_neg e1] at e
        by_cases e2 : s f = 2
        · rw [if_pos e2] at e
          exact (c.2.2.1 e2).1 (cd_wdmono hS ((wK _ _).mpr e))
        · rw [if_neg e2] at e
          exact Bool.noConfusion e
  have syd : ∀ S : Nat → Prop, cd_cf n s l r A0 m S f → (∀ g, bt K1 g = true → S g) → S f → ∀ g, bt y g = true → S g := by
    intro S c hS sf g e
    rw [← hy] at e
    unfold cd_yd at e
    rw [hB] at e
    by_cases e0 : s f = 0
    · rw [if_pos e0, b_or, cd_bt1 hl, cd_bt1 hr, Bool.or_eq_true, decide_eq_true_eq, decide_eq_true_eq] at e
      rcases e with z | z
      · subst z; exact (c.1 e0).2.1 sf
      · subst z; exact (c.1 e0).2.2 sf
    · rw [if_neg e0] at e
      by_cases e1 : s f = 1
      · rw [if_pos e1, b_and, Bool.and_eq_true] at e
        exact (c.2.1 e1).2.2 sf g (cd_wdmono hS ((wB _ _).mpr e.1)) (cd_wdmono hS ((wB _ _).mpr e.2))
      · rw [if_neg e1] at e
        by_cases e2 : s f = 2
        · rw [if_pos e2] at e
          by_cases e3 : bt K1 (l f) = true
          · rw [if_pos e3, cd_bt1 hr, decide_eq_true_eq] at e
            subst e
            exact (c.2.2.1 e2).2 sf (hS _ e3)
          · rw [if_neg e3, b_0] at e
            exact Bool.noConfusion e
        · rw [if_neg e2] at e
          by_cases e4 : s f = 4
          · rw [if_pos e4, cd_btF hn, decide_eq_true_eq] at e
            exact c.2.2.2 e4 sf g e
          · rw [if_neg e4, b_0] at e
            exact Bool.noConfusion e
  refine ⟨fun g z => i2 g (i1 g z), fun S c hS => ?_, fun e => ?_⟩
  · have hS1 : ∀ g, bt K1 g = true → S g := by
      intro g z
      rw [h1, Bool.or_eq_true, Bool.and_eq_true, decide_eq_true_eq] at z
      rcases z with z | z
      · exact hS g z
      · rw [z.2]; exact smk S c hS z.1
    intro g z
    rw [h2, Bool.or_eq_true, Bool.and_eq_true] at z
    rcases z with z | z
    · exact hS1 g z
    · exact syd S c hS1 (hS1 f z.1) g z.2
  · subst e
    have e1 : L = K1 := cd_sub i1 i2
    subst e1
    have m1 : mk = true → bt L f = true := by
      intro z
      rw [h1, z, decide_eq_true rfl, Bool.and_self, Bool.or_true]
    have y1 : bt L f = true → ∀ g, bt y g = true → bt L g = true := by
      intro z g w
      rw [h2, z, w, Bool.and_self, Bool.or_true]
    refine ⟨fun e => ?_, fun e => ?_, fun e => ?_, fun e => ?_⟩
    · have hm1 : cd_mk s l r A m f = (bt L (l f) && bt L (r f)) := by unfold cd_mk; rw [if_pos e, hA]
      have hy1 : y = cd_b (l f) ||| cd_b (r f) := by rw [← hy]; unfold cd_yd; rw [if_pos e]
      refine ⟨fun p q => m1 (by rw [← hmk, hm1, p, q]; rfl), fun p => y1 p _ ?_, fun p => y1 p _ ?_⟩
      · rw [hy1, b_or, cd_bt1 hl, decide_eq_true rfl, Bool.true_or]
      · rw [hy1, b_or, cd_bt1 hr, decide_eq_true rfl, Bool.or_true]
    · have e0 : ¬ s f = 0 := by omega
      have hm1 : cd_mk s l r A m f = (bt L (l f) || bt L (r f)) := by unfold cd_mk; rw [if_neg e0, if_pos e, hA]
      have hy1 : y = B (m ||| 2 ^ l f) &&& B (m ||| 2 ^ r f) := by rw [← hy]; unfold cd_yd; rw [if_neg e0, if_pos e]
      refine ⟨fun p => m1 (by rw [← hmk, hm1, p]; rfl), fun p => m1 (by rw [← hmk, hm1, p, Bool.or_true]), fun p g w1 w2 => y1 p g ?_⟩
      rw [hy1, b_and, (wB _ _).mp w1, (wB _ _).mp w2]
      rfl
    · have e0 : ¬ s f = 0 := by omega
      have e1 : ¬ s f = 1 := by omega
      have hm1 : cd_mk s l r A m f = bt (A (m ||| 2 ^ l f)) (r f) := by unfold cd_mk; rw [if_neg e0, if_neg e1, if_pos e]
      have hy1 : y = (if bt L (l f) = true then cd_b (r f) else 0) := by rw [← hy]; unfold cd_yd; rw [if_neg e0, if_neg e1, if_pos e, hB]
      refine ⟨fun p => m1 (by rw [← hmk, hm1]; exact (wK _ _).mp p), fun p q => y1 p _ ?_⟩
      rw [hy1, if_pos q, cd_bt1 hr, decide_eq_true rfl]
    · have hy1 : y = nI (2 ^ n - 1) := by rw [← hy]; unfold cd_yd; rw [if_neg (by omega), if_neg (by omega), if_neg (by omega), if_pos e]
      intro p g hg
      refine y1 p g ?_
      rw [hy1, cd_btF hn, decide_eq_true hg]
