/-! leaf sets as masks and counts; the count of kept sets -/
def bq_mk (f : Nat → Bool) : Nat → Nat
  | 0 => 0
  | n + 1 => bq_mk f n + if f n = true then 2 ^ n else 0
def bq_ct (f : Nat → Bool) : Nat → Nat
  | 0 => 0
  | n + 1 => bq_ct f n + if f n = true then 1 else 0
theorem bq_mk_lt (f : Nat → Bool) : ∀ n, bq_mk f n < 2 ^ n := by
  intro n
  induction n with
  | zero => exact Nat.one_pos
  | succ n ih =>
    show bq_mk f n + (if f n = true then 2 ^ n else 0) < 2 ^ (n + 1)
    have e : 2 ^ (n + 1) = 2 ^ n + 2 ^ n := by rw [Nat.pow_succ]; omega
    rw [e]
    by_cases h : f n = true
    · rw [if_pos h]
      omega
    · rw [if_neg h]
      omega
theorem bq_mk_inj (f g : Nat → Bool) : ∀ n, bq_mk f n = bq_mk g n → ∀ l, l < n → f l = g l := by
  intro n
  induction n with
  | zero =>
    intro _ l hl
    omega
  | succ n ih =>
    intro h l hl
    have h' : bq_mk f n + (if f n = true then 2 ^ n else 0) = bq_mk g n + (if g n = true then 2 ^ n else 0) := h
    have a := bq_mk_lt f n
    have b := bq_mk_lt g n
    have hb : f n = g n ∧ bq_mk f n = bq_mk g n := by
      cases hf : f n <;> cases hg : g n <;> rw [hf, hg] at h' <;> simp at h' <;> first | exact ⟨rfl, h'⟩ | omega
    by_cases e : l = n
    · rw [e]
      exact hb.1
    · exact ih hb.2 l (by omega)
theorem bq_mk_cg {f g : Nat → Bool} : ∀ n, (∀ l, l < n → f l = g l) → bq_mk f n = bq_mk g n := by
  intro n
  induction n with
  | zero => intro _; rfl
  | succ n ih =>
    intro h
    show bq_mk f n + (if f n = true then 2 ^ n else 0) = bq_mk g n + (if g n = true then 2 ^ n else 0)
    rw [ih (fun l hl => h l (by omega)), h n (by omega)]
theorem bq_ct_le (f : Nat → Bool) : ∀ n, bq_ct f n ≤ n := by
  intro n
  induction n with
  | zero => exact Nat.le_refl _
  | succ n ih =>
    show bq_ct f n + (if f n = true then 1 else 0) ≤ n + 1
    by_cases h : f n = true
    · rw [if_pos h]
      omega
    · rw [if_neg h]
      omega
theorem bq_ct_mono {f g : Nat → Bool} (h : ∀ l, f l = true → g l = true) : ∀ n, bq_ct f n ≤ bq_ct g n ∧ (∀ l, l < n → f l = false → g l = true → bq_ct f n < bq_ct g n) := by
  intro n
  induction n with
  | zero => exact ⟨Nat.le_refl _, fun l hl => absurd hl (by omega)⟩
  | succ n ih =>
    have e1 : bq_ct f (n + 1) = bq_ct f n + (if f n = true then 1 else 0) := rfl
    have e2 : bq_ct g (n + 1) = bq_ct g n + (if g n = true then 1 else 0) := rfl
    have k : (if f n = true then 1 else 0) ≤ (if g n = true then 1 else 0) := by
      by_cases a : f n = true
      · rw [if_pos a, if_pos (h n a)]
        exact Nat.le_refl _
      · rw [if_neg a]
        exact Nat.zero_le _
    rw [e1, e2]
    refine ⟨by omega, fun l hl hf hg => ?_⟩
    by_cases e : l = n
    · rw [e] at hf hg
      rw [hf, hg]
      have := ih.1
      simp
      omega
    · have := ih.2 l (by omega) hf hg
      omega
theorem bq_ct_pos {f : Nat → Bool} {l : Nat} (h : f l = true) : ∀ n, l < n → 1 ≤ bq_ct f n := by
  intro n
  induction n with
  | zero => intro hl; omega
  | succ n ih =>
    intro hl
    show 1 ≤ bq_ct f n + (if f n = true then 1 else 0)
    by_cases e : l = n
    · rw [e] at h
      rw [if_pos h]
      omega
    · have := ih (by omega)
      omega
theorem bq_ct_add {f g h : Nat → Bool} (k : ∀ l, (if f l = true then 1 else 0) = (if g l = true then 1 else 0) + (if h l = true then 1 else 0)) : ∀ n, bq_ct f n = bq_ct g n + bq_ct h n := by
  intro n
  induction n with
  | zero => rfl
  | succ n ih =>
    show bq_ct f n + (if f n = true then 1 else 0) = bq_ct g n + (if g n = true then 1 else 0) + (bq_ct h n + (if h n = true then 1 else 0))
    rw [ih, k n]
    omega
theorem bq_ct_c : ∀ c, c < 8 → bq_ct (fun l => decide (l < c)) 7 = c := by decide
theorem bq_bit (f : Nat → Bool) : bq_mk f 7 % 2 + bq_mk f 7 / 2 % 2 + bq_mk f 7 / 4 % 2 + bq_mk f 7 / 8 % 2 + bq_mk f 7 / 16 % 2 + bq_mk f 7 / 32 % 2 + bq_mk f 7 / 64 % 2 = bq_ct f 7 := by
  have e : bq_mk f 7 = 0 + (if f 0 = true then 2 ^ 0 else 0) + (if f 1 = true then 2 ^ 1 else 0) + (if f 2 = true then 2 ^ 2 else 0) + (if f 3 = true then 2 ^ 3 else 0) + (if f 4 = true then 2 ^ 4 else 0) + (if f 5 = true then 2 ^ 5 else 0) + (if f 6 = true then 2 ^ 6 else 0) := rfl
  have e2 : bq_ct f 7 = 0 + (if f 0 = true then 1 else 0) + (if f 1 = true then 1 else 0) + (if f 2 = true then 1 else 0) + (if f 3 = true then 1 else 0) + (if f 4 = true then 1 else 0) + (if f 5 = true then 1 else 0) + (if f 6 = true then 1 else 0) := rfl
  rw [e, e2]
  cases f 0 <;> cases f 1 <;> cases f 2 <;> cases f 3 <;> cases f 4 <;> cases f 5 <;> cases f 6 <;> rfl
def bq_lf (c top : Nat) (par : Nat → Nat) (x l : Nat) : Bool := decide (l < c) && bq_an top par x 7 l
def bq_B (c top : Nat) (par : Nat → Nat) (x : Nat) : Nat := bq_mk (bq_lf c top par x) 7
def bq_n (c top : Nat) (par : Nat → Nat) (x : Nat) : Nat := bq_ct (bq_lf c top par x) 7
theorem bq_lf_t {c top : Nat} {par : Nat → Nat} {x l : Nat} (hl : l < c) : bq_lf c top par x l = true ↔ bq_A top par x l := by
  rw [bq_lf, decide_eq_true hl, Bool.true_and]
theorem bq_lf_f {c top : Nat} {par : Nat → Nat} {x l : Nat} (hl : ¬ l < c) : bq_lf c top par x l = false := by
  rw [bq_lf, decide_eq_false hl, Bool.false_and]
theorem bq_lf_c {c top : Nat} {par : Nat → Nat} {x l : Nat} (h : bq_lf c top par x l = true) : l < c := by
  by_cases hl : l < c
  · exact hl
  · rw [bq_lf_f hl] at h
    exact Bool.noConfusion h
theorem bq_mk_c (c top : Nat) (par : Nat → Nat) (x : Nat) : ∀ n, bq_mk (bq_lf c top par x) (c + n) = bq_mk (bq_lf c top par x) c := by
  intro n
  induction n with
  | zero => rfl
  | succ n ih =>
    show bq_mk (bq_lf c top par x) (c + n) + (if bq_lf c top par x (c + n) = true then 2 ^ (c + n) else 0) = _
    rw [bq_lf_f (show ¬ c + n < c by omega), ih]
    rfl
section
variable {c top : Nat} {par on tw : Nat → Nat}
theorem bq_n_add (H : bq_T c top par on tw) {p : Nat} (h8 : 8 ≤ p) (h7 : p < 7 + c) : bq_n c top par p = bq_n c top par (on p) + bq_n c top par (tw p) := by
  refine bq_ct_add (fun l => ?_) 7
  by_cases hl : l < c
  · have hv : bq_V c l := Or.inl hl
    have c7 := bq_c7 H
    by_cases a : bq_A top par (on p) l
    · have b : ¬ bq_A top par (tw p) l := fun b => bq_A_sib H h8 h7 hv a b
      have e : bq_A top par p l := bq_A_tr H (bq_A_onp H h8 h7) l hv a
      rw [if_pos ((bq_lf_t hl).mpr e), if_pos ((bq_lf_t hl).mpr a), if_neg (fun q => b ((bq_lf_t hl).mp q))]
    · by_cases b : bq_A top par (tw p) l
      · have e : bq_A top par p l := bq_A_tr H (bq_A_twp H h8 h7) l hv b
        rw [if_pos ((bq_lf_t hl).mpr e), if_neg (fun q => a ((bq_lf_t hl).mp q)), if_pos ((bq_lf_t hl).mpr b)]
      · have e : ¬ bq_A top par p l := fun q => by
          rcases bq_A_kid H p l hv q with r | r | r
          · omega
          · exact a r
          · exact b r
        rw [if_neg (fun q => e ((bq_lf_t hl).mp q)), if_neg (fun q => a ((bq_lf_t hl).mp q)), if_neg (fun q => b ((bq_lf_t hl).mp q))]
  · rw [bq_lf_f hl, bq_lf_f hl, bq_lf_f hl]
    rfl
theorem bq_n_le (x : Nat) : bq_n c top par x ≤ 7 := bq_ct_le _ 7
theorem bq_n_pos (H : bq_T c top par on tw) {z : Nat} (hz : bq_V c z) : 1 ≤ bq_n c top par z := by
  obtain ⟨l, hl, h⟩ := bq_leaf H z hz
  have := bq_c7 H
  exact bq_ct_pos ((bq_lf_t hl).mpr h) 7 (by omega)
theorem bq_t8 (H : bq_T c top par on tw) : ∀ z, bq_V c z → z = top ∨ 8 ≤ top := by
  refine bq_ind H _ (Or.inl rfl) ?_
  intro z hz ht ih
  rcases ih with e | e
  · have := bq_p8 H hz ht
    exact Or.inr (by omega)
  · exact Or.inr e
theorem bq_B_inj (H : bq_T c top par on tw) {z w : Nat} (hz : bq_V c z) (hz8 : 8 ≤ z) (hw : bq_V c w) (hw8 : 8 ≤ w) (h : bq_B c top par z = bq_B c top par w) : z = w := by
  have h7 := bq_c7 H
  refine bq_inj H hz hz8 hw hw8 (fun l hl => ?_)
  have e := bq_mk_inj _ _ 7 h l (by omega)
  rw [← bq_lf_t hl, ← bq_lf_t hl, e]
theorem bq_B_pos (H : bq_T c top par on tw) {z : Nat} (hz : bq_V c z) : bq_B c top par z ≠ 0 := by
  intro h
  obtain ⟨l, hl, ha⟩ := bq_leaf H z hz
  have h7 := bq_c7 H
  have e0 : ∀ n, bq_mk (fun _ => false) n = 0 := by
    intro n
    induction n with
    | zero => rfl
    | succ n ih =>
      show bq_mk (fun _ => false) n + (if false = true then 2 ^ n else 0) = 0
      rw [ih]
      rfl
  have e := bq_mk_inj _ (fun _ => false) 7 (h.trans (e0 7).symm) l (by omega)
  rw [(bq_lf_t hl).mpr ha] at e
  exact Bool.noConfusion e
theorem bq_n_top (H : bq_T c top par on tw) : bq_n c top par top = c := by
  have h7 := bq_c7 H
  have e : ∀ l, bq_lf c top par top l = decide (l < c) := by
    intro l
    by_cases hl : l < c
    · rw [(bq_lf_t hl).mpr (bq_A_all H l (Or.inl hl)), decide_eq_true hl]
    · rw [bq_lf_f hl, decide_eq_false hl]
  rw [bq_n, show bq_lf c top par top = (fun l => decide (l < c)) from funext e]
  exact bq_ct_c c (by omega)
theorem bq_n_lt (H : bq_T c top par on tw) {z : Nat} (hz : bq_V c z) (ht : z ≠ top) : bq_n c top par z < c := by
  have h7 := bq_c7 H
  rcases bq_t8 H z hz with e | e
  · exact absurd e ht
  · obtain ⟨l, hl, a, b⟩ := bq_sep H (bq_vt H) e hz (bq_A_all H z hz) (fun q => ht q.symm)
    have k := (bq_ct_mono (f := bq_lf c top par z) (g := bq_lf c top par top) (fun m hm => by
      have hm' := bq_lf_c hm
      exact (bq_lf_t hm').mpr (bq_A_all H m (Or.inl hm'))) 7).2 l (by omega) (by
        cases h : bq_lf c top par z l
        · rfl
        · exact absurd ((bq_lf_t hl).mp h) b) ((bq_lf_t hl).mpr a)
    have e := bq_n_top H
    rw [bq_n] at e ⊢
    omega
theorem bq_B_top {top2 : Nat} {par2 on2 tw2 : Nat → Nat} (H : bq_T c top par on tw) (H2 : bq_T c top2 par2 on2 tw2) : bq_B c top par top = bq_B c top2 par2 top2 := by
  refine bq_mk_cg 7 (fun l _ => ?_)
  by_cases hl : l < c
  · rw [(bq_lf_t hl).mpr (bq_A_all H l (Or.inl hl)), (bq_lf_t hl).mpr (bq_A_all H2 l (Or.inl hl))]
  · rw [bq_lf_f hl, bq_lf_f hl]
end
def bq_sm (f : Nat → Nat) (a : Nat) : Nat → Nat
  | 0 => 0
  | n + 1 => bq_sm f a n + f (a + n)
def bq_hs (F : Nat → Nat) (v a : Nat) : Nat → Bool
  | 0 => false
  | n + 1 => bq_hs F v a n || decide (F (a + n) = v)
theorem bq_sm_cg {f g : Nat → Nat} {a : Nat} : ∀ n, (∀ i, a ≤ i → i < a + n → f i = g i) → bq_sm f a n = bq_sm g a n := by
  intro n
  induction n with
  | zero => intro _; rfl
  | succ n ih =>
    intro h
    show bq_sm f a n + f (a + n) = bq_sm g a n + g (a + n)
    rw [ih (fun i h1 h2 => h i h1 (by omega)), h (a + n) (by omega) (by omega)]
theorem bq_sm_0 (a : Nat) : ∀ n, bq_sm (fun _ => 0) a n = 0 := by
  intro n
  induction n with
  | zero => rfl
  | succ n ih => exact ih
theorem bq_sm_add (f g : Nat → Nat) (a : Nat) : ∀ n, bq_sm (fun i => f i + g i) a n = bq_sm f a n + bq_sm g a n := by
  intro n
  induction n with
  | zero => rfl
  | succ n ih =>
    show bq_sm (fun i => f i + g i) a n + (f (a + n) + g (a + n)) = bq_sm f a n + f (a + n) + (bq_sm g a n + g (a + n))
    rw [ih]
    omega
theorem bq_sm_sw (h : Nat → Nat → Nat) (a b m : Nat) : ∀ n, bq_sm (fun i => bq_sm (fun j => h i j) b m) a n = bq_sm (fun j => bq_sm (fun i => h i j) a n) b m := by
  intro n
  induction n with
  | zero => exact (bq_sm_0 b m).symm
  | succ n ih =>
    show bq_sm (fun i => bq_sm (fun j => h i j) b m) a n + bq_sm (fun j => h (a + n) j) b m = bq_sm (fun j => bq_sm (fun i => h i j) a n + h (a + n) j) b m
    rw [ih, bq_sm_add]
theorem bq_hs_t {F : Nat → Nat} {v a : Nat} : ∀ n, bq_hs F v a n = true ↔ ∃ i, a ≤ i ∧ i < a + n ∧ F i = v := by
  intro n
  induction n with
  | zero =>
    constructor
    · intro h
      exact Bool.noConfusion h
    · intro ⟨i, h1, h2, _⟩
      omega
  | succ n ih =>
    show (bq_hs F v a n || decide (F (a + n) = v)) = true ↔ _
    rw [Bool.or_eq_true, ih, decide_eq_true_eq]
    constructor
    · rintro (⟨i, h1, h2, h3⟩ | h)
      · exact ⟨i, h1, by omega, h3⟩
      · exact ⟨a + n, by omega, by omega, h⟩
    · intro ⟨i, h1, h2, h3⟩
      by_cases e : i = a + n
      · rw [e] at h3
        exact Or.inr h3
      · exact Or.inl ⟨i, h1, by omega, h3⟩
theorem bq_sm_1 {F : Nat → Nat} (v a : Nat) : ∀ n, (∀ i j, a ≤ i → i < a + n → a ≤ j → j < a + n → F i = F j → i = j) →
    bq_sm (fun i => if F i = v then 1 else 0) a n = if bq_hs F v a n = true then 1 else 0 := by
  intro n
  induction n with
  | zero => intro _; rfl
  | succ n ih =>
    intro hi
    have ih' := ih (fun i j a1 a2 a3 a4 e => hi i j a1 (by omega) a3 (by omega) e)
    show bq_sm (fun i => if F i = v then 1 else 0) a n + (if F (a + n) = v then 1 else 0) = _
    rw [ih']
    by_cases h1 : bq_hs F v a n = true
    · obtain ⟨i, a1, a2, a3⟩ := (bq_hs_t n).mp h1
      have h2 : ¬ F (a + n) = v := fun q => by
        have := hi i (a + n) a1 (by omega) (by omega) (by omega) (a3.trans q.symm)
        omega
      have h3 : bq_hs F v a (n + 1) = true := (bq_hs_t (n + 1)).mpr ⟨i, a1, by omega, a3⟩
      rw [if_pos h1, if_neg h2, if_pos h3]
    · rw [if_neg h1]
      by_cases h2 : F (a + n) = v
      · have h3 : bq_hs F v a (n + 1) = true := (bq_hs_t (n + 1)).mpr ⟨a + n, by omega, by omega, h2⟩
        rw [if_pos h2, if_pos h3]
      · have h3 : ¬ bq_hs F v a (n + 1) = true := fun q => by
          obtain ⟨i, a1, a2, a3⟩ := (bq_hs_t (n + 1)).mp q
          by_cases e : i = a + n
          · rw [e] at a3
            exact h2 a3
          · exact h1 ((bq_hs_t n).mpr ⟨i, a1, by omega, a3⟩)
        rw [if_neg h2, if_neg h3]
/-- kept sets counted from either side -/
theorem bq_kept {F G : Nat → Nat} {a n top : Nat} (hF : ∀ i j, a ≤ i → i < a + n → a ≤ j → j < a + n → F i = F j → i = j)
    (hG : ∀ i j, a ≤ i → i < a + n → a ≤ j → j < a + n → G i = G j → i = j)
    (ht : ∀ i j, a ≤ i → i < a + n → a ≤ j → j < a + n → F j = G i → (i = top ↔ j = top)) :
    bq_sm (fun i => if i ≠ top ∧ bq_hs F (G i) a n = true then 1 else 0) a n = bq_sm (fun j => if j ≠ top ∧ bq_hs G (F j) a n = true then 1 else 0) a n := by
  have e1 : ∀ i, a ≤ i → i < a + n → (if i ≠ top ∧ bq_hs F (G i) a n = true then 1 else 0) = bq_sm (fun j => if i ≠ top ∧ F j = G i then 1 else 0) a n := by
    intro i _ _
    by_cases h : i = top
    · rw [if_neg (fun q => q.1 h), bq_sm_cg (g := fun _ => 0) n (fun j _ _ => if_neg (fun q => q.1 h)), bq_sm_0]
    · rw [bq_sm_cg (g := fun j => if F j = G i then 1 else 0) n (fun j _ _ => by
        by_cases q : F j = G i
        · rw [if_pos ⟨h, q⟩, if_pos q]
        · rw [if_neg (fun r => q r.2), if_neg q]), bq_sm_1 (G i) a n hF]
      by_cases q : bq_hs F (G i) a n = true
      · rw [if_pos ⟨h, q⟩, if_pos q]
      · rw [if_neg (fun r => q r.2), if_neg q]
  have e2 : ∀ j, a ≤ j → j < a + n → (if j ≠ top ∧ bq_hs G (F j) a n = true then 1 else 0) = bq_sm (fun i => if j ≠ top ∧ G i = F j then 1 else 0) a n := by
    intro j _ _
    by_cases h : j = top
    · rw [if_neg (fun q => q.1 h), bq_sm_cg (g := fun _ => 0) n (fun i _ _ => if_neg (fun q => q.1 h)), bq_sm_0]
    · rw [bq_sm_cg (g := fun i => if G i = F j then 1 else 0) n (fun i _ _ => by
        by_cases q : G i = F j
        · rw [if_pos ⟨h, q⟩, if_pos q]
        · rw [if_neg (fun r => q r.2), if_neg q]), bq_sm_1 (F j) a n hG]
      by_cases q : bq_hs G (F j) a n = true
      · rw [if_pos ⟨h, q⟩, if_pos q]
      · rw [if_neg (fun r => q r.2), if_neg q]
  rw [bq_sm_cg n e1, bq_sm_cg n e2, bq_sm_sw]
  refine bq_sm_cg n (fun j b1 b2 => bq_sm_cg n (fun i a1 a2 => ?_))
  by_cases q : F j = G i
  · have k := ht i j a1 a2 b1 b2 q
    by_cases h : i = top
    · rw [if_neg (fun r => r.1 h), if_neg (fun r => r.1 (k.mp h))]
    · rw [if_pos ⟨h, q⟩, if_pos ⟨fun r => h (k.mpr r), q.symm⟩]
  · rw [if_neg (fun r => q r.2), if_neg (fun r => q r.2.symm)]
