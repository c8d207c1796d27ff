/-! the steps: one node carried up (component), one node settled (reference) -/
def bq_pr (g : Nat → Nat) : Nat → Nat → Bool
  | 0, _ => false
  | i + 1, z => bq_pr g i z || decide (g i = z)
theorem bq_pr_t {g : Nat → Nat} {z : Nat} : ∀ i, bq_pr g i z = true ↔ ∃ j, j < i ∧ g j = z := by
  intro i
  induction i with
  | zero =>
    constructor
    · intro h
      exact Bool.noConfusion h
    · intro ⟨j, h1, _⟩
      omega
  | succ i ih =>
    show (bq_pr g i z || decide (g i = z)) = true ↔ _
    rw [Bool.or_eq_true, ih, decide_eq_true_eq]
    constructor
    · rintro (⟨j, h1, h2⟩ | h)
      · exact ⟨j, by omega, h2⟩
      · exact ⟨i, by omega, h⟩
    · intro ⟨j, h1, h2⟩
      by_cases e : j = i
      · rw [e] at h2
        exact Or.inr h2
      · exact Or.inl ⟨j, by omega, h2⟩
theorem bq_pr_n {g : Nat → Nat} {i w : Nat} (h : g i ≠ w) : bq_pr g (i + 1) w = bq_pr g i w := by
  show (bq_pr g i w || decide (g i = w)) = bq_pr g i w
  rw [decide_eq_false h, Bool.or_false]
/-- g lists m nodes: all but the top, deepest first -/
def bq_G (c top : Nat) (d g : Nat → Nat) (m : Nat) : Prop :=
  (∀ j, j < m → bq_V c (g j) ∧ g j ≠ top) ∧ (∀ i j, i < j → j < m → g i ≠ g j ∧ d (g j) ≤ d (g i)) ∧ (∀ z, bq_V c z → z ≠ top → ∃ j, j < m ∧ g j = z) ∧ m ≤ 13
def bq_E (g : Nat → Nat) (i : Nat) (co le : Nat → Int32) (k s : Nat) : Int32 := if bq_pr g i k = true then bq_l 2000000 co le (4 * s) (4 * k) 4 else 0
def bq_F (g : Nat → Nat) (i : Nat) (co le wa : Nat → Int32) (k s : Nat) : Int32 := if bq_pr g i k = true then bq_w 2000000 co le wa (4 * s) (4 * k) 4 else 1
def bq_J (g : Nat → Nat) (i : Nat) (ra : Nat → Int32) (we : Nat → Int64) (k s : Nat) : Int64 := if bq_pr g i k = true then bq_s ra we (4 * s) (4 * k) 4 else 1
def bq_XI (c : Nat) (on tw : Nat → Nat) (ok : Nat → Nat → Bool) (co : Nat → Int32) (g : Nat → Nat) (i : Nat) (le wa : Nat → Int32) : Prop :=
  ∀ z, bq_V c z → ∀ s, s < 4 →
    (z < 8 → le (4 * z + s) = (if ok z s = true then 0 else 1000000) ∧ wa (4 * z + s) = 1) ∧
    (8 ≤ z → le (4 * z + s) = (if ok z s = true then 0 else 1000000) + bq_E g i co le (on z) s + bq_E g i co le (tw z) s ∧
      wa (4 * z + s) = bq_F g i co le wa (on z) s * bq_F g i co le wa (tw z) s)
def bq_XK (c : Nat) (on tw : Nat → Nat) (ok : Nat → Nat → Bool) (ra : Nat → Int32) (g : Nat → Nat) (i : Nat) (we : Nat → Int64) : Prop :=
  ∀ z, bq_V c z → ∀ s, s < 4 →
    (z < 8 → we (4 * z + s) = (if ok z s = true then 1 else 0)) ∧
    (8 ≤ z → we (4 * z + s) = (if ok z s = true then 1 else 0) * bq_J g i ra we (on z) s * bq_J g i ra we (tw z) s)
theorem bq_XI_0 {c : Nat} {on tw g : Nat → Nat} {ok : Nat → Nat → Bool} {co le wa : Nat → Int32}
    (h : ∀ z, bq_V c z → ∀ s, s < 4 → le (4 * z + s) = (if ok z s = true then 0 else 1000000) ∧ wa (4 * z + s) = 1) : bq_XI c on tw ok co g 0 le wa := by
  intro z hz s hs
  obtain ⟨a, b⟩ := h z hz s hs
  refine ⟨fun _ => ⟨a, b⟩, fun _ => ⟨?_, ?_⟩⟩
  · show _ = _ + 0 + 0
    rw [a, Int32.add_zero, Int32.add_zero]
  · show _ = (1 : Int32) * 1
    rw [b, Int32.one_mul]
theorem bq_XK_0 {c : Nat} {on tw g : Nat → Nat} {ok : Nat → Nat → Bool} {ra : Nat → Int32} {we : Nat → Int64}
    (h : ∀ z, bq_V c z → ∀ s, s < 4 → we (4 * z + s) = (if ok z s = true then 1 else 0)) : bq_XK c on tw ok ra g 0 we := by
  intro z hz s hs
  have a := h z hz s hs
  refine ⟨fun _ => a, fun _ => ?_⟩
  show _ = _ * (1 : Int64) * 1
  rw [a, Int64.mul_one, Int64.mul_one]
section
variable {c top m i : Nat} {par on tw d g : Nat → Nat} {ok : Nat → Nat → Bool} {co ra le wa le' wa' : Nat → Int32} {we we' : Nat → Int64}
theorem bq_g_facts (H : bq_T c top par on tw) (hD : bq_D c top par d) (hG : bq_G c top d g m) (hi : i < m) :
    bq_V c (g i) ∧ g i ≠ top ∧ bq_V c (par (g i)) ∧ 8 ≤ par (g i) ∧ g i ≠ par (g i) ∧ bq_pr g i (g i) = false ∧ bq_pr g i (par (g i)) = false := by
  obtain ⟨v, n⟩ := hG.1 i hi
  have dk := hD.2.1 _ v n
  refine ⟨v, n, bq_pv H v n, bq_p8 H v n, fun q => ?_, ?_, ?_⟩
  · rw [← q] at dk
    omega
  · cases h : bq_pr g i (g i)
    · rfl
    · obtain ⟨j, hj, e⟩ := (bq_pr_t i).mp h
      exact absurd e (hG.2.1 j i hj hi).1
  · cases h : bq_pr g i (par (g i))
    · rfl
    · obtain ⟨j, hj, e⟩ := (bq_pr_t i).mp h
      have := (hG.2.1 j i hj hi).2
      rw [e] at this
      omega
theorem bq_XI_s (H : bq_T c top par on tw) (hD : bq_D c top par d) (hG : bq_G c top d g m) (hi : i < m) (h : bq_XI c on tw ok co g i le wa)
    (h1 : ∀ s, s < 4 → le' (4 * par (g i) + s) = le (4 * par (g i) + s) + bq_l 2000000 co le (4 * s) (4 * g i) 4)
    (h2 : ∀ s, s < 4 → wa' (4 * par (g i) + s) = wa (4 * par (g i) + s) * bq_w 2000000 co le wa (4 * s) (4 * g i) 4)
    (h3 : ∀ z s, s < 4 → z ≠ par (g i) → le' (4 * z + s) = le (4 * z + s) ∧ wa' (4 * z + s) = wa (4 * z + s)) : bq_XI c on tw ok co g (i + 1) le' wa' := by
  obtain ⟨v, n, vp, p8, kp, f1, f2⟩ := bq_g_facts H hD hG hi
  have E1 : ∀ w s, g i ≠ w → bq_E g (i + 1) co le' w s = bq_E g i co le w s ∧ bq_F g (i + 1) co le' wa' w s = bq_F g i co le wa w s := by
    intro w s hw
    rw [bq_E, bq_E, bq_F, bq_F, bq_pr_n hw]
    by_cases q : bq_pr g i w = true
    · have wp : w ≠ par (g i) := fun r => by
        rw [r, f2] at q
        exact Bool.noConfusion q
      rw [if_pos q, if_pos q, if_pos q, if_pos q]
      exact ⟨bq_l_cg 4 (fun t ht => (h3 w t ht wp).1), bq_w_cg 4 (fun t ht => (h3 w t ht wp).1) (fun t ht => (h3 w t ht wp).2)⟩
    · rw [if_neg q, if_neg q, if_neg q, if_neg q]
      exact ⟨rfl, rfl⟩
  have t1 : bq_pr g (i + 1) (g i) = true := (bq_pr_t (i + 1)).mpr ⟨i, by omega, rfl⟩
  have E2 : ∀ s, bq_E g (i + 1) co le' (g i) s = bq_l 2000000 co le (4 * s) (4 * g i) 4 ∧ bq_F g (i + 1) co le' wa' (g i) s = bq_w 2000000 co le wa (4 * s) (4 * g i) 4 := by
    intro s
    rw [bq_E, bq_F, if_pos t1, if_pos t1]
    exact ⟨bq_l_cg 4 (fun t ht => (h3 _ t ht kp).1), bq_w_cg 4 (fun t ht => (h3 _ t ht kp).1) (fun t ht => (h3 _ t ht kp).2)⟩
  have E3 : ∀ s, bq_E g i co le (g i) s = 0 ∧ bq_F g i co le wa (g i) s = 1 := by
    intro s
    rw [bq_E, bq_F, f1]
    exact ⟨rfl, rfl⟩
  intro z hz s hs
  obtain ⟨a, b⟩ := h z hz s hs
  refine ⟨fun z8 => ?_, fun z8 => ?_⟩
  · have zp : z ≠ par (g i) := by omega
    rw [(h3 z s hs zp).1, (h3 z s hs zp).2]
    exact a z8
  · obtain ⟨b1, b2⟩ := b z8
    have z7 := bq_v7 H hz z8
    obtain ⟨_, _, po⟩ := bq_on H z8 z7
    obtain ⟨_, _, pt⟩ := bq_tw H z8 z7
    by_cases zp : z = par (g i)
    · have hne := bq_nt H z8 z7
      have l1 := h1 s hs
      have l2 := h2 s hs
      rw [← zp] at l1 l2
      rw [l1, l2, b1, b2]
      rcases bq_pk H v n with q | q
      · rw [← zp] at q
        have q2 : g i ≠ tw z := fun r => hne (q.trans r)
        rw [(E1 (tw z) s q2).1, (E1 (tw z) s q2).2, q, (E2 s).1, (E2 s).2, (E3 s).1, (E3 s).2]
        refine ⟨?_, ?_⟩
        · rw [Int32.add_zero, Int32.add_assoc, Int32.add_comm (bq_E g i co le (tw z) s), ← Int32.add_assoc]
        · rw [Int32.one_mul, Int32.mul_comm]
      · rw [← zp] at q
        have q2 : g i ≠ on z := fun r => hne (r.symm.trans q.symm)
        rw [(E1 (on z) s q2).1, (E1 (on z) s q2).2, q, (E2 s).1, (E2 s).2, (E3 s).1, (E3 s).2]
        refine ⟨?_, ?_⟩
        · rw [Int32.add_zero]
        · rw [Int32.mul_one]
    · have q1 : g i ≠ on z := fun r => zp (by rw [r]; exact po.symm)
      have q2 : g i ≠ tw z := fun r => zp (by rw [r]; exact pt.symm)
      rw [(h3 z s hs zp).1, (h3 z s hs zp).2, (E1 _ s q1).1, (E1 _ s q1).2, (E1 _ s q2).1, (E1 _ s q2).2]
      exact ⟨b1, b2⟩
theorem bq_XI_m (H : bq_T c top par on tw) (hG : bq_G c top d g m) (h : bq_XI c on tw ok co g m le wa) : bq_XS c on tw ok co le wa := by
  intro z hz s hs
  refine ⟨(h z hz s hs).1, fun z8 => ?_⟩
  have z7 := bq_v7 H hz z8
  obtain ⟨v1, n1, _⟩ := bq_on H z8 z7
  obtain ⟨v2, n2, _⟩ := bq_tw H z8 z7
  have t1 : bq_pr g m (on z) = true := (bq_pr_t m).mpr (hG.2.2.1 _ v1 n1)
  have t2 : bq_pr g m (tw z) = true := (bq_pr_t m).mpr (hG.2.2.1 _ v2 n2)
  have := (h z hz s hs).2 z8
  rw [bq_E, bq_E, bq_F, bq_F, if_pos t1, if_pos t2, if_pos t1, if_pos t2] at this
  exact this
theorem bq_XK_s (H : bq_T c top par on tw) (hD : bq_D c top par d) (hG : bq_G c top d g m) (hi : i < m) (h : bq_XK c on tw ok ra g i we)
    (h1 : ∀ s, s < 4 → we' (4 * par (g i) + s) = we (4 * par (g i) + s) * bq_s ra we (4 * s) (4 * g i) 4)
    (h3 : ∀ z s, s < 4 → z ≠ par (g i) → we' (4 * z + s) = we (4 * z + s)) : bq_XK c on tw ok ra g (i + 1) we' := by
  obtain ⟨v, n, vp, p8, kp, f1, f2⟩ := bq_g_facts H hD hG hi
  have E1 : ∀ w s, g i ≠ w → bq_J g (i + 1) ra we' w s = bq_J g i ra we w s := by
    intro w s hw
    rw [bq_J, bq_J, bq_pr_n hw]
    by_cases q : bq_pr g i w = true
    · have wp : w ≠ par (g i) := fun r => by
        rw [r, f2] at q
        exact Bool.noConfusion q
      rw [if_pos q, if_pos q]
      exact bq_s_cg 4 (fun t ht => h3 w t ht wp)
    · rw [if_neg q, if_neg q]
  have t1 : bq_pr g (i + 1) (g i) = true := (bq_pr_t (i + 1)).mpr ⟨i, by omega, rfl⟩
  have E2 : ∀ s, bq_J g (i + 1) ra we' (g i) s = bq_s ra we (4 * s) (4 * g i) 4 := by
    intro s
    rw [bq_J, if_pos t1]
    exact bq_s_cg 4 (fun t ht => h3 _ t ht kp)
  have E3 : ∀ s, bq_J g i ra we (g i) s = 1 := by
    intro s
    rw [bq_J, f1]
    rfl
  intro z hz s hs
  obtain ⟨a, b⟩ := h z hz s hs
  refine ⟨fun z8 => ?_, fun z8 => ?_⟩
  · have zp : z ≠ par (g i) := by omega
    rw [h3 z s hs zp]
    exact a z8
  · have b1 := b z8
    have z7 := bq_v7 H hz z8
    obtain ⟨_, _, po⟩ := bq_on H z8 z7
    obtain ⟨_, _, pt⟩ := bq_tw H z8 z7
    by_cases zp : z = par (g i)
    · have hne := bq_nt H z8 z7
      have l1 := h1 s hs
      rw [← zp] at l1
      rw [l1, b1]
      rcases bq_pk H v n with q | q
      · rw [← zp] at q
        have q2 : g i ≠ tw z := fun r => hne (q.trans r)
        rw [E1 (tw z) s q2, q, E2 s, E3 s]
        rw [Int64.mul_one, Int64.mul_assoc, Int64.mul_comm (bq_J g i ra we (tw z) s), ← Int64.mul_assoc]
      · rw [← zp] at q
        have q2 : g i ≠ on z := fun r => hne (r.symm.trans q.symm)
        rw [E1 (on z) s q2, q, E2 s, E3 s, Int64.mul_one]
    · have q1 : g i ≠ on z := fun r => zp (by rw [r]; exact po.symm)
      have q2 : g i ≠ tw z := fun r => zp (by rw [r]; exact pt.symm)
      rw [h3 z s hs zp, E1 _ s q1, E1 _ s q2]
      exact b1
theorem bq_XK_m (H : bq_T c top par on tw) (hG : bq_G c top d g m) (h : bq_XK c on tw ok ra g m we) : bq_XW c on tw ok ra we := by
  intro z hz s hs
  refine ⟨(h z hz s hs).1, fun z8 => ?_⟩
  have z7 := bq_v7 H hz z8
  obtain ⟨v1, n1, _⟩ := bq_on H z8 z7
  obtain ⟨v2, n2, _⟩ := bq_tw H z8 z7
  have t1 : bq_pr g m (on z) = true := (bq_pr_t m).mpr (hG.2.2.1 _ v1 n1)
  have t2 : bq_pr g m (tw z) = true := (bq_pr_t m).mpr (hG.2.2.1 _ v2 n2)
  have := (h z hz s hs).2 z8
  rw [bq_J, bq_J, if_pos t1, if_pos t2] at this
  exact this
end
/-- node x settled: the new arrays at x by the old ones at its children, all else as before -/
def bq_ST (on tw : Nat → Nat) (ok : Nat → Nat → Bool) (co ra lo mn : Nat → Int32) (su : Nat → Int64) (x : Nat) (lo' mn' : Nat → Int32) (su' : Nat → Int64) : Prop :=
  (∀ s, s < 4 →
    (x < 8 → lo' (4 * x + s) = (if ok x s = true then 0 else 1000) ∧ mn' (4 * x + s) = (if ok x s = true then 1 else 0) ∧ su' (4 * x + s) = (if ok x s = true then 1 else 0)) ∧
    (8 ≤ x → lo' (4 * x + s) = bq_cap (ok x s) (bq_l 1000 co lo (4 * s) (4 * on x) 4) (bq_l 1000 co lo (4 * s) (4 * tw x) 4) ∧
      mn' (4 * x + s) = bq_mny (ok x s) (bq_w 1000 co lo mn (4 * s) (4 * on x) 4) (bq_w 1000 co lo mn (4 * s) (4 * tw x) 4) ∧
      su' (4 * x + s) = (if ok x s = true then 1 else 0) * bq_s ra su (4 * s) (4 * on x) 4 * bq_s ra su (4 * s) (4 * tw x) 4)) ∧
  (∀ w s, s < 4 → w ≠ x → lo' (4 * w + s) = lo (4 * w + s) ∧ mn' (4 * w + s) = mn (4 * w + s) ∧ su' (4 * w + s) = su (4 * w + s))
section
variable {c top : Nat} {par on tw d : Nat → Nat} {ok : Nat → Nat → Bool} {co ra lo mn lo' mn' : Nat → Int32} {su su' : Nat → Int64}
theorem bq_YZ_cg {z : Nat} (h : ∀ w, (w = z ∨ (8 ≤ z ∧ (w = on z ∨ w = tw z))) → ∀ s, s < 4 → lo' (4 * w + s) = lo (4 * w + s) ∧ mn' (4 * w + s) = mn (4 * w + s) ∧ su' (4 * w + s) = su (4 * w + s))
    (hz : bq_YZ on tw ok co ra lo mn su z) : bq_YZ on tw ok co ra lo' mn' su' z := by
  intro s hs
  obtain ⟨a, b⟩ := hz s hs
  obtain ⟨e1, e2, e3⟩ := h z (Or.inl rfl) s hs
  rw [e1, e2, e3]
  refine ⟨a, fun z8 => ?_⟩
  have k1 := h (on z) (Or.inr ⟨z8, Or.inl rfl⟩)
  have k2 := h (tw z) (Or.inr ⟨z8, Or.inr rfl⟩)
  rw [bq_l_cg (lo := lo') (lo' := lo) (b := 4 * on z) (b' := 4 * on z) 4 (fun t ht => (k1 t ht).1), bq_l_cg (lo := lo') (lo' := lo) (b := 4 * tw z) (b' := 4 * tw z) 4 (fun t ht => (k2 t ht).1),
    bq_w_cg (lo := lo') (lo' := lo) (mn := mn') (mn' := mn) (b := 4 * on z) (b' := 4 * on z) 4 (fun t ht => (k1 t ht).1) (fun t ht => (k1 t ht).2.1),
    bq_w_cg (lo := lo') (lo' := lo) (mn := mn') (mn' := mn) (b := 4 * tw z) (b' := 4 * tw z) 4 (fun t ht => (k2 t ht).1) (fun t ht => (k2 t ht).2.1),
    bq_s_cg (su := su') (su' := su) (b := 4 * on z) (b' := 4 * on z) 4 (fun t ht => (k1 t ht).2.2), bq_s_cg (su := su') (su' := su) (b := 4 * tw z) (b' := 4 * tw z) 4 (fun t ht => (k2 t ht).2.2)]
  exact b z8
theorem bq_ST_x {x : Nat} (hn : 8 ≤ x → on x ≠ x ∧ tw x ≠ x) (h : bq_ST on tw ok co ra lo mn su x lo' mn' su') : bq_YZ on tw ok co ra lo' mn' su' x := by
  intro s hs
  obtain ⟨a, b⟩ := h.1 s hs
  refine ⟨a, fun z8 => ?_⟩
  have k1 := fun t ht => h.2 (on x) t ht (hn z8).1
  have k2 := fun t ht => h.2 (tw x) t ht (hn z8).2
  rw [bq_l_cg (lo := lo') (lo' := lo) (b := 4 * on x) (b' := 4 * on x) 4 (fun t ht => (k1 t ht).1), bq_l_cg (lo := lo') (lo' := lo) (b := 4 * tw x) (b' := 4 * tw x) 4 (fun t ht => (k2 t ht).1),
    bq_w_cg (lo := lo') (lo' := lo) (mn := mn') (mn' := mn) (b := 4 * on x) (b' := 4 * on x) 4 (fun t ht => (k1 t ht).1) (fun t ht => (k1 t ht).2.1),
    bq_w_cg (lo := lo') (lo' := lo) (mn := mn') (mn' := mn) (b := 4 * tw x) (b' := 4 * tw x) 4 (fun t ht => (k2 t ht).1) (fun t ht => (k2 t ht).2.1),
    bq_s_cg (su := su') (su' := su) (b := 4 * on x) (b' := 4 * on x) 4 (fun t ht => (k1 t ht).2.2), bq_s_cg (su := su') (su' := su) (b := 4 * tw x) (b' := 4 * tw x) 4 (fun t ht => (k2 t ht).2.2)]
  exact b z8
/-- settled: all at depth d0 or deeper, and at depth d0 - 1 those below j -/
def bq_YD (c : Nat) (d : Nat → Nat) (on tw : Nat → Nat) (ok : Nat → Nat → Bool) (co ra : Nat → Int32) (d0 j : Nat) (lo mn : Nat → Int32) (su : Nat → Int64) : Prop :=
  ∀ z, bq_V c z → (d0 ≤ d z ∨ (d z + 1 = d0 ∧ z < j)) → bq_YZ on tw ok co ra lo mn su z
theorem bq_kne (H : bq_T c top par on tw) {x : Nat} (hx : bq_V c x) (x8 : 8 ≤ x) : on x ≠ x ∧ tw x ≠ x := by
  have x7 := bq_v7 H hx x8
  obtain ⟨d, hD⟩ := bq_ex H
  obtain ⟨v1, n1, p1⟩ := bq_on H x8 x7
  obtain ⟨v2, n2, p2⟩ := bq_tw H x8 x7
  have d1 := hD.2.1 _ v1 n1
  have d2 := hD.2.1 _ v2 n2
  rw [p1] at d1
  rw [p2] at d2
  refine ⟨fun q => ?_, fun q => ?_⟩
  · rw [q] at d1
    omega
  · rw [q] at d2
    omega
theorem bq_YD_s (H : bq_T c top par on tw) (hD : bq_D c top par d) {d0 j : Nat} (hj : bq_V c j) (h : bq_YD c d on tw ok co ra d0 j lo mn su)
    (hS : bq_ST on tw ok co ra lo mn su j lo' mn' su') : bq_YD c d on tw ok co ra d0 (j + 1) lo' mn' su' := by
  intro z hz hg
  by_cases e : z = j
  · rw [e]
    exact bq_ST_x (fun x8 => bq_kne H hj x8) hS
  · have hz' := h z hz (by omega)
    refine bq_YZ_cg (fun w hw s hs => ?_) hz'
    by_cases wj : w = j
    · have w8 : 8 ≤ z ∧ (w = on z ∨ w = tw z) := by
        rcases hw with q | q
        · exact absurd (q.symm.trans wj) e
        · exact q
      have z7 := bq_v7 H hz w8.1
      have dw : d w = d z + 1 := by
        rcases w8.2 with q | q
        · obtain ⟨v1, n1, p1⟩ := bq_on H w8.1 z7
          have := hD.2.1 _ v1 n1
          rw [p1, ← q] at this
          exact this
        · obtain ⟨v1, n1, p1⟩ := bq_tw H w8.1 z7
          have := hD.2.1 _ v1 n1
          rw [p1, ← q] at this
          exact this
      rw [wj] at dw
      have old := h j hj (Or.inl (by omega)) s hs
      have new := hS.1 s hs
      rw [wj]
      by_cases j8 : j < 8
      · rw [(new.1 j8).1, (new.1 j8).2.1, (new.1 j8).2.2, (old.1 j8).1, (old.1 j8).2.1, (old.1 j8).2.2]
        exact ⟨rfl, rfl, rfl⟩
      · have j8' : 8 ≤ j := by omega
        rw [(new.2 j8').1, (new.2 j8').2.1, (new.2 j8').2.2, (old.2 j8').1, (old.2 j8').2.1, (old.2 j8').2.2]
        exact ⟨rfl, rfl, rfl⟩
    · exact hS.2 w s hs wj
theorem bq_YD_n {d0 j : Nat} (hj : ¬ bq_V c j) (h : bq_YD c d on tw ok co ra d0 j lo mn su) : bq_YD c d on tw ok co ra d0 (j + 1) lo mn su := by
  intro z hz hg
  have e : z ≠ j := fun q => hj (by rw [← q]; exact hz)
  exact h z hz (by omega)
theorem bq_YD_r (H : bq_T c top par on tw) {d0 : Nat} (h : bq_YD c d on tw ok co ra (d0 + 1) 14 lo mn su) : bq_YD c d on tw ok co ra d0 0 lo mn su := by
  intro z hz hg
  have := bq_lt14 H hz
  exact h z hz (by omega)
theorem bq_YD_7 (hD : bq_D c top par d) : bq_YD c d on tw ok co ra 7 0 lo mn su := by
  intro z hz hg
  have := hD.2.2 z hz
  omega
theorem bq_YD_0 (h : bq_YD c d on tw ok co ra 0 0 lo mn su) : bq_YS c on tw ok co ra lo mn su := fun z hz => h z hz (Or.inl (Nat.zero_le _))
end
