/-! the tree: c leaves 0 .. c-1, inner nodes 8 .. 6+c; par, on, tw: parent and two children; depth, at-or-above -/
def bq_V (c z : Nat) : Prop := z < c ∨ (8 ≤ z ∧ z < 7 + c)
def bq_T (c top : Nat) (par on tw : Nat → Nat) : Prop :=
  (1 ≤ c ∧ c ≤ 7 ∧ bq_V c top) ∧
  (∀ z, bq_V c z → z ≠ top → 8 ≤ par z ∧ par z < 7 + c ∧ (on (par z) = z ∨ tw (par z) = z)) ∧
  (∀ p, 8 ≤ p → p < 7 + c → (bq_V c (on p) ∧ on p ≠ top ∧ par (on p) = p) ∧ (bq_V c (tw p) ∧ tw p ≠ top ∧ par (tw p) = p) ∧ on p ≠ tw p) ∧
  (∃ rk : Nat → Nat, ∀ z, bq_V c z → z ≠ top → rk (par z) < rk z)
def bq_D (c top : Nat) (par d : Nat → Nat) : Prop :=
  d top = 0 ∧ (∀ z, bq_V c z → z ≠ top → d z = d (par z) + 1) ∧ (∀ z, bq_V c z → d z ≤ 6)
theorem bq_pig : ∀ (m n : Nat) (f : Nat → Nat), (∀ i, i < n → f i < m) → (∀ i j, i < n → j < n → f i = f j → i = j) → n ≤ m := by
  intro m
  induction m with
  | zero =>
    intro n f h _
    by_cases hn : n = 0
    · omega
    · exact absurd (h 0 (by omega)) (by omega)
  | succ m ih =>
    intro n f h hi
    by_cases hn : n = 0
    · omega
    by_cases e : ∃ i, i < n ∧ f i = m
    · obtain ⟨i0, h0, e0⟩ := e
      have key : n - 1 ≤ m := by
        refine ih (n - 1) (fun j => if j < i0 then f j else f (j + 1)) ?_ ?_
        · intro j hj
          show (if j < i0 then f j else f (j + 1)) < m
          by_cases hc : j < i0
          · rw [if_pos hc]
            have a := h j (by omega)
            have b : f j ≠ m := fun q => by
              have := hi j i0 (by omega) h0 (by omega)
              omega
            omega
          · rw [if_neg hc]
            have a := h (j + 1) (by omega)
            have b : f (j + 1) ≠ m := fun q => by
              have := hi (j + 1) i0 (by omega) h0 (by omega)
              omega
            omega
        · intro i j hi' hj' q
          have q' : (if i < i0 then f i else f (i + 1)) = (if j < i0 then f j else f (j + 1)) := q
          by_cases ci : i < i0
          · by_cases cj : j < i0
            · rw [if_pos ci, if_pos cj] at q'
              exact hi i j (by omega) (by omega) q'
            · rw [if_pos ci, if_neg cj] at q'
              have := hi i (j + 1) (by omega) (by omega) q'
              omega
          · by_cases cj : j < i0
            · rw [if_neg ci, if_pos cj] at q'
              have := hi (i + 1) j (by omega) (by omega) q'
              omega
            · rw [if_neg ci, if_neg cj] at q'
              have := hi (i + 1) (j + 1) (by omega) (by omega) q'
              omega
      omega
    · have := ih n f (fun i hi' => by
        have a := h i hi'
        have b : f i ≠ m := fun q => e ⟨i, hi', q⟩
        omega) hi
      omega
section
variable {c top : Nat} {par on tw d : Nat → Nat}
theorem bq_c1 (H : bq_T c top par on tw) : 1 ≤ c := H.1.1
theorem bq_c7 (H : bq_T c top par on tw) : c ≤ 7 := H.1.2.1
theorem bq_vt (H : bq_T c top par on tw) : bq_V c top := H.1.2.2
theorem bq_lt14 (H : bq_T c top par on tw) {z : Nat} (hz : bq_V c z) : z < 14 := by
  have := bq_c7 H
  rcases hz with h | h <;> omega
theorem bq_p8 (H : bq_T c top par on tw) {z : Nat} (hz : bq_V c z) (hn : z ≠ top) : 8 ≤ par z := (H.2.1 z hz hn).1
theorem bq_p7 (H : bq_T c top par on tw) {z : Nat} (hz : bq_V c z) (hn : z ≠ top) : par z < 7 + c := (H.2.1 z hz hn).2.1
theorem bq_pk (H : bq_T c top par on tw) {z : Nat} (hz : bq_V c z) (hn : z ≠ top) : on (par z) = z ∨ tw (par z) = z := (H.2.1 z hz hn).2.2
theorem bq_pv (H : bq_T c top par on tw) {z : Nat} (hz : bq_V c z) (hn : z ≠ top) : bq_V c (par z) := Or.inr ⟨bq_p8 H hz hn, bq_p7 H hz hn⟩
theorem bq_v0 (H : bq_T c top par on tw) : bq_V c 0 := Or.inl (bq_c1 H)
def bq_dp (top : Nat) (par : Nat → Nat) : Nat → Nat → Nat
  | 0, _ => 0
  | n + 1, z => if z = top then 0 else bq_dp top par n (par z) + 1
theorem bq_dp_top (n : Nat) : bq_dp top par n top = 0 := by
  cases n with
  | zero => rfl
  | succ n => exact if_pos rfl
theorem bq_dp_s {n z : Nat} (h : z ≠ top) : bq_dp top par (n + 1) z = bq_dp top par n (par z) + 1 := if_neg h
theorem bq_dp_st (H : bq_T c top par on tw) {rk : Nat → Nat} (hr : ∀ z, bq_V c z → z ≠ top → rk (par z) < rk z) :
    ∀ n m z, bq_V c z → rk z ≤ n → rk z ≤ m → bq_dp top par n z = bq_dp top par m z := by
  intro n
  induction n with
  | zero =>
    intro m z hz h0 _
    by_cases e : z = top
    · subst e
      rw [bq_dp_top, bq_dp_top]
    · have := hr z hz e
      omega
  | succ n ih =>
    intro m z hz h0 h1
    by_cases e : z = top
    · subst e
      rw [bq_dp_top, bq_dp_top]
    · have h2 := hr z hz e
      obtain ⟨m', rfl⟩ : ∃ m', m = m' + 1 := ⟨m - 1, by omega⟩
      rw [bq_dp_s e, bq_dp_s e, ih m' (par z) (bq_pv H hz e) (by omega) (by omega)]
def bq_it (par : Nat → Nat) : Nat → Nat → Nat
  | 0, z => z
  | n + 1, z => bq_it par n (par z)
theorem bq_it_d (H : bq_T c top par on tw) (h0 : d top = 0) (h1 : ∀ z, bq_V c z → z ≠ top → d z = d (par z) + 1) :
    ∀ n z, bq_V c z → n ≤ d z → d (bq_it par n z) + n = d z ∧ (1 ≤ n → 8 ≤ bq_it par n z ∧ bq_it par n z < 7 + c) := by
  intro n
  induction n with
  | zero =>
    intro z _ _
    exact ⟨rfl, fun h => absurd h (by omega)⟩
  | succ n ih =>
    intro z hz hn
    have e : z ≠ top := fun q => by
      subst q
      omega
    have h2 := h1 z hz e
    obtain ⟨a, b⟩ := ih (par z) (bq_pv H hz e) (by omega)
    refine ⟨?_, fun _ => ?_⟩
    · show d (bq_it par n (par z)) + (n + 1) = d z
      omega
    · show 8 ≤ bq_it par n (par z) ∧ bq_it par n (par z) < 7 + c
      by_cases hn0 : n = 0
      · subst hn0
        exact ⟨bq_p8 H hz e, bq_p7 H hz e⟩
      · exact b (by omega)
theorem bq_ex (H : bq_T c top par on tw) : ∃ d : Nat → Nat, bq_D c top par d := by
  obtain ⟨rk, hr⟩ := H.2.2.2
  have h0 : bq_dp top par (rk top) top = 0 := bq_dp_top _
  have h1 : ∀ z, bq_V c z → z ≠ top → bq_dp top par (rk z) z = bq_dp top par (rk (par z)) (par z) + 1 := by
    intro z hz e
    have h2 := hr z hz e
    obtain ⟨m, hm⟩ : ∃ m, rk z = m + 1 := ⟨rk z - 1, by omega⟩
    rw [hm, bq_dp_s e, bq_dp_st H hr m (rk (par z)) (par z) (bq_pv H hz e) (by omega) (Nat.le_refl _)]
  refine ⟨fun z => bq_dp top par (rk z) z, h0, h1, ?_⟩
  intro z hz
  show bq_dp top par (rk z) z ≤ 6
  by_cases hc : bq_dp top par (rk z) z ≤ 6
  · exact hc
  · exfalso
    have hit := bq_it_d (d := fun z => bq_dp top par (rk z) z) H h0 h1
    have h7 := bq_c7 H
    have := bq_pig 6 7 (fun i => bq_it par (i + 1) z - 8) (fun i hi => by
      have := (hit (i + 1) z hz (by show i + 1 ≤ bq_dp top par (rk z) z; omega)).2 (by omega)
      show bq_it par (i + 1) z - 8 < 6
      omega) (fun i j hi hj q => by
      have a := hit (i + 1) z hz (by show i + 1 ≤ bq_dp top par (rk z) z; omega)
      have b := hit (j + 1) z hz (by show j + 1 ≤ bq_dp top par (rk z) z; omega)
      have a2 := a.2 (by omega)
      have b2 := b.2 (by omega)
      have q' : bq_it par (i + 1) z - 8 = bq_it par (j + 1) z - 8 := q
      have e : bq_it par (i + 1) z = bq_it par (j + 1) z := by omega
      have a1 := a.1
      have b1 := b.1
      rw [e] at a1
      omega)
    omega
theorem bq_d0 (hD : bq_D c top par d) {z : Nat} (hz : bq_V c z) (h : d z = 0) : z = top := by
  by_cases e : z = top
  · exact e
  · have := hD.2.1 z hz e
    omega
theorem bq_ind (H : bq_T c top par on tw) (P : Nat → Prop) (h0 : P top) (hs : ∀ z, bq_V c z → z ≠ top → P (par z) → P z) :
    ∀ z, bq_V c z → P z := by
  obtain ⟨d, hD⟩ := bq_ex H
  have key : ∀ n z, bq_V c z → d z = n → P z := by
    intro n
    induction n with
    | zero =>
      intro z hz hd
      rw [bq_d0 hD hz hd]
      exact h0
    | succ n ih =>
      intro z hz hd
      have e : z ≠ top := fun q => by
        have := hD.1
        rw [← q] at this
        omega
      have := hD.2.1 z hz e
      exact hs z hz e (ih (par z) (bq_pv H hz e) (by omega))
  exact fun z hz => key (d z) z hz rfl
theorem bq_dn (H : bq_T c top par on tw) (P : Nat → Prop)
    (h0 : ∀ z, bq_V c z → z < 8 → P z) (hs : ∀ z, bq_V c z → 8 ≤ z → P (on z) → P (tw z) → P z) :
    ∀ z, bq_V c z → P z := by
  obtain ⟨d, hD⟩ := bq_ex H
  have key : ∀ n z, bq_V c z → 6 - d z < n → P z := by
    intro n
    induction n with
    | zero =>
      intro z _ h
      omega
    | succ n ih =>
      intro z hz hd
      by_cases h8 : z < 8
      · exact h0 z hz h8
      · have h7 : z < 7 + c := by
          have := bq_c7 H
          rcases hz with h | h <;> omega
        obtain ⟨⟨v1, n1, p1⟩, ⟨v2, n2, p2⟩, _⟩ := H.2.2.1 z (by omega) h7
        have d1 := hD.2.1 _ v1 n1
        have d2 := hD.2.1 _ v2 n2
        have e1 := hD.2.2 _ v1
        have e2 := hD.2.2 _ v2
        rw [p1] at d1
        rw [p2] at d2
        exact hs z hz (by omega) (ih _ v1 (by omega)) (ih _ v2 (by omega))
  exact fun z hz => key (6 - d z + 1) z hz (by omega)
def bq_an (top : Nat) (par : Nat → Nat) (x : Nat) : Nat → Nat → Bool
  | 0, _ => false
  | n + 1, z => if z = x then true else if z = top then false else bq_an top par x n (par z)
theorem bq_an_st (H : bq_T c top par on tw) (hD : bq_D c top par d) (x : Nat) :
    ∀ n m z, bq_V c z → d z < n → d z < m → bq_an top par x n z = bq_an top par x m z := by
  intro n
  induction n with
  | zero =>
    intro m z _ h
    omega
  | succ n ih =>
    intro m z hz h0 h1
    obtain ⟨m', rfl⟩ : ∃ m', m = m' + 1 := ⟨m - 1, by omega⟩
    show (if z = x then true else if z = top then false else bq_an top par x n (par z)) = (if z = x then true else if z = top then false else bq_an top par x m' (par z))
    by_cases e : z = x
    · rw [if_pos e, if_pos e]
    · rw [if_neg e, if_neg e]
      by_cases et : z = top
      · rw [if_pos et, if_pos et]
      · rw [if_neg et, if_neg et]
        have := hD.2.1 z hz et
        exact ih m' (par z) (bq_pv H hz et) (by omega) (by omega)
abbrev bq_A (top : Nat) (par : Nat → Nat) (x z : Nat) : Prop := bq_an top par x 7 z = true
theorem bq_A_rf (x : Nat) : bq_A top par x x := if_pos rfl
theorem bq_A_tp {x : Nat} (h : x ≠ top) : ¬ bq_A top par x top := by
  have e : bq_an top par x 7 top = false := by
    show (if top = x then true else if top = top then false else _) = false
    rw [if_neg (fun q => h q.symm), if_pos rfl]
  intro q
  rw [bq_A, e] at q
  exact Bool.noConfusion q
theorem bq_A_up (H : bq_T c top par on tw) {x z : Nat} (hz : bq_V c z) (ht : z ≠ top) (hx : z ≠ x) : bq_A top par x z ↔ bq_A top par x (par z) := by
  obtain ⟨d, hD⟩ := bq_ex H
  have e : bq_an top par x 7 z = bq_an top par x 6 (par z) := by
    show (if z = x then true else if z = top then false else bq_an top par x 6 (par z)) = _
    rw [if_neg hx, if_neg ht]
  have h1 := hD.2.1 z hz ht
  have h2 := hD.2.2 z hz
  rw [bq_A, bq_A, e, bq_an_st H hD x 6 7 (par z) (bq_pv H hz ht) (by omega) (by omega)]
theorem bq_A_st (H : bq_T c top par on tw) {x z : Nat} (hz : bq_V c z) (ht : z ≠ top) (h : bq_A top par x (par z)) : bq_A top par x z := by
  by_cases e : z = x
  · rw [e]
    exact bq_A_rf x
  · exact (bq_A_up H hz ht e).mpr h
theorem bq_A_d (H : bq_T c top par on tw) (hD : bq_D c top par d) (x : Nat) : ∀ z, bq_V c z → bq_A top par x z → z = x ∨ d x < d z := by
  refine bq_ind H _ ?_ ?_
  · intro h
    by_cases e : x = top
    · exact Or.inl e.symm
    · exact absurd h (bq_A_tp e)
  · intro z hz ht ih h
    by_cases e : z = x
    · exact Or.inl e
    · have h1 := hD.2.1 z hz ht
      rcases ih ((bq_A_up H hz ht e).mp h) with q | q
      · rw [q] at h1
        exact Or.inr (by omega)
      · exact Or.inr (by omega)
theorem bq_A_v (H : bq_T c top par on tw) (x : Nat) : ∀ z, bq_V c z → bq_A top par x z → bq_V c x := by
  refine bq_ind H _ ?_ ?_
  · intro h
    by_cases e : x = top
    · rw [e]
      exact bq_vt H
    · exact absurd h (bq_A_tp e)
  · intro z hz ht ih h
    by_cases e : z = x
    · rw [← e]
      exact hz
    · exact ih ((bq_A_up H hz ht e).mp h)
theorem bq_A_all (H : bq_T c top par on tw) : ∀ z, bq_V c z → bq_A top par top z :=
  bq_ind H _ (bq_A_rf top) (fun _ hz ht ih => bq_A_st H hz ht ih)
theorem bq_A_tr (H : bq_T c top par on tw) {x y : Nat} (hxy : bq_A top par x y) : ∀ z, bq_V c z → bq_A top par y z → bq_A top par x z := by
  refine bq_ind H _ ?_ ?_
  · intro h
    by_cases e : y = top
    · rw [e] at hxy
      exact hxy
    · exact absurd h (bq_A_tp e)
  · intro z hz ht ih h
    by_cases e : z = y
    · rw [e]
      exact hxy
    · exact bq_A_st H hz ht (ih ((bq_A_up H hz ht e).mp h))
theorem bq_A_li (H : bq_T c top par on tw) (x y : Nat) : ∀ z, bq_V c z → bq_A top par x z → bq_A top par y z → bq_A top par x y ∨ bq_A top par y x := by
  refine bq_ind H _ ?_ ?_
  · intro h1 h2
    by_cases e : y = top
    · rw [e]
      exact Or.inl h1
    · exact absurd h2 (bq_A_tp e)
  · intro z hz ht ih h1 h2
    by_cases ey : z = y
    · rw [ey] at h1
      exact Or.inl h1
    · by_cases ex : z = x
      · rw [ex] at h2
        exact Or.inr h2
      · exact ih ((bq_A_up H hz ht ex).mp h1) ((bq_A_up H hz ht ey).mp h2)
theorem bq_A_as (H : bq_T c top par on tw) {x y : Nat} (hx : bq_V c x) (hy : bq_V c y) (h1 : bq_A top par x y) (h2 : bq_A top par y x) : x = y := by
  obtain ⟨d, hD⟩ := bq_ex H
  rcases bq_A_d H hD x y hy h1 with e | e
  · exact e.symm
  · rcases bq_A_d H hD y x hx h2 with e2 | e2
    · exact e2
    · omega
theorem bq_on (H : bq_T c top par on tw) {p : Nat} (h8 : 8 ≤ p) (h7 : p < 7 + c) : bq_V c (on p) ∧ on p ≠ top ∧ par (on p) = p := (H.2.2.1 p h8 h7).1
theorem bq_tw (H : bq_T c top par on tw) {p : Nat} (h8 : 8 ≤ p) (h7 : p < 7 + c) : bq_V c (tw p) ∧ tw p ≠ top ∧ par (tw p) = p := (H.2.2.1 p h8 h7).2.1
theorem bq_nt (H : bq_T c top par on tw) {p : Nat} (h8 : 8 ≤ p) (h7 : p < 7 + c) : on p ≠ tw p := (H.2.2.1 p h8 h7).2.2
theorem bq_A_par (H : bq_T c top par on tw) {z : Nat} (hz : bq_V c z) (ht : z ≠ top) : bq_A top par (par z) z := bq_A_st H hz ht (bq_A_rf _)
theorem bq_par_nA (H : bq_T c top par on tw) {z : Nat} (hz : bq_V c z) (ht : z ≠ top) : ¬ bq_A top par z (par z) := by
  intro h
  obtain ⟨d, hD⟩ := bq_ex H
  have h1 := hD.2.1 z hz ht
  rcases bq_A_d H hD z (par z) (bq_pv H hz ht) h with e | e
  · rw [e] at h1
    omega
  · omega
theorem bq_A_kid (H : bq_T c top par on tw) (p : Nat) : ∀ w, bq_V c w → bq_A top par p w → w = p ∨ bq_A top par (on p) w ∨ bq_A top par (tw p) w := by
  refine bq_ind H _ ?_ ?_
  · intro h
    by_cases e : p = top
    · exact Or.inl e.symm
    · exact absurd h (bq_A_tp e)
  · intro z hz ht ih h
    by_cases e : z = p
    · exact Or.inl e
    · refine Or.inr ?_
      rcases ih ((bq_A_up H hz ht e).mp h) with q | q | q
      · rcases bq_pk H hz ht with k | k
        · rw [q] at k
          rw [k]
          exact Or.inl (bq_A_rf z)
        · rw [q] at k
          rw [k]
          exact Or.inr (bq_A_rf z)
      · exact Or.inl (bq_A_st H hz ht q)
      · exact Or.inr (bq_A_st H hz ht q)
theorem bq_A_onp (H : bq_T c top par on tw) {p : Nat} (h8 : 8 ≤ p) (h7 : p < 7 + c) : bq_A top par p (on p) := by
  obtain ⟨v, n, e⟩ := bq_on H h8 h7
  have := bq_A_par H v n
  rw [e] at this
  exact this
theorem bq_A_twp (H : bq_T c top par on tw) {p : Nat} (h8 : 8 ≤ p) (h7 : p < 7 + c) : bq_A top par p (tw p) := by
  obtain ⟨v, n, e⟩ := bq_tw H h8 h7
  have := bq_A_par H v n
  rw [e] at this
  exact this
theorem bq_A_sib (H : bq_T c top par on tw) {p : Nat} (h8 : 8 ≤ p) (h7 : p < 7 + c) {w : Nat} (hw : bq_V c w) (h1 : bq_A top par (on p) w) (h2 : bq_A top par (tw p) w) : False := by
  obtain ⟨d, hD⟩ := bq_ex H
  obtain ⟨v1, n1, e1⟩ := bq_on H h8 h7
  obtain ⟨v2, n2, e2⟩ := bq_tw H h8 h7
  have d1 := hD.2.1 _ v1 n1
  have d2 := hD.2.1 _ v2 n2
  rw [e1] at d1
  rw [e2] at d2
  rcases bq_A_li H _ _ w hw h1 h2 with q | q
  · rcases bq_A_d H hD _ _ v2 q with r | r
    · exact bq_nt H h8 h7 r.symm
    · omega
  · rcases bq_A_d H hD _ _ v1 q with r | r
    · exact bq_nt H h8 h7 r
    · omega
theorem bq_leaf (H : bq_T c top par on tw) : ∀ z, bq_V c z → ∃ l, l < c ∧ bq_A top par z l := by
  refine bq_dn H _ ?_ ?_
  · intro z hz h8
    exact ⟨z, by rcases hz with h | h <;> omega, bq_A_rf z⟩
  · intro z hz h8 ih _
    have h7 : z < 7 + c := by
      have := bq_c7 H
      rcases hz with h | h <;> omega
    obtain ⟨l, hl, h⟩ := ih
    exact ⟨l, hl, bq_A_tr H (bq_A_onp H h8 h7) l (Or.inl hl) h⟩
theorem bq_sep (H : bq_T c top par on tw) {z w : Nat} (hz : bq_V c z) (h8 : 8 ≤ z) (hw : bq_V c w) (hA : bq_A top par z w) (hne : z ≠ w) : ∃ l, l < c ∧ bq_A top par z l ∧ ¬ bq_A top par w l := by
  have h7 : z < 7 + c := by
    have := bq_c7 H
    rcases hz with h | h <;> omega
  rcases bq_A_kid H z w hw hA with q | q | q
  · exact absurd q.symm hne
  · obtain ⟨v, _, _⟩ := bq_tw H h8 h7
    obtain ⟨l, hl, h⟩ := bq_leaf H _ v
    refine ⟨l, hl, bq_A_tr H (bq_A_twp H h8 h7) l (Or.inl hl) h, fun g => ?_⟩
    exact bq_A_sib H h8 h7 (Or.inl hl) (bq_A_tr H q l (Or.inl hl) g) h
  · obtain ⟨v, _, _⟩ := bq_on H h8 h7
    obtain ⟨l, hl, h⟩ := bq_leaf H _ v
    refine ⟨l, hl, bq_A_tr H (bq_A_onp H h8 h7) l (Or.inl hl) h, fun g => ?_⟩
    exact bq_A_sib H h8 h7 (Or.inl hl) h (bq_A_tr H q l (Or.inl hl) g)
theorem bq_inj (H : bq_T c top par on tw) {z w : Nat} (hz : bq_V c z) (hz8 : 8 ≤ z) (hw : bq_V c w) (hw8 : 8 ≤ w)
    (h : ∀ l, l < c → (bq_A top par z l ↔ bq_A top par w l)) : z = w := by
  by_cases e : z = w
  · exact e
  · exfalso
    obtain ⟨l, hl, h1⟩ := bq_leaf H z hz
    rcases bq_A_li H z w l (Or.inl hl) h1 ((h l hl).mp h1) with q | q
    · obtain ⟨m, hm, a, b⟩ := bq_sep H hz hz8 hw q e
      exact b ((h m hm).mp a)
    · obtain ⟨m, hm, a, b⟩ := bq_sep H hw hw8 hz q (fun x => e x.symm)
      exact b ((h m hm).mpr a)
end
