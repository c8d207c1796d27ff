/-! the trees after attach, swap and move -/
theorem bq_Vs {c z : Nat} (h : bq_V c z) : bq_V (c + 1) z := by
  rcases h with h | h
  · exact Or.inl (by omega)
  · exact Or.inr ⟨by omega, by omega⟩
section
variable {c top top' : Nat} {par on tw d P' O' W' : Nat → Nat}
theorem bq_att (H : bq_T c top par on tw) (hc : c < 7) {x : Nat} (hx : bq_V c x)
    (hL : P' c = 7 + c) (hX : P' x = 7 + c) (hI : x ≠ top → P' (7 + c) = par x)
    (hO : ∀ z, bq_V c z → z ≠ x → z ≠ top → P' z = par z)
    (ht1 : x = top → top' = 7 + c) (ht2 : x ≠ top → top' = top)
    (o1 : O' (7 + c) = x) (w1 : W' (7 + c) = c)
    (o2 : ∀ p, 8 ≤ p → p < 7 + c → on p = x → O' p = 7 + c) (o3 : ∀ p, 8 ≤ p → p < 7 + c → on p ≠ x → O' p = on p)
    (w2 : ∀ p, 8 ≤ p → p < 7 + c → tw p = x → W' p = 7 + c) (w3 : ∀ p, 8 ≤ p → p < 7 + c → tw p ≠ x → W' p = tw p) :
    bq_T (c + 1) top' P' O' W' := by
  have hx' : x < c ∨ (8 ≤ x ∧ x < 7 + c) := hx
  have h1 := bq_c1 H
  have vt := bq_vt H
  have vt' : top < c ∨ (8 ≤ top ∧ top < 7 + c) := vt
  refine ⟨⟨by omega, by omega, ?_⟩, ?_, ?_, ?_⟩
  · by_cases e : x = top
    · rw [ht1 e]
      exact Or.inr ⟨by omega, by omega⟩
    · rw [ht2 e]
      exact bq_Vs vt
  · intro z hz hn
    by_cases e1 : z = c
    · rw [e1, hL]
      exact ⟨by omega, by omega, Or.inr w1⟩
    by_cases e2 : z = x
    · rw [e2, hX]
      exact ⟨by omega, by omega, Or.inl o1⟩
    by_cases e3 : z = 7 + c
    · have hnt : x ≠ top := fun q => hn (by rw [e3, ht1 q])
      rw [e3, hI hnt]
      have a := bq_p8 H hx hnt
      have b := bq_p7 H hx hnt
      refine ⟨a, by omega, ?_⟩
      rcases bq_pk H hx hnt with k | k
      · exact Or.inl (o2 _ a b k)
      · exact Or.inr (w2 _ a b k)
    · have hzv : bq_V c z := by
        rcases hz with h | h
        · exact Or.inl (by omega)
        · exact Or.inr ⟨by omega, by omega⟩
      have hzt : z ≠ top := fun q => by
        by_cases e : x = top
        · exact e2 (q.trans e.symm)
        · exact hn (q.trans (ht2 e).symm)
      rw [hO z hzv e2 hzt]
      have a := bq_p8 H hzv hzt
      have b := bq_p7 H hzv hzt
      refine ⟨a, by omega, ?_⟩
      rcases bq_pk H hzv hzt with k | k
      · exact Or.inl ((o3 _ a b (by rw [k]; exact e2)).trans k)
      · exact Or.inr ((w3 _ a b (by rw [k]; exact e2)).trans k)
  · intro p h8 h7
    by_cases e : p = 7 + c
    · rw [e, o1, w1]
      refine ⟨⟨bq_Vs hx, ?_, hX⟩, ⟨Or.inl (by omega), ?_, hL⟩, by omega⟩
      · by_cases q : x = top
        · rw [ht1 q]
          omega
        · rw [ht2 q]
          exact q
      · by_cases q : x = top
        · rw [ht1 q]
          omega
        · rw [ht2 q]
          omega
    · have h7' : p < 7 + c := by omega
      obtain ⟨v1, n1, p1⟩ := bq_on H h8 h7'
      obtain ⟨v2, n2, p2⟩ := bq_tw H h8 h7'
      have hne := bq_nt H h8 h7'
      have v1' : on p < c ∨ (8 ≤ on p ∧ on p < 7 + c) := v1
      have v2' : tw p < c ∨ (8 ≤ tw p ∧ tw p < 7 + c) := v2
      have K : ∀ k k', bq_V c k → k ≠ top → par k = p → (k = x → k' = 7 + c) → (k ≠ x → k' = k) → bq_V (c + 1) k' ∧ k' ≠ top' ∧ P' k' = p := by
        intro k k' v n q a b
        have v' : k < c ∨ (8 ≤ k ∧ k < 7 + c) := v
        by_cases e : k = x
        · rw [a e]
          have hnt : x ≠ top := fun r => n (e.trans r)
          refine ⟨Or.inr ⟨by omega, by omega⟩, ?_, ?_⟩
          · rw [ht2 hnt]
            omega
          · rw [hI hnt, ← e]
            exact q
        · rw [b e]
          refine ⟨bq_Vs v, ?_, ?_⟩
          · by_cases r : x = top
            · rw [ht1 r]
              omega
            · rw [ht2 r]
              exact n
          · rw [hO k v e n]
            exact q
      refine ⟨K _ _ v1 n1 p1 (o2 p h8 h7') (o3 p h8 h7'), K _ _ v2 n2 p2 (w2 p h8 h7') (w3 p h8 h7'), ?_⟩
      by_cases e1 : on p = x
      · have e2 : tw p ≠ x := fun q => hne (e1.trans q.symm)
        rw [o2 p h8 h7' e1, w3 p h8 h7' e2]
        omega
      · rw [o3 p h8 h7' e1]
        by_cases e2 : tw p = x
        · rw [w2 p h8 h7' e2]
          omega
        · rw [w3 p h8 h7' e2]
          exact hne
  · obtain ⟨d, hD⟩ := bq_ex H
    refine ⟨fun z => if z = 7 + c then 2 * d x + 1 else if z = c then 2 * d x + 2 else 2 * d z + 2, ?_⟩
    intro z hz hn
    show (if P' z = 7 + c then 2 * d x + 1 else if P' z = c then 2 * d x + 2 else 2 * d (P' z) + 2) < (if z = 7 + c then 2 * d x + 1 else if z = c then 2 * d x + 2 else 2 * d z + 2)
    by_cases e1 : z = c
    · rw [e1, hL, if_pos rfl, if_neg (show ¬ c = 7 + c by omega), if_pos rfl]
      omega
    by_cases e2 : z = x
    · rw [e2, hX, if_pos rfl, if_neg (show ¬ x = 7 + c by omega), if_neg (show ¬ x = c by omega)]
      omega
    by_cases e3 : z = 7 + c
    · have hnt : x ≠ top := fun q => hn (by rw [e3, ht1 q])
      have a := bq_p8 H hx hnt
      have b := bq_p7 H hx hnt
      have h := hD.2.1 x hx hnt
      rw [e3, hI hnt, if_neg (show ¬ par x = 7 + c by omega), if_neg (show ¬ par x = c by omega), if_pos rfl]
      omega
    · have hzv : bq_V c z := by
        rcases hz with h | h
        · exact Or.inl (by omega)
        · exact Or.inr ⟨by omega, by omega⟩
      have hzt : z ≠ top := fun q => by
        by_cases e : x = top
        · exact e2 (q.trans e.symm)
        · exact hn (q.trans (ht2 e).symm)
      have a := bq_p8 H hzv hzt
      have b := bq_p7 H hzv hzt
      have h := hD.2.1 z hzv hzt
      rw [hO z hzv e2 hzt, if_neg (show ¬ par z = 7 + c by omega), if_neg (show ¬ par z = c by omega), if_neg e3, if_neg e1]
      omega
theorem bq_ntop (H : bq_T c top par on tw) {x y : Nat} (hy : bq_V c y) (h : ¬ bq_A top par x y) : x ≠ top := fun q => h (by rw [q]; exact bq_A_all H y hy)
theorem bq_swp (H : bq_T c top par on tw) {x y : Nat} (hx : bq_V c x) (hy : bq_V c y) (h1 : ¬ bq_A top par x y) (h2 : ¬ bq_A top par y x)
    (hX : P' x = par y) (hY : P' y = par x) (hO : ∀ z, bq_V c z → z ≠ x → z ≠ y → z ≠ top → P' z = par z)
    (o1 : ∀ p, 8 ≤ p → p < 7 + c → on p = x → O' p = y) (o2 : ∀ p, 8 ≤ p → p < 7 + c → on p = y → O' p = x) (o3 : ∀ p, 8 ≤ p → p < 7 + c → on p ≠ x → on p ≠ y → O' p = on p)
    (w1 : ∀ p, 8 ≤ p → p < 7 + c → tw p = x → W' p = y) (w2 : ∀ p, 8 ≤ p → p < 7 + c → tw p = y → W' p = x) (w3 : ∀ p, 8 ≤ p → p < 7 + c → tw p ≠ x → tw p ≠ y → W' p = tw p) :
    bq_T c top P' O' W' := by
  have xt : x ≠ top := bq_ntop H hy h1
  have yt : y ≠ top := bq_ntop H hx h2
  have xy : x ≠ y := fun q => h1 (by rw [q]; exact bq_A_rf y)
  refine ⟨H.1, ?_, ?_, ?_⟩
  · intro z hz hn
    by_cases e1 : z = x
    · have a := bq_p8 H hy yt
      have b := bq_p7 H hy yt
      rw [e1, hX]
      refine ⟨a, b, ?_⟩
      rcases bq_pk H hy yt with k | k
      · exact Or.inl (o2 _ a b k)
      · exact Or.inr (w2 _ a b k)
    by_cases e2 : z = y
    · have a := bq_p8 H hx xt
      have b := bq_p7 H hx xt
      rw [e2, hY]
      refine ⟨a, b, ?_⟩
      rcases bq_pk H hx xt with k | k
      · exact Or.inl (o1 _ a b k)
      · exact Or.inr (w1 _ a b k)
    · have a := bq_p8 H hz hn
      have b := bq_p7 H hz hn
      rw [hO z hz e1 e2 hn]
      refine ⟨a, b, ?_⟩
      rcases bq_pk H hz hn with k | k
      · exact Or.inl ((o3 _ a b (by rw [k]; exact e1) (by rw [k]; exact e2)).trans k)
      · exact Or.inr ((w3 _ a b (by rw [k]; exact e1) (by rw [k]; exact e2)).trans k)
  · intro p h8 h7
    obtain ⟨v1, n1, p1⟩ := bq_on H h8 h7
    obtain ⟨v2, n2, p2⟩ := bq_tw H h8 h7
    have hne := bq_nt H h8 h7
    have K : ∀ k k', bq_V c k → k ≠ top → par k = p → (k = x → k' = y) → (k = y → k' = x) → (k ≠ x → k ≠ y → k' = k) → bq_V c k' ∧ k' ≠ top ∧ P' k' = p := by
      intro k k' v n q a b e
      by_cases e1 : k = x
      · rw [a e1]
        exact ⟨hy, yt, by rw [hY, ← e1]; exact q⟩
      by_cases e2 : k = y
      · rw [b e2]
        exact ⟨hx, xt, by rw [hX, ← e2]; exact q⟩
      · rw [e e1 e2]
        exact ⟨v, n, by rw [hO k v e1 e2 n]; exact q⟩
    refine ⟨K _ _ v1 n1 p1 (o1 p h8 h7) (o2 p h8 h7) (o3 p h8 h7), K _ _ v2 n2 p2 (w1 p h8 h7) (w2 p h8 h7) (w3 p h8 h7), ?_⟩
    by_cases a1 : on p = x
    · rw [o1 p h8 h7 a1]
      have a2 : tw p ≠ x := fun q => hne (a1.trans q.symm)
      by_cases b2 : tw p = y
      · rw [w2 p h8 h7 b2]
        exact fun q => xy q.symm
      · rw [w3 p h8 h7 a2 b2]
        exact fun q => b2 q.symm
    by_cases b1 : on p = y
    · rw [o2 p h8 h7 b1]
      have b2 : tw p ≠ y := fun q => hne (b1.trans q.symm)
      by_cases a2 : tw p = x
      · rw [w1 p h8 h7 a2]
        exact xy
      · rw [w3 p h8 h7 a2 b2]
        exact fun q => a2 q.symm
    · rw [o3 p h8 h7 a1 b1]
      by_cases a2 : tw p = x
      · rw [w1 p h8 h7 a2]
        exact b1
      by_cases b2 : tw p = y
      · rw [w2 p h8 h7 b2]
        exact a1
      · rw [w3 p h8 h7 a2 b2]
        exact hne
  · obtain ⟨d, hD⟩ := bq_ex H
    refine ⟨fun z => if bq_A top par x z then d z - d x + d y else if bq_A top par y z then d z - d y + d x else d z, ?_⟩
    intro z hz hn
    show (if bq_A top par x (P' z) then d (P' z) - d x + d y else if bq_A top par y (P' z) then d (P' z) - d y + d x else d (P' z)) < (if bq_A top par x z then d z - d x + d y else if bq_A top par y z then d z - d y + d x else d z)
    by_cases e1 : z = x
    · have h := hD.2.1 y hy yt
      rw [e1, hX, if_neg (fun q => h1 (bq_A_st H hy yt q)), if_neg (bq_par_nA H hy yt), if_pos (bq_A_rf x)]
      omega
    by_cases e2 : z = y
    · have h := hD.2.1 x hx xt
      rw [e2, hY, if_neg (bq_par_nA H hx xt), if_neg (fun q => h2 (bq_A_st H hx xt q)), if_neg h1, if_pos (bq_A_rf y)]
      omega
    · have h := hD.2.1 z hz hn
      have ux := bq_A_up H hz hn e1
      have uy := bq_A_up H hz hn e2
      have vp := bq_pv H hz hn
      rw [hO z hz e1 e2 hn]
      by_cases q1 : bq_A top par x z
      · have q2 := ux.mp q1
        rw [if_pos q1, if_pos q2]
        rcases bq_A_d H hD x _ vp q2 with r | r
        · rw [r]
          rw [r] at h
          omega
        · omega
      · have q2 : ¬ bq_A top par x (par z) := fun r => q1 (ux.mpr r)
        rw [if_neg q1, if_neg q2]
        by_cases q3 : bq_A top par y z
        · have q4 := uy.mp q3
          rw [if_pos q3, if_pos q4]
          rcases bq_A_d H hD y _ vp q4 with r | r
          · rw [r]
            rw [r] at h
            omega
          · omega
        · have q4 : ¬ bq_A top par y (par z) := fun r => q3 (uy.mpr r)
          rw [if_neg q3, if_neg q4]
          omega
theorem bq_mov (H : bq_T c top par on tw) {x y s p : Nat} (hx : bq_V c x) (hy : bq_V c y) (hs : bq_V c s) (xt : x ≠ top) (st : s ≠ top)
    (ep : par x = p) (es : par s = p) (sx : s ≠ x) (hk : ∀ k, bq_V c k → k ≠ top → par k = p → k = x ∨ k = s)
    (hA : ¬ bq_A top par x y) (yp : y ≠ p) (ys : y ≠ s)
    (hPy : P' y = p) (hPx : P' x = p) (hPs : p ≠ top → P' s = par p) (hPp : y ≠ top → P' p = par y)
    (hO : ∀ z, bq_V c z → z ≠ x → z ≠ y → z ≠ s → z ≠ p → z ≠ top → P' z = par z)
    (t1 : p = top → top' = s) (t2 : p ≠ top → y = top → top' = p) (t3 : p ≠ top → y ≠ top → top' = top)
    (oP : O' p = y) (wP : W' p = x)
    (o1 : ∀ q, 8 ≤ q → q < 7 + c → q ≠ p → on q = p → O' q = s) (o2 : ∀ q, 8 ≤ q → q < 7 + c → q ≠ p → on q = y → O' q = p) (o3 : ∀ q, 8 ≤ q → q < 7 + c → q ≠ p → on q ≠ p → on q ≠ y → O' q = on q)
    (w1 : ∀ q, 8 ≤ q → q < 7 + c → q ≠ p → tw q = p → W' q = s) (w2 : ∀ q, 8 ≤ q → q < 7 + c → q ≠ p → tw q = y → W' q = p) (w3 : ∀ q, 8 ≤ q → q < 7 + c → q ≠ p → tw q ≠ p → tw q ≠ y → W' q = tw q) :
    bq_T c top' P' O' W' := by
  have yx : y ≠ x := fun q => hA (by rw [q]; exact bq_A_rf x)
  have p8 : 8 ≤ p := by
    have := bq_p8 H hx xt
    omega
  have p7 : p < 7 + c := by
    have := bq_p7 H hx xt
    omega
  have vp : bq_V c p := Or.inr ⟨p8, p7⟩
  have npx : ¬ bq_A top par x p := by
    have := bq_par_nA H hx xt
    rw [ep] at this
    exact this
  obtain ⟨d, hD⟩ := bq_ex H
  have dx := hD.2.1 x hx xt
  have ds := hD.2.1 s hs st
  rw [ep] at dx
  rw [es] at ds
  have nsx : ¬ bq_A top par x s := fun q => by
    rcases bq_A_d H hD x s hs q with r | r
    · exact sx r
    · omega
  have xp : x ≠ p := fun q => npx (by rw [← q]; exact bq_A_rf x)
  have sp : s ≠ p := fun q => by
    rw [q] at ds
    omega
  have tp : p = top → y ≠ top := fun q r => yp (r.trans q.symm)
  have zt : ∀ z, z ≠ top' → z ≠ s → z ≠ p → z ≠ y → z ≠ top := fun z a b e f q => by
    have hpt : p ≠ top := fun r => e (q.trans r.symm)
    have hyt : y ≠ top := fun r => f (q.trans r.symm)
    exact a (q.trans (t3 hpt hyt).symm)
  have tz : ∀ z, z ≠ top → z ≠ s → z ≠ p → z ≠ top' := fun z a b e q => by
    by_cases r : p = top
    · exact b (q.trans (t1 r))
    by_cases u : y = top
    · exact e (q.trans (t2 r u))
    · exact a (q.trans (t3 r u))
  have yt' : y ≠ top' := fun q => by
    by_cases r : p = top
    · exact ys (q.trans (t1 r))
    by_cases u : y = top
    · exact yp (q.trans (t2 r u))
    · exact u (q.trans (t3 r u))
  refine ⟨⟨bq_c1 H, bq_c7 H, ?_⟩, ?_, ?_, ?_⟩
  · by_cases r : p = top
    · rw [t1 r]
      exact hs
    by_cases u : y = top
    · rw [t2 r u]
      exact vp
    · rw [t3 r u]
      exact bq_vt H
  · intro z hz hn
    by_cases e1 : z = x
    · rw [e1, hPx]
      exact ⟨p8, p7, Or.inr wP⟩
    by_cases e2 : z = y
    · rw [e2, hPy]
      exact ⟨p8, p7, Or.inl oP⟩
    by_cases e3 : z = s
    · have hpt : p ≠ top := fun r => hn (e3.trans (t1 r).symm)
      have a := bq_p8 H vp hpt
      have b := bq_p7 H vp hpt
      have g : par p ≠ p := fun q => by
        have := hD.2.1 p vp hpt
        rw [q] at this
        omega
      rw [e3, hPs hpt]
      refine ⟨a, b, ?_⟩
      rcases bq_pk H vp hpt with k | k
      · exact Or.inl (o1 _ a b g k)
      · exact Or.inr (w1 _ a b g k)
    by_cases e4 : z = p
    · have hyt : y ≠ top := fun u => by
        by_cases r : p = top
        · exact tp r u
        · exact hn (e4.trans (t2 r u).symm)
      have a := bq_p8 H hy hyt
      have b := bq_p7 H hy hyt
      have g : par y ≠ p := fun q => by
        rcases hk y hy hyt q with r | r
        · exact yx r
        · exact ys r
      rw [e4, hPp hyt]
      refine ⟨a, b, ?_⟩
      rcases bq_pk H hy hyt with k | k
      · exact Or.inl (o2 _ a b g k)
      · exact Or.inr (w2 _ a b g k)
    · have hzt := zt z hn e3 e4 e2
      have a := bq_p8 H hz hzt
      have b := bq_p7 H hz hzt
      have g : par z ≠ p := fun q => by
        rcases hk z hz hzt q with r | r
        · exact e1 r
        · exact e3 r
      rw [hO z hz e1 e2 e3 e4 hzt]
      refine ⟨a, b, ?_⟩
      rcases bq_pk H hz hzt with k | k
      · exact Or.inl ((o3 _ a b g (by rw [k]; exact e4) (by rw [k]; exact e2)).trans k)
      · exact Or.inr ((w3 _ a b g (by rw [k]; exact e4) (by rw [k]; exact e2)).trans k)
  · intro q h8 h7
    by_cases e : q = p
    · rw [e, oP, wP]
      exact ⟨⟨hy, yt', hPy⟩, ⟨hx, tz x xt (fun r => sx r.symm) xp, hPx⟩, yx⟩
    · obtain ⟨v1, n1, p1⟩ := bq_on H h8 h7
      obtain ⟨v2, n2, p2⟩ := bq_tw H h8 h7
      have hne := bq_nt H h8 h7
      have ks : ∀ k, par k = q → k ≠ s := fun k a r => e (by rw [← a, r]; exact es)
      have kx : ∀ k, par k = q → k ≠ x := fun k a r => e (by rw [← a, r]; exact ep)
      have K : ∀ k k', bq_V c k → k ≠ top → par k = q → (k = p → k' = s) → (k = y → k' = p) → (k ≠ p → k ≠ y → k' = k) → bq_V c k' ∧ k' ≠ top' ∧ P' k' = q := by
        intro k k' v n u a b f
        by_cases e1 : k = p
        · have hpt : p ≠ top := fun r => n (e1.trans r)
          rw [a e1]
          refine ⟨hs, fun r => ?_, by rw [hPs hpt, ← e1]; exact u⟩
          by_cases w : y = top
          · exact sp (r.trans (t2 hpt w))
          · exact st (r.trans (t3 hpt w))
        by_cases e2 : k = y
        · have hyt : y ≠ top := fun r => n (e2.trans r)
          rw [b e2]
          refine ⟨vp, fun r => ?_, by rw [hPp hyt, ← e2]; exact u⟩
          by_cases w : p = top
          · exact sp (r.trans (t1 w)).symm
          · exact w (r.trans (t3 w hyt))
        · rw [f e1 e2]
          exact ⟨v, tz k n (ks k u) e1, by rw [hO k v (kx k u) e2 (ks k u) e1 n]; exact u⟩
      refine ⟨K _ _ v1 n1 p1 (o1 q h8 h7 e) (o2 q h8 h7 e) (o3 q h8 h7 e), K _ _ v2 n2 p2 (w1 q h8 h7 e) (w2 q h8 h7 e) (w3 q h8 h7 e), ?_⟩
      by_cases a1 : on q = p
      · rw [o1 q h8 h7 e a1]
        have a2 : tw q ≠ p := fun r => hne (a1.trans r.symm)
        by_cases b2 : tw q = y
        · rw [w2 q h8 h7 e b2]
          exact sp
        · rw [w3 q h8 h7 e a2 b2]
          exact fun r => ks _ p2 r.symm
      by_cases b1 : on q = y
      · rw [o2 q h8 h7 e b1]
        have b2 : tw q ≠ y := fun r => hne (b1.trans r.symm)
        by_cases a2 : tw q = p
        · rw [w1 q h8 h7 e a2]
          exact fun r => sp r.symm
        · rw [w3 q h8 h7 e a2 b2]
          exact fun r => a2 r.symm
      · rw [o3 q h8 h7 e a1 b1]
        by_cases a2 : tw q = p
        · rw [w1 q h8 h7 e a2]
          exact ks _ p1
        by_cases b2 : tw q = y
        · rw [w2 q h8 h7 e b2]
          exact a1
        · rw [w3 q h8 h7 e a2 b2]
          exact hne
  · refine ⟨fun z => if bq_A top par x z then 2 * d y + 3 + (d z - d x) else if z = p then 2 * d y + 1 else 2 * d z + 2, ?_⟩
    intro z hz hn
    show (if bq_A top par x (P' z) then 2 * d y + 3 + (d (P' z) - d x) else if P' z = p then 2 * d y + 1 else 2 * d (P' z) + 2) < (if bq_A top par x z then 2 * d y + 3 + (d z - d x) else if z = p then 2 * d y + 1 else 2 * d z + 2)
    by_cases e1 : z = x
    · rw [e1, hPx, if_neg npx, if_pos rfl, if_pos (bq_A_rf x)]
      omega
    by_cases e2 : z = y
    · rw [e2, hPy, if_neg npx, if_pos rfl, if_neg hA, if_neg yp]
      omega
    by_cases e3 : z = s
    · have hpt : p ≠ top := fun r => hn (e3.trans (t1 r).symm)
      have hp := hD.2.1 p vp hpt
      rw [e3, hPs hpt, if_neg (fun q => npx (bq_A_st H vp hpt q)), if_neg (show ¬ par p = p from fun q => by rw [q] at hp; omega), if_neg nsx, if_neg sp]
      omega
    by_cases e4 : z = p
    · have hyt : y ≠ top := fun u => by
        by_cases r : p = top
        · exact tp r u
        · exact hn (e4.trans (t2 r u).symm)
      have g : par y ≠ p := fun q => by
        rcases hk y hy hyt q with r | r
        · exact yx r
        · exact ys r
      have hq := hD.2.1 y hy hyt
      rw [e4, hPp hyt, if_neg (fun q => hA (bq_A_st H hy hyt q)), if_neg g, if_neg npx, if_pos rfl]
      omega
    · have hzt := zt z hn e3 e4 e2
      have g : par z ≠ p := fun q => by
        rcases hk z hz hzt q with r | r
        · exact e1 r
        · exact e3 r
      have h := hD.2.1 z hz hzt
      have ux := bq_A_up H hz hzt e1
      have vz := bq_pv H hz hzt
      rw [hO z hz e1 e2 e3 e4 hzt]
      by_cases q1 : bq_A top par x z
      · have q2 := ux.mp q1
        rw [if_pos q1, if_pos q2]
        rcases bq_A_d H hD x _ vz q2 with r | r
        · rw [r]
          rw [r] at h
          omega
        · omega
      · have q2 : ¬ bq_A top par x (par z) := fun r => q1 (ux.mpr r)
        rw [if_neg q1, if_neg q2, if_neg g, if_neg e4]
        omega
theorem bq_same (H : bq_T c top par on tw) (hO : ∀ z, bq_V c z → z ≠ top → P' z = par z)
    (ho : ∀ p, 8 ≤ p → p < 7 + c → (O' p = on p ∧ W' p = tw p) ∨ (O' p = tw p ∧ W' p = on p)) : bq_T c top P' O' W' := by
  refine ⟨H.1, ?_, ?_, ?_⟩
  · intro z hz hn
    have a := bq_p8 H hz hn
    have b := bq_p7 H hz hn
    rw [hO z hz hn]
    refine ⟨a, b, ?_⟩
    rcases ho _ a b with ⟨e1, e2⟩ | ⟨e1, e2⟩ <;> rw [e1, e2]
    · exact bq_pk H hz hn
    · exact (bq_pk H hz hn).symm
  · intro p h8 h7
    obtain ⟨v1, n1, p1⟩ := bq_on H h8 h7
    obtain ⟨v2, n2, p2⟩ := bq_tw H h8 h7
    have hne := bq_nt H h8 h7
    rcases ho p h8 h7 with ⟨e1, e2⟩ | ⟨e1, e2⟩ <;> rw [e1, e2]
    · exact ⟨⟨v1, n1, (hO _ v1 n1).trans p1⟩, ⟨v2, n2, (hO _ v2 n2).trans p2⟩, hne⟩
    · exact ⟨⟨v2, n2, (hO _ v2 n2).trans p2⟩, ⟨v1, n1, (hO _ v1 n1).trans p1⟩, fun q => hne q.symm⟩
  · obtain ⟨rk, hr⟩ := H.2.2.2
    exact ⟨rk, fun z hz hn => by rw [hO z hz hn]; exact hr z hz hn⟩
end
