/-! move: x with its parent p goes beside y; s is x's sibling -/
def bq_mT1 (p s top : Nat) : Nat := if p = top then s else top
def bq_mO1 (p s top : Nat) (par on : Nat → Nat) : Nat → Nat := if p = top then on else bq_ra (par p) p s on
def bq_mT2 (y p top1 : Nat) : Nat := if y = top1 then p else top1
def bq_mO2 (y p top1 : Nat) (par1 on1 : Nat → Nat) : Nat → Nat := if y = top1 then on1 else bq_ra (par1 y) y p on1
def bq_mP3 (y p : Nat) (par1 : Nat → Nat) : Nat → Nat := bq_up (bq_up par1 p (par1 y)) y p
theorem bq_PA_u {c top : Nat} {par : Nat → Nat} {pa : Nat → Int32} {x : Nat} {v : Int32} (h : bq_PA c top par pa) (e : v = bq_en top par x) : bq_PA c top par (upd pa x v) := by
  intro z hz
  by_cases q : z = x
  · rw [q, pk_us]
    exact e
  · rw [pk_un q]
    exact h z hz
section
variable {c top : Nat} {par on tw : Nat → Nat} {pa : Nat → Int32}
/-- x, y, s, p as move meets them -/
def bq_M (c top : Nat) (par on tw : Nat → Nat) (x y s p : Nat) : Prop :=
  bq_V c x ∧ bq_V c y ∧ x ≠ top ∧ par x = p ∧ ¬ bq_A top par x y ∧ y ≠ p ∧ ((on p = x ∧ tw p = s) ∨ (tw p = x ∧ on p = s))
theorem bq_M_f (H : bq_T c top par on tw) {x y s p : Nat} (h : bq_M c top par on tw x y s p) :
    8 ≤ p ∧ p < 7 + c ∧ bq_V c s ∧ s ≠ top ∧ par s = p ∧ s ≠ x ∧ s ≠ p ∧ x ≠ p ∧ (∀ k, bq_V c k → k ≠ top → par k = p → k = x ∨ k = s) ∧ (p ≠ top → par p ≠ p) ∧ y ≠ x := by
  obtain ⟨hx, hy, xt, ep, hA, yp, hs⟩ := h
  have p8 : 8 ≤ p := by
    have := bq_p8 H hx xt
    omega
  have p7 : p < 7 + c := by
    have := bq_p7 H hx xt
    omega
  obtain ⟨v1, n1, q1⟩ := bq_on H p8 p7
  obtain ⟨v2, n2, q2⟩ := bq_tw H p8 p7
  have hne := bq_nt H p8 p7
  obtain ⟨k1, k2⟩ := bq_kne H (Or.inr ⟨p8, p7⟩) p8
  have hk : ∀ k, bq_V c k → k ≠ top → par k = p → k = on p ∨ k = tw p := by
    intro k vk nk ek
    have := bq_pk H vk nk
    rw [ek] at this
    rcases this with r | r
    · exact Or.inl r.symm
    · exact Or.inr r.symm
  have hp : p ≠ top → par p ≠ p := fun n q => by
    obtain ⟨d, hD⟩ := bq_ex H
    have := hD.2.1 p (Or.inr ⟨p8, p7⟩) n
    rw [q] at this
    omega
  have yx : y ≠ x := fun q => hA (by rw [q]; exact bq_A_rf x)
  rcases hs with ⟨e1, e2⟩ | ⟨e1, e2⟩
  · rw [← e1, ← e2]
    exact ⟨p8, p7, v2, n2, q2, fun q => hne q.symm, k2, k1, hk, hp, by rw [e1]; exact yx⟩
  · rw [← e1, ← e2]
    exact ⟨p8, p7, v1, n1, q1, hne, k1, k2, fun k a b e => (hk k a b e).symm, hp, by rw [e1]; exact yx⟩
theorem bq_mPA (H : bq_T c top par on tw) {x y s p : Nat} (h : bq_M c top par on tw x y s p) (hP : bq_PA c top par pa) :
    bq_PA c (bq_mT2 y p (bq_mT1 p s top)) (bq_mP3 y p (bq_up par s (par p))) (upd (upd (upd pa s (pa p)) p ((upd pa s (pa p)) y)) y (nI p)) := by
  obtain ⟨p8, p7, vs, st, es, sx, sp, xp, hk, hpp, yx⟩ := bq_M_f H h
  obtain ⟨hx, hy, xt, ep, hA, yp, hs⟩ := h
  have vp : bq_V c p := Or.inr ⟨p8, p7⟩
  by_cases ys : y = s
  · subst ys
    have eT : bq_mT2 y p (bq_mT1 p y top) = top := by
      rw [bq_mT2, bq_mT1]
      by_cases e : p = top
      · rw [if_pos e, if_pos rfl]
        exact e
      · rw [if_neg e, if_neg st]
    rw [eT]
    intro z hz
    by_cases e1 : z = y
    · rw [e1, pk_us, bq_en_n st, bq_mP3, bq_us]
    by_cases e2 : z = p
    · rw [e2, pk_un (fun q => yp q.symm), pk_us, pk_us, hP p vp]
      by_cases e : p = top
      · rw [e, bq_en_t, bq_en_t]
      · rw [bq_en_n e, bq_en_n e, bq_mP3, bq_un (fun q => yp q.symm), bq_us, bq_us]
    · rw [pk_un e1, pk_un e2, pk_un e1, hP z hz]
      by_cases e : z = top
      · rw [e, bq_en_t, bq_en_t]
      · rw [bq_en_n e, bq_en_n e, bq_mP3, bq_un e1, bq_un e2, bq_un e1]
  · rw [pk_un ys]
    by_cases pt : p = top
    · have yt : y ≠ top := fun q => yp (q.trans pt.symm)
      have eT : bq_mT2 y p (bq_mT1 p s top) = s := by
        rw [bq_mT2, bq_mT1, if_pos pt, if_neg ys]
      rw [eT]
      intro z hz
      by_cases e1 : z = y
      · rw [e1, pk_us, bq_en_n ys, bq_mP3, bq_us]
      by_cases e2 : z = p
      · rw [e2, pk_un (fun q => yp q.symm), pk_us, hP y hy, bq_en_n yt, bq_en_n (fun q => sp q.symm), bq_mP3, bq_un (fun q => yp q.symm), bq_us, bq_un ys]
      by_cases e3 : z = s
      · rw [e3, pk_un (fun q => ys q.symm), pk_un sp, pk_us, hP p vp, pt, bq_en_t, bq_en_t]
      · rw [pk_un e1, pk_un e2, pk_un e3, hP z hz, bq_en_n (fun q => e2 (q.trans pt.symm)), bq_en_n e3, bq_mP3, bq_un e1, bq_un e2, bq_un e3]
    · by_cases yt : y = top
      · have eT : bq_mT2 y p (bq_mT1 p s top) = p := by
          rw [bq_mT2, bq_mT1, if_neg pt, if_pos yt]
        rw [eT]
        intro z hz
        by_cases e1 : z = y
        · rw [e1, pk_us, bq_en_n yp, bq_mP3, bq_us]
        by_cases e2 : z = p
        · rw [e2, pk_un (fun q => yp q.symm), pk_us, hP y hy, yt, bq_en_t, bq_en_t]
        by_cases e3 : z = s
        · rw [e3, pk_un (fun q => ys q.symm), pk_un sp, pk_us, hP p vp, bq_en_n pt, bq_en_n sp, bq_mP3, bq_un (fun q => ys q.symm), bq_un sp, bq_us]
        · rw [pk_un e1, pk_un e2, pk_un e3, hP z hz, bq_en_n (fun q => e1 (q.trans yt.symm)), bq_en_n e2, bq_mP3, bq_un e1, bq_un e2, bq_un e3]
      · have eT : bq_mT2 y p (bq_mT1 p s top) = top := by
          rw [bq_mT2, bq_mT1, if_neg pt, if_neg yt]
        rw [eT]
        intro z hz
        by_cases e1 : z = y
        · rw [e1, pk_us, bq_en_n yt, bq_mP3, bq_us]
        by_cases e2 : z = p
        · rw [e2, pk_un (fun q => yp q.symm), pk_us, hP y hy, bq_en_n yt, bq_en_n pt, bq_mP3, bq_un (fun q => yp q.symm), bq_us, bq_un ys]
        by_cases e3 : z = s
        · rw [e3, pk_un (fun q => ys q.symm), pk_un sp, pk_us, hP p vp, bq_en_n pt, bq_en_n st, bq_mP3, bq_un (fun q => ys q.symm), bq_un sp, bq_us]
        · rw [pk_un e1, pk_un e2, pk_un e3, hP z hz]
          by_cases e : z = top
          · rw [e, bq_en_t, bq_en_t]
          · rw [bq_en_n e, bq_en_n e, bq_mP3, bq_un e1, bq_un e2, bq_un e3]
theorem bq_mH (H : bq_T c top par on tw) {x y s p : Nat} (h : bq_M c top par on tw x y s p) :
    bq_T c (bq_mT2 y p (bq_mT1 p s top)) (bq_mP3 y p (bq_up par s (par p)))
      (bq_up (bq_mO2 y p (bq_mT1 p s top) (bq_up par s (par p)) (bq_mO1 p s top par on)) p y)
      (bq_up (bq_mO2 y p (bq_mT1 p s top) (bq_up par s (par p)) (bq_mO1 p s top par tw)) p x) := by
  obtain ⟨p8, p7, vs, st, es, sx, sp, xp, hk, hpp, yx⟩ := bq_M_f H h
  obtain ⟨hx, hy, xt, ep, hA, yp, hs⟩ := h
  have vp : bq_V c p := Or.inr ⟨p8, p7⟩
  by_cases ys : y = s
  · subst ys
    have eT : bq_mT2 y p (bq_mT1 p y top) = top := by
      rw [bq_mT2, bq_mT1]
      by_cases e : p = top
      · rw [if_pos e, if_pos rfl]
        exact e
      · rw [if_neg e, if_neg st]
    rw [eT]
    refine bq_same H ?_ ?_
    · intro z hz zt
      rw [bq_mP3]
      by_cases e1 : z = y
      · rw [e1, bq_us]
        exact es.symm
      by_cases e2 : z = p
      · rw [e2, bq_un (fun q => yp q.symm), bq_us, bq_us]
      · rw [bq_un e1, bq_un e2, bq_un e1]
    · intro q h8 h7
      by_cases e : q = p
      · rw [e, bq_us, bq_us]
        rcases hs with ⟨a, b⟩ | ⟨a, b⟩
        · exact Or.inr ⟨b.symm, a.symm⟩
        · exact Or.inl ⟨b.symm, a.symm⟩
      · rw [bq_un e, bq_un e]
        refine Or.inl ?_
        have F : ∀ f : Nat → Nat, f q ≠ y → bq_mO2 y p (bq_mT1 p y top) (bq_up par y (par p)) (bq_mO1 p y top par f) q = f q := by
          intro f hf
          by_cases pt : p = top
          · rw [bq_mO2, bq_mT1, if_pos pt, if_pos rfl, bq_mO1, if_pos pt]
          · rw [bq_mO2, bq_mT1, if_neg pt, if_neg st, bq_mO1, if_neg pt, bq_us]
            by_cases g : q = par p
            · by_cases k : f q = p
              · have k2 : bq_ra (par p) p y f q = y := by
                  rw [g] at k ⊢
                  exact bq_ra_g k
                rw [k]
                rw [g] at k2 ⊢
                exact bq_ra_g k2
              · rw [bq_ra_n (by rw [bq_ra_n k]; exact hf), bq_ra_n k]
            · rw [bq_ra_o g, bq_ra_o g]
        refine ⟨F on (fun k => e ?_), F tw (fun k => e ?_)⟩
        · have := (bq_on H h8 h7).2.2
          rw [k, es] at this
          exact this.symm
        · have := (bq_tw H h8 h7).2.2
          rw [k, es] at this
          exact this.symm
  · have F : ∀ f : Nat → Nat, (∀ q, 8 ≤ q → q < 7 + c → f q ≠ top ∧ par (f q) = q) → ∀ z q, 8 ≤ q → q < 7 + c → q ≠ p →
        (f q = p → bq_up (bq_mO2 y p (bq_mT1 p s top) (bq_up par s (par p)) (bq_mO1 p s top par f)) p z q = s) ∧
        (f q = y → bq_up (bq_mO2 y p (bq_mT1 p s top) (bq_up par s (par p)) (bq_mO1 p s top par f)) p z q = p) ∧
        (f q ≠ p → f q ≠ y → bq_up (bq_mO2 y p (bq_mT1 p s top) (bq_up par s (par p)) (bq_mO1 p s top par f)) p z q = f q) := by
      intro f hf z q h8 h7 e
      obtain ⟨n, k⟩ := hf q h8 h7
      rw [bq_un e, bq_mO2, bq_un ys]
      have up1 : f q = p → bq_mO1 p s top par f q = s := fun r => by
        have pt : p ≠ top := by
          rw [← r]
          exact n
        rw [r] at k
        rw [bq_mO1, if_neg pt, k, bq_ra_g r]
      have up2 : f q ≠ p → bq_mO1 p s top par f q = f q := fun r => by
        rw [bq_mO1]
        by_cases pt : p = top
        · rw [if_pos pt]
        · rw [if_neg pt, bq_ra_n r]
      have sy : s ≠ y := fun r => ys r.symm
      refine ⟨fun r => ?_, fun r => ?_, fun r r2 => ?_⟩
      · by_cases b : y = bq_mT1 p s top
        · rw [if_pos b]
          exact up1 r
        · rw [if_neg b, bq_ra_n (by rw [up1 r]; exact sy)]
          exact up1 r
      · have yt : y ≠ top := by
          rw [← r]
          exact n
        have b : y ≠ bq_mT1 p s top := by
          rw [bq_mT1]
          by_cases pt : p = top
          · rw [if_pos pt]
            exact ys
          · rw [if_neg pt]
            exact yt
        have k2 : par y = q := by
          rw [r] at k
          exact k
        rw [if_neg b, k2]
        refine bq_ra_g ?_
        rw [up2 (by rw [r]; exact yp)]
        exact r
      · by_cases b : y = bq_mT1 p s top
        · rw [if_pos b]
          exact up2 r
        · rw [if_neg b, bq_ra_n (by rw [up2 r]; exact r2)]
          exact up2 r
    have o := F on (fun q h8 h7 => (bq_on H h8 h7).2)
    have t := F tw (fun q h8 h7 => (bq_tw H h8 h7).2)
    refine bq_mov H hx hy vs xt st ep es sx hk hA yp ys ?_ ?_ ?_ ?_ ?_ ?_ ?_ ?_ bq_us bq_us
      (fun q a b e => (o y q a b e).1) (fun q a b e => (o y q a b e).2.1) (fun q a b e => (o y q a b e).2.2)
      (fun q a b e => (t x q a b e).1) (fun q a b e => (t x q a b e).2.1) (fun q a b e => (t x q a b e).2.2)
    · rw [bq_mP3, bq_us]
    · rw [bq_mP3, bq_un (fun q => yx q.symm), bq_un xp, bq_un (fun q => sx q.symm)]
      exact ep
    · intro _
      rw [bq_mP3, bq_un (fun q => ys q.symm), bq_un sp, bq_us]
    · intro _
      rw [bq_mP3, bq_un (fun q => yp q.symm), bq_us, bq_un ys]
    · intro z _ _ b e f _
      rw [bq_mP3, bq_un b, bq_un f, bq_un e]
    · intro pt
      rw [bq_mT2, bq_mT1, if_pos pt, if_neg ys]
    · intro pt yt
      rw [bq_mT2, bq_mT1, if_neg pt, if_pos yt]
    · intro pt yt
      rw [bq_mT2, bq_mT1, if_neg pt, if_neg yt]
end
