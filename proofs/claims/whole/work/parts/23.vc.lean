-- Part 23: the owed statements of the reading methods (written by wip/whole/gen23.py)
theorem sq_nlem {m : Nat} {x : Int32} (h : nI (m + 1) ≤ x) (hm : m + 1 < 2 ^ 31) : ¬ x ≤ nI m := fun y => Int32.lt_irrefl (Int32.lt_of_lt_of_le (sq_ltle (a := m) h (by omega) hm) y)
theorem sq_ybelowx {post : Int32 → Prop} {L : Nat → Nat} {n e m i j : Nat} {so : Nat → Int32} {x : Int32} (hx : x = nI m) (hL : ∀ j, L j < 8) (hn : n ≤ 200) (he : e < 7) (hij : i ≤ j) (hj : j ≤ n) (hm : m ≤ 8) (h : post (nI (sq_cb L m j - sq_cb L m i))) : wpY_below post (nI n, sq_l L, so) (nI e) (nI i) (nI j) x := by
  subst hx
  exact sq_ybelow hL hn he hij hj hm h
theorem sq_yordL {post : Int32 → Prop} {L : Nat → Nat} {n e i j q a : Nat} {so : Nat → Int32} (hL : ∀ j, L j < 8) (hn : n ≤ 200) (he : e < 7) (hij : i ≤ j) (hj : j ≤ n) (ha : a < 8) (hq : q ≤ 200) (h1 : sq_D L i j a ≤ q) (h2 : q < sq_D L i j (a + 1)) (h : post (nI a)) : ∃ n', wY_ordered_35 post (nI e) (nI i) (nI j) (nI q) (nI n) (sq_l L) so n' 0 := by
  have db : ∀ m, sq_D L i j m ≤ 200 := fun m => by
    have := sq_cble L m j
    unfold sq_D
    omega
  exact loop_0 (σ := Unit) (fun n' l _ => wY_ordered_35 post (nI e) (nI i) (nI j) (nI q) (nI n) (sq_l L) so n' (nI l)) (fun _ _ => True) a () trivial
    (fun n' _ _ => by
      rw [wY_ordered_35]
      refine sq_ybelowx (nI_1 a) hL hn he hij hj (by omega) ?_
      have := db (a + 1)
      exact br_t (nI_lt (b := sq_D L i j (a + 1)) h2 (by omega)) h)
    (fun n' l _ hl _ k => by
      have mo := sq_Dmono L hij (a := l + 1) a (by omega)
      rw [wY_ordered_35]
      exact sq_ybelowx (nI_1 l) hL hn he hij hj (by omega) (br_f (nI_nlt (a := q) (b := sq_D L i j (l + 1)) (by omega) (by omega)) (nm_r (nI_1 l) (k () trivial))))
theorem sq_ymostL {post : Int32 → Prop} {L : Nat → Nat} {n i j : Nat} {so : Nat → Int32} (hL : ∀ j, L j < 8) (hij : i ≤ j) (hj : j ≤ 200) (h : post (nI (sq_mo (fun l => sq_rk L l j - sq_rk L l i) 8))) : ∃ n', wY_most_30 post (nI i) (nI j) (nI n) (sq_l L) so n' 0 1 :=
  pk_loop (σ := Int32) (fun n' l x4 => wY_most_30 post (nI i) (nI j) (nI n) (sq_l L) so n' x4 (nI l)) (fun l x4 => 1 ≤ l ∧ x4 = nI (sq_mo (fun l => sq_rk L l j - sq_rk L l i) l)) 8 1 0 (by decide) ⟨Nat.le_refl 1, by
      have : sq_mo (fun l => sq_rk L l j - sq_rk L l i) (0 + 1) = 0 := Nat.le_zero.mp (sq_mole _ 0)
      rw [show (1 : Nat) = 0 + 1 from rfl, this]
      rfl⟩
    (fun n' x4 e => br_t (nI_le (Nat.le_refl 8) (by decide)) (sq_v (P := post) e.2 h))
    (fun n' l x4 hl e k => by
      obtain ⟨e0, e1⟩ := e
      subst e1
      have ml : sq_mo (fun l => sq_rk L l j - sq_rk L l i) l < 8 := by
        have := sq_mole (fun l => sq_rk L l j - sq_rk L l i) (l - 1)
        rw [show l - 1 + 1 = l by omega] at this
        omega
      have mos : sq_mo (fun l => sq_rk L l j - sq_rk L l i) (l + 1) = if sq_rk L (sq_mo (fun l => sq_rk L l j - sq_rk L l i) l) j - sq_rk L (sq_mo (fun l => sq_rk L l j - sq_rk L l i) l) i < sq_rk L l j - sq_rk L l i then l else sq_mo (fun l => sq_rk L l j - sq_rk L l i) l := rfl
      have b1 := sq_rkle L l j
      have b2 := sq_rkle L (sq_mo (fun l => sq_rk L l j - sq_rk L l i) l) j
      refine br_f (nI_ge (b := 8) hl (by decide)) (sq_yoften hL (by omega) hij hj (sq_yoften hL (by omega) hij hj (pk_le (sq_rk L l j - sq_rk L l i) (sq_rk L (sq_mo (fun l => sq_rk L l j - sq_rk L l i) l) j - sq_rk L (sq_mo (fun l => sq_rk L l j - sq_rk L l i) l) i) (fun z => ?_) (fun z => ?_))))
      · exact nm_r (nI_1 l) (k _ ⟨by omega, by rw [mos, if_neg (by omega)]⟩)
      · exact nm_r (nI_1 l) (k _ ⟨by omega, by rw [mos, if_pos z]⟩))

theorem i_vc_select {k : Nat} {u : SX} {v : SY} (I : i_Rel k u v) (hk : k + 5 ≤ 2560) (v1 : Int32) (v2 : Int32) (v3 : Int32) : wpX_select (fun r => wpY_select (fun r' => r' = r ∧ i_Rel (k + 5) u v) v v1 v2 v3) u v1 v2 v3 := by
  have J : i_Rel (k + 5) u v := I
  obtain ⟨L, n, rc, sl, pw, tb, mb, mz, lr, rn, lc, gw, go, cl, cs, col, lbc, sm, ss, sr, hi, lo, so, hL, hn, rfl, rfl, H⟩ := I
  unfold wpX_select
  rcases sq_ix3 v1 (n := 7) (by decide) with h1 | ⟨e, he, rfl⟩
  · exact sq_xeng0 h1 (br_t rfl (sq_yselE hn h1 ⟨rfl, J⟩))
  · refine sq_xeng1 he (br_f (by decide) ?_)
    rcases sq_ix3 v2 (n := 8) (by decide) with h2 | ⟨l, hl, rfl⟩
    · exact sq_xlet0 h2 (br_t rfl (sq_yselN hL hn he h2 ⟨rfl, J⟩))
    · refine sq_xlet1 hl (br_f (by decide) ?_)
      by_cases h3 : v3 < 0
      · exact br_f (fun z => Int32.lt_irrefl (Int32.lt_of_lt_of_le h3 z)) (sq_yselL hL hn he hl (fun i hi _ w => by
          have := sq_rkle L l i
          rw [← w] at h3
          exact nI_pos (by omega) h3) ⟨rfl, J⟩)
      · obtain ⟨q, hq, rfl⟩ := nI_of h3
        have rn' := sq_rkle L l n
        refine br_t (nI_pos' hq) (sq_xrankBy hL hn H he hl (Nat.le_refl n) rfl (pk_lt q (sq_rk L l n) (fun w => ?_) (fun w => ?_)))
        · exact sq_xselL hL hn H he hl w (fun p y1 y2 y3 => by
            subst y3
            exact sq_yselS hL hn he hl y1 y2 ⟨rfl, J⟩)
        · exact sq_yselL hL hn he hl (fun i hi hli z => by
            have a1 := sq_rkmono L l (show i + 1 ≤ n by omega)
            rw [sq_rkt hli] at a1
            rw [nI_eq (by omega) hq] at z
            omega) ⟨rfl, J⟩
theorem i_vc_below {k : Nat} {u : SX} {v : SY} (I : i_Rel k u v) (hk : k + 5 ≤ 2560) (v1 : Int32) (v2 : Int32) (v3 : Int32) (v4 : Int32) : wpX_below (fun r => wpY_below (fun r' => r' = r ∧ i_Rel (k + 5) u v) v v1 v2 v3 v4) u v1 v2 v3 v4 := by
  have J : i_Rel (k + 5) u v := I
  obtain ⟨L, n, rc, sl, pw, tb, mb, mz, lr, rn, lc, gw, go, cl, cs, col, lbc, sm, ss, sr, hi, lo, so, hL, hn, rfl, rfl, H⟩ := I
  unfold wpX_below
  rcases sq_ix3 v1 (n := 7) (by decide) with h1 | ⟨e, he, rfl⟩
  · exact sq_xeng0 h1 (br_t rfl (by show wpY_below _ _ _ _ _ _; unfold wpY_below; exact sq_yeng0 h1 (br_t rfl ⟨rfl, J⟩)))
  · refine sq_xeng1 he (br_f (by decide) ?_)
    rcases sq_rngc v2 v3 hn with h2 | ⟨i, j, hij, hj, rfl, rfl⟩
    · exact sq_xrng0 h2 (br_t rfl (by show wpY_below _ _ _ _ _ _; unfold wpY_below; exact sq_yeng1 he (br_f (by decide) (sq_yrng0 h2 (br_t rfl ⟨rfl, J⟩)))))
    · refine sq_xrng1 hn hij hj (br_f (by decide) ?_)
      rcases sq_ix3 v4 (n := 9) (by decide) with h4 | ⟨m, hm, rfl⟩
      · have ny : wpY_below (fun r' => r' = -1 ∧ i_Rel (k + 5) ((nI n), rc, sl, (sq_l L), pw, tb, mb, mz, lr, rn, lc, gw, go, cl, cs, col, lbc, sm, ss, sr, hi, lo) (nI n, sq_l L, so)) (nI n, sq_l L, so) (nI e) (nI i) (nI j) v4 := (by show wpY_below _ _ _ _ _ _; unfold wpY_below; exact sq_yeng1 he (br_f (by decide) (sq_yrng1 hn hij hj (br_f (by decide) (br_c (fun _ => ⟨rfl, J⟩) (fun z => br_f (sq_nlem (m := 8) (h4.resolve_left z) (by decide)) ⟨rfl, J⟩))))))
        exact br_c (fun _ => ny) (fun z => br_f (sq_nlem (m := 8) (h4.resolve_left z) (by decide)) ny)
      · exact br_f (nI_pos (by omega)) (br_t (nI_le (b := 8) (by omega) (by decide)) (sq_xbelowL hL hn H he hij hj (by omega) (sq_ybelow hL hn he hij hj (by omega) ⟨rfl, J⟩)))
theorem i_vc_ordered {k : Nat} {u : SX} {v : SY} (I : i_Rel k u v) (hk : k + 5 ≤ 2560) (v1 : Int32) (v2 : Int32) (v3 : Int32) (v4 : Int32) : wpX_ordered (fun r => wpY_ordered (fun r' => r' = r ∧ i_Rel (k + 5) u v) v v1 v2 v3 v4) u v1 v2 v3 v4 := by
  have J : i_Rel (k + 5) u v := I
  obtain ⟨L, n, rc, sl, pw, tb, mb, mz, lr, rn, lc, gw, go, cl, cs, col, lbc, sm, ss, sr, hi, lo, so, hL, hn, rfl, rfl, H⟩ := I
  unfold wpX_ordered
  rcases sq_ix3 v1 (n := 7) (by decide) with h1 | ⟨e, he, rfl⟩
  · exact sq_xeng0 h1 (br_t rfl (by show wpY_ordered _ _ _ _ _ _; unfold wpY_ordered; exact sq_yeng0 h1 (br_t rfl ⟨rfl, J⟩)))
  · refine sq_xeng1 he (br_f (by decide) ?_)
    rcases sq_rngc v2 v3 hn with h2 | ⟨i, j, hij, hj, rfl, rfl⟩
    · exact sq_xrng0 h2 (br_t rfl (by show wpY_ordered _ _ _ _ _ _; unfold wpY_ordered; exact sq_yeng1 he (br_f (by decide) (sq_yrng0 h2 (br_t rfl ⟨rfl, J⟩)))))
    · refine sq_xrng1 hn hij hj (br_f (by decide) ?_)
      by_cases h4 : v4 < 0
      · exact br_t h4 (by show wpY_ordered _ _ _ _ _ _; unfold wpY_ordered; exact sq_yeng1 he (br_f (by decide) (sq_yrng1 hn hij hj (br_f (by decide) (br_t h4 ⟨rfl, J⟩)))))
      · obtain ⟨q, hq, rfl⟩ := nI_of h4
        refine br_f h4 (pk_lt q (j - i) (fun w => ?_) (fun w => ?_) rfl (pk_sub hij))
        · have d8 : sq_D L i j 8 = j - i := by unfold sq_D; rw [sq_cb8 hL, sq_cb8 hL]
          obtain ⟨a, a1, a2, a3⟩ := sq_ordex L (i := i) (j := j) (q := q) 8 (by omega)
          exact sq_xorderedL hL hn H he hij hj a1 (by omega) a2 a3 (by show wpY_ordered _ _ _ _ _ _; unfold wpY_ordered; exact sq_yeng1 he (br_f (by decide) (sq_yrng1 hn hij hj (br_f (by decide) (br_f h4 (br_t (by rw [pk_sub hij]; exact nI_lt w (by omega)) (sq_yordL hL hn he hij hj a1 (by omega) a2 a3 ⟨rfl, J⟩)))))))
        · exact (by show wpY_ordered _ _ _ _ _ _; unfold wpY_ordered; exact sq_yeng1 he (br_f (by decide) (sq_yrng1 hn hij hj (br_f (by decide) (br_f h4 (br_f (by rw [pk_sub hij]; exact nI_nlt w hq) ⟨rfl, J⟩))))))
theorem i_vc_most {k : Nat} {u : SX} {v : SY} (I : i_Rel k u v) (hk : k + 5 ≤ 2560) (v1 : Int32) (v2 : Int32) (v3 : Int32) : wpX_most (fun r => wpY_most (fun r' => r' = r ∧ i_Rel (k + 5) u v) v v1 v2 v3) u v1 v2 v3 := by
  have J : i_Rel (k + 5) u v := I
  obtain ⟨L, n, rc, sl, pw, tb, mb, mz, lr, rn, lc, gw, go, cl, cs, col, lbc, sm, ss, sr, hi, lo, so, hL, hn, rfl, rfl, H⟩ := I
  unfold wpX_most
  rcases sq_ix3 v1 (n := 7) (by decide) with h1 | ⟨e, he, rfl⟩
  · exact sq_xeng0 h1 (br_t rfl (by show wpY_most _ _ _ _ _; unfold wpY_most; exact sq_yeng0 h1 (br_t rfl ⟨rfl, J⟩)))
  · refine sq_xeng1 he (br_f (by decide) ?_)
    rcases sq_rngc v2 v3 hn with h2 | ⟨i, j, hij, hj, rfl, rfl⟩
    · exact sq_xrng0 h2 (br_t rfl (by show wpY_most _ _ _ _ _; unfold wpY_most; exact sq_yeng1 he (br_f (by decide) (sq_yrng0 h2 (br_t rfl ⟨rfl, J⟩)))))
    · refine sq_xrng1 hn hij hj (br_f (by decide) ?_)
      refine pk_eq i j (fun w => ?_) (fun w => ?_)
      · exact (by show wpY_most _ _ _ _ _; unfold wpY_most; exact sq_yeng1 he (br_f (by decide) (sq_yrng1 hn hij hj (br_f (by decide) (br_t (by rw [w]) ⟨rfl, J⟩)))))
      · exact sq_xmostL hL hn H he (by omega) hj (by show wpY_most _ _ _ _ _; unfold wpY_most; exact sq_yeng1 he (br_f (by decide) (sq_yrng1 hn hij hj (br_f (by decide) (br_f (fun z => w ((nI_eq (by omega) (by omega)).mp z)) (sq_ymostL hL hij (by omega) ⟨rfl, J⟩))))))
theorem i_vc_agree {k : Nat} {u : SX} {v : SY} (I : i_Rel k u v) (hk : k + 5 ≤ 2560) (v1 : Int32) (v2 : Int32) : wpX_agree (fun r => wpY_agree (fun r' => r' = r ∧ i_Rel (k + 5) u v) v v1 v2) u v1 v2 := by
  have J : i_Rel (k + 5) u v := I
  obtain ⟨L, n, rc, sl, pw, tb, mb, mz, lr, rn, lc, gw, go, cl, cs, col, lbc, sm, ss, sr, hi, lo, so, hL, hn, rfl, rfl, H⟩ := I
  unfold wpX_agree
  rcases sq_ix3 v1 (n := 7) (by decide) with h1 | ⟨e, he, rfl⟩
  · exact sq_xeng0 h1 (br_t rfl (by show wpY_agree _ _ _ _; unfold wpY_agree; exact sq_yeng0 h1 (br_t rfl ⟨rfl, J⟩)))
  · refine sq_xeng1 he (br_f (by decide) ?_)
    rcases sq_ix3 v2 (n := 7) (by decide) with h2 | ⟨f, hf, rfl⟩
    · exact sq_xeng0 h2 (br_t rfl (by show wpY_agree _ _ _ _; unfold wpY_agree; exact sq_yeng1 he (br_f (by decide) (sq_yeng0 h2 (br_t rfl ⟨rfl, J⟩)))))
    · exact sq_xeng1 hf (br_f (by decide) (sq_xagreeL hL hn H he hf (by show wpY_agree _ _ _ _; unfold wpY_agree; exact sq_yeng1 he (br_f (by decide) (sq_yeng1 hf (br_f (by decide) ⟨rfl, J⟩))))))
