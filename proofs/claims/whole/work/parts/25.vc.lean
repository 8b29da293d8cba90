-- Part 25: append, again, change, cut (written by wip/whole/gen25.py)
theorem sq_rel {k : Nat} {L : Nat → Nat} {n : Nat} {rc sl : Int32} {pw tb mb : Nat → Int64} {mz : Nat → Int32} {lr rn : Nat → Int64} {lc gw go cl cs col lbc : Nat → Int32} {sm : Nat → Int64} {ss sr : Nat → Int32} {hi lo : Nat → Int64} {so : Nat → Int32} (hL : ∀ j, L j < 8) (hn : n ≤ 200) (H : sq_PK L n pw tb mb mz lr rn rc cl col lbc sm ss sr sl hi lo) : i_Rel k ((nI n), rc, sl, (sq_l L), pw, tb, mb, mz, lr, rn, lc, gw, go, cl, cs, col, lbc, sm, ss, sr, hi, lo) (nI n, sq_l L, so) :=
  ⟨L, n, rc, sl, pw, tb, mb, mz, lr, rn, lc, gw, go, cl, cs, col, lbc, sm, ss, sr, hi, lo, so, hL, hn, rfl, rfl, H⟩
/-- t letters l behind the list -/
def sq_La (L : Nat → Nat) (n l t : Nat) : Nat → Nat := fun j => if n ≤ j ∧ j < n + t then l else L j
theorem sq_La0 (L : Nat → Nat) (n l : Nat) : sq_La L n l 0 = L := by
  funext j
  exact if_neg (by omega)
theorem sq_Las (L : Nat → Nat) (n l t : Nat) : (fun j => if j = n + t then l else sq_La L n l t j) = sq_La L n l (t + 1) := by
  funext j
  unfold sq_La
  by_cases z : j = n + t
  · rw [if_pos z, if_pos (by omega)]
  · rw [if_neg z]
    by_cases y : n ≤ j ∧ j < n + t
    · rw [if_pos y, if_pos (by omega)]
    · rw [if_neg y, if_neg (by omega)]
theorem sq_La8 {L : Nat → Nat} (hL : ∀ j, L j < 8) {n l : Nat} (hl : l < 8) (t : Nat) : ∀ j, sq_La L n l t j < 8 := by
  intro j
  have := hL j
  unfold sq_La
  split <;> omega
/-- t letters more, each as the one b before it -/
def sq_Lg (L : Nat → Nat) (n b : Nat) : Nat → Nat → Nat
  | 0 => L
  | t + 1 => fun j => if j = n + t then sq_Lg L n b t (n + t - b) else sq_Lg L n b t j
theorem sq_Lg8 {L : Nat → Nat} (hL : ∀ j, L j < 8) {n b : Nat} : ∀ t j, sq_Lg L n b t j < 8 := by
  intro t
  induction t with
  | zero => exact hL
  | succ t ih =>
    intro j
    show (if j = n + t then sq_Lg L n b t (n + t - b) else sq_Lg L n b t j) < 8
    split
    · exact ih _
    · exact ih _
theorem sq_ymany0 {post : Int32 → Prop} {s : SY} {x : Int32} (h : x < 1 ∨ nI 201 ≤ x) (p : post 0) : wpY_many post s x := br_c (fun _ => p) (fun hn => br_t (sq_ltle (a := 200) (h.resolve_left hn) (by decide) (by decide)) p)
theorem sq_ymany1 {post : Int32 → Prop} {s : SY} {m : Nat} (h1 : 1 ≤ m) (h2 : m ≤ 200) (p : post 1) : wpY_many post s (nI m) := br_f (nI_nlt (b := 1) h1 (by omega)) (br_f (nI_nlt (a := 200) h2 (by decide)) p)
theorem sq_manyc (x : Int32) : (x < 1 ∨ nI 201 ≤ x) ∨ ∃ m : Nat, 1 ≤ m ∧ m ≤ 200 ∧ x = nI m := by
  by_cases h1 : x < 1
  · exact Or.inl (Or.inl h1)
  · rcases sq_ix3 x (n := 201) (by decide) with (h | h) | ⟨m, hm, rfl⟩
    · exact absurd (Int32.lt_of_lt_of_le h (by decide)) h1
    · exact Or.inl (Or.inr h)
    · right
      refine ⟨m, ?_, by omega, rfl⟩
      by_cases z : m = 0
      · subst z
        exact absurd (by decide) h1
      · omega
theorem sq_yappL {post : Int32 → SY → Prop} {L : Nat → Nat} {n l m : Nat} {so : Nat → Int32} (hnm : n + m ≤ 200) (h : post (nI (n + m)) (nI (n + m), sq_l (sq_La L n l m), so)) : ∃ n', wY_append_35 post (nI l) (nI m) n' 0 (nI n) (sq_l L) so :=
  loop_0 (σ := Int32 × (Nat → Int32)) (fun n' t x => wY_append_35 post (nI l) (nI m) n' (nI t) x.1 x.2 so) (fun t x => x.1 = nI (n + t) ∧ x.2 = sq_l (sq_La L n l t)) m (nI n, sq_l L) ⟨rfl, by rw [sq_La0]⟩
    (fun n' x e => by
      obtain ⟨x1, x2⟩ := x
      obtain ⟨e1, e2⟩ := e
      have e1' : x1 = nI (n + m) := e1
      have e2' : x2 = sq_l (sq_La L n l m) := e2
      subst e1' e2'
      exact br_t (nI_le (Nat.le_refl m) (by omega)) h)
    (fun n' t x ht e k => by
      obtain ⟨x1, x2⟩ := x
      obtain ⟨e1, e2⟩ := e
      have e1' : x1 = nI (n + t) := e1
      have e2' : x2 = sq_l (sq_La L n l t) := e2
      subst e1' e2'
      exact br_f (nI_ge ht (by omega)) ⟨vp_in_nI (by omega) (by decide), nm_r (e' := sq_l (sq_La L n l (t + 1))) (by
        show upd (sq_l (sq_La L n l t)) (nI (n + t)).toNatClampNeg (nI l) = _
        rw [nI_clamp (by omega), sq_lup, sq_Las]) (nm_r (nI_1 _) (nm_r (nI_1 t) (k (nI (n + (t + 1)), sq_l (sq_La L n l (t + 1))) ⟨rfl, rfl⟩)))⟩)
theorem sq_yagL {post : Int32 → SY → Prop} {L : Nat → Nat} {n b m : Nat} {so : Nat → Int32} (hnm : n + m ≤ 200) (h1 : 1 ≤ b) (hb : b ≤ n) (h : post (nI (n + m)) (nI (n + m), sq_l (sq_Lg L n b m), so)) : ∃ n', wY_again_40 post (nI b) (nI m) n' 0 (nI n) (sq_l L) so :=
  loop_0 (σ := Int32 × (Nat → Int32)) (fun n' t x => wY_again_40 post (nI b) (nI m) n' (nI t) x.1 x.2 so) (fun t x => x.1 = nI (n + t) ∧ x.2 = sq_l (sq_Lg L n b t)) m (nI n, sq_l L) ⟨rfl, rfl⟩
    (fun n' x e => by
      obtain ⟨x1, x2⟩ := x
      obtain ⟨e1, e2⟩ := e
      have e1' : x1 = nI (n + m) := e1
      have e2' : x2 = sq_l (sq_Lg L n b m) := e2
      subst e1' e2'
      exact br_t (nI_le (Nat.le_refl m) (by omega)) h)
    (fun n' t x ht e k => by
      obtain ⟨x1, x2⟩ := x
      obtain ⟨e1, e2⟩ := e
      have e1' : x1 = nI (n + t) := e1
      have e2' : x2 = sq_l (sq_Lg L n b t) := e2
      subst e1' e2'
      have sb : nI (n + t) - nI b = nI (n + t - b) := pk_sub (by omega)
      exact br_f (nI_ge ht (by omega)) ⟨by show vp_in (nI (n + t) - nI b) 200; rw [sb]; exact vp_in_nI (by omega) (by decide), vp_in_nI (by omega) (by decide), nm_r (e' := sq_l (sq_Lg L n b (t + 1))) (by
        show upd (sq_l (sq_Lg L n b t)) (nI (n + t)).toNatClampNeg (sq_l (sq_Lg L n b t) (nI (n + t) - nI b).toNatClampNeg) = _
        rw [sb, nI_clamp (by omega), sq_lc _ (by omega), sq_lup]
        rfl) (nm_r (nI_1 _) (nm_r (nI_1 t) (k (nI (n + (t + 1)), sq_l (sq_Lg L n b (t + 1))) ⟨rfl, rfl⟩)))⟩)
section
variable {f_length f_runCount f_streamLength : Int32} {a_letters : Nat → Int32} {a_plainWords a_treeBits a_matrixBits : Nat → Int64} {a_matrixZeros : Nat → Int32} {a_letterRows a_runWords : Nat → Int64} {a_letterCounts a_groupWeights a_groupOf a_codeLengths a_codes a_codesOfLength a_lettersByCode : Nat → Int32} {a_stream : Nat → Int64} {a_sampleStarts a_sampleRanks : Nat → Int32} {a_sparseHigh a_sparseLow : Nat → Int64}
theorem sq_xappL {post : Int32 → SX → Prop} {L : Nat → Nat} {n l m : Nat} (hL : ∀ j, L j < 8) (hnm : n + m ≤ 200) (hl : l < 8) (h : ∀ rc sl pw tb mb mz lr rn lc gw go cl cs col lbc sm ss sr hi lo, sq_PK (sq_La L n l m) (n + m) pw tb mb mz lr rn rc cl col lbc sm ss sr sl hi lo → post (nI (n + m)) ((nI (n + m)), rc, sl, (sq_l (sq_La L n l m)), pw, tb, mb, mz, lr, rn, lc, gw, go, cl, cs, col, lbc, sm, ss, sr, hi, lo)) : ∃ n', wX_append_38 post (nI l) (nI m) (nI n) f_runCount f_streamLength n' 0 (sq_l L) a_plainWords a_treeBits a_matrixBits a_matrixZeros a_letterRows a_runWords a_letterCounts a_groupWeights a_groupOf a_codeLengths a_codes a_codesOfLength a_lettersByCode a_stream a_sampleStarts a_sampleRanks a_sparseHigh a_sparseLow :=
  loop_0 (σ := Nat → Int32) (fun n' t a => wX_append_38 post (nI l) (nI m) (nI n) f_runCount f_streamLength n' (nI t) a a_plainWords a_treeBits a_matrixBits a_matrixZeros a_letterRows a_runWords a_letterCounts a_groupWeights a_groupOf a_codeLengths a_codes a_codesOfLength a_lettersByCode a_stream a_sampleStarts a_sampleRanks a_sparseHigh a_sparseLow) (fun t a => a = sq_l (sq_La L n l t)) m (sq_l L) (by rw [sq_La0])
    (fun n' a e => by
      subst e
      exact br_t (nI_le (Nat.le_refl m) (by omega)) (nm_r (nI_add n m) (sq_xpackAll (sq_La8 hL hl m) hnm (fun rc sl pw tb mb mz lr rn lc gw go cl cs col lbc sm ss sr hi lo H' => h rc sl pw tb mb mz lr rn lc gw go cl cs col lbc sm ss sr hi lo H'))))
    (fun n' t a ht e k => by
      subst e
      have s : nI n + nI t = nI (n + t) := nI_add n t
      exact br_f (nI_ge ht (by omega)) ⟨by rw [s]; exact vp_in_nI (by omega) (by decide), nm_r (e' := sq_l (sq_La L n l (t + 1))) (by rw [s, nI_clamp (by omega), sq_nar2 l hl, sq_lup, sq_Las]) (nm_r (nI_1 t) (k _ rfl))⟩)
theorem sq_xagL {post : Int32 → SX → Prop} {L : Nat → Nat} {n b m : Nat} (hL : ∀ j, L j < 8) (hnm : n + m ≤ 200) (h1 : 1 ≤ b) (hb : b ≤ n) (h : ∀ rc sl pw tb mb mz lr rn lc gw go cl cs col lbc sm ss sr hi lo, sq_PK (sq_Lg L n b m) (n + m) pw tb mb mz lr rn rc cl col lbc sm ss sr sl hi lo → post (nI (n + m)) ((nI (n + m)), rc, sl, (sq_l (sq_Lg L n b m)), pw, tb, mb, mz, lr, rn, lc, gw, go, cl, cs, col, lbc, sm, ss, sr, hi, lo)) : ∃ n', wX_again_44 post (nI b) (nI m) (nI n) f_runCount f_streamLength n' 0 (sq_l L) a_plainWords a_treeBits a_matrixBits a_matrixZeros a_letterRows a_runWords a_letterCounts a_groupWeights a_groupOf a_codeLengths a_codes a_codesOfLength a_lettersByCode a_stream a_sampleStarts a_sampleRanks a_sparseHigh a_sparseLow :=
  loop_0 (σ := Nat → Int32) (fun n' t a => wX_again_44 post (nI b) (nI m) (nI n) f_runCount f_streamLength n' (nI t) a a_plainWords a_treeBits a_matrixBits a_matrixZeros a_letterRows a_runWords a_letterCounts a_groupWeights a_groupOf a_codeLengths a_codes a_codesOfLength a_lettersByCode a_stream a_sampleStarts a_sampleRanks a_sparseHigh a_sparseLow) (fun t a => a = sq_l (sq_Lg L n b t)) m (sq_l L) rfl
    (fun n' a e => by
      subst e
      exact br_t (nI_le (Nat.le_refl m) (by omega)) (nm_r (nI_add n m) (sq_xpackAll (sq_Lg8 hL m) hnm (fun rc sl pw tb mb mz lr rn lc gw go cl cs col lbc sm ss sr hi lo H' => h rc sl pw tb mb mz lr rn lc gw go cl cs col lbc sm ss sr hi lo H'))))
    (fun n' t a ht e k => by
      subst e
      have s : nI n + nI t = nI (n + t) := nI_add n t
      have sb : nI (n + t) - nI b = nI (n + t - b) := pk_sub (by omega)
      exact br_f (nI_ge ht (by omega)) ⟨by rw [s, sb]; exact vp_in_nI (by omega) (by decide), by rw [s]; exact vp_in_nI (by omega) (by decide), nm_r (e' := sq_l (sq_Lg L n b (t + 1))) (by
        rw [s, sb, nI_clamp (by omega), sq_lc _ (by omega), sq_nar _ (sq_Lg8 hL t _), sq_lup]
        rfl) (nm_r (nI_1 t) (k _ rfl))⟩)
end
theorem i_vc_append {k : Nat} {u : SX} {v : SY} (I : i_Rel k u v) (hk : k + 5 ≤ 2560) (v1 : Int32) (v2 : Int32) : wpX_append (fun r u' => wpY_append (fun r' v' => r' = r ∧ i_Rel (k + 5) u' v') v v1 v2) u v1 v2 := by
  have J : i_Rel (k + 5) u v := I
  obtain ⟨L, n, rc, sl, pw, tb, mb, mz, lr, rn, lc, gw, go, cl, cs, col, lbc, sm, ss, sr, hi, lo, so, hL, hn, rfl, rfl, H⟩ := I
  unfold wpX_append
  rcases sq_ix3 v1 (n := 8) (by decide) with h1 | ⟨l, hl, rfl⟩
  · exact sq_xlet0 h1 (br_t rfl (by show wpY_append _ _ _ _; unfold wpY_append; exact sq_ylet0 h1 (br_t rfl ⟨rfl, J⟩)))
  · refine sq_xlet1 hl (br_f (by decide) ?_)
    rcases sq_manyc v2 with h2 | ⟨m, m1, m2, rfl⟩
    · have ny : wpY_append (fun r' v' => r' = -1 ∧ i_Rel (k + 5) ((nI n), rc, sl, (sq_l L), pw, tb, mb, mz, lr, rn, lc, gw, go, cl, cs, col, lbc, sm, ss, sr, hi, lo) v') (nI n, sq_l L, so) (nI l) v2 := (by show wpY_append _ _ _ _; unfold wpY_append; exact sq_ylet1 hl (br_f (by decide) (sq_ymany0 h2 (br_t rfl ⟨rfl, J⟩))))
      exact br_c (fun _ => ny) (fun z => br_f (sq_nlem (m := 200) (h2.resolve_left z) (by decide)) ny)
    · refine br_f (nI_nlt (b := 1) m1 (by omega)) (br_t (nI_le (b := 200) m2 (by decide)) (pk_le m (200 - n) (fun w => ?_) (fun w => ?_) rfl (pk_sub (a := 200) hn)))
      · exact sq_xappL hL (by omega) hl (fun rc' sl' pw' tb' mb' mz' lr' rn' lc' gw' go' cl' cs' col' lbc' sm' ss' sr' hi' lo' H' => (by show wpY_append _ _ _ _; unfold wpY_append; exact sq_ylet1 hl (br_f (by decide) (sq_ymany1 m1 m2 (br_f (by decide) (br_t (by rw [nI_add]; exact nI_le (b := 200) (by omega) (by decide)) (sq_yappL (by omega) ⟨rfl, sq_rel (sq_La8 hL hl m) (by omega) H'⟩)))))))
      · exact (by show wpY_append _ _ _ _; unfold wpY_append; exact sq_ylet1 hl (br_f (by decide) (sq_ymany1 m1 m2 (br_f (by decide) (br_f (by rw [nI_add]; exact nI_ge (b := n + m) (a := 200) (by omega) (by omega)) ⟨rfl, J⟩)))))
theorem i_vc_again {k : Nat} {u : SX} {v : SY} (I : i_Rel k u v) (hk : k + 5 ≤ 2560) (v1 : Int32) (v2 : Int32) : wpX_again (fun r u' => wpY_again (fun r' v' => r' = r ∧ i_Rel (k + 5) u' v') v v1 v2) u v1 v2 := by
  have J : i_Rel (k + 5) u v := I
  obtain ⟨L, n, rc, sl, pw, tb, mb, mz, lr, rn, lc, gw, go, cl, cs, col, lbc, sm, ss, sr, hi, lo, so, hL, hn, rfl, rfl, H⟩ := I
  unfold wpX_again
  by_cases h1 : v1 < 1
  · exact br_t h1 (by show wpY_again _ _ _ _; unfold wpY_again; exact br_t h1 ⟨rfl, J⟩)
  · refine br_f h1 ?_
    by_cases h2 : nI n < v1
    · exact br_t h2 (by show wpY_again _ _ _ _; unfold wpY_again; exact br_f h1 (br_t h2 ⟨rfl, J⟩))
    · refine br_f h2 ?_
      obtain ⟨b, hb, rfl⟩ := nI_of (x := v1) (fun z => h1 (Int32.lt_of_lt_of_le z (by decide)))
      have b1 : 1 ≤ b := by
        by_cases z : b = 0
        · subst z
          exact absurd (by decide) h1
        · omega
      have bn : b ≤ n := by
        rw [nI_ltI (by omega) hb] at h2
        omega
      rcases sq_manyc v2 with h3 | ⟨m, m1, m2, rfl⟩
      · have ny : wpY_again (fun r' v' => r' = -1 ∧ i_Rel (k + 5) ((nI n), rc, sl, (sq_l L), pw, tb, mb, mz, lr, rn, lc, gw, go, cl, cs, col, lbc, sm, ss, sr, hi, lo) v') (nI n, sq_l L, so) (nI b) v2 := (by show wpY_again _ _ _ _; unfold wpY_again; exact br_f h1 (br_f h2 (sq_ymany0 h3 (br_t rfl ⟨rfl, J⟩))))
        exact br_c (fun _ => ny) (fun z => br_f (sq_nlem (m := 200) (h3.resolve_left z) (by decide)) ny)
      · refine br_f (nI_nlt (b := 1) m1 (by omega)) (br_t (nI_le (b := 200) m2 (by decide)) (pk_le m (200 - n) (fun w => ?_) (fun w => ?_) rfl (pk_sub (a := 200) hn)))
        · exact sq_xagL hL (by omega) b1 bn (fun rc' sl' pw' tb' mb' mz' lr' rn' lc' gw' go' cl' cs' col' lbc' sm' ss' sr' hi' lo' H' => (by show wpY_again _ _ _ _; unfold wpY_again; exact br_f h1 (br_f h2 (sq_ymany1 m1 m2 (br_f (by decide) (br_t (by rw [nI_add]; exact nI_le (b := 200) (by omega) (by decide)) (sq_yagL (by omega) b1 bn ⟨rfl, sq_rel (sq_Lg8 hL m) (by omega) H'⟩)))))))
        · exact (by show wpY_again _ _ _ _; unfold wpY_again; exact br_f h1 (br_f h2 (sq_ymany1 m1 m2 (br_f (by decide) (br_f (by rw [nI_add]; exact nI_ge (b := n + m) (a := 200) (by omega) (by omega)) ⟨rfl, J⟩)))))
theorem i_vc_change {k : Nat} {u : SX} {v : SY} (I : i_Rel k u v) (hk : k + 5 ≤ 2560) (v1 : Int32) (v2 : Int32) : wpX_change (fun r u' => wpY_change (fun r' v' => r' = r ∧ i_Rel (k + 5) u' v') v v1 v2) u v1 v2 := by
  have J : i_Rel (k + 5) u v := I
  obtain ⟨L, n, rc, sl, pw, tb, mb, mz, lr, rn, lc, gw, go, cl, cs, col, lbc, sm, ss, sr, hi, lo, so, hL, hn, rfl, rfl, H⟩ := I
  unfold wpX_change
  rcases sq_ix3 v1 (n := n) (by omega) with h1 | ⟨i, hi8, rfl⟩
  · exact sq_xplace0 h1 (br_t rfl (by show wpY_change _ _ _ _; unfold wpY_change; exact sq_yplace0 h1 (br_t rfl ⟨rfl, J⟩)))
  · refine sq_xplace1 hn hi8 (br_f (by decide) ?_)
    rcases sq_ix3 v2 (n := 8) (by decide) with h2 | ⟨l, hl, rfl⟩
    · exact sq_xlet0 h2 (br_t rfl (by show wpY_change _ _ _ _; unfold wpY_change; exact sq_yplace1 hn hi8 (br_f (by decide) (sq_ylet0 h2 (br_t rfl ⟨rfl, J⟩)))))
    · have hL' : ∀ j, (fun j => if j = i then l else L j) j < 8 := by
        intro j
        show (if j = i then l else L j) < 8
        have := hL j
        split <;> omega
      have hin : vp_in (nI i) 200 := vp_in_nI (by omega) (by decide)
      exact sq_xlet1 hl (br_f (by decide) ⟨hin, nm_r (sq_lc L (by omega)) ⟨hin, nm_r (e' := sq_l (fun j => if j = i then l else L j)) (by rw [nI_clamp (by omega), sq_nar2 l hl, sq_lup]) (sq_xpackAll hL' hn (fun rc' sl' pw' tb' mb' mz' lr' rn' lc' gw' go' cl' cs' col' lbc' sm' ss' sr' hi' lo' H' => (by show wpY_change _ _ _ _; unfold wpY_change; exact sq_yplace1 hn hi8 (br_f (by decide) (sq_ylet1 hl (br_f (by decide) ⟨hin, nm_r (sq_lc L (by omega)) ⟨hin, nm_r (e' := sq_l (fun j => if j = i then l else L j)) (by rw [nI_clamp (by omega), sq_lup]) ⟨rfl, sq_rel hL' hn H'⟩⟩⟩))))))⟩⟩)
theorem i_vc_cut {k : Nat} {u : SX} {v : SY} (I : i_Rel k u v) (hk : k + 5 ≤ 2560) (v1 : Int32) : wpX_cut (fun r u' => wpY_cut (fun r' v' => r' = r ∧ i_Rel (k + 5) u' v') v v1) u v1 := by
  have J : i_Rel (k + 5) u v := I
  obtain ⟨L, n, rc, sl, pw, tb, mb, mz, lr, rn, lc, gw, go, cl, cs, col, lbc, sm, ss, sr, hi, lo, so, hL, hn, rfl, rfl, H⟩ := I
  unfold wpX_cut
  by_cases h1 : v1 < 0
  · exact br_t h1 (by show wpY_cut _ _ _; unfold wpY_cut; exact br_t h1 ⟨rfl, J⟩)
  · refine br_f h1 ?_
    obtain ⟨c, hc, rfl⟩ := nI_of h1
    refine pk_le c 200 (fun w => ?_) (fun w => ?_)
    · refine pk_le n c (fun y => ?_) (fun y => ?_)
      · exact sq_xpackAll (n := 0) hL (by omega) (fun rc' sl' pw' tb' mb' mz' lr' rn' lc' gw' go' cl' cs' col' lbc' sm' ss' sr' hi' lo' H' => (by show wpY_cut _ _ _; unfold wpY_cut; exact br_f h1 (br_t (nI_le (b := 200) w (by decide)) (br_t (nI_le y (by omega)) ⟨rfl, sq_rel (n := 0) hL (by omega) H'⟩))))
      · rw [pk_sub (by omega)]
        exact sq_xpackAll (n := n - c) hL (by omega) (fun rc' sl' pw' tb' mb' mz' lr' rn' lc' gw' go' cl' cs' col' lbc' sm' ss' sr' hi' lo' H' => (by show wpY_cut _ _ _; unfold wpY_cut; exact br_f h1 (br_t (nI_le (b := 200) w (by decide)) (br_f (nI_ge y (by omega)) (nm_r (pk_sub (by omega)) ⟨rfl, sq_rel (n := n - c) hL (by omega) H'⟩)))))
    · exact (by show wpY_cut _ _ _; unfold wpY_cut; exact br_f h1 (br_f (nI_ge (b := c) (a := 200) w (by omega)) ⟨rfl, J⟩))
