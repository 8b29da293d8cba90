-- Part 21: the relation, the checks of arguments (written by wip/whole/gen21.py)
/-- both lists are the same, and all seven packings hold it -/
def i_Rel (_ : Nat) (u : SX) (v : SY) : Prop :=
  ∃ (L : Nat → Nat) (n : Nat) (rc sl : Int32) (pw tb mb : Nat → Int64) (mz : Nat → Int32) (lr rn : Nat → Int64) (lc gw go cl cs col lbc : Nat → Int32) (sm : Nat → Int64) (ss sr : Nat → Int32) (hi lo : Nat → Int64) (so : Nat → Int32),
    (∀ j, L j < 8) ∧ n ≤ 200 ∧ u = ((nI n), rc, sl, (sq_l L), pw, tb, mb, mz, lr, rn, lc, gw, go, cl, cs, col, lbc, sm, ss, sr, hi, lo) ∧ v = (nI n, sq_l L, so) ∧ sq_PK L n pw tb mb mz lr rn rc cl col lbc sm ss sr sl hi lo
theorem i_up {k : Nat} {u : SX} {v : SY} (h : i_Rel k u v) : i_Rel (k + 5) u v := h
theorem sq_seZ {cnt : Nat → Nat} (h : ∀ l, l < 8 → cnt l = 0) : sq_se cnt = none := by
  cases e : sq_se cnt with
  | none => rfl
  | some s =>
    obtain ⟨f, _, _, s8, _, _, ls, _, _⟩ := sq_se_some e
    have := h s s8
    omega
theorem sq_PK0 : sq_PK (fun _ => 0) 0 (fun _ => 0) (fun _ => 0) (fun _ => 0) (fun _ => 0) (fun _ => 0) (fun _ => 0) 0 (fun _ => 0) (fun _ => 0) (fun _ => 0) (fun _ => 0) (fun _ => 0) (fun _ => 0) 0 (fun _ => 0) (fun _ => 0) := by
  have b0 : ∀ P, sq_B (fun _ => 0) P = false := fun P => sq_B0 rfl
  refine ⟨fun p hp => absurd hp (Nat.not_lt_zero p), fun l _ q hq => absurd hq (Nat.not_lt_zero q), fun l _ => ⟨fun q hq => absurd hq (Nat.not_lt_zero q), ?_⟩, fun l _ p hp => absurd hp (Nat.not_lt_zero p), ⟨0, fun _ => 0, rfl, rfl, rfl, rfl, fun k hk => absurd hk (Nat.not_lt_zero k)⟩, ⟨fun _ => 0, ?_⟩, ?_⟩
  · rw [Nat.zero_sub]; rfl
  · refine ⟨⟨fun l _ hc => absurd hc (Nat.lt_irrefl 0), fun _ _ _ => rfl, fun s _ => ?_⟩, fun _ _ => rfl, fun s h1 h2 => ?_, fun l _ h1 => absurd (show 1 ≤ 0 from h1) (by decide), ⟨fun j hj => absurd hj (Nat.not_lt_zero j), fun P _ _ => b0 P⟩, fun s hs => ?_, rfl, ?_⟩
    · have : sq_K (fun _ => 0) s = 0 := sq_s0 8 (fun l _ => if_neg (show ¬ (1 ≤ 0 ∧ 0 ≤ s) by omega))
      omega
    · have : sq_n (fun _ => 0) s = 0 := sq_cnone 8 (fun j _ => decide_eq_false (show ¬ 0 = s by omega))
      rw [this]; rfl
    · have : s = 0 := by omega
      subst this
      exact ⟨rfl, fun _ _ => rfl⟩
    · show 0 = sq_bits _ 0
      unfold sq_bits
      rw [sq_seZ (cnt := fun l => sq_rk (fun _ => 0) l 0) (fun l _ => rfl)]
      rfl
  · refine ⟨fun P _ => ⟨fun h => ?_, fun ⟨q, hq, _⟩ => absurd hq (Nat.not_lt_zero q)⟩, fun q hq => absurd hq (Nat.not_lt_zero q)⟩
    rw [b0 P] at h
    exact absurd h (by decide)
theorem i_vc0 : wpX_init (fun u => wpY_init (fun v => i_Rel 0 u v)) :=
  ⟨fun _ => 0, 0, 0, 0, fun _ => 0, fun _ => 0, fun _ => 0, fun _ => 0, fun _ => 0, fun _ => 0, fun _ => 0, fun _ => 0, fun _ => 0, fun _ => 0, fun _ => 0, fun _ => 0, fun _ => 0, fun _ => 0, fun _ => 0, fun _ => 0, fun _ => 0, fun _ => 0, fun _ => 0, fun _ => show 0 < 8 by decide, by decide, rfl, rfl, sq_PK0⟩
-- ---- the checks ----
theorem sq_ltle {a b : Nat} {x : Int32} (h : nI b ≤ x) (hab : a < b) (hb : b < 2 ^ 31) : nI a < x := Int32.lt_of_lt_of_le (nI_lt hab hb) h
theorem sq_xeng0 {post : Int32 → Prop} {x : Int32} (h : x < 0 ∨ nI 7 ≤ x) (p : post 0) : wpX_isEngine post x := br_c (fun _ => p) (fun hn => br_t (h.resolve_left hn) p)
theorem sq_xeng1 {post : Int32 → Prop} {e : Nat} (he : e < 7) (p : post 1) : wpX_isEngine post (nI e) := br_f (nI_pos (by omega)) (br_f (nI_ge (b := 7) he (by decide)) p)
theorem sq_xlet0 {post : Int32 → Prop} {x : Int32} (h : x < 0 ∨ nI 8 ≤ x) (p : post 0) : wpX_isLetter post x := br_c (fun _ => p) (fun hn => br_t (h.resolve_left hn) p)
theorem sq_xlet1 {post : Int32 → Prop} {e : Nat} (he : e < 8) (p : post 1) : wpX_isLetter post (nI e) := br_f (nI_pos (by omega)) (br_f (nI_ge (b := 8) he (by decide)) p)
theorem sq_yeng0 {post : Int32 → Prop} {s : SY} {x : Int32} (h : x < 0 ∨ nI 7 ≤ x) (p : post 0) : wpY_engine post s x := br_c (fun _ => p) (fun hn => br_t (sq_ltle (a := 6) (h.resolve_left hn) (by decide) (by decide)) p)
theorem sq_yeng1 {post : Int32 → Prop} {s : SY} {e : Nat} (he : e < 7) (p : post 1) : wpY_engine post s (nI e) := br_f (nI_pos (by omega)) (br_f (nI_nlt (a := 6) (by omega) (by decide)) p)
theorem sq_ylet0 {post : Int32 → Prop} {s : SY} {x : Int32} (h : x < 0 ∨ nI 8 ≤ x) (p : post 0) : wpY_isLetter post s x := br_c (fun _ => p) (fun hn => br_t (sq_ltle (a := 7) (h.resolve_left hn) (by decide) (by decide)) p)
theorem sq_ylet1 {post : Int32 → Prop} {s : SY} {e : Nat} (he : e < 8) (p : post 1) : wpY_isLetter post s (nI e) := br_f (nI_pos (by omega)) (br_f (nI_nlt (a := 7) (by omega) (by decide)) p)
theorem sq_yplace0 {post : Int32 → Prop} {n : Nat} {li so : Nat → Int32} {x : Int32} (h : x < 0 ∨ nI n ≤ x) (p : post 0) : wpY_place post (nI n, li, so) x := br_c (fun _ => p) (fun hn => br_t (h.resolve_left hn) p)
theorem sq_yplace1 {post : Int32 → Prop} {n i : Nat} {li so : Nat → Int32} (hn : n ≤ 200) (hi : i < n) (p : post 1) : wpY_place post (nI n, li, so) (nI i) := br_f (nI_pos (by omega)) (br_f (nI_ge hi (by omega)) p)
theorem sq_yrng0 {post : Int32 → Prop} {n : Nat} {li so : Nat → Int32} {i j : Int32} (h : i < 0 ∨ j < i ∨ nI n < j) (p : post 0) : wpY_range post (nI n, li, so) i j := br_c (fun _ => p) (fun h1 => br_c (fun _ => p) (fun h2 => br_t ((h.resolve_left h1).resolve_left h2) p))
theorem sq_yrng1 {post : Int32 → Prop} {n i j : Nat} {li so : Nat → Int32} (hn : n ≤ 200) (hi : i ≤ j) (hj : j ≤ n) (p : post 1) : wpY_range post (nI n, li, so) (nI i) (nI j) := br_f (nI_pos (by omega)) (br_f (nI_nlt hi (by omega)) (br_f (nI_nlt hj (by omega)) p))
theorem sq_rngc (i j : Int32) {n : Nat} (hn : n ≤ 200) : (i < 0 ∨ j < i ∨ nI n < j) ∨ ∃ a b : Nat, a ≤ b ∧ b ≤ n ∧ i = nI a ∧ j = nI b := by
  by_cases h1 : i < 0
  · exact Or.inl (Or.inl h1)
  by_cases h2 : j < i
  · exact Or.inl (Or.inr (Or.inl h2))
  by_cases h3 : nI n < j
  · exact Or.inl (Or.inr (Or.inr h3))
  right
  obtain ⟨a, ha, rfl⟩ := nI_of h1
  have h4 : ¬ j < 0 := fun z => h2 (Int32.lt_of_lt_of_le z (nI_pos' ha))
  obtain ⟨b, hb, rfl⟩ := nI_of h4
  rw [nI_ltI hb ha] at h2
  rw [nI_ltI (by omega) hb] at h3
  exact ⟨a, b, by omega, by omega, rfl, rfl⟩
theorem sq_ix3 (x : Int32) {n : Nat} (hn : n < 2 ^ 31) : (x < 0 ∨ nI n ≤ x) ∨ ∃ j : Nat, j < n ∧ x = nI j := by
  rcases pk_ix x hn with h | h | h
  · exact Or.inl (Or.inl h)
  · exact Or.inl (Or.inr h)
  · exact Or.inr h
theorem sq_yoften {post : Int32 → Prop} {L : Nat → Nat} {n v i j : Nat} {so : Nat → Int32} (hL : ∀ j, L j < 8) (hv : v < 2 ^ 31) (hij : i ≤ j) (hj : j ≤ 200) (h : post (nI (sq_rk L v j - sq_rk L v i))) : wpY_often post (nI n, sq_l L, so) (nI v) (nI i) (nI j) :=
  pk_loop (σ := Int32) (fun n' k x4 => wY_often_6 post (nI v) (nI j) (nI n) (sq_l L) so n' x4 (nI k)) (fun k x4 => i ≤ k ∧ x4 = nI (sq_rk L v k - sq_rk L v i)) j i 0 hij ⟨Nat.le_refl i, by rw [Nat.sub_self]; rfl⟩
    (fun n' x4 e => br_t (nI_le (Nat.le_refl j) (by omega)) (sq_v (P := post) e.2 h))
    (fun n' k x4 hk e c => by
      obtain ⟨e0, e1⟩ := e
      subst e1
      have m := sq_rkmono L v e0
      have l8 := hL k
      refine br_f (nI_ge hk (by omega)) ⟨vp_in_nI (by omega) (by decide), pk_eq (L k) v (fun z => ?_) (fun z => ?_) (sq_lc L (by omega))⟩
      · exact nm_r (nI_1 _) (nm_r (nI_1 k) (c _ ⟨by omega, by rw [sq_rkt z]; exact congrArg nI (by omega)⟩))
      · exact nm_r (nI_1 k) (c _ ⟨by omega, by rw [sq_rkf z]⟩))
section
variable {f_length f_runCount f_streamLength : Int32} {a_letters : Nat → Int32} {a_plainWords a_treeBits a_matrixBits : Nat → Int64} {a_matrixZeros : Nat → Int32} {a_letterRows a_runWords : Nat → Int64} {a_letterCounts a_groupWeights a_groupOf a_codeLengths a_codes a_codesOfLength a_lettersByCode : Nat → Int32} {a_stream : Nat → Int64} {a_sampleStarts a_sampleRanks : Nat → Int32} {a_sparseHigh a_sparseLow : Nat → Int64}
theorem sq_xplace0 {post : Int32 → Prop} {n : Nat} {x : Int32} (h : x < 0 ∨ nI n ≤ x) (p : post 0) : wpX_isPlace post ((nI n), f_runCount, f_streamLength, a_letters, a_plainWords, a_treeBits, a_matrixBits, a_matrixZeros, a_letterRows, a_runWords, a_letterCounts, a_groupWeights, a_groupOf, a_codeLengths, a_codes, a_codesOfLength, a_lettersByCode, a_stream, a_sampleStarts, a_sampleRanks, a_sparseHigh, a_sparseLow) x := br_c (fun _ => p) (fun hn => br_t (h.resolve_left hn) p)
theorem sq_xplace1 {post : Int32 → Prop} {n i : Nat} (hn : n ≤ 200) (hi : i < n) (p : post 1) : wpX_isPlace post ((nI n), f_runCount, f_streamLength, a_letters, a_plainWords, a_treeBits, a_matrixBits, a_matrixZeros, a_letterRows, a_runWords, a_letterCounts, a_groupWeights, a_groupOf, a_codeLengths, a_codes, a_codesOfLength, a_lettersByCode, a_stream, a_sampleStarts, a_sampleRanks, a_sparseHigh, a_sparseLow) (nI i) := br_f (nI_pos (by omega)) (br_f (nI_ge hi (by omega)) p)
theorem sq_xrng0 {post : Int32 → Prop} {n : Nat} {i j : Int32} (h : i < 0 ∨ j < i ∨ nI n < j) (p : post 0) : wpX_isRange post ((nI n), f_runCount, f_streamLength, a_letters, a_plainWords, a_treeBits, a_matrixBits, a_matrixZeros, a_letterRows, a_runWords, a_letterCounts, a_groupWeights, a_groupOf, a_codeLengths, a_codes, a_codesOfLength, a_lettersByCode, a_stream, a_sampleStarts, a_sampleRanks, a_sparseHigh, a_sparseLow) i j := br_c (fun _ => p) (fun h1 => br_c (fun _ => p) (fun h2 => br_t ((h.resolve_left h1).resolve_left h2) p))
theorem sq_xrng1 {post : Int32 → Prop} {n i j : Nat} (hn : n ≤ 200) (hi : i ≤ j) (hj : j ≤ n) (p : post 1) : wpX_isRange post ((nI n), f_runCount, f_streamLength, a_letters, a_plainWords, a_treeBits, a_matrixBits, a_matrixZeros, a_letterRows, a_runWords, a_letterCounts, a_groupWeights, a_groupOf, a_codeLengths, a_codes, a_codesOfLength, a_lettersByCode, a_stream, a_sampleStarts, a_sampleRanks, a_sparseHigh, a_sparseLow) (nI i) (nI j) := br_f (nI_pos (by omega)) (br_f (nI_nlt hi (by omega)) (br_f (nI_nlt hj (by omega)) p))
end
theorem i_vc_at {k : Nat} {u : SX} {v : SY} (I : i_Rel k u v) (hk : k + 5 ≤ 2560) (v1 : Int32) (v2 : Int32) : wpX_at (fun r => wpY_at (fun r' => r' = r ∧ i_Rel (k + 5) u v) v v1 v2) u v1 v2 := by
  have J : i_Rel (k + 5) u v := I
  obtain ⟨L, n, rc, sl, pw, tb, mb, mz, lr, rn, lc, gw, go, cl, cs, col, lbc, sm, ss, sr, hi, lo, so, hL, hn, rfl, rfl, H⟩ := I
  unfold wpX_at wpY_at
  rcases sq_ix3 v1 (n := 7) (by decide) with h1 | ⟨e, he, rfl⟩
  · refine sq_xeng0 h1 (br_t rfl ?_)
    exact sq_yeng0 h1 (br_t rfl ⟨rfl, J⟩)
  · refine sq_xeng1 he (br_f (by decide) ?_)
    rcases sq_ix3 v2 (n := n) (by omega) with h2 | ⟨i, hi, rfl⟩
    · exact sq_xplace0 h2 (br_t rfl (sq_yeng1 he (br_f (by decide) (sq_yplace0 h2 (br_t rfl ⟨rfl, J⟩)))))
    · exact sq_xplace1 hn hi (br_f (by decide) (sq_xletterBy hL hn H he hi (sq_yeng1 he (br_f (by decide) (sq_yplace1 hn hi (br_f (by decide) ⟨vp_in_nI (by omega) (by decide), sq_lc L (by omega), J⟩))))))
theorem i_vc_rank {k : Nat} {u : SX} {v : SY} (I : i_Rel k u v) (hk : k + 5 ≤ 2560) (v1 : Int32) (v2 : Int32) (v3 : Int32) : wpX_rank (fun r => wpY_rank (fun r' => r' = r ∧ i_Rel (k + 5) u v) v v1 v2 v3) u v1 v2 v3 := by
  have J : i_Rel (k + 5) u v := I
  obtain ⟨L, n, rc, sl, pw, tb, mb, mz, lr, rn, lc, gw, go, cl, cs, col, lbc, sm, ss, sr, hi, lo, so, hL, hn, rfl, rfl, H⟩ := I
  unfold wpX_rank
  rcases sq_ix3 v1 (n := 7) (by decide) with h1 | ⟨e, he, rfl⟩
  · exact sq_xeng0 h1 (br_t rfl (by show wpY_rank _ _ _ _ _; unfold wpY_rank; exact sq_yeng0 h1 (br_t rfl ⟨rfl, J⟩)))
  · refine sq_xeng1 he (br_f (by decide) ?_)
    rcases sq_ix3 v2 (n := 8) (by decide) with h2 | ⟨l, hl, rfl⟩
    · exact sq_xlet0 h2 (br_t rfl (by show wpY_rank _ _ _ _ _; unfold wpY_rank; exact sq_yeng1 he (br_f (by decide) (sq_ylet0 h2 (br_t rfl ⟨rfl, J⟩)))))
    · refine sq_xlet1 hl (br_f (by decide) ?_)
      rcases sq_ix3 v3 (n := n + 1) (by omega) with h3 | ⟨i, hi, rfl⟩
      · have ny : wpY_rank (fun r' => r' = -1 ∧ i_Rel (k + 5) ((nI n), rc, sl, (sq_l L), pw, tb, mb, mz, lr, rn, lc, gw, go, cl, cs, col, lbc, sm, ss, sr, hi, lo) (nI n, sq_l L, so)) (nI n, sq_l L, so) (nI e) (nI l) v3 := (by show wpY_rank _ _ _ _ _; unfold wpY_rank; exact sq_yeng1 he (br_f (by decide) (sq_ylet1 hl (br_f (by decide) (sq_yrng0 (h3.elim (fun z => Or.inr (Or.inl z)) (fun z => Or.inr (Or.inr (sq_ltle z (by omega) (by omega))))) (br_t rfl ⟨rfl, J⟩))))))
        exact br_c (fun _ => ny) (fun z => br_f (fun y => Int32.lt_irrefl (Int32.lt_of_lt_of_le (sq_ltle (a := n) (h3.resolve_left z) (by omega) (by omega)) y)) ny)
      · exact br_f (nI_pos (by omega)) (br_t (nI_le (by omega) (by omega)) (sq_xrankBy hL hn H he hl (by omega) rfl (by show wpY_rank _ _ _ _ _; unfold wpY_rank; exact sq_yeng1 he (br_f (by decide) (sq_ylet1 hl (br_f (by decide) (sq_yrng1 (i := 0) hn (Nat.zero_le i) (by omega) (br_f (by decide) (sq_yoften (i := 0) hL (by omega) (Nat.zero_le i) (by omega) ⟨rfl, J⟩)))))))))
