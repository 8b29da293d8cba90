-- Part 14: reading plain words, rows, runs (written by wip/whole/gen14.py)
theorem sq_d5 {p : Nat} (hp : p < 2 ^ 31) : nI p / 5 = nI (p / 5) := pk_div (d := 5) hp (by decide) (by decide)
theorem sq_r5 {p : Nat} (hp : p < 2 ^ 31) : (nI p - nI p / 5 * 5) * 11 = nI (11 * (p % 5)) := by
  have e : nI p - nI p / 5 * 5 = nI (p % 5) := pk_rem (d := 5) hp (by decide) (by decide)
  rw [e, Nat.mul_comm]
  exact pk_mul (p % 5) 11
theorem sq_f256 (a : Nat → Int64) (k : Nat) : uN (a (k / 5)) / 2 ^ (11 * (k % 5)) % 2 ^ 8 = sq_F 11 5 a k % 256 := by
  unfold sq_F
  generalize uN (a (k / 5)) / 2 ^ (11 * (k % 5)) = y
  omega
theorem sq_f2568 (a : Nat → Int64) (k : Nat) : uN (a (k / 5)) / 2 ^ (11 * (k % 5) + 8) % 2 ^ 3 = sq_F 11 5 a k / 256 % 8 := by
  unfold sq_F
  rw [Nat.pow_add, ← Nat.div_div_eq_div_mul]
  generalize uN (a (k / 5)) / 2 ^ (11 * (k % 5)) = y
  omega
theorem sq_RIst {L : Nat → Nat} {a : Nat → Int64} {r s : Nat} {st : Nat → Nat} (H : sq_RI L a r s st) {j : Nat} : ∀ k, k ≤ r → j ≤ k → st j ≤ st k := by
  intro k
  induction k with
  | zero => intro _ h; rw [show j = 0 by omega]; exact Nat.le_refl _
  | succ k ih =>
    intro hk h
    by_cases e : j = k + 1
    · rw [e]; exact Nat.le_refl _
    · have a := ih (by omega) (by omega)
      have b := (H.2.2 k (by omega)).1
      omega
theorem sq_RIfind {L : Nat → Nat} {a : Nat → Int64} {r s i : Nat} {st : Nat → Nat} (H : sq_RI L a r s st) : ∀ k, k ≤ r → i < st k → ∃ j, j < k ∧ st j ≤ i ∧ i < st (j + 1) := by
  intro k
  induction k with
  | zero => intro _ h; rw [H.1] at h; omega
  | succ k ih =>
    intro hk h
    by_cases e : st k ≤ i
    · exact ⟨k, by omega, e, h⟩
    · obtain ⟨j, a, b, c⟩ := ih (by omega) (by omega)
      exact ⟨j, by omega, b, c⟩
section
variable {f_length f_runCount f_streamLength : Int32} {a_letters : Nat → Int32} {a_plainWords a_treeBits a_matrixBits : Nat → Int64} {a_matrixZeros : Nat → Int32} {a_letterRows a_runWords : Nat → Int64} {a_letterCounts a_groupWeights a_groupOf a_codeLengths a_codes a_codesOfLength a_lettersByCode : Nat → Int32} {a_stream : Nat → Int64} {a_sampleStarts a_sampleRanks : Nat → Int32} {a_sparseHigh a_sparseLow : Nat → Int64}
theorem sq_xplainRank {post : Int32 → Prop} {L : Nat → Nat} {n v i : Nat} (hn : n ≤ 200) (H : sq_P0 L n a_plainWords) (hv : v < 8) (hi : i ≤ n) (h : post (nI (sq_rk L v i))) : wpX_plainRank post ((nI n), f_runCount, f_streamLength, a_letters, a_plainWords, a_treeBits, a_matrixBits, a_matrixZeros, a_letterRows, a_runWords, a_letterCounts, a_groupWeights, a_groupOf, a_codeLengths, a_codes, a_codesOfLength, a_lettersByCode, a_stream, a_sampleStarts, a_sampleRanks, a_sparseHigh, a_sparseLow) (nI v) (nI i) :=
  loop_0 (σ := Int32) (fun n' w x3 => wX_plainRank_5 post (nI v) (nI i) (nI n) f_runCount f_streamLength a_letters a_plainWords a_treeBits a_matrixBits a_matrixZeros a_letterRows a_runWords a_letterCounts a_groupWeights a_groupOf a_codeLengths a_codes a_codesOfLength a_lettersByCode a_stream a_sampleStarts a_sampleRanks a_sparseHigh a_sparseLow n' x3 (nI w))
    (fun w x3 => x3 = nI (sq_rk L v (min (21 * w) i))) ((i + 20) / 21) 0 (by rw [Nat.mul_zero, Nat.zero_min]; rfl)
    (fun n' x3 e => br_t (sq_v (P := fun z => nI i ≤ z) (pk_mul ((i + 20) / 21) 21) (nI_le (by omega) (by omega))) (sq_v (P := post) e (by rw [Nat.min_eq_right (by omega)]; exact h)))
    (fun n' w x3 hw e k => by
      have hw' : 21 * w < i := by omega
      subst e
      have m21 : nI w * 21 = nI (w * 21) := pk_mul w 21
      refine br_f (by rw [m21]; exact nI_ge (by omega) (by omega)) ⟨vp_in_nI (by omega) (by decide), nm_e (nm_r (e' := sq_same (a_plainWords w) (nI v)) (by rw [nI_clamp (by omega)]; rfl) (nm_r (e' := nI (i - 21 * w)) (by rw [m21, pk_sub (by omega), Nat.mul_comm w 21]) ?_))⟩
      rw [Nat.min_eq_left (by omega : 21 * w ≤ i)]
      refine pk_le 21 (i - 21 * w) (fun h21 => ?_) (fun h21 => ?_)
      · refine sq_xones (nm_r (e' := nI (sq_rk L v (min (21 * (w + 1)) i))) ?_ (nm_r (nI_1 w) (k _ rfl)))
        rw [nI_add, sq_same64 _ hv, ← sq_rk21 H (Nat.le_refl 21) (by omega), Nat.min_eq_left (by omega), show 21 * (w + 1) = 21 * w + 21 by omega]
      · have s3 : nI (i - 21 * w) * 3 = nI (3 * (i - 21 * w)) := by rw [Nat.mul_comm 3]; exact pk_mul (i - 21 * w) 3
        refine nm_e (sq_xones (nm_r (e' := nI (sq_rk L v (min (21 * (w + 1)) i))) ?_ (nm_r (nI_1 w) (k _ rfl))))
        rw [s3, sq_pcm _ (by omega), nI_add, sq_samec _ hv (by omega), ← sq_rk21 H (by omega) (by omega), Nat.min_eq_right (by omega), show 21 * w + (i - 21 * w) = i by omega])
theorem sq_xrowsLetter {post : Int32 → Prop} {L : Nat → Nat} {n i : Nat} (hL : ∀ j, L j < 8) (hn : n ≤ 200) (H : sq_P3 L n a_letterRows) (hi : i < n) (h : post (nI (L i))) : wpX_rowsLetter post ((nI n), f_runCount, f_streamLength, a_letters, a_plainWords, a_treeBits, a_matrixBits, a_matrixZeros, a_letterRows, a_runWords, a_letterCounts, a_groupWeights, a_groupOf, a_codeLengths, a_codes, a_codesOfLength, a_lettersByCode, a_stream, a_sampleStarts, a_sampleRanks, a_sparseHigh, a_sparseLow) (nI i) := by
  have g : ∀ l, nI l * 256 + nI i = nI (256 * l + i) := fun l => by
    rw [show nI l * 256 = nI (l * 256) from pk_mul l 256, nI_add]
    exact congrArg nI (by omega)
  have h8 := hL i
  exact loop_0 (σ := Unit) (fun n' l _ => wX_rowsLetter_2 post (nI i) (nI n) f_runCount f_streamLength a_letters a_plainWords a_treeBits a_matrixBits a_matrixZeros a_letterRows a_runWords a_letterCounts a_groupWeights a_groupOf a_codeLengths a_codes a_codesOfLength a_lettersByCode a_stream a_sampleStarts a_sampleRanks a_sparseHigh a_sparseLow n' (nI l)) (fun _ _ => True) (L i) () trivial
    (fun n' _ _ => br_f (nI_ge (b := 8) h8 (by decide)) (sq_v (P := fun z => wpX_bitAt__letterRows _ ((nI n), f_runCount, f_streamLength, a_letters, a_plainWords, a_treeBits, a_matrixBits, a_matrixZeros, a_letterRows, a_runWords, a_letterCounts, a_groupWeights, a_groupOf, a_codeLengths, a_codes, a_codesOfLength, a_lettersByCode, a_stream, a_sampleStarts, a_sampleRanks, a_sparseHigh, a_sparseLow) z) (g _) (sq_xbit_letterRows (by omega) (by
      rw [H (L i) h8 i hi, decide_eq_true rfl]
      exact br_t rfl h))))
    (fun n' l _ hl _ k => br_f (nI_ge (b := 8) (by omega) (by decide)) (sq_v (P := fun z => wpX_bitAt__letterRows _ ((nI n), f_runCount, f_streamLength, a_letters, a_plainWords, a_treeBits, a_matrixBits, a_matrixZeros, a_letterRows, a_runWords, a_letterCounts, a_groupWeights, a_groupOf, a_codeLengths, a_codes, a_codesOfLength, a_lettersByCode, a_stream, a_sampleStarts, a_sampleRanks, a_sparseHigh, a_sparseLow) z) (g _) (sq_xbit_letterRows (by omega) (by
      rw [H l (by omega) i hi, decide_eq_false (by omega)]
      exact br_f (by decide) (nm_r (nI_1 l) (k () trivial))))))
theorem sq_xrowsRank {post : Int32 → Prop} {L : Nat → Nat} {n v i : Nat} (hn : n ≤ 200) (H : sq_P3 L n a_letterRows) (hv : v < 8) (hi : i ≤ n) (h : post (nI (sq_rk L v i))) : wpX_onesBefore__letterRows post ((nI n), f_runCount, f_streamLength, a_letters, a_plainWords, a_treeBits, a_matrixBits, a_matrixZeros, a_letterRows, a_runWords, a_letterCounts, a_groupWeights, a_groupOf, a_codeLengths, a_codes, a_codesOfLength, a_lettersByCode, a_stream, a_sampleStarts, a_sampleRanks, a_sparseHigh, a_sparseLow) (nI v * 4) (nI i) :=
  sq_xrow_letterRows rfl (by omega) (by
    have e : sq_o (sq_B a_letterRows) v i = sq_rk L v i := sq_ccg i (fun j hj => H v hv j (by omega))
    rw [e]
    exact h)
theorem sq_xrunLen {post : Int32 → Prop} {k : Nat} (hk : k < 200) (h : post (nI (sq_F 11 5 a_runWords k % 256))) : wpX_runLengthAt post (f_length, f_runCount, f_streamLength, a_letters, a_plainWords, a_treeBits, a_matrixBits, a_matrixZeros, a_letterRows, a_runWords, a_letterCounts, a_groupWeights, a_groupOf, a_codeLengths, a_codes, a_codesOfLength, a_lettersByCode, a_stream, a_sampleStarts, a_sampleRanks, a_sparseHigh, a_sparseLow) (nI k) :=
  ⟨by decide, nm_r (sq_r5 (by omega)) ⟨by decide, sq_v (P := fun z => vp_in z 40) (sq_d5 (by omega)) (vp_in_nI (by omega) (by decide)), sq_v (P := post) (by
    rw [sq_d5 (by omega), nI_clamp (by omega), sq_getw (b := 8) _ (by omega) (by decide) (by decide), sq_f256]) h⟩⟩
theorem sq_xrunLet {post : Int32 → Prop} {k : Nat} (hk : k < 200) (h : post (nI (sq_F 11 5 a_runWords k / 256 % 8))) : wpX_runLetterAt post (f_length, f_runCount, f_streamLength, a_letters, a_plainWords, a_treeBits, a_matrixBits, a_matrixZeros, a_letterRows, a_runWords, a_letterCounts, a_groupWeights, a_groupOf, a_codeLengths, a_codes, a_codesOfLength, a_lettersByCode, a_stream, a_sampleStarts, a_sampleRanks, a_sparseHigh, a_sparseLow) (nI k) :=
  ⟨by decide, nm_r (e' := nI (11 * (k % 5) + 8)) (by rw [sq_r5 (by omega)]; exact nI_add _ 8) ⟨by decide, sq_v (P := fun z => vp_in z 40) (sq_d5 (by omega)) (vp_in_nI (by omega) (by decide)), sq_v (P := post) (by
    rw [sq_d5 (by omega), nI_clamp (by omega), sq_getw (b := 3) _ (by omega) (by decide) (by decide), sq_f2568]) h⟩⟩
theorem sq_xrunsLetter {post : Int32 → Prop} {L : Nat → Nat} {n i : Nat} (hL : ∀ j, L j < 8) (hn : n ≤ 200) (H : sq_P4 L n a_runWords f_runCount) (hi : i < n) (h : post (nI (L i))) : wpX_runsLetter post ((nI n), f_runCount, f_streamLength, a_letters, a_plainWords, a_treeBits, a_matrixBits, a_matrixZeros, a_letterRows, a_runWords, a_letterCounts, a_groupWeights, a_groupOf, a_codeLengths, a_codes, a_codesOfLength, a_lettersByCode, a_stream, a_sampleStarts, a_sampleRanks, a_sparseHigh, a_sparseLow) (nI i) := by
  obtain ⟨r, st, hr, _, R⟩ := H
  subst hr
  have hrn := sq_RIr R r (Nat.le_refl r)
  have hsr := R.2.1
  obtain ⟨k0, f1, f2, f3⟩ := sq_RIfind (i := i) R r (Nat.le_refl r) (by omega)
  have lenE : ∀ k, k < r → sq_F 11 5 a_runWords k % 256 = st (k + 1) - st k ∧ sq_F 11 5 a_runWords k / 256 % 8 = L (st k) := by
    intro k hk
    obtain ⟨u1, u2, u3, u4⟩ := R.2.2 k hk
    have := hL (st k)
    rw [u3]
    omega
  exact loop_0 (σ := Int32) (fun n' k x2 => wX_runsLetter_4 post (nI i) (nI n) (nI r) f_streamLength a_letters a_plainWords a_treeBits a_matrixBits a_matrixZeros a_letterRows a_runWords a_letterCounts a_groupWeights a_groupOf a_codeLengths a_codes a_codesOfLength a_lettersByCode a_stream a_sampleStarts a_sampleRanks a_sparseHigh a_sparseLow n' x2 (nI k)) (fun k x2 => x2 = nI (st k)) k0 0 (by rw [R.1]; rfl)
    (fun n' x2 e => by
      subst e
      have u := R.2.2 k0 f1
      refine br_f (nI_ge f1 (by omega)) (sq_xrunLen (by omega) ?_)
      rw [(lenE k0 f1).1]
      refine nm_r (e' := nI (st (k0 + 1))) (by rw [nI_add]; exact congrArg nI (by omega)) (br_f (nI_ge f3 (by omega)) (sq_xrunLet (by omega) ?_))
      rw [(lenE k0 f1).2, ← u.2.2.2 i f2 f3]
      exact h)
    (fun n' k x2 hk e c => by
      subst e
      have u := R.2.2 k (by omega)
      have w := sq_RIst R (j := k + 1) k0 (by omega) (by omega)
      refine br_f (nI_ge (by omega) (by omega)) (sq_xrunLen (by omega) ?_)
      rw [(lenE k (by omega)).1]
      exact nm_r (e' := nI (st (k + 1))) (by rw [nI_add]; exact congrArg nI (by omega)) (br_t (nI_le (by omega) (by omega)) (nm_r (nI_1 k) (c _ rfl))))
theorem sq_xrunsRank {post : Int32 → Prop} {L : Nat → Nat} {n v i : Nat} (hL : ∀ j, L j < 8) (hn : n ≤ 200) (H : sq_P4 L n a_runWords f_runCount) (hv : v < 8) (hi : i ≤ n) (h : post (nI (sq_rk L v i))) : wpX_runsRank post ((nI n), f_runCount, f_streamLength, a_letters, a_plainWords, a_treeBits, a_matrixBits, a_matrixZeros, a_letterRows, a_runWords, a_letterCounts, a_groupWeights, a_groupOf, a_codeLengths, a_codes, a_codesOfLength, a_lettersByCode, a_stream, a_sampleStarts, a_sampleRanks, a_sparseHigh, a_sparseLow) (nI v) (nI i) := by
  obtain ⟨r, st, hr, _, R⟩ := H
  subst hr
  have hrn := sq_RIr R r (Nat.le_refl r)
  have hsr := R.2.1
  have lenE : ∀ k, k < r → sq_F 11 5 a_runWords k % 256 = st (k + 1) - st k ∧ sq_F 11 5 a_runWords k / 256 % 8 = L (st k) := by
    intro k hk
    obtain ⟨u1, u2, u3, u4⟩ := R.2.2 k hk
    have := hL (st k)
    rw [u3]
    omega
  exact loop_0 (σ := Int32 × Int32) (fun n' k s => wX_runsRank_8 post (nI v) (nI i) (nI n) (nI r) f_streamLength a_letters a_plainWords a_treeBits a_matrixBits a_matrixZeros a_letterRows a_runWords a_letterCounts a_groupWeights a_groupOf a_codeLengths a_codes a_codesOfLength a_lettersByCode a_stream a_sampleStarts a_sampleRanks a_sparseHigh a_sparseLow n' s.1 s.2 (nI k)) (fun k s => s.1 = nI (sq_rk L v (min (st k) i)) ∧ s.2 = nI (st k)) r (0, 0)
    (by rw [R.1, Nat.zero_min]; exact ⟨rfl, rfl⟩)
    (fun n' s e => br_t (nI_le (Nat.le_refl r) (by omega)) (sq_v (P := post) e.1 (by rw [hsr, Nat.min_eq_right hi]; exact h)))
    (fun n' k s hk e c => by
      obtain ⟨s1, s2⟩ := s
      obtain ⟨e1, e2⟩ := e
      have e1' : s1 = nI (sq_rk L v (min (st k) i)) := e1
      have e2' : s2 = nI (st k) := e2
      subst e1' e2'
      obtain ⟨u1, u2, u3, u4⟩ := R.2.2 k hk
      obtain ⟨v1, v2⟩ := lenE k hk
      refine br_f (nI_ge hk (by omega)) (pk_le i (st k) (fun hik => ?_) (fun hik => ?_))
      · rw [Nat.min_eq_right hik]
        exact h
      · refine sq_xrunLen (by omega) (sq_xrunLet (by omega) ?_)
        rw [v1, v2, Nat.min_eq_left (by omega : st k ≤ i)]
        have hl7 := hL (st k)
        have x4 : nI (st k) + nI (st (k + 1) - st k) = nI (st (k + 1)) := by rw [nI_add]; exact congrArg nI (by omega)
        refine pk_eq (L (st k)) v (fun hd => ?_) (fun hd => ?_)
        · refine nm_r (pk_sub (by omega)) (pk_le (i - st k) (st (k + 1) - st k) (fun hh => ?_) (fun hh => ?_))
          · refine nm_r (e' := nI (sq_rk L v (min (st (k + 1)) i))) ?_ (nm_r x4 (nm_r (nI_1 k) (c (_, _) ⟨rfl, rfl⟩)))
            have w := sq_rkrun (l := v) u4 (i - st k) (by omega)
            rw [if_pos hd, show st k + (i - st k) = i by omega] at w
            rw [nI_add, Nat.min_eq_right (by omega), w]
          · refine nm_r (e' := nI (sq_rk L v (min (st (k + 1)) i))) ?_ (nm_r x4 (nm_r (nI_1 k) (c (_, _) ⟨rfl, rfl⟩)))
            have w := sq_rkrun (l := v) u4 (st (k + 1) - st k) (by omega)
            rw [if_pos hd, show st k + (st (k + 1) - st k) = st (k + 1) by omega] at w
            rw [nI_add, Nat.min_eq_left (by omega), w]
        · refine nm_r x4 (nm_r (nI_1 k) (c (_, _) ⟨?_, rfl⟩))
          show nI (sq_rk L v (st k)) = nI (sq_rk L v (min (st (k + 1)) i))
          have w := sq_rkrun (l := v) u4 (min (st (k + 1)) i - st k) (by omega)
          rw [if_neg hd, show st k + (min (st (k + 1)) i - st k) = min (st (k + 1)) i by omega] at w
          rw [w, Nat.add_zero])
end
