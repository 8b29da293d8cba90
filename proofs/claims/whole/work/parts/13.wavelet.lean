-- Part 13: reading the tree and the matrix (written by wip/whole/gen13.py)
theorem sq_ow (a : Nat → Int64) (l s : Nat) : sq_c (fun t => sq_B a (64 * (l * 4) + t)) s = sq_o (sq_B a) l s := sq_ccg s (fun t _ => congrArg (sq_B a) (by omega))
theorem sq_ole (R : Nat → Bool) (l s : Nat) : sq_o R l s ≤ s := sq_cle _ s
/-- a step of treeRank and treeLetter for the letter v -/
theorem sq_tnext {L : Nat → Nat} {n l : Nat} {R : Nat → Bool} (hl : l < 3) (H : sq_Row L n l (sq_st L n l) R) (v : Nat) {i : Nat} (hi : i ≤ n) :
    ∃ a e c o1 o2 o3 a' e' c' : Nat, sq_st L n l (v / 2 ^ (3 - l)) = a ∧ sq_st L n l (v / 2 ^ (3 - l)) + sq_p L l (v / 2 ^ (3 - l)) n = e ∧ sq_p L l (v / 2 ^ (3 - l)) i = c ∧
    sq_o R l a = o1 ∧ sq_o R l (a + c) = o2 ∧ sq_o R l e = o3 ∧
    sq_st L n (l + 1) (v / 2 ^ (3 - (l + 1))) = a' ∧ sq_st L n (l + 1) (v / 2 ^ (3 - (l + 1))) + sq_p L (l + 1) (v / 2 ^ (3 - (l + 1))) n = e' ∧ sq_p L (l + 1) (v / 2 ^ (3 - (l + 1))) i = c' ∧
    o1 ≤ o2 ∧ o1 ≤ o3 ∧ o3 - o1 ≤ e ∧ o2 - o1 ≤ c ∧ e ≤ n ∧ a + c ≤ e ∧
    (v / 2 ^ (2 - l) % 2 = 1 → a' = e - (o3 - o1) ∧ e' = e ∧ c' = o2 - o1) ∧ (¬ v / 2 ^ (2 - l) % 2 = 1 → a' = a ∧ e' = e - (o3 - o1) ∧ c' = c - (o2 - o1)) := by
  have q := sq_pp v l hl
  have t := sq_tstep hl H (v / 2 ^ (3 - l)) hi
  have tn := sq_tstep hl H (v / 2 ^ (3 - l)) (Nat.le_refl n)
  have s2 := sq_st2 L n hl (v / 2 ^ (3 - l))
  have s3 := sq_st3 L n hl (v / 2 ^ (3 - l))
  have d := sq_p2 L hl (v / 2 ^ (3 - l)) n
  have di := sq_p2 L hl (v / 2 ^ (3 - l)) i
  have m := sq_pmono L l (v / 2 ^ (3 - l)) hi
  have z := sq_sten L n l (v / 2 ^ (3 - l))
  refine ⟨_, _, _, _, _, _, _, _, _, rfl, rfl, rfl, rfl, rfl, rfl, rfl, rfl, rfl, by omega, by omega, by omega, by omega, z, by omega, fun h => ?_, fun h => ?_⟩
  · rw [show v / 2 ^ (3 - (l + 1)) = 2 * (v / 2 ^ (3 - l)) + 1 by omega]
    refine ⟨?_, ?_, ?_⟩ <;> omega
  · rw [show v / 2 ^ (3 - (l + 1)) = 2 * (v / 2 ^ (3 - l)) by omega]
    refine ⟨?_, ?_, ?_⟩ <;> omega
/-- a step of matrixRank and matrixLetter for the letter v; in the last row only the difference counts -/
theorem sq_mnext {L : Nat → Nat} {n l : Nat} {R : Nat → Bool} (hL : ∀ j, L j < 8) (hl : l < 3) (H : sq_Row L n l (sq_mst L n l) R) {v : Nat} (hv : v < 8) {i a : Nat} (hi : i ≤ n) (ha : a = sq_mst L n l (v / 2 ^ (3 - l))) :
    ∃ c o1 o2 z a' c' : Nat, sq_p L l (v / 2 ^ (3 - l)) i = c ∧ sq_o R l a = o1 ∧ sq_o R l (a + c) = o2 ∧ n - sq_o R l n = z ∧ sq_p L (l + 1) (v / 2 ^ (3 - (l + 1))) i = c' ∧
    (l + 1 < 3 → a' = sq_mst L n (l + 1) (v / 2 ^ (3 - (l + 1)))) ∧ o1 ≤ a ∧ o2 ≤ a + c ∧ a + c ≤ n ∧ z ≤ n ∧
    (v / 2 ^ (2 - l) % 2 = 1 → a' = z + o1 ∧ a' + c' = z + o2) ∧ (¬ v / 2 ^ (2 - l) % 2 = 1 → a' = a - o1 ∧ a' + c' = a + c - o2) := by
  have q := sq_pp v l hl
  have hp : v / 2 ^ (3 - l) < 2 ^ l := by
    have : ∀ l, l < 3 → ∀ v, v < 8 → v / 2 ^ (3 - l) < 2 ^ l := by decide +kernel
    exact this l hl v hv
  have le := sq_mle hL n hl hp
  have mo := sq_pmono L l (v / 2 ^ (3 - l)) hi
  have b1 := sq_ole R l a
  have b2 := sq_ole R l (a + sq_p L l (v / 2 ^ (3 - l)) i)
  by_cases h2 : l < 2
  · have t := sq_mstep h2 H hp hi
    have t0 := sq_mstep h2 H hp (Nat.zero_le n)
    have e0 : sq_p L l (v / 2 ^ (3 - l)) 0 = 0 := rfl
    have e1 : ∀ x, sq_p L (l + 1) x 0 = 0 := fun _ => rfl
    rw [e0, Nat.add_zero, e1, e1, Nat.add_zero, Nat.add_zero, ← ha] at t0
    rw [← ha] at t le
    have zz := sq_mzeros hL h2 H
    rw [← zz] at t t0
    refine ⟨_, _, _, _, sq_mst L n (l + 1) (v / 2 ^ (3 - (l + 1))), _, rfl, rfl, rfl, rfl, rfl, fun _ => rfl, b1, b2, by omega, Nat.sub_le _ _, fun h => ?_, fun h => ?_⟩
    · rw [show v / 2 ^ (3 - (l + 1)) = 2 * (v / 2 ^ (3 - l)) + 1 by omega]
      exact ⟨t0.2.2.symm, t.2.2.symm⟩
    · rw [show v / 2 ^ (3 - (l + 1)) = 2 * (v / 2 ^ (3 - l)) by omega]
      exact ⟨t0.1.symm, t.1.symm⟩
  · have h2' : l = 2 := by omega
    subst h2'
    have t := sq_mlast H (v / 2 ^ (3 - 2)) hi
    rw [← ha] at t le
    have t1 : sq_o R 2 (a + sq_p L 2 (v / 2 ^ (3 - 2)) i) = sq_o R 2 a + sq_p L 3 (2 * (v / 2 ^ (3 - 2)) + 1) i := t.1
    have t2 : sq_p L 2 (v / 2 ^ (3 - 2)) i = sq_p L 3 (2 * (v / 2 ^ (3 - 2))) i + sq_p L 3 (2 * (v / 2 ^ (3 - 2)) + 1) i := t.2
    by_cases h : v / 2 ^ (2 - 2) % 2 = 1
    · refine ⟨_, _, _, _, (n - sq_o R 2 n) + sq_o R 2 a, _, rfl, rfl, rfl, rfl, rfl, fun z => by omega, b1, b2, by omega, Nat.sub_le _ _, fun _ => ⟨rfl, ?_⟩, fun z => absurd h z⟩
      rw [show v / 2 ^ (3 - (2 + 1)) = 2 * (v / 2 ^ (3 - 2)) + 1 by omega]
      show _ + sq_p L 3 (2 * (v / 2 ^ (3 - 2)) + 1) i = _
      omega
    · refine ⟨_, _, _, _, a - sq_o R 2 a, _, rfl, rfl, rfl, rfl, rfl, fun z => by omega, b1, b2, by omega, Nat.sub_le _ _, fun z => absurd z h, fun _ => ⟨rfl, ?_⟩⟩
      rw [show v / 2 ^ (3 - (2 + 1)) = 2 * (v / 2 ^ (3 - 2)) by omega]
      show _ + sq_p L 3 (2 * (v / 2 ^ (3 - 2))) i = _
      omega
theorem sq_v0 {v : Nat} (hv : v < 8) : v / 2 ^ (3 - 0) = 0 := by
  show v / 8 = 0
  omega
theorem sq_v3 (v : Nat) : v / 2 ^ (3 - 3) = v := by
  show v / 1 = v
  omega
theorem sq_b01 {p : Prop} {d : Decidable p} : (p ∧ nI (@decide p d).toNat = nI 1) ∨ (¬ p ∧ nI (@decide p d).toNat = nI 0) := by
  by_cases h : p
  · left; rw [decide_eq_true h]; exact ⟨h, rfl⟩
  · right; rw [decide_eq_false h]; exact ⟨h, rfl⟩
section
variable {f_length f_runCount f_streamLength : Int32} {a_letters : Nat → Int32} {a_plainWords a_treeBits a_matrixBits : Nat → Int64} {a_matrixZeros : Nat → Int32} {a_letterRows a_runWords : Nat → Int64} {a_letterCounts a_groupWeights a_groupOf a_codeLengths a_codes a_codesOfLength a_lettersByCode : Nat → Int32} {a_stream : Nat → Int64} {a_sampleStarts a_sampleRanks : Nat → Int32} {a_sparseHigh a_sparseLow : Nat → Int64}
theorem sq_xrow_treeBits {post : Int32 → Prop} {l s : Nat} {x : Int32} (hx : x = nI s) (hw : 256 * l + s ≤ 768) (h : post (nI (sq_o (sq_B a_treeBits) l s))) : wpX_onesBefore__treeBits post (f_length, f_runCount, f_streamLength, a_letters, a_plainWords, a_treeBits, a_matrixBits, a_matrixZeros, a_letterRows, a_runWords, a_letterCounts, a_groupWeights, a_groupOf, a_codeLengths, a_codes, a_codesOfLength, a_lettersByCode, a_stream, a_sampleStarts, a_sampleRanks, a_sparseHigh, a_sparseLow) (nI l * 4) x := by
  subst hx
  rw [show nI l * 4 = nI (l * 4) from pk_mul l 4]
  exact sq_xob_treeBits (by omega) (by rw [sq_ow]; exact h)
theorem sq_xrow_matrixBits {post : Int32 → Prop} {l s : Nat} {x : Int32} (hx : x = nI s) (hw : 256 * l + s ≤ 768) (h : post (nI (sq_o (sq_B a_matrixBits) l s))) : wpX_onesBefore__matrixBits post (f_length, f_runCount, f_streamLength, a_letters, a_plainWords, a_treeBits, a_matrixBits, a_matrixZeros, a_letterRows, a_runWords, a_letterCounts, a_groupWeights, a_groupOf, a_codeLengths, a_codes, a_codesOfLength, a_lettersByCode, a_stream, a_sampleStarts, a_sampleRanks, a_sparseHigh, a_sparseLow) (nI l * 4) x := by
  subst hx
  rw [show nI l * 4 = nI (l * 4) from pk_mul l 4]
  exact sq_xob_matrixBits (by omega) (by rw [sq_ow]; exact h)
theorem sq_xrow_letterRows {post : Int32 → Prop} {l s : Nat} {x : Int32} (hx : x = nI s) (hw : 256 * l + s ≤ 2048) (h : post (nI (sq_o (sq_B a_letterRows) l s))) : wpX_onesBefore__letterRows post (f_length, f_runCount, f_streamLength, a_letters, a_plainWords, a_treeBits, a_matrixBits, a_matrixZeros, a_letterRows, a_runWords, a_letterCounts, a_groupWeights, a_groupOf, a_codeLengths, a_codes, a_codesOfLength, a_lettersByCode, a_stream, a_sampleStarts, a_sampleRanks, a_sparseHigh, a_sparseLow) (nI l * 4) x := by
  subst hx
  rw [show nI l * 4 = nI (l * 4) from pk_mul l 4]
  exact sq_xob_letterRows (by omega) (by rw [sq_ow]; exact h)
theorem sq_xtreeRank {post : Int32 → Prop} {L : Nat → Nat} {n v i : Nat} (hL : ∀ j, L j < 8) (hn : n ≤ 200) (H : sq_P1 L n a_treeBits) (hv : v < 8) (hi : i ≤ n) (h : post (nI (sq_rk L v i))) : wpX_treeRank post ((nI n), f_runCount, f_streamLength, a_letters, a_plainWords, a_treeBits, a_matrixBits, a_matrixZeros, a_letterRows, a_runWords, a_letterCounts, a_groupWeights, a_groupOf, a_codeLengths, a_codes, a_codesOfLength, a_lettersByCode, a_stream, a_sampleStarts, a_sampleRanks, a_sparseHigh, a_sparseLow) (nI v) (nI i) :=
  loop_0 (σ := Int32 × Int32 × Int32) (fun n' l s => wX_treeRank_14 post (nI v) (nI n) f_runCount f_streamLength a_letters a_plainWords a_treeBits a_matrixBits a_matrixZeros a_letterRows a_runWords a_letterCounts a_groupWeights a_groupOf a_codeLengths a_codes a_codesOfLength a_lettersByCode a_stream a_sampleStarts a_sampleRanks a_sparseHigh a_sparseLow n' s.1 s.2.1 s.2.2 (nI l))
    (fun l s => s.1 = nI (sq_st L n l (v / 2 ^ (3 - l))) ∧ s.2.1 = nI (sq_st L n l (v / 2 ^ (3 - l)) + sq_p L l (v / 2 ^ (3 - l)) n) ∧ s.2.2 = nI (sq_p L l (v / 2 ^ (3 - l)) i)) 3 (0, nI n, nI i)
    (by
      rw [sq_v0 hv, sq_p0 hL, sq_p0 hL]
      exact ⟨rfl, congrArg nI (Nat.zero_add n).symm, rfl⟩)
    (fun n' s e => br_t (nI_le (Nat.le_refl 3) (by decide)) (sq_v (P := post) e.2.2 (by rw [sq_v3, sq_p3]; exact h)))
    (fun n' l s hl e k => by
      obtain ⟨s1, s2, s3⟩ := s
      obtain ⟨a, e', c, o1, o2, o3, a1, e1, c1, q1, q2, q3, q4, q5, q6, q7, q8, q9, k1, k2, k3, k4, k5, k6, kt, kf⟩ := sq_tnext hl (H l hl) v hi
      obtain ⟨r1, r2, r3⟩ := e
      rw [q1] at r1
      rw [q2] at r2
      rw [q3] at r3
      have r1' : s1 = nI a := r1
      have r2' : s2 = nI e' := r2
      have r3' : s3 = nI c := r3
      subst r1' r2' r3'
      refine br_f (nI_ge (b := 3) hl (by decide)) (nm_e (sq_xrow_treeBits rfl (by omega) ?_))
      rw [q4]
      refine sq_xrow_treeBits (nI_add a c) (by omega) ?_
      rw [q5]
      refine nm_r (pk_sub k1) (sq_xrow_treeBits rfl (by omega) ?_)
      rw [q6]
      refine nm_r (e' := nI (e' - (o3 - o1))) (by rw [pk_sub k2, pk_sub k3]) ?_
      show (_ → _) ∧ (_ → _)
      rw [sq_lbit v hv l hl]
      refine pk_eq (v / 2 ^ (2 - l) % 2) 1 (fun hb => ?_) (fun hb => ?_)
      · obtain ⟨z1, z2, z3⟩ := kt hb
        refine nm_r (nI_1 l) (k (nI (e' - (o3 - o1)), nI e', nI (o2 - o1)) ⟨?_, ?_, ?_⟩)
        · show nI (e' - (o3 - o1)) = _; rw [q7, z1]
        · show nI e' = _; rw [q8, z2]
        · show nI (o2 - o1) = _; rw [q9, z3]
      · obtain ⟨z1, z2, z3⟩ := kf hb
        refine nm_r (pk_sub k4) (nm_r (nI_1 l) (k (nI a, nI (e' - (o3 - o1)), nI (c - (o2 - o1))) ⟨?_, ?_, ?_⟩))
        · show nI a = _; rw [q7, z1]
        · show nI (e' - (o3 - o1)) = _; rw [q8, z2]
        · show nI (c - (o2 - o1)) = _; rw [q9, z3])
theorem sq_xtreeLetter {post : Int32 → Prop} {L : Nat → Nat} {n i : Nat} (hL : ∀ j, L j < 8) (hn : n ≤ 200) (H : sq_P1 L n a_treeBits) (hi : i < n) (h : post (nI (L i))) : wpX_treeLetter post ((nI n), f_runCount, f_streamLength, a_letters, a_plainWords, a_treeBits, a_matrixBits, a_matrixZeros, a_letterRows, a_runWords, a_letterCounts, a_groupWeights, a_groupOf, a_codeLengths, a_codes, a_codesOfLength, a_lettersByCode, a_stream, a_sampleStarts, a_sampleRanks, a_sparseHigh, a_sparseLow) (nI i) :=
  loop_0 (σ := Int32 × Int32 × Int32 × Int32) (fun n' l s => wX_treeLetter_16 post (nI n) f_runCount f_streamLength a_letters a_plainWords a_treeBits a_matrixBits a_matrixZeros a_letterRows a_runWords a_letterCounts a_groupWeights a_groupOf a_codeLengths a_codes a_codesOfLength a_lettersByCode a_stream a_sampleStarts a_sampleRanks a_sparseHigh a_sparseLow n' s.2.2.2 s.1 s.2.1 s.2.2.1 (nI l))
    (fun l s => s.1 = nI (sq_st L n l (L i / 2 ^ (3 - l))) ∧ s.2.1 = nI (sq_st L n l (L i / 2 ^ (3 - l)) + sq_p L l (L i / 2 ^ (3 - l)) n) ∧ s.2.2.1 = nI (sq_p L l (L i / 2 ^ (3 - l)) i) ∧ s.2.2.2 = nI (L i / 2 ^ (3 - l))) 3 (0, nI n, nI i, 0)
    (by
      rw [sq_v0 (hL i), sq_p0 hL, sq_p0 hL]
      exact ⟨rfl, congrArg nI (Nat.zero_add n).symm, rfl, rfl⟩)
    (fun n' s e => br_t (nI_le (Nat.le_refl 3) (by decide)) (sq_v (P := post) e.2.2.2 (by rw [sq_v3]; exact h)))
    (fun n' l s hl e k => by
      obtain ⟨s1, s2, s3, s4⟩ := s
      obtain ⟨a, e', c, o1, o2, o3, a1, e1, c1, q1, q2, q3, q4, q5, q6, q7, q8, q9, k1, k2, k3, k4, k5, k6, kt, kf⟩ := sq_tnext hl (H l hl) (L i) (Nat.le_of_lt hi)
      obtain ⟨r1, r2, r3, r4⟩ := e
      have hb := H l hl i hi
      rw [q1, q3] at hb
      rw [q1] at r1
      rw [q2] at r2
      rw [q3] at r3
      have r1' : s1 = nI a := r1
      have r2' : s2 = nI e' := r2
      have r3' : s3 = nI c := r3
      have r4' : s4 = nI (L i / 2 ^ (3 - l)) := r4
      subst r1' r2' r3' r4'
      have g : (nI l * 256 + nI a) + nI c = nI (256 * l + (a + c)) := by
        rw [show nI l * 256 = nI (l * 256) from pk_mul l 256, nI_add, nI_add]
        exact congrArg nI (by omega)
      refine br_f (nI_ge (b := 3) hl (by decide)) (nm_e (sq_v (P := fun z => wpX_bitAt__treeBits _ ((nI n), f_runCount, f_streamLength, a_letters, a_plainWords, a_treeBits, a_matrixBits, a_matrixZeros, a_letterRows, a_runWords, a_letterCounts, a_groupWeights, a_groupOf, a_codeLengths, a_codes, a_codesOfLength, a_lettersByCode, a_stream, a_sampleStarts, a_sampleRanks, a_sparseHigh, a_sparseLow) z) g (sq_xbit_treeBits (by omega) ?_)))
      rw [hb]
      refine sq_xrow_treeBits rfl (by omega) ?_
      rw [q4]
      refine sq_xrow_treeBits (nI_add a c) (by omega) ?_
      rw [q5]
      refine nm_r (pk_sub k1) (sq_xrow_treeBits rfl (by omega) ?_)
      rw [q6]
      refine nm_r (e' := nI (e' - (o3 - o1))) (by rw [pk_sub k2, pk_sub k3]) ?_
      have q := sq_pp (L i) l hl
      by_cases hd : L i / 2 ^ (2 - l) % 2 = 1
      · obtain ⟨z1, z2, z3⟩ := kt hd
        rw [decide_eq_true hd]
        refine br_t rfl (nm_r (e' := nI (L i / 2 ^ (3 - (l + 1)))) ?_ (nm_r (nI_1 l) (k (_, _, _, _) ⟨?_, ?_, ?_, rfl⟩)))
        · show nI (L i / 2 ^ (3 - l)) * nI 2 + nI 1 = _
          rw [pk_mul, nI_add]; exact congrArg nI (by omega)
        · show nI (e' - (o3 - o1)) = _; rw [q7, z1]
        · show nI e' = _; rw [q8, z2]
        · show nI (o2 - o1) = _; rw [q9, z3]
      · obtain ⟨z1, z2, z3⟩ := kf hd
        rw [decide_eq_false hd]
        refine br_f (by decide) (nm_r (pk_sub k4) (nm_r (e' := nI (L i / 2 ^ (3 - (l + 1)))) ?_ (nm_r (nI_1 l) (k (_, _, _, _) ⟨?_, ?_, ?_, rfl⟩))))
        · show nI (L i / 2 ^ (3 - l)) * nI 2 + nI 0 = _
          rw [pk_mul, nI_add]; exact congrArg nI (by omega)
        · show nI a = _; rw [q7, z1]
        · show nI (e' - (o3 - o1)) = _; rw [q8, z2]
        · show nI (c - (o2 - o1)) = _; rw [q9, z3])
theorem sq_xmatrixRank {post : Int32 → Prop} {L : Nat → Nat} {n v i : Nat} (hL : ∀ j, L j < 8) (hn : n ≤ 200) (H : sq_P2 L n a_matrixBits a_matrixZeros) (hv : v < 8) (hi : i ≤ n) (h : post (nI (sq_rk L v i))) : wpX_matrixRank post ((nI n), f_runCount, f_streamLength, a_letters, a_plainWords, a_treeBits, a_matrixBits, a_matrixZeros, a_letterRows, a_runWords, a_letterCounts, a_groupWeights, a_groupOf, a_codeLengths, a_codes, a_codesOfLength, a_lettersByCode, a_stream, a_sampleStarts, a_sampleRanks, a_sparseHigh, a_sparseLow) (nI v) (nI i) :=
  loop_0 (σ := Int32 × Int32) (fun n' l s => wX_matrixRank_8 post (nI v) (nI n) f_runCount f_streamLength a_letters a_plainWords a_treeBits a_matrixBits a_matrixZeros a_letterRows a_runWords a_letterCounts a_groupWeights a_groupOf a_codeLengths a_codes a_codesOfLength a_lettersByCode a_stream a_sampleStarts a_sampleRanks a_sparseHigh a_sparseLow n' s.1 s.2 (nI l))
    (fun l s => ∃ a, (l < 3 → a = sq_mst L n l (v / 2 ^ (3 - l))) ∧ s.1 = nI a ∧ s.2 = nI (a + sq_p L l (v / 2 ^ (3 - l)) i)) 3 (0, nI i)
    (by
      rw [sq_v0 hv, sq_p0 hL]
      exact ⟨0, fun _ => rfl, rfl, congrArg nI (Nat.zero_add i).symm⟩)
    (fun n' s e => by
      obtain ⟨a, _, e1, e2⟩ := e
      refine br_t (nI_le (Nat.le_refl 3) (by decide)) (sq_v (P := post) (?_ : s.2 - s.1 = nI (sq_rk L v i)) h)
      rw [e1, e2, pk_sub (Nat.le_add_right _ _), Nat.add_sub_cancel_left, sq_v3, sq_p3]
      rfl)
    (fun n' l s hl e k => by
      obtain ⟨s1, s2⟩ := s
      obtain ⟨a, ha, r1, r2⟩ := e
      obtain ⟨c, o1, o2, z, a', c', q1, q2, q3, q4, q5, q6, b1, b2, b3, b4, kt, kf⟩ := sq_mnext hL hl (H l hl).1 hv hi (ha hl)
      have hz := (H l hl).2
      rw [q4] at hz
      rw [q1] at r2
      have r1' : s1 = nI a := r1
      have r2' : s2 = nI (a + c) := r2
      subst r1' r2'
      refine br_f (nI_ge (b := 3) hl (by decide)) (sq_xrow_matrixBits rfl (by omega) ?_)
      rw [q2]
      refine sq_xrow_matrixBits rfl (by omega) ?_
      rw [q3]
      show (_ → _) ∧ (_ → _)
      rw [sq_lbit v hv l hl]
      have hin : vp_in (nI l) 3 := vp_in_nI hl (by decide)
      have hc : (nI l).toNatClampNeg = l := nI_clamp (by omega)
      refine pk_eq (v / 2 ^ (2 - l) % 2) 1 (fun hb => ?_) (fun hb => ?_)
      · obtain ⟨z1, z2⟩ := kt hb
        refine ⟨hin, nm_r (e' := nI a') (by rw [hc, hz, nI_add, z1]) ⟨hin, nm_r (e' := nI (a' + c')) (by rw [hc, hz, nI_add, z2]) (nm_r (nI_1 l) (k (_, _) ⟨a', q6, rfl, ?_⟩))⟩⟩
        show nI (a' + c') = _; rw [q5]
      · obtain ⟨z1, z2⟩ := kf hb
        refine nm_r (e' := nI a') (by rw [pk_sub b1, z1]) (nm_r (e' := nI (a' + c')) (by rw [pk_sub b2, z2]) (nm_r (nI_1 l) (k (_, _) ⟨a', q6, rfl, ?_⟩)))
        show nI (a' + c') = _; rw [q5])
theorem sq_xmatrixLetter {post : Int32 → Prop} {L : Nat → Nat} {n i : Nat} (hL : ∀ j, L j < 8) (hn : n ≤ 200) (H : sq_P2 L n a_matrixBits a_matrixZeros) (hi : i < n) (h : post (nI (L i))) : wpX_matrixLetter post ((nI n), f_runCount, f_streamLength, a_letters, a_plainWords, a_treeBits, a_matrixBits, a_matrixZeros, a_letterRows, a_runWords, a_letterCounts, a_groupWeights, a_groupOf, a_codeLengths, a_codes, a_codesOfLength, a_lettersByCode, a_stream, a_sampleStarts, a_sampleRanks, a_sparseHigh, a_sparseLow) (nI i) :=
  loop_0 (σ := Int32 × Int32) (fun n' l s => wX_matrixLetter_7 post (nI n) f_runCount f_streamLength a_letters a_plainWords a_treeBits a_matrixBits a_matrixZeros a_letterRows a_runWords a_letterCounts a_groupWeights a_groupOf a_codeLengths a_codes a_codesOfLength a_lettersByCode a_stream a_sampleStarts a_sampleRanks a_sparseHigh a_sparseLow n' s.1 s.2 (nI l))
    (fun l s => ∃ a, (l < 3 → a = sq_mst L n l (L i / 2 ^ (3 - l))) ∧ s.1 = nI (L i / 2 ^ (3 - l)) ∧ s.2 = nI (a + sq_p L l (L i / 2 ^ (3 - l)) i)) 3 (0, nI i)
    (by
      rw [sq_v0 (hL i), sq_p0 hL]
      exact ⟨0, fun _ => rfl, rfl, congrArg nI (Nat.zero_add i).symm⟩)
    (fun n' s e => by
      obtain ⟨a, _, e1, e2⟩ := e
      exact br_t (nI_le (Nat.le_refl 3) (by decide)) (sq_v (P := post) e1 (by rw [sq_v3]; exact h)))
    (fun n' l s hl e k => by
      obtain ⟨s1, s2⟩ := s
      obtain ⟨a, ha, r1, r2⟩ := e
      obtain ⟨c, o1, o2, z, a', c', q1, q2, q3, q4, q5, q6, b1, b2, b3, b4, kt, kf⟩ := sq_mnext hL hl (H l hl).1 (hL i) (Nat.le_of_lt hi) (ha hl)
      have hz := (H l hl).2
      have hb := (H l hl).1 i hi
      rw [q4] at hz
      rw [← ha hl, q1] at hb
      rw [q1] at r2
      have r1' : s1 = nI (L i / 2 ^ (3 - l)) := r1
      have r2' : s2 = nI (a + c) := r2
      subst r1' r2'
      have g : nI l * 256 + nI (a + c) = nI (256 * l + (a + c)) := by
        rw [show nI l * 256 = nI (l * 256) from pk_mul l 256, nI_add]
        exact congrArg nI (by omega)
      refine br_f (nI_ge (b := 3) hl (by decide)) (sq_v (P := fun z => wpX_bitAt__matrixBits _ ((nI n), f_runCount, f_streamLength, a_letters, a_plainWords, a_treeBits, a_matrixBits, a_matrixZeros, a_letterRows, a_runWords, a_letterCounts, a_groupWeights, a_groupOf, a_codeLengths, a_codes, a_codesOfLength, a_lettersByCode, a_stream, a_sampleStarts, a_sampleRanks, a_sparseHigh, a_sparseLow) z) g (sq_xbit_matrixBits (by omega) ?_))
      rw [hb]
      refine sq_xrow_matrixBits rfl (by omega) ?_
      rw [q3]
      have q := sq_pp (L i) l hl
      have hin : vp_in (nI l) 3 := vp_in_nI hl (by decide)
      have hc : (nI l).toNatClampNeg = l := nI_clamp (by omega)
      by_cases hd : L i / 2 ^ (2 - l) % 2 = 1
      · obtain ⟨z1, z2⟩ := kt hd
        rw [decide_eq_true hd]
        refine br_t rfl ⟨hin, nm_r (e' := nI (L i / 2 ^ (3 - (l + 1)))) ?_ (nm_r (nI_1 l) (k (_, _) ⟨a', q6, rfl, ?_⟩))⟩
        · show nI (L i / 2 ^ (3 - l)) * nI 2 + nI 1 = _
          rw [pk_mul, nI_add]; exact congrArg nI (by omega)
        · show a_matrixZeros (nI l).toNatClampNeg + nI o2 = _
          rw [hc, hz, nI_add, q5, z2]
      · obtain ⟨z1, z2⟩ := kf hd
        rw [decide_eq_false hd]
        refine br_f (by decide) (nm_r (e' := nI (L i / 2 ^ (3 - (l + 1)))) ?_ (nm_r (nI_1 l) (k (_, _) ⟨a', q6, rfl, ?_⟩)))
        · show nI (L i / 2 ^ (3 - l)) * nI 2 + nI 0 = _
          rw [pk_mul, nI_add]; exact congrArg nI (by omega)
        · show nI (a + c) - nI o2 = _
          rw [pk_sub b2, q5, z2])
end
