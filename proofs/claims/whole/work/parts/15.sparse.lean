-- Part 15: reading the code's stream and the sparse row (written by wip/whole/gen15.py)
theorem sq_d16 {p : Nat} (hp : p < 2 ^ 31) : nI p >>> ((4 : Int32) &&& 31) = nI (p / 16) := pk_shrN hp _ 4 (by decide)
theorem sq_m16 {p : Nat} (hp : p < 2 ^ 27) : nI p <<< ((4 : Int32) &&& 31) = nI (16 * p) := by
  rw [Nat.mul_comm]
  exact pk_shlN _ 4 (by decide) (by omega)
theorem sq_d8 {p : Nat} (hp : p < 2 ^ 31) : nI p / 8 = nI (p / 8) := pk_div (d := 8) hp (by decide) (by decide)
theorem sq_r8 {p : Nat} (hp : p < 2 ^ 31) : nI p - nI p / 8 * 8 = nI (p % 8) := pk_rem (d := 8) hp (by decide) (by decide)
section
variable {f_length f_runCount f_streamLength : Int32} {a_letters : Nat → Int32} {a_plainWords a_treeBits a_matrixBits : Nat → Int64} {a_matrixZeros : Nat → Int32} {a_letterRows a_runWords : Nat → Int64} {a_letterCounts a_groupWeights a_groupOf a_codeLengths a_codes a_codesOfLength a_lettersByCode : Nat → Int32} {a_stream : Nat → Int64} {a_sampleStarts a_sampleRanks : Nat → Int32} {a_sparseHigh a_sparseLow : Nat → Int64}
theorem sq_xread {post : Int32 → Prop} {L : Nat → Nat} {n q : Nat} {len : Nat → Nat} (hL : ∀ j, L j < 8) (hn : n ≤ 200) (H : sq_CP L n len a_codeLengths a_codesOfLength a_lettersByCode (sq_B a_stream) a_sampleStarts a_sampleRanks f_streamLength) (h600 : sq_T L len n ≤ 600) (hq : q < n) (h : post (nI (L q))) : wpX_readLetter post ((nI n), f_runCount, f_streamLength, a_letters, a_plainWords, a_treeBits, a_matrixBits, a_matrixZeros, a_letterRows, a_runWords, a_letterCounts, a_groupWeights, a_groupOf, a_codeLengths, a_codes, a_codesOfLength, a_lettersByCode, a_stream, a_sampleStarts, a_sampleRanks, a_sparseHigh, a_sparseLow) (nI (sq_T L len q)) := by
  obtain ⟨h1, h2, h3, h4, h5, h6, h7, h8⟩ := H
  have hl := sq_CPl hL h1 hq
  have hT := sq_Tmono L len (a := q + 1) n (by omega)
  rw [sq_Ts] at hT
  have w0 := sq_w0 h1.2.2 (hL q) hl.1 hl.2
  exact pk_loop (σ := Int32 × Int32 × Int32) (fun n' s x => wX_readLetter_10 post (nI (sq_T L len q)) (nI n) f_runCount f_streamLength a_letters a_plainWords a_treeBits a_matrixBits a_matrixZeros a_letterRows a_runWords a_letterCounts a_groupWeights a_groupOf a_codeLengths a_codes a_codesOfLength a_lettersByCode a_stream a_sampleStarts a_sampleRanks a_sparseHigh a_sparseLow n' x.1 x.2.1 x.2.2 (nI s))
    (fun s x => 1 ≤ s ∧ x.1 = nI (sq_w len (L q) / 2 ^ (len (L q) - (s - 1))) ∧ x.2.1 = nI (sq_f len s) ∧ x.2.2 = nI (sq_i len s)) (len (L q)) 1 (0, 0, 0) hl.1
    ⟨Nat.le_refl 1, (congrArg nI (Nat.div_eq_of_lt (by rw [Nat.sub_self, Nat.sub_zero]; exact w0))).symm, rfl, rfl⟩
    (fun n' x e => by
      obtain ⟨x1, x2, x3⟩ := x
      obtain ⟨e0, e1, e2, e3⟩ := e
      have e1' : x1 = nI (sq_w len (L q) / 2 ^ (len (L q) - (len (L q) - 1))) := e1
      have e2' : x2 = nI (sq_f len (len (L q))) := e2
      have e3' : x3 = nI (sq_i len (len (L q))) := e3
      subst e1' e2' e3'
      have rd := sq_rd (len := len) (hL q) hl.1 (Nat.le_refl _)
      have nx := sq_nx (sq_w len (L q)) (len (L q) - len (L q))
      have bt := h5.1 q hq (len (L q) - 1) (by omega)
      have g : nI (sq_T L len q) + nI (len (L q)) - 1 = nI (sq_T L len q + (len (L q) - 1)) := by
        rw [nI_add]
        exact (pk_sub (b := 1) (by omega)).trans (congrArg nI (by omega))
      have hin : vp_in (nI (len (L q))) 8 := vp_in_nI (by omega) (by decide)
      refine br_f (nI_ge (b := 8) (by omega) (by decide)) (sq_v (P := fun z => wpX_bitAt__stream _ ((nI n), f_runCount, f_streamLength, a_letters, a_plainWords, a_treeBits, a_matrixBits, a_matrixZeros, a_letterRows, a_runWords, a_letterCounts, a_groupWeights, a_groupOf, a_codeLengths, a_codes, a_codesOfLength, a_lettersByCode, a_stream, a_sampleStarts, a_sampleRanks, a_sparseHigh, a_sparseLow) z) g (sq_xbit_stream (by omega) ?_))
      rw [bt, show len (L q) - 1 - (len (L q) - 1) = len (L q) - len (L q) by omega]
      refine nm_r (e' := nI (sq_w len (L q) / 2 ^ (len (L q) - len (L q)))) ?_ (nm_r (pk_sub rd.1) ⟨hin, ?_⟩)
      · show nI _ * nI 2 + nI _ = _
        rw [pk_mul, nI_add, nx, show len (L q) - (len (L q) - 1) = len (L q) - len (L q) + 1 by omega, Nat.mul_comm]
      · have c1 := rd.2.2 rfl
        rw [c1.1, nI_clamp (by omega), h3 _ hl.1 (by omega)]
        have n8 : sq_n len (len (L q)) ≤ 8 := sq_cle _ 8
        have ix := sq_ix8 (len := len) (hL q) hl.1
        refine br_f (nI_ge c1.2 (by omega)) ⟨sq_v (P := fun z => vp_in z 8) (nI_add _ _) (vp_in_nI ix (by decide)), ?_⟩
        rw [nI_add, show sq_i len (len (L q)) + sq_c (fun k => decide (len k = len (L q))) (L q) = sq_ix len (L q) from rfl, nI_clamp (by omega), h4 _ (hL q) hl.1]
        exact h)
    (fun n' s x hs e k => by
      obtain ⟨x1, x2, x3⟩ := x
      obtain ⟨e0, e1, e2, e3⟩ := e
      have e1' : x1 = nI (sq_w len (L q) / 2 ^ (len (L q) - (s - 1))) := e1
      have e2' : x2 = nI (sq_f len s) := e2
      have e3' : x3 = nI (sq_i len s) := e3
      subst e1' e2' e3'
      have rd := sq_rd (len := len) (hL q) e0 (Nat.le_of_lt hs)
      have nx := sq_nx (sq_w len (L q)) (len (L q) - s)
      have bt := h5.1 q hq (s - 1) (by omega)
      have g : nI (sq_T L len q) + nI s - 1 = nI (sq_T L len q + (s - 1)) := by
        rw [nI_add]
        exact (pk_sub (b := 1) (by omega)).trans (congrArg nI (by omega))
      have hin : vp_in (nI s) 8 := vp_in_nI (by omega) (by decide)
      refine br_f (nI_ge (b := 8) (by omega) (by decide)) (sq_v (P := fun z => wpX_bitAt__stream _ ((nI n), f_runCount, f_streamLength, a_letters, a_plainWords, a_treeBits, a_matrixBits, a_matrixZeros, a_letterRows, a_runWords, a_letterCounts, a_groupWeights, a_groupOf, a_codeLengths, a_codes, a_codesOfLength, a_lettersByCode, a_stream, a_sampleStarts, a_sampleRanks, a_sparseHigh, a_sparseLow) z) g (sq_xbit_stream (by omega) ?_))
      rw [bt, show len (L q) - 1 - (s - 1) = len (L q) - s by omega]
      have wb : sq_w len (L q) / 2 ^ (len (L q) - s) < 2 ^ 31 := by
        have a1 : sq_w len (L q) / 2 ^ (len (L q) - s) ≤ sq_w len (L q) := Nat.div_le_self _ _
        have a2 : 2 ^ len (L q) ≤ 2 ^ 7 := Nat.pow_le_pow_right (by decide) hl.2
        omega
      refine nm_r (e' := nI (sq_w len (L q) / 2 ^ (len (L q) - s))) ?_ (nm_r (pk_sub rd.1) ⟨hin, ?_⟩)
      · show nI _ * nI 2 + nI _ = _
        rw [pk_mul, nI_add, nx, show len (L q) - (s - 1) = len (L q) - s + 1 by omega, Nat.mul_comm]
      · have c1 := rd.2.1 hs
        rw [nI_clamp (by omega), h3 s e0 (by omega)]
        refine br_t (nI_le c1 (by omega)) ⟨hin, nm_r (nI_add _ _) ⟨hin, nm_r (e' := nI (sq_f len (s + 1))) ?_ (nm_r (nI_1 s) (k (_, _, _) ⟨by omega, ?_, rfl, ?_⟩))⟩⟩
        · show (nI _ + nI _) * nI 2 = _
          obtain ⟨t, rfl⟩ : ∃ t, s = t + 1 := ⟨s - 1, by omega⟩
          rw [nI_add, pk_mul, Nat.mul_comm]
          rfl
        · show nI _ = nI _
          rw [Nat.add_sub_cancel]
        · show nI _ = nI _
          obtain ⟨t, rfl⟩ : ∃ t, s = t + 1 := ⟨s - 1, by omega⟩
          rfl)
theorem sq_xcodeLetter {post : Int32 → Prop} {L : Nat → Nat} {n i : Nat} {len : Nat → Nat} (hL : ∀ j, L j < 8) (hn : n ≤ 200) (H : sq_CP L n len a_codeLengths a_codesOfLength a_lettersByCode (sq_B a_stream) a_sampleStarts a_sampleRanks f_streamLength) (h600 : sq_T L len n ≤ 600) (hi : i < n) (h : post (nI (L i))) : wpX_codeLetter post ((nI n), f_runCount, f_streamLength, a_letters, a_plainWords, a_treeBits, a_matrixBits, a_matrixZeros, a_letterRows, a_runWords, a_letterCounts, a_groupWeights, a_groupOf, a_codeLengths, a_codes, a_codesOfLength, a_lettersByCode, a_stream, a_sampleStarts, a_sampleRanks, a_sparseHigh, a_sparseLow) (nI i) := by
  have s0 := (H.2.2.2.2.2.1 (i / 16) (by omega)).1
  refine nm_r (sq_d16 (by omega)) ⟨vp_in_nI (by omega) (by decide), nm_r (e' := nI (sq_T L len (16 * (i / 16)))) (by rw [nI_clamp (by omega), s0]) (nm_r (sq_m16 (by omega)) ?_)⟩
  exact pk_loop (σ := Int32) (fun n' q x3 => wX_codeLetter_16 post (nI i) (nI n) f_runCount f_streamLength a_letters a_plainWords a_treeBits a_matrixBits a_matrixZeros a_letterRows a_runWords a_letterCounts a_groupWeights a_groupOf a_codeLengths a_codes a_codesOfLength a_lettersByCode a_stream a_sampleStarts a_sampleRanks a_sparseHigh a_sparseLow n' x3 (nI q)) (fun q x3 => x3 = nI (sq_T L len q)) i (16 * (i / 16)) (nI (sq_T L len (16 * (i / 16)))) (by omega) rfl
    (fun n' x3 e => by
      subst e
      exact br_t (nI_le (Nat.le_refl i) (by omega)) (sq_xread hL hn H h600 hi h))
    (fun n' q x3 hq e k => by
      subst e
      have h8 := hL q
      refine br_f (nI_ge hq (by omega)) (sq_xread hL hn H h600 (by omega) ⟨vp_in_nI h8 (by decide), nm_r (e' := nI (sq_T L len (q + 1))) ?_ (nm_r (nI_1 q) (k _ rfl))⟩)
      rw [nI_clamp (by omega), H.2.1 _ h8, nI_add, sq_Ts])
theorem sq_xcodeRank {post : Int32 → Prop} {L : Nat → Nat} {n v i : Nat} {len : Nat → Nat} (hL : ∀ j, L j < 8) (hn : n ≤ 200) (H : sq_CP L n len a_codeLengths a_codesOfLength a_lettersByCode (sq_B a_stream) a_sampleStarts a_sampleRanks f_streamLength) (h600 : sq_T L len n ≤ 600) (hv : v < 8) (hi : i ≤ n) (h : post (nI (sq_rk L v i))) : wpX_codeRank post ((nI n), f_runCount, f_streamLength, a_letters, a_plainWords, a_treeBits, a_matrixBits, a_matrixZeros, a_letterRows, a_runWords, a_letterCounts, a_groupWeights, a_groupOf, a_codeLengths, a_codes, a_codesOfLength, a_lettersByCode, a_stream, a_sampleStarts, a_sampleRanks, a_sparseHigh, a_sparseLow) (nI v) (nI i) := by
  have s0 := H.2.2.2.2.2.1 (i / 16) (by omega)
  have g : nI (i / 16) * 8 + nI v = nI (8 * (i / 16) + v) := by
    rw [show nI (i / 16) * 8 = nI (i / 16 * 8) from pk_mul _ 8, nI_add]
    exact congrArg nI (by omega)
  refine nm_r (sq_d16 (by omega)) ⟨vp_in_nI (by omega) (by decide), nm_r (e' := nI (sq_T L len (16 * (i / 16)))) (by rw [nI_clamp (by omega), s0.1]) ⟨sq_v (P := fun z => vp_in z 104) g (vp_in_nI (by omega) (by decide)), nm_r (e' := nI (sq_rk L v (16 * (i / 16)))) (by rw [g, nI_clamp (by omega), s0.2 v hv]) (nm_r (sq_m16 (by omega)) ?_)⟩⟩
  exact pk_loop (σ := Int32 × Int32) (fun n' q s => wX_codeRank_30 post (nI v) (nI i) (nI n) f_runCount f_streamLength a_letters a_plainWords a_treeBits a_matrixBits a_matrixZeros a_letterRows a_runWords a_letterCounts a_groupWeights a_groupOf a_codeLengths a_codes a_codesOfLength a_lettersByCode a_stream a_sampleStarts a_sampleRanks a_sparseHigh a_sparseLow n' s.1 s.2 (nI q)) (fun q s => s.1 = nI (sq_T L len q) ∧ s.2 = nI (sq_rk L v q)) i (16 * (i / 16)) (nI (sq_T L len (16 * (i / 16))), nI (sq_rk L v (16 * (i / 16)))) (by omega) ⟨rfl, rfl⟩
    (fun n' s e => br_t (nI_le (Nat.le_refl i) (by omega)) (sq_v (P := post) e.2 h))
    (fun n' q s hq e k => by
      obtain ⟨s1, s2⟩ := s
      obtain ⟨e1, e2⟩ := e
      have e1' : s1 = nI (sq_T L len q) := e1
      have e2' : s2 = nI (sq_rk L v q) := e2
      subst e1' e2'
      have h8 := hL q
      refine br_f (nI_ge hq (by omega)) (sq_xread hL hn H h600 (by omega) ⟨vp_in_nI h8 (by decide), nm_r (e' := nI (sq_T L len (q + 1))) (by rw [nI_clamp (by omega), H.2.1 _ h8, nI_add, sq_Ts]) (pk_eq (L q) v (fun z => ?_) (fun z => ?_))⟩)
      · exact nm_r (nI_1 _) (nm_r (nI_1 q) (k (_, _) ⟨rfl, congrArg nI (sq_rkt z).symm⟩))
      · exact nm_r (nI_1 q) (k (_, _) ⟨rfl, congrArg nI (sq_rkf z).symm⟩))
theorem sq_xziw {post : Int32 → Prop} {a : Nat → Int64} {k lf : Nat} (h1 : lf < 64 - sq_pc (a k)) (h : ∀ b, b < 64 → sq_B a (64 * k + b) = false → sq_z (sq_B a) (64 * k + b) = sq_z (sq_B a) (64 * k) + lf → post (nI b)) : wpX_zeroInWord post (a k) (nI lf) :=
  loop_0 (σ := Int32) (fun n' b x3 => wX_zeroInWord_5 post (a k) n' x3 (nI b)) (fun b x3 => ∃ c, x3 = nI c ∧ c ≤ lf ∧ sq_z (sq_B a) (64 * k + b) + c = sq_z (sq_B a) (64 * k) + lf) 64 (nI lf)
    ⟨lf, rfl, Nat.le_refl _, rfl⟩
    (fun n' x3 e => by
      obtain ⟨c, _, _, e2⟩ := e
      have := sq_zw a k
      omega)
    (fun n' b x3 hb e c => by
      obtain ⟨d, e1, e3, e2⟩ := e
      subst e1
      refine br_f (nI_ge (b := 64) hb (by decide)) ?_
      have eb : (uN (a k)).testBit b = sq_B a (64 * k + b) := by
        unfold sq_B
        rw [show (64 * k + b) / 64 = k by omega, show (64 * k + b) % 64 = b by omega]
      rw [sq_bitl _ hb, eb]
      have hpc := sq_pcle (a k)
      cases hB : sq_B a (64 * k + b) with
      | false =>
        refine br_t (by decide) (pk_eq d 0 (fun z => ?_) (fun z => ?_))
        · exact h b hb hB (by omega)
        · have e4 := sq_zt hB
          exact nm_r (e' := nI (d - 1)) (by
            obtain ⟨y, rfl⟩ : ∃ y, d = y + 1 := ⟨d - 1, by omega⟩
            exact pk_m1 y) (nm_r (nI_1 b) (c _ ⟨d - 1, rfl, by omega, by rw [← Nat.add_assoc, e4]; omega⟩))
      | true =>
        have e4 := sq_zf hB
        exact br_f (by decide) (nm_r (nI_1 b) (c _ ⟨d, rfl, e3, by rw [← Nat.add_assoc, e4]; exact e2⟩)))
theorem sq_xzp {post : Int32 → Prop} {m : Nat} (hz : m < sq_z (sq_B a_sparseHigh) 512) (h : ∀ P, P < 512 → sq_B a_sparseHigh P = false → sq_z (sq_B a_sparseHigh) P = m → post (nI P)) : wpX_zeroPlace__sparseHigh post (f_length, f_runCount, f_streamLength, a_letters, a_plainWords, a_treeBits, a_matrixBits, a_matrixZeros, a_letterRows, a_runWords, a_letterCounts, a_groupWeights, a_groupOf, a_codeLengths, a_codes, a_codesOfLength, a_lettersByCode, a_stream, a_sampleStarts, a_sampleRanks, a_sparseHigh, a_sparseLow) (nI m) :=
  have hm : m < 512 := Nat.lt_of_lt_of_le hz (sq_cle _ 512)
  loop_0 (σ := Int32) (fun n' k x2 => wX_zeroPlace__sparseHigh_4 post f_length f_runCount f_streamLength a_letters a_plainWords a_treeBits a_matrixBits a_matrixZeros a_letterRows a_runWords a_letterCounts a_groupWeights a_groupOf a_codeLengths a_codes a_codesOfLength a_lettersByCode a_stream a_sampleStarts a_sampleRanks a_sparseHigh a_sparseLow n' x2 (nI k)) (fun k x2 => ∃ c, x2 = nI c ∧ sq_z (sq_B a_sparseHigh) (64 * k) + c = m) 8 (nI m) ⟨m, rfl, Nat.zero_add m⟩
    (fun n' x2 e => by
      obtain ⟨c, _, e2⟩ := e
      have e2' : sq_z (sq_B a_sparseHigh) 512 + c = m := e2
      omega)
    (fun n' k x2 hk e c => by
      obtain ⟨d, e1, e2⟩ := e
      subst e1
      have hpc := sq_pcle (a_sparseHigh k)
      refine br_f (nI_ge (b := 8) hk (by decide)) ⟨vp_in_nI hk (by decide), ?_⟩
      rw [nI_clamp (by omega)]
      refine sq_xones (nm_r (e' := nI (64 - sq_pc (a_sparseHigh k))) (pk_sub (a := 64) hpc) (pk_le _ d (fun z => ?_) (fun z => ?_)))
      · refine nm_r (pk_sub z) (nm_r (nI_1 k) (c _ ⟨d - (64 - sq_pc (a_sparseHigh k)), rfl, ?_⟩))
        have := sq_zw a_sparseHigh k
        rw [show 64 * (k + 1) = 64 * k + 64 by omega, this]
        omega
      · refine ⟨vp_in_nI hk (by decide), sq_xziw z (fun b hb hB hzb => ?_)⟩
        have g : nI k * 64 + nI b = nI (64 * k + b) := by
          rw [show nI k * 64 = nI (k * 64) from pk_mul k 64, nI_add]
          exact congrArg nI (by omega)
        rw [g]
        exact h _ (by omega) hB (by omega))
theorem sq_xsbl {post : Int32 → Prop} {L : Nat → Nat} {n m : Nat} {x x3 : Int32} (hL : ∀ j, L j < 8) (hn : n ≤ 200) (H : sq_P6 L n a_sparseHigh a_sparseLow) (hm : m < 2048) (hx : x = nI (sq_k L n (8 * (m / 8)))) (hx3 : x3 = nI (m / 8 + sq_k L n (8 * (m / 8)))) (h : post (nI (sq_k L n m))) : ∃ n', wX_sparseBelow_34 post (nI m) x3 (nI n) f_runCount f_streamLength a_letters a_plainWords a_treeBits a_matrixBits a_matrixZeros a_letterRows a_runWords a_letterCounts a_groupWeights a_groupOf a_codeLengths a_codes a_codesOfLength a_lettersByCode a_stream a_sampleStarts a_sampleRanks a_sparseHigh a_sparseLow n' x 0 := by
  subst hx hx3
  have k1 := sq_kmono L n (show 8 * (m / 8) ≤ m by omega)
  have k2 := sq_kstep (L := L) (n := n) (by omega) (m - 8 * (m / 8)) (8 * (m / 8))
  rw [show 8 * (m / 8) + (m - 8 * (m / 8)) = m by omega] at k2
  have k3 := sq_kle L n m
  obtain ⟨HR, HF⟩ := H
  exact loop_0 (σ := Int32) (fun n' st x4 => wX_sparseBelow_34 post (nI m) (nI (m / 8 + sq_k L n (8 * (m / 8)))) (nI n) f_runCount f_streamLength a_letters a_plainWords a_treeBits a_matrixBits a_matrixZeros a_letterRows a_runWords a_letterCounts a_groupWeights a_groupOf a_codeLengths a_codes a_codesOfLength a_lettersByCode a_stream a_sampleStarts a_sampleRanks a_sparseHigh a_sparseLow n' x4 (nI st)) (fun st x4 => x4 = nI (sq_k L n (8 * (m / 8)) + st)) (sq_k L n m - sq_k L n (8 * (m / 8))) (nI (sq_k L n (8 * (m / 8)))) rfl
    (fun n' x4 e => by
      rw [show sq_k L n (8 * (m / 8)) + (sq_k L n m - sq_k L n (8 * (m / 8))) = sq_k L n m by omega] at e
      subst e
      refine br_f (nI_ge (b := 8) (by omega) (by decide)) ?_
      rw [nI_add, show m / 8 + sq_k L n (8 * (m / 8)) + (sq_k L n m - sq_k L n (8 * (m / 8))) = m / 8 + sq_k L n m by omega]
      refine sq_xbit_sparseHigh (by omega) ?_
      cases hB : sq_B a_sparseHigh (m / 8 + sq_k L n m) with
      | false => exact br_t rfl h
      | true =>
        obtain ⟨q, q1, q2, q3⟩ := sq_scan1 hn HR hm k1 (Nat.le_refl _) hB
        have hF := HF q q1
        rw [q3] at hF
        have kq := sq_kle L n (256 * L q + q + 1)
        have kt := sq_kt (L := L) (q := q) n (by omega) q1
        refine br_f (by decide) (sq_xtrip_sparseLow (by omega) ⟨by decide, ?_⟩)
        rw [hF, sq_r8 (by omega)]
        refine br_f (nI_nlt ?_ (by omega)) h
        by_cases z : 256 * L q + q < m
        · have := sq_kep (L := L) (n := n) (by omega) q1 z
          omega
        · omega)
    (fun n' st x4 hst e c => by
      subst e
      refine br_f (nI_ge (b := 8) (by omega) (by decide)) ?_
      rw [nI_add, Nat.add_assoc]
      refine sq_xbit_sparseHigh (by omega) ?_
      cases hB : sq_B a_sparseHigh (m / 8 + (sq_k L n (8 * (m / 8)) + st)) with
      | false =>
        have := sq_scan0 hn HR hm (Nat.le_add_right _ _) (by omega) hB
        omega
      | true =>
        obtain ⟨q, q1, q2, q3⟩ := sq_scan1 hn HR hm (Nat.le_add_right _ _) (by omega) hB
        have hF := HF q q1
        rw [q3] at hF
        refine br_f (by decide) (sq_xtrip_sparseLow (by omega) ⟨by decide, ?_⟩)
        rw [hF, sq_r8 (by omega)]
        refine br_t (nI_lt ?_ (by omega)) (nm_r (nI_1 _) (nm_r (nI_1 st) (c _ rfl)))
        by_cases z : 256 * L q + q < m
        · omega
        · have := sq_kmono L n (show m ≤ 256 * L q + q by omega)
          omega)
theorem sq_xsb {post : Int32 → Prop} {L : Nat → Nat} {n m : Nat} {x : Int32} (hL : ∀ j, L j < 8) (hn : n ≤ 200) (H : sq_P6 L n a_sparseHigh a_sparseLow) (hx : x = nI m) (hm : m < 2048) (h : post (nI (sq_k L n m))) : wpX_sparseBelow post ((nI n), f_runCount, f_streamLength, a_letters, a_plainWords, a_treeBits, a_matrixBits, a_matrixZeros, a_letterRows, a_runWords, a_letterCounts, a_groupWeights, a_groupOf, a_codeLengths, a_codes, a_codesOfLength, a_lettersByCode, a_stream, a_sampleStarts, a_sampleRanks, a_sparseHigh, a_sparseLow) x := by
  subst hx
  refine ⟨by decide, nm_r (sq_d8 (by omega)) (pk_eq (m / 8) 0 (fun z => ?_) (fun z => ?_))⟩
  · refine nm_r (e' := nI 0) (by rw [z]; rfl) (sq_xsbl hL hn H hm ?_ ?_ h)
    · rw [z, Nat.mul_zero, sq_k0]
    · rw [z, Nat.mul_zero, sq_k0]; rfl
  · refine sq_v (P := fun z => wpX_zeroPlace__sparseHigh _ ((nI n), f_runCount, f_streamLength, a_letters, a_plainWords, a_treeBits, a_matrixBits, a_matrixZeros, a_letterRows, a_runWords, a_letterCounts, a_groupWeights, a_groupOf, a_codeLengths, a_codes, a_codesOfLength, a_lettersByCode, a_stream, a_sampleStarts, a_sampleRanks, a_sparseHigh, a_sparseLow) z) (pk_sub (b := 1) (by omega)) (sq_xzp (sq_z512 hn H.1 (k := m / 8 - 1) (by omega)) (fun P hP hB hz => ?_))
    have e := sq_zk hn H.1 (by omega) hB hz
    rw [show 8 * (m / 8 - 1) + 8 = 8 * (m / 8) by omega] at e
    refine nm_r (e' := nI (m / 8 + sq_k L n (8 * (m / 8)))) (by rw [nI_1, e]; exact congrArg nI (by omega)) (nm_r (e' := nI (sq_k L n (8 * (m / 8)))) (by rw [pk_sub (by omega)]; exact congrArg nI (by omega)) (sq_xsbl hL hn H hm rfl rfl h))
theorem sq_xsparseLetter {post : Int32 → Prop} {L : Nat → Nat} {n i : Nat} (hL : ∀ j, L j < 8) (hn : n ≤ 200) (H : sq_P6 L n a_sparseHigh a_sparseLow) (hi : i < n) (h : post (nI (L i))) : wpX_sparseLetter post ((nI n), f_runCount, f_streamLength, a_letters, a_plainWords, a_treeBits, a_matrixBits, a_matrixZeros, a_letterRows, a_runWords, a_letterCounts, a_groupWeights, a_groupOf, a_codeLengths, a_codes, a_codesOfLength, a_lettersByCode, a_stream, a_sampleStarts, a_sampleRanks, a_sparseHigh, a_sparseLow) (nI i) := by
  have g : ∀ l, nI l * 256 + nI i = nI (256 * l + i) := fun l => by
    rw [show nI l * 256 = nI (l * 256) from pk_mul l 256, nI_add]
    exact congrArg nI (by omega)
  have h8 := hL i
  exact loop_0 (σ := Unit) (fun n' l _ => wX_sparseLetter_2 post (nI i) (nI n) f_runCount f_streamLength a_letters a_plainWords a_treeBits a_matrixBits a_matrixZeros a_letterRows a_runWords a_letterCounts a_groupWeights a_groupOf a_codeLengths a_codes a_codesOfLength a_lettersByCode a_stream a_sampleStarts a_sampleRanks a_sparseHigh a_sparseLow n' (nI l)) (fun _ _ => True) (L i) () trivial
    (fun n' _ _ => br_f (nI_ge (b := 8) h8 (by decide)) (nm_r (g _) (sq_xsb hL hn H rfl (by omega) (sq_xsb hL hn H (nI_1 _) (by omega) (by
      have a := sq_kle L n (256 * L i + i + 1)
      have b := sq_kt (L := L) (q := i) n (by omega) hi
      exact br_f (nI_ge (by omega) (by omega)) h)))))
    (fun n' l _ hl _ k => br_f (nI_ge (b := 8) (by omega) (by decide)) (nm_r (g _) (sq_xsb hL hn H rfl (by omega) (sq_xsb hL hn H (nI_1 _) (by omega) (by
      have a := sq_kle L n (256 * l + i)
      have b : sq_k L n (256 * l + i + 1) = sq_k L n (256 * l + i) := sq_kf n (fun q hq e => by
        have : q = i := by omega
        subst this
        omega)
      rw [b]
      exact br_t (nI_le (Nat.le_refl _) (by omega)) (nm_r (nI_1 l) (k () trivial)))))))
end
