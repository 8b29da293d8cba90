-- Part 12: clear, setBit, bitAt, onesBefore, putTriple, tripleAt for each array (written by wip/whole/gen12.py)
theorem sq_v {α : Sort _} {P : α → Prop} {a b : α} (e : a = b) (h : P b) : P a := e ▸ h
theorem sq_q1le (m : Nat) : sq_q1 m ≤ m := Nat.sub_le _ _
theorem sq_q2lt (m : Nat) : sq_q2 m < 2 ^ 63 := by
  have a : (m &&& 3689348814741910323) ≤ 3689348814741910323 := Nat.and_le_right
  have b : (m / 4 &&& 3689348814741910323) ≤ 3689348814741910323 := Nat.and_le_right
  show (m &&& 3689348814741910323) + (m / 4 &&& 3689348814741910323) < 2 ^ 63
  omega
theorem sq_xones {post : Int32 → Prop} {x : Int64} (h : post (nI (sq_pc x))) : wpX_onesIn post x := by
  obtain ⟨m, hm, rfl⟩ := wb_of x
  have e : sq_pc (lN m) = sq_q3 (sq_q2 (sq_q1 m)) * 72340172838076673 % 2 ^ 64 / 2 ^ 56 := by
    unfold sq_pc
    rw [sq_uNl hm]
    exact (sq_pop hm).symm
  rw [e] at h
  have b := sq_q1le m
  exact nm_r (sq_ones1 hm) (nm_r (sq_ones2 (by omega)) (nm_r (sq_ones3 (sq_q2lt _)) (sq_v (P := post) (sq_ones4 _) h)))
theorem sq_setw (a : Nat → Int64) {p : Nat} (hp : p < 2 ^ 31) : vp_updL a (nI p >>> ((6 : Int32) &&& 31)).toNatClampNeg ((a (nI p >>> ((6 : Int32) &&& 31)).toNatClampNeg) ||| ((1 : Int64) <<< ((nI p &&& 63).toInt64 &&& 63))) = vp_updL a (p / 64) (a (p / 64) ||| lN (2 ^ (p % 64))) := by
  rw [sq_div6 hp, sq_mod6 hp, nI_clamp (by omega), sq_one (by omega)]
theorem sq_bitof (a : Nat → Int64) {p : Nat} (hp : p < 2 ^ 31) : ((((a (nI p >>> ((6 : Int32) &&& 31)).toNatClampNeg).toUInt64 >>> ((nI p &&& 63).toInt64.toUInt64 &&& Int64.toUInt64 63)).toInt64).toInt32) &&& 1 = nI (sq_B a p).toNat := by
  rw [sq_div6 hp, sq_mod6 hp, nI_clamp (by omega), sq_bitw _ (by omega)]
  rfl
theorem sq_d21 {p : Nat} (hp : p < 2 ^ 31) : nI p / 21 = nI (p / 21) := pk_div (d := 21) hp (by decide) (by decide)
theorem sq_r21 {p : Nat} (hp : p < 2 ^ 31) : (nI p - nI p / 21 * 21) * 3 = nI (3 * (p % 21)) := by
  have e : nI p - nI p / 21 * 21 = nI (p % 21) := pk_rem (d := 21) hp (by decide) (by decide)
  rw [e, Nat.mul_comm]
  exact pk_mul (p % 21) 3
theorem sq_tripw (a : Nat → Int64) {p v : Nat} (hp : p < 2 ^ 31) (hv : v < 8) : vp_updL a (nI p / 21).toNatClampNeg ((a (nI p / 21).toNatClampNeg) ||| ((nI v).toInt64 <<< (((nI p - nI p / 21 * 21) * 3).toInt64 &&& 63))) = vp_updL a (p / 21) (a (p / 21) ||| lN (v * 2 ^ (3 * (p % 21)))) := by
  rw [sq_r21 hp, sq_d21 hp, nI_clamp (by omega), sq_putw (by omega) (by omega)]
theorem sq_tripg (a : Nat → Int64) {p : Nat} (hp : p < 2 ^ 31) : ((((a (nI p / 21).toNatClampNeg).toUInt64 >>> (((nI p - nI p / 21 * 21) * 3).toInt64.toUInt64 &&& Int64.toUInt64 63)).toInt64).toInt32) &&& 7 = nI (sq_F 3 21 a p) := by
  rw [sq_r21 hp, sq_d21 hp, nI_clamp (by omega), sq_getw (b := 3) _ (by omega) (by decide) (by decide)]
  rfl
section
variable {f_length f_runCount f_streamLength : Int32} {a_letters : Nat → Int32} {a_plainWords a_treeBits a_matrixBits : Nat → Int64} {a_matrixZeros : Nat → Int32} {a_letterRows a_runWords : Nat → Int64} {a_letterCounts a_groupWeights a_groupOf a_codeLengths a_codes a_codesOfLength a_lettersByCode : Nat → Int32} {a_stream : Nat → Int64} {a_sampleStarts a_sampleRanks : Nat → Int32} {a_sparseHigh a_sparseLow : Nat → Int64}
theorem sq_xclear_plainWords {post : SX → Prop} (h : ∀ a', (∀ w, w < 10 → a' w = 0) → post (f_length, f_runCount, f_streamLength, a_letters, a', a_treeBits, a_matrixBits, a_matrixZeros, a_letterRows, a_runWords, a_letterCounts, a_groupWeights, a_groupOf, a_codeLengths, a_codes, a_codesOfLength, a_lettersByCode, a_stream, a_sampleStarts, a_sampleRanks, a_sparseHigh, a_sparseLow)) : wpX_clear__plainWords post (f_length, f_runCount, f_streamLength, a_letters, a_plainWords, a_treeBits, a_matrixBits, a_matrixZeros, a_letterRows, a_runWords, a_letterCounts, a_groupWeights, a_groupOf, a_codeLengths, a_codes, a_codesOfLength, a_lettersByCode, a_stream, a_sampleStarts, a_sampleRanks, a_sparseHigh, a_sparseLow) :=
  loop_0 (σ := Nat → Int64) (fun n i a => wX_clear__plainWords_2 post f_length f_runCount f_streamLength n (nI i) a_letters a a_treeBits a_matrixBits a_matrixZeros a_letterRows a_runWords a_letterCounts a_groupWeights a_groupOf a_codeLengths a_codes a_codesOfLength a_lettersByCode a_stream a_sampleStarts a_sampleRanks a_sparseHigh a_sparseLow) (fun i a => ∀ w, w < i → a w = 0) 10 a_plainWords (fun w hw => absurd hw (Nat.not_lt_zero w))
    (fun n a ha => br_t (nI_le (Nat.le_refl 10) (by decide)) (h a ha))
    (fun n i a hi ha k => br_f (nI_ge (b := 10) hi (by decide)) ⟨vp_in_nI hi (by decide), nm_r (congrArg (fun z => vp_updL a z 0) (nI_clamp (by omega))) (nm_r (nI_1 i) (k _ (fun w hw => by
      by_cases e : w = i
      · rw [e, pk_uLs]
      · rw [pk_uLn e]; exact ha w (by omega))))⟩)
theorem sq_xclear_treeBits {post : SX → Prop} (h : ∀ a', (∀ w, w < 12 → a' w = 0) → post (f_length, f_runCount, f_streamLength, a_letters, a_plainWords, a', a_matrixBits, a_matrixZeros, a_letterRows, a_runWords, a_letterCounts, a_groupWeights, a_groupOf, a_codeLengths, a_codes, a_codesOfLength, a_lettersByCode, a_stream, a_sampleStarts, a_sampleRanks, a_sparseHigh, a_sparseLow)) : wpX_clear__treeBits post (f_length, f_runCount, f_streamLength, a_letters, a_plainWords, a_treeBits, a_matrixBits, a_matrixZeros, a_letterRows, a_runWords, a_letterCounts, a_groupWeights, a_groupOf, a_codeLengths, a_codes, a_codesOfLength, a_lettersByCode, a_stream, a_sampleStarts, a_sampleRanks, a_sparseHigh, a_sparseLow) :=
  loop_0 (σ := Nat → Int64) (fun n i a => wX_clear__treeBits_2 post f_length f_runCount f_streamLength n (nI i) a_letters a_plainWords a a_matrixBits a_matrixZeros a_letterRows a_runWords a_letterCounts a_groupWeights a_groupOf a_codeLengths a_codes a_codesOfLength a_lettersByCode a_stream a_sampleStarts a_sampleRanks a_sparseHigh a_sparseLow) (fun i a => ∀ w, w < i → a w = 0) 12 a_treeBits (fun w hw => absurd hw (Nat.not_lt_zero w))
    (fun n a ha => br_t (nI_le (Nat.le_refl 12) (by decide)) (h a ha))
    (fun n i a hi ha k => br_f (nI_ge (b := 12) hi (by decide)) ⟨vp_in_nI hi (by decide), nm_r (congrArg (fun z => vp_updL a z 0) (nI_clamp (by omega))) (nm_r (nI_1 i) (k _ (fun w hw => by
      by_cases e : w = i
      · rw [e, pk_uLs]
      · rw [pk_uLn e]; exact ha w (by omega))))⟩)
theorem sq_xclear_matrixBits {post : SX → Prop} (h : ∀ a', (∀ w, w < 12 → a' w = 0) → post (f_length, f_runCount, f_streamLength, a_letters, a_plainWords, a_treeBits, a', a_matrixZeros, a_letterRows, a_runWords, a_letterCounts, a_groupWeights, a_groupOf, a_codeLengths, a_codes, a_codesOfLength, a_lettersByCode, a_stream, a_sampleStarts, a_sampleRanks, a_sparseHigh, a_sparseLow)) : wpX_clear__matrixBits post (f_length, f_runCount, f_streamLength, a_letters, a_plainWords, a_treeBits, a_matrixBits, a_matrixZeros, a_letterRows, a_runWords, a_letterCounts, a_groupWeights, a_groupOf, a_codeLengths, a_codes, a_codesOfLength, a_lettersByCode, a_stream, a_sampleStarts, a_sampleRanks, a_sparseHigh, a_sparseLow) :=
  loop_0 (σ := Nat → Int64) (fun n i a => wX_clear__matrixBits_2 post f_length f_runCount f_streamLength n (nI i) a_letters a_plainWords a_treeBits a a_matrixZeros a_letterRows a_runWords a_letterCounts a_groupWeights a_groupOf a_codeLengths a_codes a_codesOfLength a_lettersByCode a_stream a_sampleStarts a_sampleRanks a_sparseHigh a_sparseLow) (fun i a => ∀ w, w < i → a w = 0) 12 a_matrixBits (fun w hw => absurd hw (Nat.not_lt_zero w))
    (fun n a ha => br_t (nI_le (Nat.le_refl 12) (by decide)) (h a ha))
    (fun n i a hi ha k => br_f (nI_ge (b := 12) hi (by decide)) ⟨vp_in_nI hi (by decide), nm_r (congrArg (fun z => vp_updL a z 0) (nI_clamp (by omega))) (nm_r (nI_1 i) (k _ (fun w hw => by
      by_cases e : w = i
      · rw [e, pk_uLs]
      · rw [pk_uLn e]; exact ha w (by omega))))⟩)
theorem sq_xclear_letterRows {post : SX → Prop} (h : ∀ a', (∀ w, w < 32 → a' w = 0) → post (f_length, f_runCount, f_streamLength, a_letters, a_plainWords, a_treeBits, a_matrixBits, a_matrixZeros, a', a_runWords, a_letterCounts, a_groupWeights, a_groupOf, a_codeLengths, a_codes, a_codesOfLength, a_lettersByCode, a_stream, a_sampleStarts, a_sampleRanks, a_sparseHigh, a_sparseLow)) : wpX_clear__letterRows post (f_length, f_runCount, f_streamLength, a_letters, a_plainWords, a_treeBits, a_matrixBits, a_matrixZeros, a_letterRows, a_runWords, a_letterCounts, a_groupWeights, a_groupOf, a_codeLengths, a_codes, a_codesOfLength, a_lettersByCode, a_stream, a_sampleStarts, a_sampleRanks, a_sparseHigh, a_sparseLow) :=
  loop_0 (σ := Nat → Int64) (fun n i a => wX_clear__letterRows_2 post f_length f_runCount f_streamLength n (nI i) a_letters a_plainWords a_treeBits a_matrixBits a_matrixZeros a a_runWords a_letterCounts a_groupWeights a_groupOf a_codeLengths a_codes a_codesOfLength a_lettersByCode a_stream a_sampleStarts a_sampleRanks a_sparseHigh a_sparseLow) (fun i a => ∀ w, w < i → a w = 0) 32 a_letterRows (fun w hw => absurd hw (Nat.not_lt_zero w))
    (fun n a ha => br_t (nI_le (Nat.le_refl 32) (by decide)) (h a ha))
    (fun n i a hi ha k => br_f (nI_ge (b := 32) hi (by decide)) ⟨vp_in_nI hi (by decide), nm_r (congrArg (fun z => vp_updL a z 0) (nI_clamp (by omega))) (nm_r (nI_1 i) (k _ (fun w hw => by
      by_cases e : w = i
      · rw [e, pk_uLs]
      · rw [pk_uLn e]; exact ha w (by omega))))⟩)
theorem sq_xclear_runWords {post : SX → Prop} (h : ∀ a', (∀ w, w < 40 → a' w = 0) → post (f_length, f_runCount, f_streamLength, a_letters, a_plainWords, a_treeBits, a_matrixBits, a_matrixZeros, a_letterRows, a', a_letterCounts, a_groupWeights, a_groupOf, a_codeLengths, a_codes, a_codesOfLength, a_lettersByCode, a_stream, a_sampleStarts, a_sampleRanks, a_sparseHigh, a_sparseLow)) : wpX_clear__runWords post (f_length, f_runCount, f_streamLength, a_letters, a_plainWords, a_treeBits, a_matrixBits, a_matrixZeros, a_letterRows, a_runWords, a_letterCounts, a_groupWeights, a_groupOf, a_codeLengths, a_codes, a_codesOfLength, a_lettersByCode, a_stream, a_sampleStarts, a_sampleRanks, a_sparseHigh, a_sparseLow) :=
  loop_0 (σ := Nat → Int64) (fun n i a => wX_clear__runWords_2 post f_length f_runCount f_streamLength n (nI i) a_letters a_plainWords a_treeBits a_matrixBits a_matrixZeros a_letterRows a a_letterCounts a_groupWeights a_groupOf a_codeLengths a_codes a_codesOfLength a_lettersByCode a_stream a_sampleStarts a_sampleRanks a_sparseHigh a_sparseLow) (fun i a => ∀ w, w < i → a w = 0) 40 a_runWords (fun w hw => absurd hw (Nat.not_lt_zero w))
    (fun n a ha => br_t (nI_le (Nat.le_refl 40) (by decide)) (h a ha))
    (fun n i a hi ha k => br_f (nI_ge (b := 40) hi (by decide)) ⟨vp_in_nI hi (by decide), nm_r (congrArg (fun z => vp_updL a z 0) (nI_clamp (by omega))) (nm_r (nI_1 i) (k _ (fun w hw => by
      by_cases e : w = i
      · rw [e, pk_uLs]
      · rw [pk_uLn e]; exact ha w (by omega))))⟩)
theorem sq_xclear_stream {post : SX → Prop} (h : ∀ a', (∀ w, w < 10 → a' w = 0) → post (f_length, f_runCount, f_streamLength, a_letters, a_plainWords, a_treeBits, a_matrixBits, a_matrixZeros, a_letterRows, a_runWords, a_letterCounts, a_groupWeights, a_groupOf, a_codeLengths, a_codes, a_codesOfLength, a_lettersByCode, a', a_sampleStarts, a_sampleRanks, a_sparseHigh, a_sparseLow)) : wpX_clear__stream post (f_length, f_runCount, f_streamLength, a_letters, a_plainWords, a_treeBits, a_matrixBits, a_matrixZeros, a_letterRows, a_runWords, a_letterCounts, a_groupWeights, a_groupOf, a_codeLengths, a_codes, a_codesOfLength, a_lettersByCode, a_stream, a_sampleStarts, a_sampleRanks, a_sparseHigh, a_sparseLow) :=
  loop_0 (σ := Nat → Int64) (fun n i a => wX_clear__stream_2 post f_length f_runCount f_streamLength n (nI i) a_letters a_plainWords a_treeBits a_matrixBits a_matrixZeros a_letterRows a_runWords a_letterCounts a_groupWeights a_groupOf a_codeLengths a_codes a_codesOfLength a_lettersByCode a a_sampleStarts a_sampleRanks a_sparseHigh a_sparseLow) (fun i a => ∀ w, w < i → a w = 0) 10 a_stream (fun w hw => absurd hw (Nat.not_lt_zero w))
    (fun n a ha => br_t (nI_le (Nat.le_refl 10) (by decide)) (h a ha))
    (fun n i a hi ha k => br_f (nI_ge (b := 10) hi (by decide)) ⟨vp_in_nI hi (by decide), nm_r (congrArg (fun z => vp_updL a z 0) (nI_clamp (by omega))) (nm_r (nI_1 i) (k _ (fun w hw => by
      by_cases e : w = i
      · rw [e, pk_uLs]
      · rw [pk_uLn e]; exact ha w (by omega))))⟩)
theorem sq_xclear_sparseHigh {post : SX → Prop} (h : ∀ a', (∀ w, w < 8 → a' w = 0) → post (f_length, f_runCount, f_streamLength, a_letters, a_plainWords, a_treeBits, a_matrixBits, a_matrixZeros, a_letterRows, a_runWords, a_letterCounts, a_groupWeights, a_groupOf, a_codeLengths, a_codes, a_codesOfLength, a_lettersByCode, a_stream, a_sampleStarts, a_sampleRanks, a', a_sparseLow)) : wpX_clear__sparseHigh post (f_length, f_runCount, f_streamLength, a_letters, a_plainWords, a_treeBits, a_matrixBits, a_matrixZeros, a_letterRows, a_runWords, a_letterCounts, a_groupWeights, a_groupOf, a_codeLengths, a_codes, a_codesOfLength, a_lettersByCode, a_stream, a_sampleStarts, a_sampleRanks, a_sparseHigh, a_sparseLow) :=
  loop_0 (σ := Nat → Int64) (fun n i a => wX_clear__sparseHigh_2 post f_length f_runCount f_streamLength n (nI i) a_letters a_plainWords a_treeBits a_matrixBits a_matrixZeros a_letterRows a_runWords a_letterCounts a_groupWeights a_groupOf a_codeLengths a_codes a_codesOfLength a_lettersByCode a_stream a_sampleStarts a_sampleRanks a a_sparseLow) (fun i a => ∀ w, w < i → a w = 0) 8 a_sparseHigh (fun w hw => absurd hw (Nat.not_lt_zero w))
    (fun n a ha => br_t (nI_le (Nat.le_refl 8) (by decide)) (h a ha))
    (fun n i a hi ha k => br_f (nI_ge (b := 8) hi (by decide)) ⟨vp_in_nI hi (by decide), nm_r (congrArg (fun z => vp_updL a z 0) (nI_clamp (by omega))) (nm_r (nI_1 i) (k _ (fun w hw => by
      by_cases e : w = i
      · rw [e, pk_uLs]
      · rw [pk_uLn e]; exact ha w (by omega))))⟩)
theorem sq_xclear_sparseLow {post : SX → Prop} (h : ∀ a', (∀ w, w < 10 → a' w = 0) → post (f_length, f_runCount, f_streamLength, a_letters, a_plainWords, a_treeBits, a_matrixBits, a_matrixZeros, a_letterRows, a_runWords, a_letterCounts, a_groupWeights, a_groupOf, a_codeLengths, a_codes, a_codesOfLength, a_lettersByCode, a_stream, a_sampleStarts, a_sampleRanks, a_sparseHigh, a')) : wpX_clear__sparseLow post (f_length, f_runCount, f_streamLength, a_letters, a_plainWords, a_treeBits, a_matrixBits, a_matrixZeros, a_letterRows, a_runWords, a_letterCounts, a_groupWeights, a_groupOf, a_codeLengths, a_codes, a_codesOfLength, a_lettersByCode, a_stream, a_sampleStarts, a_sampleRanks, a_sparseHigh, a_sparseLow) :=
  loop_0 (σ := Nat → Int64) (fun n i a => wX_clear__sparseLow_2 post f_length f_runCount f_streamLength n (nI i) a_letters a_plainWords a_treeBits a_matrixBits a_matrixZeros a_letterRows a_runWords a_letterCounts a_groupWeights a_groupOf a_codeLengths a_codes a_codesOfLength a_lettersByCode a_stream a_sampleStarts a_sampleRanks a_sparseHigh a) (fun i a => ∀ w, w < i → a w = 0) 10 a_sparseLow (fun w hw => absurd hw (Nat.not_lt_zero w))
    (fun n a ha => br_t (nI_le (Nat.le_refl 10) (by decide)) (h a ha))
    (fun n i a hi ha k => br_f (nI_ge (b := 10) hi (by decide)) ⟨vp_in_nI hi (by decide), nm_r (congrArg (fun z => vp_updL a z 0) (nI_clamp (by omega))) (nm_r (nI_1 i) (k _ (fun w hw => by
      by_cases e : w = i
      · rw [e, pk_uLs]
      · rw [pk_uLn e]; exact ha w (by omega))))⟩)
theorem sq_xset_treeBits {post : SX → Prop} {p : Nat} (hp : p < 768) (h : ∀ a', (∀ q, sq_B a' q = (sq_B a_treeBits q || decide (q = p))) → post (f_length, f_runCount, f_streamLength, a_letters, a_plainWords, a', a_matrixBits, a_matrixZeros, a_letterRows, a_runWords, a_letterCounts, a_groupWeights, a_groupOf, a_codeLengths, a_codes, a_codesOfLength, a_lettersByCode, a_stream, a_sampleStarts, a_sampleRanks, a_sparseHigh, a_sparseLow)) : wpX_setBit__treeBits post (f_length, f_runCount, f_streamLength, a_letters, a_plainWords, a_treeBits, a_matrixBits, a_matrixZeros, a_letterRows, a_runWords, a_letterCounts, a_groupWeights, a_groupOf, a_codeLengths, a_codes, a_codesOfLength, a_lettersByCode, a_stream, a_sampleStarts, a_sampleRanks, a_sparseHigh, a_sparseLow) (nI p) :=
  ⟨sq_v (P := fun z => vp_in z 12) (sq_div6 (by omega)) (vp_in_nI (by omega) (by decide)), sq_v (P := fun z => vp_in z 12) (sq_div6 (by omega)) (vp_in_nI (by omega) (by decide)),
    fun a' ea => h a' (fun q => by rw [ea, sq_setw _ (by omega), sq_Bset])⟩
theorem sq_xbit_treeBits {post : Int32 → Prop} {p : Nat} (hp : p < 768) (h : post (nI (sq_B a_treeBits p).toNat)) : wpX_bitAt__treeBits post (f_length, f_runCount, f_streamLength, a_letters, a_plainWords, a_treeBits, a_matrixBits, a_matrixZeros, a_letterRows, a_runWords, a_letterCounts, a_groupWeights, a_groupOf, a_codeLengths, a_codes, a_codesOfLength, a_lettersByCode, a_stream, a_sampleStarts, a_sampleRanks, a_sparseHigh, a_sparseLow) (nI p) :=
  ⟨sq_v (P := fun z => vp_in z 12) (sq_div6 (by omega)) (vp_in_nI (by omega) (by decide)), sq_v (P := post) (sq_bitof _ (by omega)) h⟩
theorem sq_xset_matrixBits {post : SX → Prop} {p : Nat} (hp : p < 768) (h : ∀ a', (∀ q, sq_B a' q = (sq_B a_matrixBits q || decide (q = p))) → post (f_length, f_runCount, f_streamLength, a_letters, a_plainWords, a_treeBits, a', a_matrixZeros, a_letterRows, a_runWords, a_letterCounts, a_groupWeights, a_groupOf, a_codeLengths, a_codes, a_codesOfLength, a_lettersByCode, a_stream, a_sampleStarts, a_sampleRanks, a_sparseHigh, a_sparseLow)) : wpX_setBit__matrixBits post (f_length, f_runCount, f_streamLength, a_letters, a_plainWords, a_treeBits, a_matrixBits, a_matrixZeros, a_letterRows, a_runWords, a_letterCounts, a_groupWeights, a_groupOf, a_codeLengths, a_codes, a_codesOfLength, a_lettersByCode, a_stream, a_sampleStarts, a_sampleRanks, a_sparseHigh, a_sparseLow) (nI p) :=
  ⟨sq_v (P := fun z => vp_in z 12) (sq_div6 (by omega)) (vp_in_nI (by omega) (by decide)), sq_v (P := fun z => vp_in z 12) (sq_div6 (by omega)) (vp_in_nI (by omega) (by decide)),
    fun a' ea => h a' (fun q => by rw [ea, sq_setw _ (by omega), sq_Bset])⟩
theorem sq_xbit_matrixBits {post : Int32 → Prop} {p : Nat} (hp : p < 768) (h : post (nI (sq_B a_matrixBits p).toNat)) : wpX_bitAt__matrixBits post (f_length, f_runCount, f_streamLength, a_letters, a_plainWords, a_treeBits, a_matrixBits, a_matrixZeros, a_letterRows, a_runWords, a_letterCounts, a_groupWeights, a_groupOf, a_codeLengths, a_codes, a_codesOfLength, a_lettersByCode, a_stream, a_sampleStarts, a_sampleRanks, a_sparseHigh, a_sparseLow) (nI p) :=
  ⟨sq_v (P := fun z => vp_in z 12) (sq_div6 (by omega)) (vp_in_nI (by omega) (by decide)), sq_v (P := post) (sq_bitof _ (by omega)) h⟩
theorem sq_xset_letterRows {post : SX → Prop} {p : Nat} (hp : p < 2048) (h : ∀ a', (∀ q, sq_B a' q = (sq_B a_letterRows q || decide (q = p))) → post (f_length, f_runCount, f_streamLength, a_letters, a_plainWords, a_treeBits, a_matrixBits, a_matrixZeros, a', a_runWords, a_letterCounts, a_groupWeights, a_groupOf, a_codeLengths, a_codes, a_codesOfLength, a_lettersByCode, a_stream, a_sampleStarts, a_sampleRanks, a_sparseHigh, a_sparseLow)) : wpX_setBit__letterRows post (f_length, f_runCount, f_streamLength, a_letters, a_plainWords, a_treeBits, a_matrixBits, a_matrixZeros, a_letterRows, a_runWords, a_letterCounts, a_groupWeights, a_groupOf, a_codeLengths, a_codes, a_codesOfLength, a_lettersByCode, a_stream, a_sampleStarts, a_sampleRanks, a_sparseHigh, a_sparseLow) (nI p) :=
  ⟨sq_v (P := fun z => vp_in z 32) (sq_div6 (by omega)) (vp_in_nI (by omega) (by decide)), sq_v (P := fun z => vp_in z 32) (sq_div6 (by omega)) (vp_in_nI (by omega) (by decide)),
    fun a' ea => h a' (fun q => by rw [ea, sq_setw _ (by omega), sq_Bset])⟩
theorem sq_xbit_letterRows {post : Int32 → Prop} {p : Nat} (hp : p < 2048) (h : post (nI (sq_B a_letterRows p).toNat)) : wpX_bitAt__letterRows post (f_length, f_runCount, f_streamLength, a_letters, a_plainWords, a_treeBits, a_matrixBits, a_matrixZeros, a_letterRows, a_runWords, a_letterCounts, a_groupWeights, a_groupOf, a_codeLengths, a_codes, a_codesOfLength, a_lettersByCode, a_stream, a_sampleStarts, a_sampleRanks, a_sparseHigh, a_sparseLow) (nI p) :=
  ⟨sq_v (P := fun z => vp_in z 32) (sq_div6 (by omega)) (vp_in_nI (by omega) (by decide)), sq_v (P := post) (sq_bitof _ (by omega)) h⟩
theorem sq_xset_stream {post : SX → Prop} {p : Nat} (hp : p < 640) (h : ∀ a', (∀ q, sq_B a' q = (sq_B a_stream q || decide (q = p))) → post (f_length, f_runCount, f_streamLength, a_letters, a_plainWords, a_treeBits, a_matrixBits, a_matrixZeros, a_letterRows, a_runWords, a_letterCounts, a_groupWeights, a_groupOf, a_codeLengths, a_codes, a_codesOfLength, a_lettersByCode, a', a_sampleStarts, a_sampleRanks, a_sparseHigh, a_sparseLow)) : wpX_setBit__stream post (f_length, f_runCount, f_streamLength, a_letters, a_plainWords, a_treeBits, a_matrixBits, a_matrixZeros, a_letterRows, a_runWords, a_letterCounts, a_groupWeights, a_groupOf, a_codeLengths, a_codes, a_codesOfLength, a_lettersByCode, a_stream, a_sampleStarts, a_sampleRanks, a_sparseHigh, a_sparseLow) (nI p) :=
  ⟨sq_v (P := fun z => vp_in z 10) (sq_div6 (by omega)) (vp_in_nI (by omega) (by decide)), sq_v (P := fun z => vp_in z 10) (sq_div6 (by omega)) (vp_in_nI (by omega) (by decide)),
    fun a' ea => h a' (fun q => by rw [ea, sq_setw _ (by omega), sq_Bset])⟩
theorem sq_xbit_stream {post : Int32 → Prop} {p : Nat} (hp : p < 640) (h : post (nI (sq_B a_stream p).toNat)) : wpX_bitAt__stream post (f_length, f_runCount, f_streamLength, a_letters, a_plainWords, a_treeBits, a_matrixBits, a_matrixZeros, a_letterRows, a_runWords, a_letterCounts, a_groupWeights, a_groupOf, a_codeLengths, a_codes, a_codesOfLength, a_lettersByCode, a_stream, a_sampleStarts, a_sampleRanks, a_sparseHigh, a_sparseLow) (nI p) :=
  ⟨sq_v (P := fun z => vp_in z 10) (sq_div6 (by omega)) (vp_in_nI (by omega) (by decide)), sq_v (P := post) (sq_bitof _ (by omega)) h⟩
theorem sq_xset_sparseHigh {post : SX → Prop} {p : Nat} (hp : p < 512) (h : ∀ a', (∀ q, sq_B a' q = (sq_B a_sparseHigh q || decide (q = p))) → post (f_length, f_runCount, f_streamLength, a_letters, a_plainWords, a_treeBits, a_matrixBits, a_matrixZeros, a_letterRows, a_runWords, a_letterCounts, a_groupWeights, a_groupOf, a_codeLengths, a_codes, a_codesOfLength, a_lettersByCode, a_stream, a_sampleStarts, a_sampleRanks, a', a_sparseLow)) : wpX_setBit__sparseHigh post (f_length, f_runCount, f_streamLength, a_letters, a_plainWords, a_treeBits, a_matrixBits, a_matrixZeros, a_letterRows, a_runWords, a_letterCounts, a_groupWeights, a_groupOf, a_codeLengths, a_codes, a_codesOfLength, a_lettersByCode, a_stream, a_sampleStarts, a_sampleRanks, a_sparseHigh, a_sparseLow) (nI p) :=
  ⟨sq_v (P := fun z => vp_in z 8) (sq_div6 (by omega)) (vp_in_nI (by omega) (by decide)), sq_v (P := fun z => vp_in z 8) (sq_div6 (by omega)) (vp_in_nI (by omega) (by decide)),
    fun a' ea => h a' (fun q => by rw [ea, sq_setw _ (by omega), sq_Bset])⟩
theorem sq_xbit_sparseHigh {post : Int32 → Prop} {p : Nat} (hp : p < 512) (h : post (nI (sq_B a_sparseHigh p).toNat)) : wpX_bitAt__sparseHigh post (f_length, f_runCount, f_streamLength, a_letters, a_plainWords, a_treeBits, a_matrixBits, a_matrixZeros, a_letterRows, a_runWords, a_letterCounts, a_groupWeights, a_groupOf, a_codeLengths, a_codes, a_codesOfLength, a_lettersByCode, a_stream, a_sampleStarts, a_sampleRanks, a_sparseHigh, a_sparseLow) (nI p) :=
  ⟨sq_v (P := fun z => vp_in z 8) (sq_div6 (by omega)) (vp_in_nI (by omega) (by decide)), sq_v (P := post) (sq_bitof _ (by omega)) h⟩
theorem sq_xob_treeBits {post : Int32 → Prop} {w i : Nat} (hw : 64 * w + i ≤ 768) (h : post (nI (sq_c (fun t => sq_B a_treeBits (64 * w + t)) i))) : wpX_onesBefore__treeBits post (f_length, f_runCount, f_streamLength, a_letters, a_plainWords, a_treeBits, a_matrixBits, a_matrixZeros, a_letterRows, a_runWords, a_letterCounts, a_groupWeights, a_groupOf, a_codeLengths, a_codes, a_codesOfLength, a_lettersByCode, a_stream, a_sampleStarts, a_sampleRanks, a_sparseHigh, a_sparseLow) (nI w) (nI i) :=
  nm_r (sq_div6 (by omega)) (loop_0 (σ := Int32) (fun n k x3 => wX_onesBefore__treeBits_11 post (nI w) (nI i) (nI (i / 64)) f_length f_runCount f_streamLength a_letters a_plainWords a_treeBits a_matrixBits a_matrixZeros a_letterRows a_runWords a_letterCounts a_groupWeights a_groupOf a_codeLengths a_codes a_codesOfLength a_lettersByCode a_stream a_sampleStarts a_sampleRanks a_sparseHigh a_sparseLow n x3 (nI k))
    (fun k x3 => x3 = nI (sq_c (fun t => sq_B a_treeBits (64 * w + t)) (64 * k))) (i / 64) 0 rfl
    (fun n x3 e => br_t (nI_le (Nat.le_refl _) (by omega)) (nm_r (sq_mod6 (by omega)) (pk_eq (i % 64) 0
      (fun z => by
        subst e
        rw [show 64 * (i / 64) = i by omega]
        exact h)
      (fun z => ⟨sq_v (P := fun z => vp_in z 12) (nI_add _ _) (vp_in_nI (by omega) (by decide)), sq_xones (nm_r (e' := nI (sq_c (fun t => sq_B a_treeBits (64 * w + t)) i)) (by
        subst e
        rw [sq_pcm _ (by omega), nI_add, nI_add, nI_clamp (by omega), ← sq_pcr _ w (i / 64) (by omega), show 64 * (i / 64) + i % 64 = i by omega]) h)⟩))))
    (fun n k x3 hk e c => br_f (nI_ge hk (by omega)) ⟨sq_v (P := fun z => vp_in z 12) (nI_add _ _) (vp_in_nI (by omega) (by decide)), sq_xones (nm_r (e' := nI (sq_c (fun t => sq_B a_treeBits (64 * w + t)) (64 * (k + 1)))) (by
        subst e
        rw [nI_add w k, nI_clamp (by omega), nI_add, ← sq_pcw, show 64 * (k + 1) = 64 * k + 64 by omega]) (nm_r (nI_1 k) (c _ rfl)))⟩))
theorem sq_xob_matrixBits {post : Int32 → Prop} {w i : Nat} (hw : 64 * w + i ≤ 768) (h : post (nI (sq_c (fun t => sq_B a_matrixBits (64 * w + t)) i))) : wpX_onesBefore__matrixBits post (f_length, f_runCount, f_streamLength, a_letters, a_plainWords, a_treeBits, a_matrixBits, a_matrixZeros, a_letterRows, a_runWords, a_letterCounts, a_groupWeights, a_groupOf, a_codeLengths, a_codes, a_codesOfLength, a_lettersByCode, a_stream, a_sampleStarts, a_sampleRanks, a_sparseHigh, a_sparseLow) (nI w) (nI i) :=
  nm_r (sq_div6 (by omega)) (loop_0 (σ := Int32) (fun n k x3 => wX_onesBefore__matrixBits_11 post (nI w) (nI i) (nI (i / 64)) f_length f_runCount f_streamLength a_letters a_plainWords a_treeBits a_matrixBits a_matrixZeros a_letterRows a_runWords a_letterCounts a_groupWeights a_groupOf a_codeLengths a_codes a_codesOfLength a_lettersByCode a_stream a_sampleStarts a_sampleRanks a_sparseHigh a_sparseLow n x3 (nI k))
    (fun k x3 => x3 = nI (sq_c (fun t => sq_B a_matrixBits (64 * w + t)) (64 * k))) (i / 64) 0 rfl
    (fun n x3 e => br_t (nI_le (Nat.le_refl _) (by omega)) (nm_r (sq_mod6 (by omega)) (pk_eq (i % 64) 0
      (fun z => by
        subst e
        rw [show 64 * (i / 64) = i by omega]
        exact h)
      (fun z => ⟨sq_v (P := fun z => vp_in z 12) (nI_add _ _) (vp_in_nI (by omega) (by decide)), sq_xones (nm_r (e' := nI (sq_c (fun t => sq_B a_matrixBits (64 * w + t)) i)) (by
        subst e
        rw [sq_pcm _ (by omega), nI_add, nI_add, nI_clamp (by omega), ← sq_pcr _ w (i / 64) (by omega), show 64 * (i / 64) + i % 64 = i by omega]) h)⟩))))
    (fun n k x3 hk e c => br_f (nI_ge hk (by omega)) ⟨sq_v (P := fun z => vp_in z 12) (nI_add _ _) (vp_in_nI (by omega) (by decide)), sq_xones (nm_r (e' := nI (sq_c (fun t => sq_B a_matrixBits (64 * w + t)) (64 * (k + 1)))) (by
        subst e
        rw [nI_add w k, nI_clamp (by omega), nI_add, ← sq_pcw, show 64 * (k + 1) = 64 * k + 64 by omega]) (nm_r (nI_1 k) (c _ rfl)))⟩))
theorem sq_xob_letterRows {post : Int32 → Prop} {w i : Nat} (hw : 64 * w + i ≤ 2048) (h : post (nI (sq_c (fun t => sq_B a_letterRows (64 * w + t)) i))) : wpX_onesBefore__letterRows post (f_length, f_runCount, f_streamLength, a_letters, a_plainWords, a_treeBits, a_matrixBits, a_matrixZeros, a_letterRows, a_runWords, a_letterCounts, a_groupWeights, a_groupOf, a_codeLengths, a_codes, a_codesOfLength, a_lettersByCode, a_stream, a_sampleStarts, a_sampleRanks, a_sparseHigh, a_sparseLow) (nI w) (nI i) :=
  nm_r (sq_div6 (by omega)) (loop_0 (σ := Int32) (fun n k x3 => wX_onesBefore__letterRows_11 post (nI w) (nI i) (nI (i / 64)) f_length f_runCount f_streamLength a_letters a_plainWords a_treeBits a_matrixBits a_matrixZeros a_letterRows a_runWords a_letterCounts a_groupWeights a_groupOf a_codeLengths a_codes a_codesOfLength a_lettersByCode a_stream a_sampleStarts a_sampleRanks a_sparseHigh a_sparseLow n x3 (nI k))
    (fun k x3 => x3 = nI (sq_c (fun t => sq_B a_letterRows (64 * w + t)) (64 * k))) (i / 64) 0 rfl
    (fun n x3 e => br_t (nI_le (Nat.le_refl _) (by omega)) (nm_r (sq_mod6 (by omega)) (pk_eq (i % 64) 0
      (fun z => by
        subst e
        rw [show 64 * (i / 64) = i by omega]
        exact h)
      (fun z => ⟨sq_v (P := fun z => vp_in z 32) (nI_add _ _) (vp_in_nI (by omega) (by decide)), sq_xones (nm_r (e' := nI (sq_c (fun t => sq_B a_letterRows (64 * w + t)) i)) (by
        subst e
        rw [sq_pcm _ (by omega), nI_add, nI_add, nI_clamp (by omega), ← sq_pcr _ w (i / 64) (by omega), show 64 * (i / 64) + i % 64 = i by omega]) h)⟩))))
    (fun n k x3 hk e c => br_f (nI_ge hk (by omega)) ⟨sq_v (P := fun z => vp_in z 32) (nI_add _ _) (vp_in_nI (by omega) (by decide)), sq_xones (nm_r (e' := nI (sq_c (fun t => sq_B a_letterRows (64 * w + t)) (64 * (k + 1)))) (by
        subst e
        rw [nI_add w k, nI_clamp (by omega), nI_add, ← sq_pcw, show 64 * (k + 1) = 64 * k + 64 by omega]) (nm_r (nI_1 k) (c _ rfl)))⟩))
theorem sq_xput_plainWords {post : SX → Prop} {p v : Nat} (hp : p < 210) (hv : v < 8) (hz : sq_F 3 21 a_plainWords p = 0) (h : ∀ a', (∀ q, sq_F 3 21 a' q = if q = p then v else sq_F 3 21 a_plainWords q) → post (f_length, f_runCount, f_streamLength, a_letters, a', a_treeBits, a_matrixBits, a_matrixZeros, a_letterRows, a_runWords, a_letterCounts, a_groupWeights, a_groupOf, a_codeLengths, a_codes, a_codesOfLength, a_lettersByCode, a_stream, a_sampleStarts, a_sampleRanks, a_sparseHigh, a_sparseLow)) : wpX_putTriple__plainWords post (f_length, f_runCount, f_streamLength, a_letters, a_plainWords, a_treeBits, a_matrixBits, a_matrixZeros, a_letterRows, a_runWords, a_letterCounts, a_groupWeights, a_groupOf, a_codeLengths, a_codes, a_codesOfLength, a_lettersByCode, a_stream, a_sampleStarts, a_sampleRanks, a_sparseHigh, a_sparseLow) (nI p) (nI v) :=
  ⟨by decide, sq_v (P := fun z => vp_in z 10) (sq_d21 (by omega)) (vp_in_nI (by omega) (by decide)), by decide, sq_v (P := fun z => vp_in z 10) (sq_d21 (by omega)) (vp_in_nI (by omega) (by decide)),
    fun a' ea => h a' (fun q => by rw [ea, sq_tripw _ (by omega) hv]; exact sq_Fput _ (by decide) (by decide) hv hz q)⟩
theorem sq_xtrip_plainWords {post : Int32 → Prop} {p : Nat} (hp : p < 210) (h : post (nI (sq_F 3 21 a_plainWords p))) : wpX_tripleAt__plainWords post (f_length, f_runCount, f_streamLength, a_letters, a_plainWords, a_treeBits, a_matrixBits, a_matrixZeros, a_letterRows, a_runWords, a_letterCounts, a_groupWeights, a_groupOf, a_codeLengths, a_codes, a_codesOfLength, a_lettersByCode, a_stream, a_sampleStarts, a_sampleRanks, a_sparseHigh, a_sparseLow) (nI p) :=
  ⟨by decide, sq_v (P := fun z => vp_in z 10) (sq_d21 (by omega)) (vp_in_nI (by omega) (by decide)), by decide, sq_v (P := post) (sq_tripg _ (by omega)) h⟩
theorem sq_xput_sparseLow {post : SX → Prop} {p v : Nat} (hp : p < 210) (hv : v < 8) (hz : sq_F 3 21 a_sparseLow p = 0) (h : ∀ a', (∀ q, sq_F 3 21 a' q = if q = p then v else sq_F 3 21 a_sparseLow q) → post (f_length, f_runCount, f_streamLength, a_letters, a_plainWords, a_treeBits, a_matrixBits, a_matrixZeros, a_letterRows, a_runWords, a_letterCounts, a_groupWeights, a_groupOf, a_codeLengths, a_codes, a_codesOfLength, a_lettersByCode, a_stream, a_sampleStarts, a_sampleRanks, a_sparseHigh, a')) : wpX_putTriple__sparseLow post (f_length, f_runCount, f_streamLength, a_letters, a_plainWords, a_treeBits, a_matrixBits, a_matrixZeros, a_letterRows, a_runWords, a_letterCounts, a_groupWeights, a_groupOf, a_codeLengths, a_codes, a_codesOfLength, a_lettersByCode, a_stream, a_sampleStarts, a_sampleRanks, a_sparseHigh, a_sparseLow) (nI p) (nI v) :=
  ⟨by decide, sq_v (P := fun z => vp_in z 10) (sq_d21 (by omega)) (vp_in_nI (by omega) (by decide)), by decide, sq_v (P := fun z => vp_in z 10) (sq_d21 (by omega)) (vp_in_nI (by omega) (by decide)),
    fun a' ea => h a' (fun q => by rw [ea, sq_tripw _ (by omega) hv]; exact sq_Fput _ (by decide) (by decide) hv hz q)⟩
theorem sq_xtrip_sparseLow {post : Int32 → Prop} {p : Nat} (hp : p < 210) (h : post (nI (sq_F 3 21 a_sparseLow p))) : wpX_tripleAt__sparseLow post (f_length, f_runCount, f_streamLength, a_letters, a_plainWords, a_treeBits, a_matrixBits, a_matrixZeros, a_letterRows, a_runWords, a_letterCounts, a_groupWeights, a_groupOf, a_codeLengths, a_codes, a_codesOfLength, a_lettersByCode, a_stream, a_sampleStarts, a_sampleRanks, a_sparseHigh, a_sparseLow) (nI p) :=
  ⟨by decide, sq_v (P := fun z => vp_in z 10) (sq_d21 (by omega)) (vp_in_nI (by omega) (by decide)), by decide, sq_v (P := post) (sq_tripg _ (by omega)) h⟩
end
