-- Part 16: letterBy and rankBy over the packed state (written by wip/whole/gen16.py)
def sq_PK (L : Nat → Nat) (n : Nat) (pw tb mb : Nat → Int64) (mz : Nat → Int32) (lr rw : Nat → Int64) (rc : Int32) (cl col lbc : Nat → Int32) (sm : Nat → Int64) (ss sr : Nat → Int32) (sl : Int32) (hi lo : Nat → Int64) : Prop :=
  sq_P0 L n pw ∧ sq_P1 L n tb ∧ sq_P2 L n mb mz ∧ sq_P3 L n lr ∧ sq_P4 L n rw rc ∧ (∃ len, sq_CP L n len cl col lbc (sq_B sm) ss sr sl) ∧ sq_P6 L n hi lo
theorem sq_T600 {L : Nat → Nat} {n : Nat} {len : Nat → Nat} (hL : ∀ j, L j < 8) (hn : n ≤ 200) (h : sq_T L len n = sq_bits (fun l => sq_rk L l n) n) : sq_T L len n ≤ 600 := by
  rw [h]
  exact sq_bits600 (sq_cnts L hL n) hn
section
variable {f_length f_runCount f_streamLength : Int32} {a_letters : Nat → Int32} {a_plainWords a_treeBits a_matrixBits : Nat → Int64} {a_matrixZeros : Nat → Int32} {a_letterRows a_runWords : Nat → Int64} {a_letterCounts a_groupWeights a_groupOf a_codeLengths a_codes a_codesOfLength a_lettersByCode : Nat → Int32} {a_stream : Nat → Int64} {a_sampleStarts a_sampleRanks : Nat → Int32} {a_sparseHigh a_sparseLow : Nat → Int64}
theorem sq_xletterBy {post : Int32 → Prop} {L : Nat → Nat} {n e i : Nat} (hL : ∀ j, L j < 8) (hn : n ≤ 200) (H : sq_PK L n a_plainWords a_treeBits a_matrixBits a_matrixZeros a_letterRows a_runWords f_runCount a_codeLengths a_codesOfLength a_lettersByCode a_stream a_sampleStarts a_sampleRanks f_streamLength a_sparseHigh a_sparseLow) (he : e < 7) (hi : i < n) (h : post (nI (L i))) : wpX_letterBy post ((nI n), f_runCount, f_streamLength, a_letters, a_plainWords, a_treeBits, a_matrixBits, a_matrixZeros, a_letterRows, a_runWords, a_letterCounts, a_groupWeights, a_groupOf, a_codeLengths, a_codes, a_codesOfLength, a_lettersByCode, a_stream, a_sampleStarts, a_sampleRanks, a_sparseHigh, a_sparseLow) (nI e) (nI i) := by
  obtain ⟨H0, H1, H2, H3, H4, ⟨len, H5⟩, H6⟩ := H
  have h600 := sq_T600 hL hn H5.2.2.2.2.2.2.2
  refine br_f (nI_pos (by omega)) (br_f (nI_nlt (a := 6) (by omega) (by decide)) (pk_eq e 0 (fun _ => ?_) (fun z0 => pk_eq e 1 (fun _ => ?_) (fun z1 => pk_eq e 2 (fun _ => ?_) (fun z2 => pk_eq e 3 (fun _ => ?_) (fun z3 => pk_eq e 4 (fun _ => ?_) (fun z4 => pk_eq e 5 (fun _ => ?_) (fun z5 => pk_eq e 6 (fun _ => ?_) (fun z6 => trivial)))))))))
  · exact sq_xtrip_plainWords (by omega) (by rw [H0 i hi]; exact h)
  · exact sq_xtreeLetter hL hn H1 hi h
  · exact sq_xmatrixLetter hL hn H2 hi h
  · exact sq_xrowsLetter hL hn H3 hi h
  · exact sq_xrunsLetter hL hn H4 hi h
  · exact sq_xcodeLetter hL hn H5 h600 hi h
  · exact sq_xsparseLetter hL hn H6 hi h
theorem sq_xrankBy {post : Int32 → Prop} {L : Nat → Nat} {n e v i : Nat} {x : Int32} (hL : ∀ j, L j < 8) (hn : n ≤ 200) (H : sq_PK L n a_plainWords a_treeBits a_matrixBits a_matrixZeros a_letterRows a_runWords f_runCount a_codeLengths a_codesOfLength a_lettersByCode a_stream a_sampleStarts a_sampleRanks f_streamLength a_sparseHigh a_sparseLow) (he : e < 7) (hv : v < 8) (hi : i ≤ n) (hx : x = nI i) (h : post (nI (sq_rk L v i))) : wpX_rankBy post ((nI n), f_runCount, f_streamLength, a_letters, a_plainWords, a_treeBits, a_matrixBits, a_matrixZeros, a_letterRows, a_runWords, a_letterCounts, a_groupWeights, a_groupOf, a_codeLengths, a_codes, a_codesOfLength, a_lettersByCode, a_stream, a_sampleStarts, a_sampleRanks, a_sparseHigh, a_sparseLow) (nI e) (nI v) x := by
  subst hx
  obtain ⟨H0, H1, H2, H3, H4, ⟨len, H5⟩, H6⟩ := H
  have h600 := sq_T600 hL hn H5.2.2.2.2.2.2.2
  refine br_f (nI_pos (by omega)) (br_f (nI_nlt (a := 6) (by omega) (by decide)) (pk_eq e 0 (fun _ => ?_) (fun z0 => pk_eq e 1 (fun _ => ?_) (fun z1 => pk_eq e 2 (fun _ => ?_) (fun z2 => pk_eq e 3 (fun _ => ?_) (fun z3 => pk_eq e 4 (fun _ => ?_) (fun z4 => pk_eq e 5 (fun _ => ?_) (fun z5 => pk_eq e 6 (fun _ => ?_) (fun z6 => trivial)))))))))
  · exact sq_xplainRank hn H0 hv hi h
  · exact sq_xtreeRank hL hn H1 hv hi h
  · exact sq_xmatrixRank hL hn H2 hv hi h
  · exact sq_xrowsRank hn H3 hv hi h
  · exact sq_xrunsRank hL hn H4 hv hi h
  · exact sq_xcodeRank hL hn H5 h600 hv hi h
  · have g : nI v * 256 + nI i = nI (256 * v + i) := by
      rw [show nI v * 256 = nI (v * 256) from pk_mul v 256, nI_add]
      exact congrArg nI (by omega)
    have g0 : nI v * 256 = nI (256 * v) := by
      rw [Nat.mul_comm]
      exact pk_mul v 256
    have kr := sq_krank (L := L) (l := v) hn hi
    refine sq_xsb hL hn H6 g (by omega) (sq_xsb hL hn H6 g0 (by omega) ?_)
    rw [pk_sub (by omega), kr, Nat.add_sub_cancel_left]
    exact h
end
