-- Part 17: packing (written by wip/whole/gen17.py)
theorem sq_lc (L : Nat → Nat) {p : Nat} (hp : p < 2 ^ 31) : sq_l L (nI p).toNatClampNeg = nI (L p) := by rw [nI_clamp hp]; rfl
/-- the matrix's order of nodes -/
def sq_tu (l g : Nat) : Nat := if l = 2 then (if g = 1 then 2 else if g = 2 then 1 else g) else g
def sq_tv (g : Nat) : Nat → Nat
  | 0 => 0
  | b + 1 => sq_tv g b * 2 + g / 2 ^ b % 2
theorem sq_tv1 : ∀ g, g < 4 → ∀ b, b < 2 → nI (sq_tv g b) * 2 + ((nI g >>> (nI b &&& 31)) &&& 1) = nI (sq_tv g (b + 1)) := by decide +kernel
theorem sq_tv2 : ∀ l, l < 3 → ∀ g, g < 2 ^ l → sq_tv g l = sq_tu l g := by decide +kernel
theorem sq_tu4 : ∀ l, l < 3 → ∀ g, g < 2 ^ l → g < 4 ∧ sq_tu l g < 2 ^ l ∧ sq_tu l (sq_tu l g) = g := by decide +kernel
theorem sq_2l : ∀ l, l < 3 → (1 : Int32) <<< (nI l &&& 31) = nI (2 ^ l) ∧ 2 ^ l ≤ 4 := by decide +kernel
theorem sq_xturned {post : Int32 → Prop} {l g : Nat} (hl : l < 3) (hg : g < 2 ^ l) (h : post (nI (sq_tu l g))) : wpX_turned post (nI g) (nI l) :=
  loop_0 (σ := Int32) (fun n b x2 => wX_turned_4 post (nI g) (nI l) n x2 (nI b)) (fun b x2 => x2 = nI (sq_tv g b)) l 0 rfl
    (fun n x2 e => br_t (nI_le (Nat.le_refl l) (by omega)) (sq_v (P := post) e (by rw [sq_tv2 l hl g hg]; exact h)))
    (fun n b x2 hb e k => by
      subst e
      exact br_f (nI_ge hb (by omega)) (nm_r (sq_tv1 g (sq_tu4 l hl g hg).1 b (by omega)) (nm_r (nI_1 b) (k _ rfl))))
theorem sq_pl2 : ∀ l, l < 3 → ∀ v, v < 8 → v / 2 ^ (3 - l) < 2 ^ l := by decide +kernel
/-- a filled row, from its groups -/
theorem sq_RowG {L : Nat → Nat} {n l : Nat} {o st : Nat → Nat} {R : Nat → Bool} (hL : ∀ j, L j < 8) (hl : l < 3) (G : sq_Grp L n l o (2 ^ l) R) (ho : ∀ p, p < 2 ^ l → ∃ g, g < 2 ^ l ∧ o g = p ∧ sq_sg L n l o g = st p) : sq_Row L n l st R := by
  intro q hq
  obtain ⟨g, g1, g2, g3⟩ := ho _ (sq_pl2 l hl (L q) (hL q))
  have := G.2 g g1 q hq g2.symm
  rw [g2, g3, Nat.add_assoc] at this
  exact this
theorem sq_mord {L : Nat → Nat} {n l : Nat} (hL : ∀ j, L j < 8) (hl : l < 3) : (∀ p, p < 2 ^ l → ∃ g, g < 2 ^ l ∧ sq_tu l g = p ∧ sq_sg L n l (sq_tu l) g = sq_mst L n l p) ∧ ∀ g, g ≤ 2 ^ l → sq_sg L n l (sq_tu l) g ≤ n := by
  have h0 := sq_p0 hL n
  have a' : sq_p L 0 0 n = sq_p L 1 0 n + sq_p L 1 1 n := sq_p2 L (show 0 < 3 by omega) 0 n
  have b' : sq_p L 1 0 n = sq_p L 2 0 n + sq_p L 2 1 n := sq_p2 L (show 1 < 3 by omega) 0 n
  have c' : sq_p L 1 1 n = sq_p L 2 2 n + sq_p L 2 3 n := sq_p2 L (show 1 < 3 by omega) 1 n
  have hl' : l = 0 ∨ l = 1 ∨ l = 2 := by omega
  rcases hl' with rfl | rfl | rfl
  · refine ⟨fun p hp => ⟨0, by decide, ?_, ?_⟩, fun g hg => Nat.le_trans (sq_sgmono L n 0 (sq_tu 0) hg) ?_⟩
    · have : (2 : Nat) ^ 0 = 1 := rfl
      show 0 = p
      omega
    · have : (2 : Nat) ^ 0 = 1 := rfl
      rw [show p = 0 by omega]
      rfl
    · show 0 + sq_p L 0 0 n ≤ n
      omega
  · refine ⟨fun p hp => ?_, fun g hg => Nat.le_trans (sq_sgmono L n 1 (sq_tu 1) hg) ?_⟩
    · have hp' : p = 0 ∨ p = 1 := by
        have : (2 : Nat) ^ 1 = 2 := rfl
        omega
      rcases hp' with rfl | rfl
      · exact ⟨0, by decide, rfl, rfl⟩
      · refine ⟨1, by decide, rfl, ?_⟩
        show 0 + sq_p L 1 0 n = sq_p L 1 0 n
        omega
    · show 0 + sq_p L 1 0 n + sq_p L 1 1 n ≤ n
      omega
  · refine ⟨fun p hp => ?_, fun g hg => Nat.le_trans (sq_sgmono L n 2 (sq_tu 2) hg) ?_⟩
    · have hp' : p = 0 ∨ p = 1 ∨ p = 2 ∨ p = 3 := by
        have : (2 : Nat) ^ 2 = 4 := rfl
        omega
      rcases hp' with rfl | rfl | rfl | rfl
      · exact ⟨0, by decide, rfl, rfl⟩
      · refine ⟨2, by decide, rfl, ?_⟩
        show 0 + sq_p L 2 0 n + sq_p L 2 2 n = sq_p L 2 0 n + sq_p L 2 2 n
        omega
      · refine ⟨1, by decide, rfl, ?_⟩
        show 0 + sq_p L 2 0 n = sq_p L 2 0 n
        omega
      · refine ⟨3, by decide, rfl, ?_⟩
        show 0 + sq_p L 2 0 n + sq_p L 2 2 n + sq_p L 2 1 n = sq_p L 2 0 n + sq_p L 2 2 n + sq_p L 2 1 n
        omega
    · show 0 + sq_p L 2 0 n + sq_p L 2 2 n + sq_p L 2 1 n + sq_p L 2 3 n ≤ n
      omega
theorem sq_tord {L : Nat → Nat} {n l : Nat} : (∀ p, p < 2 ^ l → ∃ g, g < 2 ^ l ∧ (fun g => g) g = p ∧ sq_sg L n l (fun g => g) g = sq_st L n l p) ∧ ∀ g, g ≤ 2 ^ l → sq_sg L n l (fun g => g) g ≤ n :=
  ⟨fun p hp => ⟨p, hp, rfl, sq_sgst L n l p⟩, fun g _ => by rw [sq_sgst]; exact sq_stle L n l g⟩
section
variable {f_length f_runCount f_streamLength : Int32} {a_letters : Nat → Int32} {a_plainWords a_treeBits a_matrixBits : Nat → Int64} {a_matrixZeros : Nat → Int32} {a_letterRows a_runWords : Nat → Int64} {a_letterCounts a_groupWeights a_groupOf a_codeLengths a_codes a_codesOfLength a_lettersByCode : Nat → Int32} {a_stream : Nat → Int64} {a_sampleStarts a_sampleRanks : Nat → Int32} {a_sparseHigh a_sparseLow : Nat → Int64}
theorem sq_xpackPlain {post : SX → Prop} {L : Nat → Nat} {n : Nat} (hL : ∀ j, L j < 8) (hn : n ≤ 200) (h : ∀ a, sq_P0 L n a → post ((nI n), f_runCount, f_streamLength, (sq_l L), a, a_treeBits, a_matrixBits, a_matrixZeros, a_letterRows, a_runWords, a_letterCounts, a_groupWeights, a_groupOf, a_codeLengths, a_codes, a_codesOfLength, a_lettersByCode, a_stream, a_sampleStarts, a_sampleRanks, a_sparseHigh, a_sparseLow)) : wpX_packPlain post ((nI n), f_runCount, f_streamLength, (sq_l L), a_plainWords, a_treeBits, a_matrixBits, a_matrixZeros, a_letterRows, a_runWords, a_letterCounts, a_groupWeights, a_groupOf, a_codeLengths, a_codes, a_codesOfLength, a_lettersByCode, a_stream, a_sampleStarts, a_sampleRanks, a_sparseHigh, a_sparseLow) :=
  sq_xclear_plainWords (fun a0 ha0 => loop_0 (σ := Nat → Int64) (fun n' p a => wX_packPlain_9 post n' (nI p) (nI n) f_runCount f_streamLength (sq_l L) a a_treeBits a_matrixBits a_matrixZeros a_letterRows a_runWords a_letterCounts a_groupWeights a_groupOf a_codeLengths a_codes a_codesOfLength a_lettersByCode a_stream a_sampleStarts a_sampleRanks a_sparseHigh a_sparseLow) (fun p a => (∀ q, q < p → sq_F 3 21 a q = L q) ∧ ∀ q, p ≤ q → q < 210 → sq_F 3 21 a q = 0) n a0
    ⟨fun q hq => absurd hq (Nat.not_lt_zero q), fun q _ hq => sq_F0 (ha0 (q / 21) (by omega))⟩
    (fun n' a e => br_t (nI_le (Nat.le_refl n) (by omega)) (h a e.1))
    (fun n' p a hp e k => br_f (nI_ge hp (by omega)) ⟨vp_in_nI (by omega) (by decide), sq_v (P := fun z => wpX_putTriple__plainWords _ ((nI n), f_runCount, f_streamLength, (sq_l L), a, a_treeBits, a_matrixBits, a_matrixZeros, a_letterRows, a_runWords, a_letterCounts, a_groupWeights, a_groupOf, a_codeLengths, a_codes, a_codesOfLength, a_lettersByCode, a_stream, a_sampleStarts, a_sampleRanks, a_sparseHigh, a_sparseLow) (nI p) z) (sq_lc L (by omega)) (sq_xput_plainWords (by omega) (hL p) (e.2 p (Nat.le_refl p) (by omega)) (fun a' ha' => nm_r (nI_1 p) (k a' ⟨fun q hq => by
        rw [ha']
        by_cases z : q = p
        · rw [if_pos z, z]
        · rw [if_neg z]; exact e.1 q (by omega), fun q h1 h2 => by
        rw [ha', if_neg (by omega)]
        exact e.2 q (by omega) h2⟩)))⟩))
theorem sq_xfill_treeBits {post : Int32 → SX → Prop} {L : Nat → Nat} {n l p slot : Nat} (hL : ∀ j, L j < 8) (hn : n ≤ 200) (hl : l < 3) (hp : p < 8) (hs : slot + sq_p L l p n ≤ 768) (h0 : ∀ P, slot ≤ P → P < 768 → sq_B a_treeBits P = false)
    (h : ∀ a, sq_Fil L l p slot 768 (sq_B a_treeBits) n (sq_B a) → post (nI (slot + sq_p L l p n)) ((nI n), f_runCount, f_streamLength, (sq_l L), a_plainWords, a, a_matrixBits, a_matrixZeros, a_letterRows, a_runWords, a_letterCounts, a_groupWeights, a_groupOf, a_codeLengths, a_codes, a_codesOfLength, a_lettersByCode, a_stream, a_sampleStarts, a_sampleRanks, a_sparseHigh, a_sparseLow)) : wpX_fillNode__treeBits post ((nI n), f_runCount, f_streamLength, (sq_l L), a_plainWords, a_treeBits, a_matrixBits, a_matrixZeros, a_letterRows, a_runWords, a_letterCounts, a_groupWeights, a_groupOf, a_codeLengths, a_codes, a_codesOfLength, a_lettersByCode, a_stream, a_sampleStarts, a_sampleRanks, a_sparseHigh, a_sparseLow) (nI slot) (nI l) (nI p) :=
  loop_0 (σ := Int32 × (Nat → Int64)) (fun n' q s => wX_fillNode__treeBits_6 post (nI l) (nI p) n' s.1 (nI q) (nI n) f_runCount f_streamLength (sq_l L) a_plainWords s.2 a_matrixBits a_matrixZeros a_letterRows a_runWords a_letterCounts a_groupWeights a_groupOf a_codeLengths a_codes a_codesOfLength a_lettersByCode a_stream a_sampleStarts a_sampleRanks a_sparseHigh a_sparseLow) (fun q s => s.1 = nI (slot + sq_p L l p q) ∧ sq_Fil L l p slot 768 (sq_B a_treeBits) q (sq_B s.2)) n (nI slot, a_treeBits)
    ⟨rfl, sq_Fil0 h0⟩
    (fun n' s e => br_t (nI_le (Nat.le_refl n) (by omega)) (sq_v (P := fun z => post z ((nI n), f_runCount, f_streamLength, (sq_l L), a_plainWords, s.2, a_matrixBits, a_matrixZeros, a_letterRows, a_runWords, a_letterCounts, a_groupWeights, a_groupOf, a_codeLengths, a_codes, a_codesOfLength, a_lettersByCode, a_stream, a_sampleStarts, a_sampleRanks, a_sparseHigh, a_sparseLow)) e.1 (h s.2 e.2)))
    (fun n' q s hq e k => by
      obtain ⟨s1, a⟩ := s
      obtain ⟨e1, e2⟩ := e
      have e1' : s1 = nI (slot + sq_p L l p q) := e1
      subst e1'
      have e2' : sq_Fil L l p slot 768 (sq_B a_treeBits) q (sq_B a) := e2
      have mo := sq_pmono L l p (show q + 1 ≤ n by omega)
      have hin : vp_in (nI q) 200 := vp_in_nI (by omega) (by decide)
      have lc := sq_lc L (p := q) (by omega)
      refine br_f (nI_ge hq (by omega)) ⟨hin, ?_⟩
      have tp : sq_l L (nI q).toNatClampNeg >>> ((3 - nI l) &&& 31) = nI (L q / 2 ^ (3 - l)) := by rw [lc, sq_top _ (hL q) l hl]
      have lb : (sq_l L (nI q).toNatClampNeg >>> ((2 - nI l) &&& 31)) &&& 1 = nI (L q / 2 ^ (2 - l) % 2) := by rw [lc, sq_lbit _ (hL q) l hl]
      have d8 : L q / 2 ^ (3 - l) < 8 := Nat.lt_of_le_of_lt (Nat.div_le_self _ _) (hL q)
      refine pk_eq (L q / 2 ^ (3 - l)) p (fun z => ⟨hin, ?_⟩) (fun z => ?_) tp
      · rw [sq_pt z] at mo
        refine pk_eq (L q / 2 ^ (2 - l) % 2) 1 (fun hb => ?_) (fun hb => ?_) lb
        · exact sq_xset_treeBits (by omega) (fun a' ha' => nm_r (e' := nI (slot + sq_p L l p (q + 1))) (by rw [nI_1, sq_pt z, Nat.add_assoc]) (nm_r (nI_1 q) (k (_, a') ⟨rfl, sq_Fil1 e2' z hb ha'⟩)))
        · exact nm_r (e' := nI (slot + sq_p L l p (q + 1))) (by rw [nI_1, sq_pt z, Nat.add_assoc]) (nm_r (nI_1 q) (k (_, a) ⟨rfl, sq_Fil2 e2' z hb (by omega)⟩))
      · exact nm_r (nI_1 q) (k (_, a) ⟨by show nI _ = nI _; rw [sq_pf z], sq_Filn e2' z⟩))
theorem sq_xfill_matrixBits {post : Int32 → SX → Prop} {L : Nat → Nat} {n l p slot : Nat} (hL : ∀ j, L j < 8) (hn : n ≤ 200) (hl : l < 3) (hp : p < 8) (hs : slot + sq_p L l p n ≤ 768) (h0 : ∀ P, slot ≤ P → P < 768 → sq_B a_matrixBits P = false)
    (h : ∀ a, sq_Fil L l p slot 768 (sq_B a_matrixBits) n (sq_B a) → post (nI (slot + sq_p L l p n)) ((nI n), f_runCount, f_streamLength, (sq_l L), a_plainWords, a_treeBits, a, a_matrixZeros, a_letterRows, a_runWords, a_letterCounts, a_groupWeights, a_groupOf, a_codeLengths, a_codes, a_codesOfLength, a_lettersByCode, a_stream, a_sampleStarts, a_sampleRanks, a_sparseHigh, a_sparseLow)) : wpX_fillNode__matrixBits post ((nI n), f_runCount, f_streamLength, (sq_l L), a_plainWords, a_treeBits, a_matrixBits, a_matrixZeros, a_letterRows, a_runWords, a_letterCounts, a_groupWeights, a_groupOf, a_codeLengths, a_codes, a_codesOfLength, a_lettersByCode, a_stream, a_sampleStarts, a_sampleRanks, a_sparseHigh, a_sparseLow) (nI slot) (nI l) (nI p) :=
  loop_0 (σ := Int32 × (Nat → Int64)) (fun n' q s => wX_fillNode__matrixBits_6 post (nI l) (nI p) n' s.1 (nI q) (nI n) f_runCount f_streamLength (sq_l L) a_plainWords a_treeBits s.2 a_matrixZeros a_letterRows a_runWords a_letterCounts a_groupWeights a_groupOf a_codeLengths a_codes a_codesOfLength a_lettersByCode a_stream a_sampleStarts a_sampleRanks a_sparseHigh a_sparseLow) (fun q s => s.1 = nI (slot + sq_p L l p q) ∧ sq_Fil L l p slot 768 (sq_B a_matrixBits) q (sq_B s.2)) n (nI slot, a_matrixBits)
    ⟨rfl, sq_Fil0 h0⟩
    (fun n' s e => br_t (nI_le (Nat.le_refl n) (by omega)) (sq_v (P := fun z => post z ((nI n), f_runCount, f_streamLength, (sq_l L), a_plainWords, a_treeBits, s.2, a_matrixZeros, a_letterRows, a_runWords, a_letterCounts, a_groupWeights, a_groupOf, a_codeLengths, a_codes, a_codesOfLength, a_lettersByCode, a_stream, a_sampleStarts, a_sampleRanks, a_sparseHigh, a_sparseLow)) e.1 (h s.2 e.2)))
    (fun n' q s hq e k => by
      obtain ⟨s1, a⟩ := s
      obtain ⟨e1, e2⟩ := e
      have e1' : s1 = nI (slot + sq_p L l p q) := e1
      subst e1'
      have e2' : sq_Fil L l p slot 768 (sq_B a_matrixBits) q (sq_B a) := e2
      have mo := sq_pmono L l p (show q + 1 ≤ n by omega)
      have hin : vp_in (nI q) 200 := vp_in_nI (by omega) (by decide)
      have lc := sq_lc L (p := q) (by omega)
      refine br_f (nI_ge hq (by omega)) ⟨hin, ?_⟩
      have tp : sq_l L (nI q).toNatClampNeg >>> ((3 - nI l) &&& 31) = nI (L q / 2 ^ (3 - l)) := by rw [lc, sq_top _ (hL q) l hl]
      have lb : (sq_l L (nI q).toNatClampNeg >>> ((2 - nI l) &&& 31)) &&& 1 = nI (L q / 2 ^ (2 - l) % 2) := by rw [lc, sq_lbit _ (hL q) l hl]
      have d8 : L q / 2 ^ (3 - l) < 8 := Nat.lt_of_le_of_lt (Nat.div_le_self _ _) (hL q)
      refine pk_eq (L q / 2 ^ (3 - l)) p (fun z => ⟨hin, ?_⟩) (fun z => ?_) tp
      · rw [sq_pt z] at mo
        refine pk_eq (L q / 2 ^ (2 - l) % 2) 1 (fun hb => ?_) (fun hb => ?_) lb
        · exact sq_xset_matrixBits (by omega) (fun a' ha' => nm_r (e' := nI (slot + sq_p L l p (q + 1))) (by rw [nI_1, sq_pt z, Nat.add_assoc]) (nm_r (nI_1 q) (k (_, a') ⟨rfl, sq_Fil1 e2' z hb ha'⟩)))
        · exact nm_r (e' := nI (slot + sq_p L l p (q + 1))) (by rw [nI_1, sq_pt z, Nat.add_assoc]) (nm_r (nI_1 q) (k (_, a) ⟨rfl, sq_Fil2 e2' z hb (by omega)⟩))
      · exact nm_r (nI_1 q) (k (_, a) ⟨by show nI _ = nI _; rw [sq_pf z], sq_Filn e2' z⟩))
theorem sq_xpackTree {post : SX → Prop} {L : Nat → Nat} {n : Nat} (hL : ∀ j, L j < 8) (hn : n ≤ 200) (h : ∀ a, sq_P1 L n a → post ((nI n), f_runCount, f_streamLength, (sq_l L), a_plainWords, a, a_matrixBits, a_matrixZeros, a_letterRows, a_runWords, a_letterCounts, a_groupWeights, a_groupOf, a_codeLengths, a_codes, a_codesOfLength, a_lettersByCode, a_stream, a_sampleStarts, a_sampleRanks, a_sparseHigh, a_sparseLow)) : wpX_packTree post ((nI n), f_runCount, f_streamLength, (sq_l L), a_plainWords, a_treeBits, a_matrixBits, a_matrixZeros, a_letterRows, a_runWords, a_letterCounts, a_groupWeights, a_groupOf, a_codeLengths, a_codes, a_codesOfLength, a_lettersByCode, a_stream, a_sampleStarts, a_sampleRanks, a_sparseHigh, a_sparseLow) :=
  sq_xclear_treeBits (fun a0 ha0 => loop_0 (σ := Nat → Int64) (fun n' l a => wX_packTree_9 post n' (nI l) (nI n) f_runCount f_streamLength (sq_l L) a_plainWords a a_matrixBits a_matrixZeros a_letterRows a_runWords a_letterCounts a_groupWeights a_groupOf a_codeLengths a_codes a_codesOfLength a_lettersByCode a_stream a_sampleStarts a_sampleRanks a_sparseHigh a_sparseLow) (fun l a => (∀ m, m < l → sq_Row L n m (sq_st L n m) (sq_B a)) ∧ ∀ P, 256 * l ≤ P → P < 768 → sq_B a P = false) 3 a0
    ⟨fun m hm => absurd hm (Nat.not_lt_zero m), fun P _ hP => sq_B0 (ha0 (P / 64) (by omega))⟩
    (fun n' a e => br_t (nI_le (Nat.le_refl 3) (by decide)) (h a e.1))
    (fun n' l a hl e k => by
      obtain ⟨ord, sgn⟩ := sq_tord (L := L) (n := n) (l := l)
      obtain ⟨l2, l4⟩ := sq_2l l hl
      refine br_f (nI_ge (b := 3) hl (by decide)) (nm_r (e' := nI (256 * l)) (by rw [Nat.mul_comm]; exact pk_mul l 256) ?_)
      exact loop_0 (σ := Int32 × (Nat → Int64)) (fun n'' g s => wX_packTree_22 post (wX_packTree_9 post n') (nI l) n'' s.1 (nI g) (nI n) f_runCount f_streamLength (sq_l L) a_plainWords s.2 a_matrixBits a_matrixZeros a_letterRows a_runWords a_letterCounts a_groupWeights a_groupOf a_codeLengths a_codes a_codesOfLength a_lettersByCode a_stream a_sampleStarts a_sampleRanks a_sparseHigh a_sparseLow)
        (fun g s => s.1 = nI (256 * l + sq_sg L n l (fun g => g) g) ∧ sq_Grp L n l (fun g => g) g (sq_B s.2) ∧ sq_Up (sq_B a) (sq_B s.2) l) (2 ^ l) (nI (256 * l), a)
        ⟨rfl, ⟨fun P h1 h2 => e.2 P h1 h2, fun m hm => absurd hm (Nat.not_lt_zero m)⟩, fun _ _ => rfl⟩
        (fun n'' s f => br_t (by rw [l2]; exact nI_le (Nat.le_refl _) (by omega)) (nm_r (nI_1 l) (k s.2 ⟨fun m hm => by
            by_cases z : m = l
            · subst z
              exact sq_RowG hL hl f.2.1 ord
            · exact sq_RowUp f.2.2 (by omega) (fun q hq => by
                have a1 := sq_sten L n m (L q / 2 ^ (3 - m))
                have a2 := sq_pmono L m (L q / 2 ^ (3 - m)) (Nat.le_of_lt hq)
                omega) (e.1 m (by omega)), fun P h1 h2 => f.2.1.1 P (by
                  have := sgn (2 ^ l) (Nat.le_refl _)
                  omega) h2⟩)))
        (fun n'' g s hg f c => by
          obtain ⟨s1, b⟩ := s
          obtain ⟨f1, f2, f3⟩ := f
          have f1' : s1 = nI (256 * l + sq_sg L n l (fun g => g) g) := f1
          subst f1'
          have q1 := sgn (g + 1) hg
          have q1' : sq_sg L n l (fun g => g) g + sq_p L l g n ≤ n := q1
          exact br_f (by rw [l2]; exact nI_ge hg (by omega)) (sq_xfill_treeBits hL hn hl (by omega) (by omega) f2.1 (fun a' ha' => nm_r (nI_1 g) (c (_, a') ⟨by show nI _ = nI _; exact congrArg nI (by
            show _ = 256 * l + (sq_sg L n l (fun g => g) g + sq_p L l g n)
            omega), sq_Grps f2 ha', fun P hP => (ha'.1 P (by omega)).trans (f3 P hP)⟩))))))
theorem sq_xpackMatrix {post : SX → Prop} {L : Nat → Nat} {n : Nat} (hL : ∀ j, L j < 8) (hn : n ≤ 200) (h : ∀ a z, sq_P2 L n a z → post ((nI n), f_runCount, f_streamLength, (sq_l L), a_plainWords, a_treeBits, a, z, a_letterRows, a_runWords, a_letterCounts, a_groupWeights, a_groupOf, a_codeLengths, a_codes, a_codesOfLength, a_lettersByCode, a_stream, a_sampleStarts, a_sampleRanks, a_sparseHigh, a_sparseLow)) : wpX_packMatrix post ((nI n), f_runCount, f_streamLength, (sq_l L), a_plainWords, a_treeBits, a_matrixBits, a_matrixZeros, a_letterRows, a_runWords, a_letterCounts, a_groupWeights, a_groupOf, a_codeLengths, a_codes, a_codesOfLength, a_lettersByCode, a_stream, a_sampleStarts, a_sampleRanks, a_sparseHigh, a_sparseLow) :=
  sq_xclear_matrixBits (fun a0 ha0 => loop_0 (σ := (Nat → Int64) × (Nat → Int32)) (fun n' l s => wX_packMatrix_9 post n' (nI l) (nI n) f_runCount f_streamLength (sq_l L) a_plainWords a_treeBits s.1 s.2 a_letterRows a_runWords a_letterCounts a_groupWeights a_groupOf a_codeLengths a_codes a_codesOfLength a_lettersByCode a_stream a_sampleStarts a_sampleRanks a_sparseHigh a_sparseLow) (fun l s => (∀ m, m < l → sq_Row L n m (sq_mst L n m) (sq_B s.1) ∧ s.2 m = nI (n - sq_o (sq_B s.1) m n)) ∧ ∀ P, 256 * l ≤ P → P < 768 → sq_B s.1 P = false) 3 (a0, a_matrixZeros)
    ⟨fun m hm => absurd hm (Nat.not_lt_zero m), fun P _ hP => sq_B0 (ha0 (P / 64) (by omega))⟩
    (fun n' s e => br_t (nI_le (Nat.le_refl 3) (by decide)) (h s.1 s.2 e.1))
    (fun n' l s0 hl e k => by
      obtain ⟨a, z⟩ := s0
      obtain ⟨ord, sgn⟩ := sq_mord (L := L) (n := n) hL hl
      obtain ⟨l2, l4⟩ := sq_2l l hl
      have e1 : ∀ m, m < l → sq_Row L n m (sq_mst L n m) (sq_B a) ∧ z m = nI (n - sq_o (sq_B a) m n) := e.1
      have e2 : ∀ P, 256 * l ≤ P → P < 768 → sq_B a P = false := e.2
      refine br_f (nI_ge (b := 3) hl (by decide)) (nm_r (e' := nI (256 * l)) (by rw [Nat.mul_comm]; exact pk_mul l 256) ?_)
      exact loop_0 (σ := Int32 × (Nat → Int64)) (fun n'' g s => wX_packMatrix_22 post (wX_packMatrix_9 post n') (nI l) n'' s.1 (nI g) (nI n) f_runCount f_streamLength (sq_l L) a_plainWords a_treeBits s.2 z a_letterRows a_runWords a_letterCounts a_groupWeights a_groupOf a_codeLengths a_codes a_codesOfLength a_lettersByCode a_stream a_sampleStarts a_sampleRanks a_sparseHigh a_sparseLow)
        (fun g s => s.1 = nI (256 * l + sq_sg L n l (sq_tu l) g) ∧ sq_Grp L n l (sq_tu l) g (sq_B s.2) ∧ sq_Up (sq_B a) (sq_B s.2) l) (2 ^ l) (nI (256 * l), a)
        ⟨rfl, ⟨fun P h1 h2 => e2 P h1 h2, fun m hm => absurd hm (Nat.not_lt_zero m)⟩, fun _ _ => rfl⟩
        (fun n'' s f => br_t (by rw [l2]; exact nI_le (Nat.le_refl _) (by omega)) (sq_xrow_matrixBits rfl (by omega) ⟨vp_in_nI hl (by decide), nm_r (e' := upd z l (nI (n - sq_o (sq_B s.2) l n))) (by rw [nI_clamp (by omega), pk_sub (sq_ole _ _ _)]) (nm_r (nI_1 l) (k (s.2, _) ⟨fun m hm => by
            show sq_Row L n m (sq_mst L n m) (sq_B s.2) ∧ upd z l (nI (n - sq_o (sq_B s.2) l n)) m = nI (n - sq_o (sq_B s.2) m n)
            by_cases y : m = l
            · subst y
              exact ⟨sq_RowG hL hl f.2.1 ord, pk_us⟩
            · have o1 : sq_o (sq_B s.2) m n = sq_o (sq_B a) m n := sq_ccg n (fun t ht => f.2.2 _ (by omega))
              rw [pk_un y, o1]
              refine ⟨sq_RowUp f.2.2 (by omega) (fun q hq => ?_) (e1 m (by omega)).1, (e1 m (by omega)).2⟩
              have a1 := sq_mle hL n (show m < 3 by omega) (sq_pl2 m (by omega) (L q) (hL q))
              have a2 := sq_pmono L m (L q / 2 ^ (3 - m)) (Nat.le_of_lt hq)
              omega, fun P h1 h2 => f.2.1.1 P (by
                  have := sgn (2 ^ l) (Nat.le_refl _)
                  omega) h2⟩))⟩))
        (fun n'' g s hg f c => by
          obtain ⟨s1, b⟩ := s
          obtain ⟨f1, f2, f3⟩ := f
          have f1' : s1 = nI (256 * l + sq_sg L n l (sq_tu l) g) := f1
          subst f1'
          have q1 := sgn (g + 1) hg
          have q1' : sq_sg L n l (sq_tu l) g + sq_p L l (sq_tu l g) n ≤ n := q1
          have t4 := sq_tu4 l hl g hg
          exact br_f (by rw [l2]; exact nI_ge hg (by omega)) (sq_xturned hl hg (sq_xfill_matrixBits hL hn hl (by omega) (by omega) f2.1 (fun a' ha' => nm_r (nI_1 g) (c (_, a') ⟨by show nI _ = nI _; exact congrArg nI (by
            show _ = 256 * l + (sq_sg L n l (sq_tu l) g + sq_p L l (sq_tu l g) n)
            omega), sq_Grps f2 ha', fun P hP => (ha'.1 P (by omega)).trans (f3 P hP)⟩)))))))
theorem sq_xpackRows {post : SX → Prop} {L : Nat → Nat} {n : Nat} (hL : ∀ j, L j < 8) (hn : n ≤ 200) (h : ∀ a, sq_P3 L n a → post ((nI n), f_runCount, f_streamLength, (sq_l L), a_plainWords, a_treeBits, a_matrixBits, a_matrixZeros, a, a_runWords, a_letterCounts, a_groupWeights, a_groupOf, a_codeLengths, a_codes, a_codesOfLength, a_lettersByCode, a_stream, a_sampleStarts, a_sampleRanks, a_sparseHigh, a_sparseLow)) : wpX_packRows post ((nI n), f_runCount, f_streamLength, (sq_l L), a_plainWords, a_treeBits, a_matrixBits, a_matrixZeros, a_letterRows, a_runWords, a_letterCounts, a_groupWeights, a_groupOf, a_codeLengths, a_codes, a_codesOfLength, a_lettersByCode, a_stream, a_sampleStarts, a_sampleRanks, a_sparseHigh, a_sparseLow) :=
  sq_xclear_letterRows (fun a0 ha0 => loop_0 (σ := Nat → Int64) (fun n' p a => wX_packRows_9 post n' (nI p) (nI n) f_runCount f_streamLength (sq_l L) a_plainWords a_treeBits a_matrixBits a_matrixZeros a a_runWords a_letterCounts a_groupWeights a_groupOf a_codeLengths a_codes a_codesOfLength a_lettersByCode a_stream a_sampleStarts a_sampleRanks a_sparseHigh a_sparseLow) (fun p a => ∀ l, l < 8 → ∀ q, q < 256 → sq_B a (256 * l + q) = decide (q < p ∧ L q = l)) n a0
    (fun l hl q hq => by rw [sq_B0 (ha0 _ (by omega)), decide_eq_false (by omega)])
    (fun n' a e => br_t (nI_le (Nat.le_refl n) (by omega)) (h a (fun l hl p hp => by
      rw [e l hl p (by omega)]
      exact decide_eq_decide.mpr ⟨fun z => z.2, fun z => ⟨hp, z⟩⟩)))
    (fun n' p a hp e k => by
      have h8 := hL p
      have g : sq_l L (nI p).toNatClampNeg * 256 + nI p = nI (256 * L p + p) := by
        rw [sq_lc L (by omega), show nI (L p) * 256 = nI (L p * 256) from pk_mul (L p) 256, nI_add]
        exact congrArg nI (by omega)
      exact br_f (nI_ge hp (by omega)) ⟨vp_in_nI (by omega) (by decide), sq_v (P := fun z => wpX_setBit__letterRows _ ((nI n), f_runCount, f_streamLength, (sq_l L), a_plainWords, a_treeBits, a_matrixBits, a_matrixZeros, a, a_runWords, a_letterCounts, a_groupWeights, a_groupOf, a_codeLengths, a_codes, a_codesOfLength, a_lettersByCode, a_stream, a_sampleStarts, a_sampleRanks, a_sparseHigh, a_sparseLow) z) g (sq_xset_letterRows (by omega) (fun a' ha' => nm_r (nI_1 p) (k a' (fun l hl q hq => by
        rw [ha', e l hl q hq, ← Bool.decide_or]
        exact decide_eq_decide.mpr (by
          constructor
          · rintro (z | z)
            · exact ⟨by omega, z.2⟩
            · have : l = L p := by omega
              have : q = p := by omega
              subst this
              exact ⟨by omega, by omega⟩
          · rintro ⟨z1, z2⟩
            by_cases y : q = p
            · subst y
              exact Or.inr (by omega)
            · exact Or.inl ⟨by omega, z2⟩)))))⟩))
theorem sq_xputRun {post : SX → Prop} {r s v : Nat} (hr : r < 200) (hv : v < 8) (hs : s < 256) (hz : sq_F 11 5 a_runWords r = 0) (h : ∀ a', (∀ k, sq_F 11 5 a' k = if k = r then v * 256 + s else sq_F 11 5 a_runWords k) → post (f_length, (nI (r + 1)), f_streamLength, a_letters, a_plainWords, a_treeBits, a_matrixBits, a_matrixZeros, a_letterRows, a', a_letterCounts, a_groupWeights, a_groupOf, a_codeLengths, a_codes, a_codesOfLength, a_lettersByCode, a_stream, a_sampleStarts, a_sampleRanks, a_sparseHigh, a_sparseLow)) : wpX_putRun post (f_length, (nI r), f_streamLength, a_letters, a_plainWords, a_treeBits, a_matrixBits, a_matrixZeros, a_letterRows, a_runWords, a_letterCounts, a_groupWeights, a_groupOf, a_codeLengths, a_codes, a_codesOfLength, a_lettersByCode, a_stream, a_sampleStarts, a_sampleRanks, a_sparseHigh, a_sparseLow) (nI v) (nI s) := by
  have e1 : (nI v).toInt64 <<< ((8 : Int32).toInt64 &&& 63) ||| (nI s).toInt64 = lN (v * 256 + s) := by
    have a1 : (nI v).toInt64 <<< ((8 : Int32).toInt64 &&& 63) = lN (v * 256) := sq_putw (k := 8) (by omega) (by decide)
    rw [a1, nI_l (by omega)]
    exact g_or (k := 8) (by decide) hs (by omega)
  have e2 : vp_updL a_runWords (nI r / 5).toNatClampNeg (a_runWords (nI r / 5).toNatClampNeg ||| lN (v * 256 + s) <<< (((nI r - nI r / 5 * 5) * 11).toInt64 &&& 63)) = vp_updL a_runWords (r / 5) (a_runWords (r / 5) ||| lN ((v * 256 + s) * 2 ^ (11 * (r % 5)))) := by
    rw [sq_r5 (by omega), sq_d5 (by omega), nI_clamp (by omega), wb_shl _ (by omega)]
  have hin : vp_in (nI r / 5) 40 := sq_v (P := fun z => vp_in z 40) (sq_d5 (by omega)) (vp_in_nI (by omega) (by decide))
  refine nm_r e1 ⟨by decide, hin, by decide, hin, nm_r e2 (nm_r (nI_1 r) (h _ (fun k => ?_)))⟩
  exact sq_Fput _ (by decide) (by decide) (by omega) hz k
theorem sq_xpackRuns {post : SX → Prop} {L : Nat → Nat} {n : Nat} (hL : ∀ j, L j < 8) (hn : n ≤ 200) (h : ∀ a c, sq_P4 L n a c → post ((nI n), c, f_streamLength, (sq_l L), a_plainWords, a_treeBits, a_matrixBits, a_matrixZeros, a_letterRows, a, a_letterCounts, a_groupWeights, a_groupOf, a_codeLengths, a_codes, a_codesOfLength, a_lettersByCode, a_stream, a_sampleStarts, a_sampleRanks, a_sparseHigh, a_sparseLow)) : wpX_packRuns post ((nI n), f_runCount, f_streamLength, (sq_l L), a_plainWords, a_treeBits, a_matrixBits, a_matrixZeros, a_letterRows, a_runWords, a_letterCounts, a_groupWeights, a_groupOf, a_codeLengths, a_codes, a_codesOfLength, a_lettersByCode, a_stream, a_sampleStarts, a_sampleRanks, a_sparseHigh, a_sparseLow) :=
  sq_xclear_runWords (fun a0 ha0 => pk_loop (σ := Int32 × Int32 × (Nat → Int64)) (fun n' p s => wX_packRuns_16 post n' s.1 (nI p) (nI n) s.2.1 f_streamLength (sq_l L) a_plainWords a_treeBits a_matrixBits a_matrixZeros a_letterRows s.2.2 a_letterCounts a_groupWeights a_groupOf a_codeLengths a_codes a_codesOfLength a_lettersByCode a_stream a_sampleStarts a_sampleRanks a_sparseHigh a_sparseLow)
    (fun p x => ∃ (s r : Nat) (st : Nat → Nat), x.1 = nI s ∧ x.2.1 = nI r ∧ sq_RI L x.2.2 r s st ∧ (∀ k, r ≤ k → k < 200 → sq_F 11 5 x.2.2 k = 0) ∧ 1 ≤ p ∧ (p ≤ n → s < p ∧ (∀ q, s ≤ q → q < p → L q = L s) ∧ sq_c (sq_ch L) p = r + 1) ∧ (n < p → s = n ∧ sq_c (sq_ch L) n = r)) (n + 1) 1 (0, 0, a0) (by omega)
    ⟨0, 0, fun _ => 0, rfl, rfl, ⟨rfl, rfl, fun k hk => absurd hk (Nat.not_lt_zero k)⟩, fun k _ hk => sq_F0 (ha0 _ (by omega)), Nat.le_refl 1, fun _ => ⟨by omega, fun q h1 h2 => by rw [show q = 0 by omega], rfl⟩, fun h1 => by
      have : n = 0 := by omega
      subst this
      exact ⟨rfl, rfl⟩⟩
    (fun n' x e => by
      obtain ⟨s, r, st, e1, e2, e3, e4, e5, e6, e7⟩ := e
      obtain ⟨y1, y2⟩ := e7 (by omega)
      subst y1
      exact br_t (nI_lt (by omega) (by omega)) (h x.2.2 x.2.1 ⟨r, st, e2, y2.symm, e3⟩))
    (fun n' p x hp e k => by
      obtain ⟨x1, x2, a⟩ := x
      obtain ⟨s, r, st, e1, e2, e3, e4, e5, e6, e7⟩ := e
      have e1' : x1 = nI s := e1
      have e2' : x2 = nI r := e2
      have e3' : sq_RI L a r s st := e3
      have e4' : ∀ k, r ≤ k → k < 200 → sq_F 11 5 a k = 0 := e4
      subst e1' e2'
      obtain ⟨y1, y2, y3⟩ := e6 (by omega)
      have rs := sq_RIr e3' r (Nat.le_refl r)
      rw [e3'.2.1] at rs
      have l8 := hL s
      have put : ∀ (Q : SX → Prop), (∀ a', (∀ k, sq_F 11 5 a' k = if k = r then L s * 256 + (p - s) else sq_F 11 5 a k) → Q ((nI n), (nI (r + 1)), f_streamLength, (sq_l L), a_plainWords, a_treeBits, a_matrixBits, a_matrixZeros, a_letterRows, a', a_letterCounts, a_groupWeights, a_groupOf, a_codeLengths, a_codes, a_codesOfLength, a_lettersByCode, a_stream, a_sampleStarts, a_sampleRanks, a_sparseHigh, a_sparseLow)) → vp_in (nI s) 200 ∧ wpX_putRun Q ((nI n), (nI r), f_streamLength, (sq_l L), a_plainWords, a_treeBits, a_matrixBits, a_matrixZeros, a_letterRows, a, a_letterCounts, a_groupWeights, a_groupOf, a_codeLengths, a_codes, a_codesOfLength, a_lettersByCode, a_stream, a_sampleStarts, a_sampleRanks, a_sparseHigh, a_sparseLow) (sq_l L (nI s).toNatClampNeg) (nI p - nI s) := by
        intro Q hQ
        refine ⟨vp_in_nI (by omega) (by decide), ?_⟩
        rw [sq_lc L (by omega), pk_sub (by omega)]
        exact sq_xputRun (by omega) l8 (by omega) (e4' r (Nat.le_refl r) (by omega)) hQ
      refine br_f (nI_nlt (by omega) (by omega)) (pk_eq p n (fun z => ?_) (fun z => ?_))
      · refine put _ (fun a' ha' => nm_r (nI_1 p) (k (_, _, a') ⟨p, r + 1, _, rfl, rfl, sq_RIs e3' y1 y2 ha', fun j h1 h2 => ?_, by omega, fun _ => by omega, fun _ => ⟨z, by rw [← z]; exact y3⟩⟩))
        show sq_F 11 5 a' j = 0
        rw [ha', if_neg (by omega)]
        exact e4' j (by omega) h2
      · have lp8 := hL p
        refine ⟨vp_in_nI (by omega) (by decide), vp_in_nI (by omega) (by decide), pk_eq (L p) (L s) (fun w => ?_) (fun w => ?_) (sq_lc L (by omega)) (sq_lc L (by omega))⟩
        · have c0 : sq_ch L p = false := decide_eq_false (by
            have := y2 (p - 1) (by omega) (by omega)
            omega)
          exact nm_r (nI_1 p) (k (_, _, a) ⟨s, r, st, rfl, rfl, e3', e4', by omega, fun _ => ⟨by omega, fun q h1 h2 => by
            by_cases y : q = p
            · rw [y]; exact w
            · exact y2 q h1 (by omega), by rw [sq_cf c0]; exact y3⟩, fun _ => by omega⟩)
        · have c1 : sq_ch L p = true := decide_eq_true (by
            have := y2 (p - 1) (by omega) (by omega)
            omega)
          refine put _ (fun a' ha' => nm_r (nI_1 p) (k (_, _, a') ⟨p, r + 1, _, rfl, rfl, sq_RIs e3' y1 y2 ha', fun j h1 h2 => ?_, by omega, fun _ => ⟨by omega, fun q h1 h2 => by rw [show q = p by omega], by rw [sq_ct c1, y3]⟩, fun _ => by omega⟩))
          show sq_F 11 5 a' j = 0
          rw [ha', if_neg (by omega)]
          exact e4' j (by omega) h2))
theorem sq_xpackSparse {post : SX → Prop} {L : Nat → Nat} {n : Nat} (hL : ∀ j, L j < 8) (hn : n ≤ 200) (h : ∀ a b, sq_P6 L n a b → post ((nI n), f_runCount, f_streamLength, (sq_l L), a_plainWords, a_treeBits, a_matrixBits, a_matrixZeros, a_letterRows, a_runWords, a_letterCounts, a_groupWeights, a_groupOf, a_codeLengths, a_codes, a_codesOfLength, a_lettersByCode, a_stream, a_sampleStarts, a_sampleRanks, a, b)) : wpX_packSparse post ((nI n), f_runCount, f_streamLength, (sq_l L), a_plainWords, a_treeBits, a_matrixBits, a_matrixZeros, a_letterRows, a_runWords, a_letterCounts, a_groupWeights, a_groupOf, a_codeLengths, a_codes, a_codesOfLength, a_lettersByCode, a_stream, a_sampleStarts, a_sampleRanks, a_sparseHigh, a_sparseLow) :=
  sq_xclear_sparseHigh (fun a0 ha0 => sq_xclear_sparseLow (fun b0 hb0 => loop_0 (σ := Int32 × (Nat → Int64) × (Nat → Int64)) (fun n' l s => wX_packSparse_18 post n' s.1 (nI l) (nI n) f_runCount f_streamLength (sq_l L) a_plainWords a_treeBits a_matrixBits a_matrixZeros a_letterRows a_runWords a_letterCounts a_groupWeights a_groupOf a_codeLengths a_codes a_codesOfLength a_lettersByCode a_stream a_sampleStarts a_sampleRanks s.2.1 s.2.2)
    (fun l s => s.1 = nI (sq_k L n (256 * l)) ∧ sq_SI L n (256 * l) (sq_B s.2.1) s.2.2) 8 (0, a0, b0)
    ⟨by show 0 = nI (sq_k L n 0); rw [sq_k0]; rfl, sq_SI0 (fun P hP => sq_B0 (ha0 _ (by omega))) (fun x hx => sq_F0 (hb0 _ (by omega)))⟩
    (fun n' s e => br_t (nI_le (Nat.le_refl 8) (by decide)) (h s.2.1 s.2.2 (sq_SIe hL hn e.2)))
    (fun n' l s hl e k => by
      obtain ⟨s1, a, b⟩ := s
      obtain ⟨e1, e2⟩ := e
      have e1' : s1 = nI (sq_k L n (256 * l)) := e1
      have e2' : sq_SI L n (256 * l) (sq_B a) b := e2
      subst e1'
      refine br_f (nI_ge (b := 8) hl (by decide)) ?_
      exact loop_0 (σ := Int32 × (Nat → Int64) × (Nat → Int64)) (fun n'' p s => wX_packSparse_26 post (wX_packSparse_18 post n') (nI l) n'' s.1 (nI p) (nI n) f_runCount f_streamLength (sq_l L) a_plainWords a_treeBits a_matrixBits a_matrixZeros a_letterRows a_runWords a_letterCounts a_groupWeights a_groupOf a_codeLengths a_codes a_codesOfLength a_lettersByCode a_stream a_sampleStarts a_sampleRanks s.2.1 s.2.2)
        (fun p s => s.1 = nI (sq_k L n (256 * l + p)) ∧ sq_SI L n (256 * l + p) (sq_B s.2.1) s.2.2) n (nI (sq_k L n (256 * l)), a, b) ⟨rfl, e2'⟩
        (fun n'' s f => by
          obtain ⟨s1, c, d⟩ := s
          obtain ⟨f1, f2⟩ := f
          have f1' : s1 = nI (sq_k L n (256 * l + n)) := f1
          have f2' : sq_SI L n (256 * l + n) (sq_B c) d := f2
          subst f1'
          have up : ∀ q, q < n → 256 * L q + q < 256 * (l + 1) → 256 * L q + q < 256 * l + n := fun q hq hh => by omega
          have ke : sq_k L n (256 * (l + 1)) = sq_k L n (256 * l + n) := sq_ccg n (fun q hq => decide_eq_decide.mpr ⟨up q hq, fun z => by omega⟩)
          exact br_t (nI_le (Nat.le_refl n) (by omega)) (nm_r (nI_1 l) (k (_, c, d) ⟨by show nI _ = nI _; rw [ke], sq_SIn f2' (by omega) up⟩)))
        (fun n'' p s hp f c => by
          obtain ⟨s1, a1, b1⟩ := s
          obtain ⟨f1, f2⟩ := f
          have f1' : s1 = nI (sq_k L n (256 * l + p)) := f1
          have f2' : sq_SI L n (256 * l + p) (sq_B a1) b1 := f2
          subst f1'
          have l8 := hL p
          have g : nI l * 256 + nI p = nI (256 * l + p) := by
            rw [show nI l * 256 = nI (l * 256) from pk_mul l 256, nI_add]
            exact congrArg nI (by omega)
          refine br_f (nI_ge hp (by omega)) ⟨vp_in_nI (by omega) (by decide), pk_eq (L p) l (fun z => ?_) (fun z => ?_) (sq_lc L (by omega))⟩
          · subst z
            have kt := sq_kt (L := L) (q := p) n (by omega) hp
            have kl := sq_kle L n (256 * L p + p + 1)
            refine nm_r g ⟨by decide, ?_⟩
            rw [sq_d8 (by omega), nI_add]
            refine sq_xset_sparseHigh (by omega) (fun a2 ha2 => ⟨by decide, ?_⟩)
            rw [← sq_d8 (by omega), sq_r8 (by omega), show (256 * L p + p) % 8 = p % 8 by omega]
            exact sq_xput_sparseLow (by omega) (by omega) (f2'.2.2 _ (Nat.le_refl _) (by omega)) (fun b2 hb2 => nm_r (e' := nI (sq_k L n (256 * L p + (p + 1)))) (by rw [nI_1, ← Nat.add_assoc, kt]) (nm_r (nI_1 p) (c (_, a2, b2) ⟨rfl, sq_SIs hn hp f2' ha2 hb2⟩)))
          · have nk : ∀ q, q < n → 256 * L q + q ≠ 256 * l + p := fun q hq ee => by
              have : q = p := by omega
              subst this
              omega
            have ke := sq_kf n nk
            exact nm_r (nI_1 p) (c (_, a1, b1) ⟨by show nI _ = nI _; rw [← Nat.add_assoc, ke], sq_SIn f2' (by omega) (fun q hq hh => by
              have := nk q hq
              omega)⟩))))) 
end
