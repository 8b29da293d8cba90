-- Part 22: select, below, ordered, most, agree (written by wip/whole/gen22.py)
theorem sq_lp : ∀ t, t < 8 → 256 / 2 ^ t = 2 * (128 / 2 ^ t) ∧ 256 / 2 ^ (t + 1) = 128 / 2 ^ t ∧ 0 < 128 / 2 ^ t ∧ 128 / 2 ^ t ≤ 128 ∧ nI (128 / 2 ^ t) >>> ((1 : Int32) &&& 31) = nI (128 / 2 ^ (t + 1)) := by decide +kernel
theorem sq_yselE {post : Int32 → Prop} {L : Nat → Nat} {n : Nat} {so : Nat → Int32} {v1 v2 v3 : Int32} (hn : n ≤ 200) (h1 : v1 < 0 ∨ nI 7 ≤ v1) (h : post (-1)) : wpY_select post (nI n, sq_l L, so) v1 v2 v3 := by
  by_cases z : n = 0
  · subst z
    exact ⟨1, br_t (by decide) h⟩
  · exact ⟨1, br_f (nI_ge (a := 0) (b := n) (by omega) (by omega)) (sq_yeng0 h1 (br_t rfl h))⟩
theorem sq_yselN {post : Int32 → Prop} {L : Nat → Nat} {n e : Nat} {so : Nat → Int32} {v2 v3 : Int32} (hL : ∀ j, L j < 8) (hn : n ≤ 200) (he : e < 7) (h2 : v2 < 0 ∨ nI 8 ≤ v2) (h : post (-1)) : wpY_select post (nI n, sq_l L, so) (nI e) v2 v3 :=
  loop_0 (σ := Unit) (fun n' i _ => wY_select_6 post (nI e) v2 v3 (nI n) (sq_l L) so n' 0 (nI i)) (fun _ _ => True) n () trivial
    (fun n' _ _ => br_t (nI_le (Nat.le_refl n) (by omega)) h)
    (fun n' i _ hi _ k => br_f (nI_ge hi (by omega)) (sq_yeng1 he (br_f (by decide) ⟨vp_in_nI (by omega) (by decide), br_f (by
      rw [sq_lc L (by omega)]
      have l8 := hL i
      intro z
      rcases h2 with y | y
      · rw [← z] at y
        exact nI_pos (by omega) y
      · rw [← z] at y
        exact nI_ge l8 (by decide) y) (nm_r (nI_1 i) (k () trivial))⟩)))
theorem sq_yselL {post : Int32 → Prop} {L : Nat → Nat} {n e l : Nat} {so : Nat → Int32} {v3 : Int32} (hL : ∀ j, L j < 8) (hn : n ≤ 200) (he : e < 7) (hl : l < 8) (hne : ∀ i, i < n → L i = l → ¬ nI (sq_rk L l i) = v3) (h : post (-1)) : wpY_select post (nI n, sq_l L, so) (nI e) (nI l) v3 :=
  loop_0 (σ := Int32) (fun n' i x4 => wY_select_6 post (nI e) (nI l) v3 (nI n) (sq_l L) so n' x4 (nI i)) (fun i x4 => x4 = nI (sq_rk L l i)) n 0 rfl
    (fun n' _ _ => br_t (nI_le (Nat.le_refl n) (by omega)) h)
    (fun n' i x4 hi z k => by
      subst z
      have l8 := hL i
      refine br_f (nI_ge hi (by omega)) (sq_yeng1 he (br_f (by decide) ⟨vp_in_nI (by omega) (by decide), pk_eq (L i) l (fun y => ?_) (fun y => ?_) (sq_lc L (by omega))⟩))
      · exact br_f (hne i hi y) (nm_r (nI_1 _) (nm_r (nI_1 i) (k _ (congrArg nI (sq_rkt y).symm))))
      · exact nm_r (nI_1 i) (k _ (congrArg nI (sq_rkf y).symm)))
theorem sq_yselS {post : Int32 → Prop} {L : Nat → Nat} {n e l p : Nat} {so : Nat → Int32} (hL : ∀ j, L j < 8) (hn : n ≤ 200) (he : e < 7) (hl : l < 8) (hp : p < n) (hlp : L p = l) (h : post (nI p)) : wpY_select post (nI n, sq_l L, so) (nI e) (nI l) (nI (sq_rk L l p)) :=
  loop_0 (σ := Int32) (fun n' i x4 => wY_select_6 post (nI e) (nI l) (nI (sq_rk L l p)) (nI n) (sq_l L) so n' x4 (nI i)) (fun i x4 => x4 = nI (sq_rk L l i)) p 0 rfl
    (fun n' x4 z => br_f (nI_ge hp (by omega)) (sq_yeng1 he (br_f (by decide) ⟨vp_in_nI (by omega) (by decide), br_t (by rw [sq_lc L (by omega), hlp]) (br_t z h)⟩)))
    (fun n' i x4 hi z k => by
      subst z
      have l8 := hL i
      have rp := sq_rkle L l p
      have ri := sq_rkle L l i
      refine br_f (nI_ge (by omega) (by omega)) (sq_yeng1 he (br_f (by decide) ⟨vp_in_nI (by omega) (by decide), pk_eq (L i) l (fun y => ?_) (fun y => ?_) (sq_lc L (by omega))⟩))
      · have lt := sq_selbef hi rfl y
        exact br_f (fun w => by rw [nI_eq (by omega) (by omega)] at w; omega) (nm_r (nI_1 _) (nm_r (nI_1 i) (k _ (congrArg nI (sq_rkt y).symm))))
      · exact nm_r (nI_1 i) (k _ (congrArg nI (sq_rkf y).symm)))
theorem sq_ybelowL {post : Int32 → Prop} {L : Nat → Nat} {n m i j : Nat} {so : Nat → Int32} (hL : ∀ j, L j < 8) (hij : i ≤ j) (hj : j ≤ 200) (hm : m ≤ 8) (h : post (nI (sq_cb L m j - sq_cb L m i))) : ∃ n', wY_below_37 post (nI j) (nI m) (nI n) (sq_l L) so n' 0 (nI i) :=
  pk_loop (σ := Int32) (fun n' k x5 => wY_below_37 post (nI j) (nI m) (nI n) (sq_l L) so n' x5 (nI k)) (fun k x5 => i ≤ k ∧ x5 = nI (sq_cb L m k - sq_cb L m i)) j i 0 hij ⟨Nat.le_refl i, by rw [Nat.sub_self]; rfl⟩
    (fun n' x5 e => br_t (nI_le (Nat.le_refl j) (by omega)) (sq_v (P := post) e.2 h))
    (fun n' k x5 hk e c => by
      obtain ⟨e0, e1⟩ := e
      subst e1
      have mo := sq_cbmono L m e0
      have l8 := hL k
      refine br_f (nI_ge hk (by omega)) ⟨vp_in_nI (by omega) (by decide), pk_le m (L k) (fun z => ?_) (fun z => ?_) rfl (sq_lc L (by omega))⟩
      · exact nm_r (nI_1 k) (c _ ⟨by omega, by rw [sq_cbf (by omega)]⟩)
      · exact nm_r (nI_1 _) (nm_r (nI_1 k) (c _ ⟨by omega, by rw [sq_cbt z]; exact congrArg nI (by omega)⟩)))
theorem sq_ybelow {post : Int32 → Prop} {L : Nat → Nat} {n e m i j : Nat} {so : Nat → Int32} (hL : ∀ j, L j < 8) (hn : n ≤ 200) (he : e < 7) (hij : i ≤ j) (hj : j ≤ n) (hm : m ≤ 8) (h : post (nI (sq_cb L m j - sq_cb L m i))) : wpY_below post (nI n, sq_l L, so) (nI e) (nI i) (nI j) (nI m) := by
  unfold wpY_below
  exact sq_yeng1 he (br_f (by decide) (sq_yrng1 hn hij hj (br_f (by decide) (br_f (nI_pos (by omega)) (br_t (nI_le (b := 8) hm (by decide)) (sq_ybelowL hL hij (by omega) hm h))))))
/-- how many of the places i .. j have a letter below m -/
def sq_D (L : Nat → Nat) (i j m : Nat) : Nat := sq_cb L m j - sq_cb L m i
theorem sq_Ds (L : Nat → Nat) {i j : Nat} (h : i ≤ j) (m : Nat) : sq_D L i j (m + 1) = sq_D L i j m + (sq_rk L m j - sq_rk L m i) := by
  unfold sq_D
  have a := sq_cbmono L m h
  have b := sq_rkmono L m h
  rw [sq_cbs, sq_cbs]
  omega
theorem sq_Dmono (L : Nat → Nat) {i j : Nat} (h : i ≤ j) {a : Nat} : ∀ b, a ≤ b → sq_D L i j a ≤ sq_D L i j b := by
  intro b
  induction b with
  | zero => intro z; rw [show a = 0 by omega]; exact Nat.le_refl _
  | succ b ih =>
    intro z
    by_cases e : a = b + 1
    · rw [e]; exact Nat.le_refl _
    · have := ih (by omega)
      rw [sq_Ds L h]
      omega
theorem sq_ordex (L : Nat → Nat) {i j q : Nat} : ∀ m, q < sq_D L i j m → ∃ a, a < m ∧ sq_D L i j a ≤ q ∧ q < sq_D L i j (a + 1) := by
  intro m
  induction m with
  | zero =>
    intro z
    have : sq_D L i j 0 = 0 := by unfold sq_D; rw [sq_cb0, sq_cb0]
    omega
  | succ m ih =>
    intro z
    by_cases e : sq_D L i j m ≤ q
    · exact ⟨m, by omega, e, z⟩
    · obtain ⟨a, h1, h2, h3⟩ := ih (by omega)
      exact ⟨a, by omega, h2, h3⟩
section
variable {f_length f_runCount f_streamLength : Int32} {a_letters : Nat → Int32} {a_plainWords a_treeBits a_matrixBits : Nat → Int64} {a_matrixZeros : Nat → Int32} {a_letterRows a_runWords : Nat → Int64} {a_letterCounts a_groupWeights a_groupOf a_codeLengths a_codes a_codesOfLength a_lettersByCode : Nat → Int32} {a_stream : Nat → Int64} {a_sampleStarts a_sampleRanks : Nat → Int32} {a_sparseHigh a_sparseLow : Nat → Int64}
theorem sq_xselL {post : Int32 → Prop} {L : Nat → Nat} {n e l q : Nat} (hL : ∀ j, L j < 8) (hn : n ≤ 200) (H : sq_PK L n a_plainWords a_treeBits a_matrixBits a_matrixZeros a_letterRows a_runWords f_runCount a_codeLengths a_codesOfLength a_lettersByCode a_stream a_sampleStarts a_sampleRanks f_streamLength a_sparseHigh a_sparseLow) (he : e < 7) (hl : l < 8) (hq : q < sq_rk L l n) (h : ∀ p, p < n → L p = l → sq_rk L l p = q → post (nI p)) : ∃ n', wX_select_44 post (nI e) (nI l) (nI q) (nI n) f_runCount f_streamLength a_letters a_plainWords a_treeBits a_matrixBits a_matrixZeros a_letterRows a_runWords a_letterCounts a_groupWeights a_groupOf a_codeLengths a_codes a_codesOfLength a_lettersByCode a_stream a_sampleStarts a_sampleRanks a_sparseHigh a_sparseLow n' 0 128 := by
  have rn := sq_rkle L l n
  exact loop_0 (σ := Int32) (fun n' t x4 => wX_select_44 post (nI e) (nI l) (nI q) (nI n) f_runCount f_streamLength a_letters a_plainWords a_treeBits a_matrixBits a_matrixZeros a_letterRows a_runWords a_letterCounts a_groupWeights a_groupOf a_codeLengths a_codes a_codesOfLength a_lettersByCode a_stream a_sampleStarts a_sampleRanks a_sparseHigh a_sparseLow n' x4 (nI (128 / 2 ^ t))) (fun t x4 => ∃ p, x4 = nI p ∧ p ≤ n ∧ sq_rk L l p ≤ q ∧ (n < p + 256 / 2 ^ t ∨ q < sq_rk L l (p + 256 / 2 ^ t))) 8 0
    ⟨0, rfl, Nat.zero_le n, Nat.zero_le q, Or.inl (by show n < 0 + 256; omega)⟩
    (fun n' x4 z => by
      obtain ⟨p, rfl, z1, z2, z3⟩ := z
      obtain ⟨y1, y2, y3⟩ := sq_selend z2 z1 z3 hq
      exact br_t (by decide) (h p y1 y2 y3))
    (fun n' t x4 ht z k => by
      obtain ⟨p, rfl, z1, z2, z3⟩ := z
      obtain ⟨d1, d2, d3, d4, d5⟩ := sq_lp t ht
      rw [d1] at z3
      refine br_f (nI_nle d3 (by omega)) (nm_r (nI_add _ _) (pk_lt n (p + 128 / 2 ^ t) (fun w => ?_) (fun w => ?_)))
      · exact nm_r d5 (k _ ⟨p, rfl, z1, z2, by rw [d2]; exact Or.inl w⟩)
      · refine sq_xrankBy hL hn H he hl w rfl ?_
        have rb := sq_rkle L l (p + 128 / 2 ^ t)
        refine pk_lt q (sq_rk L l (p + 128 / 2 ^ t)) (fun y => ?_) (fun y => ?_)
        · exact nm_r d5 (k _ ⟨p, rfl, z1, z2, by rw [d2]; exact Or.inr y⟩)
        · exact nm_r d5 (k _ ⟨p + 128 / 2 ^ t, rfl, w, y, by
            rw [d2, Nat.add_assoc, show 128 / 2 ^ t + 128 / 2 ^ t = 2 * (128 / 2 ^ t) by omega]
            exact z3⟩))
theorem sq_xbelowL {post : Int32 → Prop} {L : Nat → Nat} {n e i j m : Nat} (hL : ∀ j, L j < 8) (hn : n ≤ 200) (H : sq_PK L n a_plainWords a_treeBits a_matrixBits a_matrixZeros a_letterRows a_runWords f_runCount a_codeLengths a_codesOfLength a_lettersByCode a_stream a_sampleStarts a_sampleRanks f_streamLength a_sparseHigh a_sparseLow) (he : e < 7) (hij : i ≤ j) (hj : j ≤ n) (hm : m ≤ 8) (h : post (nI (sq_D L i j m))) : ∃ n', wX_below_36 post (nI e) (nI i) (nI j) (nI m) (nI n) f_runCount f_streamLength a_letters a_plainWords a_treeBits a_matrixBits a_matrixZeros a_letterRows a_runWords a_letterCounts a_groupWeights a_groupOf a_codeLengths a_codes a_codesOfLength a_lettersByCode a_stream a_sampleStarts a_sampleRanks a_sparseHigh a_sparseLow n' 0 0 :=
  loop_0 (σ := Int32) (fun n' l x5 => wX_below_36 post (nI e) (nI i) (nI j) (nI m) (nI n) f_runCount f_streamLength a_letters a_plainWords a_treeBits a_matrixBits a_matrixZeros a_letterRows a_runWords a_letterCounts a_groupWeights a_groupOf a_codeLengths a_codes a_codesOfLength a_lettersByCode a_stream a_sampleStarts a_sampleRanks a_sparseHigh a_sparseLow n' x5 (nI l)) (fun l x5 => x5 = nI (sq_D L i j l)) m 0 (by unfold sq_D; rw [sq_cb0, sq_cb0]; rfl)
    (fun n' x5 z => br_t (nI_le (Nat.le_refl m) (by omega)) (sq_v (P := post) z h))
    (fun n' l x5 hl z k => by
      subst z
      exact br_f (nI_ge hl (by omega)) (sq_xrankBy hL hn H he (by omega) hj rfl (sq_xrankBy hL hn H he (by omega) (by omega) rfl (nm_r (e' := nI (sq_D L i j (l + 1))) (by rw [pk_sub (sq_rkmono L l hij), nI_add, sq_Ds L hij]) (nm_r (nI_1 l) (k _ rfl))))))
theorem sq_xorderedL {post : Int32 → Prop} {L : Nat → Nat} {n e i j q a : Nat} (hL : ∀ j, L j < 8) (hn : n ≤ 200) (H : sq_PK L n a_plainWords a_treeBits a_matrixBits a_matrixZeros a_letterRows a_runWords f_runCount a_codeLengths a_codesOfLength a_lettersByCode a_stream a_sampleStarts a_sampleRanks f_streamLength a_sparseHigh a_sparseLow) (he : e < 7) (hij : i ≤ j) (hj : j ≤ n) (ha : a < 8) (hq : q ≤ 200) (h1 : sq_D L i j a ≤ q) (h2 : q < sq_D L i j (a + 1)) (h : post (nI a)) : ∃ n', wX_ordered_38 post (nI e) (nI i) (nI j) (nI n) f_runCount f_streamLength a_letters a_plainWords a_treeBits a_matrixBits a_matrixZeros a_letterRows a_runWords a_letterCounts a_groupWeights a_groupOf a_codeLengths a_codes a_codesOfLength a_lettersByCode a_stream a_sampleStarts a_sampleRanks a_sparseHigh a_sparseLow n' (nI q) 0 :=
  loop_0 (σ := Int32) (fun n' l x5 => wX_ordered_38 post (nI e) (nI i) (nI j) (nI n) f_runCount f_streamLength a_letters a_plainWords a_treeBits a_matrixBits a_matrixZeros a_letterRows a_runWords a_letterCounts a_groupWeights a_groupOf a_codeLengths a_codes a_codesOfLength a_lettersByCode a_stream a_sampleStarts a_sampleRanks a_sparseHigh a_sparseLow n' x5 (nI l)) (fun l x5 => x5 = nI (q - sq_D L i j l)) a (nI q) (by
      have : sq_D L i j 0 = 0 := by unfold sq_D; rw [sq_cb0, sq_cb0]
      rw [this, Nat.sub_zero])
    (fun n' x5 z => by
      subst z
      have r1 := sq_rkle L a j
      have d := sq_Ds L hij a
      exact br_f (nI_ge (b := 8) ha (by decide)) (sq_xrankBy hL hn H he ha hj rfl (sq_xrankBy hL hn H he ha (by omega) rfl (nm_r (pk_sub (sq_rkmono L a hij)) (br_f (nI_ge (by omega) (by omega)) h)))))
    (fun n' l x5 hl z k => by
      subst z
      have r1 := sq_rkle L l j
      have d := sq_Ds L hij l
      have mo := sq_Dmono L hij (a := l + 1) a (by omega)
      exact br_f (nI_ge (b := 8) (by omega) (by decide)) (sq_xrankBy hL hn H he (by omega) hj rfl (sq_xrankBy hL hn H he (by omega) (by omega) rfl (nm_r (pk_sub (sq_rkmono L l hij)) (br_t (nI_le (by omega) (by omega)) (nm_r (e' := nI (q - sq_D L i j (l + 1))) (by rw [pk_sub (by omega)]; exact congrArg nI (by omega)) (nm_r (nI_1 l) (k _ rfl))))))))
theorem sq_xmostL {post : Int32 → Prop} {L : Nat → Nat} {n e i j : Nat} (hL : ∀ j, L j < 8) (hn : n ≤ 200) (H : sq_PK L n a_plainWords a_treeBits a_matrixBits a_matrixZeros a_letterRows a_runWords f_runCount a_codeLengths a_codesOfLength a_lettersByCode a_stream a_sampleStarts a_sampleRanks f_streamLength a_sparseHigh a_sparseLow) (he : e < 7) (hij : i < j) (hj : j ≤ n) (h : post (nI (sq_mo (fun l => sq_rk L l j - sq_rk L l i) 8))) : ∃ n', wX_most_32 post (nI e) (nI i) (nI j) (nI n) f_runCount f_streamLength a_letters a_plainWords a_treeBits a_matrixBits a_matrixZeros a_letterRows a_runWords a_letterCounts a_groupWeights a_groupOf a_codeLengths a_codes a_codesOfLength a_lettersByCode a_stream a_sampleStarts a_sampleRanks a_sparseHigh a_sparseLow n' (-1) 0 0 :=
  loop_0 (σ := Int32 × Int32) (fun n' l x => wX_most_32 post (nI e) (nI i) (nI j) (nI n) f_runCount f_streamLength a_letters a_plainWords a_treeBits a_matrixBits a_matrixZeros a_letterRows a_runWords a_letterCounts a_groupWeights a_groupOf a_codeLengths a_codes a_codesOfLength a_lettersByCode a_stream a_sampleStarts a_sampleRanks a_sparseHigh a_sparseLow n' x.1 x.2 (nI l)) (fun l x => x.2 = nI (sq_mx (fun l => sq_rk L l j - sq_rk L l i) l) ∧ x.1 = (if sq_mx (fun l => sq_rk L l j - sq_rk L l i) l = 0 then -1 else nI (sq_mo (fun l => sq_rk L l j - sq_rk L l i) l))) 8 (-1, 0) ⟨rfl, rfl⟩
    (fun n' x z => by
      have g := sq_mxge (fun l => sq_rk L l j - sq_rk L l i) 8 (hL i)
      have g1 := sq_rkmono L (L i) (show i + 1 ≤ j by omega)
      rw [sq_rkt rfl] at g1
      have g' : sq_rk L (L i) j - sq_rk L (L i) i ≤ sq_mx (fun l => sq_rk L l j - sq_rk L l i) 8 := g
      have z2 := z.2
      rw [if_neg (by omega)] at z2
      exact br_t (nI_le (Nat.le_refl 8) (by decide)) (sq_v (P := post) z2 h))
    (fun n' l x hl z k => by
      obtain ⟨x1, x2⟩ := x
      obtain ⟨z1, z2⟩ := z
      have z1' : x2 = nI (sq_mx (fun l => sq_rk L l j - sq_rk L l i) l) := z1
      have z2' : x1 = (if sq_mx (fun l => sq_rk L l j - sq_rk L l i) l = 0 then -1 else nI (sq_mo (fun l => sq_rk L l j - sq_rk L l i) l)) := z2
      subst z1'
      have bl : ∀ m, sq_mx (fun l => sq_rk L l j - sq_rk L l i) m ≤ 200 := by
        intro m
        induction m with
        | zero => exact Nat.zero_le _
        | succ m ih =>
          show (if sq_mx (fun l => sq_rk L l j - sq_rk L l i) m < sq_rk L m j - sq_rk L m i then sq_rk L m j - sq_rk L m i else sq_mx (fun l => sq_rk L l j - sq_rk L l i) m) ≤ 200
          have := sq_rkle L m j
          split <;> omega
      have bll := bl l
      have r1 := sq_rkle L l j
      have mxs : sq_mx (fun l => sq_rk L l j - sq_rk L l i) (l + 1) = if sq_mx (fun l => sq_rk L l j - sq_rk L l i) l < sq_rk L l j - sq_rk L l i then sq_rk L l j - sq_rk L l i else sq_mx (fun l => sq_rk L l j - sq_rk L l i) l := rfl
      refine br_f (nI_ge (b := 8) hl (by decide)) (sq_xrankBy hL hn H he hl hj rfl (sq_xrankBy hL hn H he hl (by omega) rfl (nm_r (pk_sub (sq_rkmono L l (by omega))) (pk_le (sq_rk L l j - sq_rk L l i) (sq_mx (fun l => sq_rk L l j - sq_rk L l i) l) (fun w => ?_) (fun w => ?_)))))
      · refine nm_r (nI_1 l) (k (x1, _) ⟨?_, ?_⟩)
        · rw [mxs, if_neg (by omega)]
        · rw [mxs, if_neg (by omega : ¬ sq_mx (fun l => sq_rk L l j - sq_rk L l i) l < sq_rk L l j - sq_rk L l i)]
          show x1 = _
          rw [z2']
          by_cases y : sq_mx (fun l => sq_rk L l j - sq_rk L l i) l = 0
          · rw [if_pos y, if_pos y]
          · rw [if_neg y, if_neg y]
            cases l with
            | zero => exact absurd rfl y
            | succ l =>
              have mm := sq_momx (fun l => sq_rk L l j - sq_rk L l i) l
              have mos : sq_mo (fun l => sq_rk L l j - sq_rk L l i) (l + 1 + 1) = if sq_rk L (sq_mo (fun l => sq_rk L l j - sq_rk L l i) (l + 1)) j - sq_rk L (sq_mo (fun l => sq_rk L l j - sq_rk L l i) (l + 1)) i < sq_rk L (l + 1) j - sq_rk L (l + 1) i then l + 1 else sq_mo (fun l => sq_rk L l j - sq_rk L l i) (l + 1) := rfl
              rw [mos, ← mm, if_neg (by omega)]
      · refine nm_r (nI_1 l) (k (nI l, nI (sq_rk L l j - sq_rk L l i)) ⟨?_, ?_⟩)
        · rw [mxs, if_pos w]
        · rw [mxs, if_pos w, if_neg (by omega)]
          show nI l = _
          cases l with
          | zero =>
            have : sq_mo (fun l => sq_rk L l j - sq_rk L l i) (0 + 1) = 0 := Nat.le_zero.mp (sq_mole _ 0)
            rw [this]
          | succ l =>
            have mm := sq_momx (fun l => sq_rk L l j - sq_rk L l i) l
            have mos : sq_mo (fun l => sq_rk L l j - sq_rk L l i) (l + 1 + 1) = if sq_rk L (sq_mo (fun l => sq_rk L l j - sq_rk L l i) (l + 1)) j - sq_rk L (sq_mo (fun l => sq_rk L l j - sq_rk L l i) (l + 1)) i < sq_rk L (l + 1) j - sq_rk L (l + 1) i then l + 1 else sq_mo (fun l => sq_rk L l j - sq_rk L l i) (l + 1) := rfl
            rw [mos, ← mm, if_pos w])
theorem sq_xagreeL {post : Int32 → Prop} {L : Nat → Nat} {n e f : Nat} (hL : ∀ j, L j < 8) (hn : n ≤ 200) (H : sq_PK L n a_plainWords a_treeBits a_matrixBits a_matrixZeros a_letterRows a_runWords f_runCount a_codeLengths a_codesOfLength a_lettersByCode a_stream a_sampleStarts a_sampleRanks f_streamLength a_sparseHigh a_sparseLow) (he : e < 7) (hf : f < 7) (h : post 1) : ∃ n', wX_agree_18 post (nI e) (nI f) (nI n) f_runCount f_streamLength a_letters a_plainWords a_treeBits a_matrixBits a_matrixZeros a_letterRows a_runWords a_letterCounts a_groupWeights a_groupOf a_codeLengths a_codes a_codesOfLength a_lettersByCode a_stream a_sampleStarts a_sampleRanks a_sparseHigh a_sparseLow n' 0 :=
  loop_0 (σ := Unit) (fun n' p _ => wX_agree_18 post (nI e) (nI f) (nI n) f_runCount f_streamLength a_letters a_plainWords a_treeBits a_matrixBits a_matrixZeros a_letterRows a_runWords a_letterCounts a_groupWeights a_groupOf a_codeLengths a_codes a_codesOfLength a_lettersByCode a_stream a_sampleStarts a_sampleRanks a_sparseHigh a_sparseLow n' (nI p)) (fun _ _ => True) n () trivial
    (fun n' _ _ => br_t (nI_le (Nat.le_refl n) (by omega)) (loop_0 (σ := Unit) (fun n' l _ => wX_agree_51 post (nI e) (nI f) (nI n) f_runCount f_streamLength a_letters a_plainWords a_treeBits a_matrixBits a_matrixZeros a_letterRows a_runWords a_letterCounts a_groupWeights a_groupOf a_codeLengths a_codes a_codesOfLength a_lettersByCode a_stream a_sampleStarts a_sampleRanks a_sparseHigh a_sparseLow n' (nI l)) (fun _ _ => True) 8 () trivial
      (fun n' _ _ => br_t (nI_le (Nat.le_refl 8) (by decide)) h)
      (fun n' l _ hl _ k => br_f (nI_ge (b := 8) hl (by decide)) (loop_0 (σ := Unit) (fun n'' p _ => wX_agree_60 post (wX_agree_51 post (nI e) (nI f) (nI n) f_runCount f_streamLength a_letters a_plainWords a_treeBits a_matrixBits a_matrixZeros a_letterRows a_runWords a_letterCounts a_groupWeights a_groupOf a_codeLengths a_codes a_codesOfLength a_lettersByCode a_stream a_sampleStarts a_sampleRanks a_sparseHigh a_sparseLow n') (nI e) (nI f) (nI l) (nI n) f_runCount f_streamLength a_letters a_plainWords a_treeBits a_matrixBits a_matrixZeros a_letterRows a_runWords a_letterCounts a_groupWeights a_groupOf a_codeLengths a_codes a_codesOfLength a_lettersByCode a_stream a_sampleStarts a_sampleRanks a_sparseHigh a_sparseLow n'' (nI p)) (fun _ _ => True) (n + 1) () trivial
        (fun n'' _ _ => br_t (nI_lt (by omega) (by omega)) (nm_r (nI_1 l) (k () trivial)))
        (fun n'' p _ hp _ c => br_f (nI_nlt (by omega) (by omega)) (sq_xrankBy hL hn H he hl (by omega) rfl (sq_xrankBy hL hn H hf hl (by omega) rfl (br_t rfl (nm_r (nI_1 p) (c () trivial))))))))))
    (fun n' p _ hp _ k => br_f (nI_ge hp (by omega)) (sq_xletterBy hL hn H he hp (sq_xletterBy hL hn H hf hp (br_t rfl (nm_r (nI_1 p) (k () trivial))))))
end
