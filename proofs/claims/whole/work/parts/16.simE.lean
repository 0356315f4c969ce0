/-! sheets: sheet, drop, item, film, copy -/
def fnd (τ : Mem) (s lane from_ w : Int) : Int := if τ 18 s < 0 then -11 else if ¬ τ 18 s = lane then -12 else if 0 ≤ from_ ∧ 0 ≤ w ∧ from_ ≤ τ 19 s - w then 0 else -13
theorem c_find {s lane f w : Int} {σ τ : Mem} {Q : Int → Mem → Prop} (hS : SH1 σ τ s) (hs : 0 ≤ s ∧ s < 4) (hw : R32 w) (hQ : Q (fnd τ s lane f w) σ) : HT GC M_X3_find [mr 45, mi s, mi lane, mi f, mi w] σ Q := by
  apply e_X3_find_45
  refine ⟨hs, fun z => ⟨hs, ?_⟩, fun z => ?_⟩
  · rcases hS with hS | ⟨h1, h2, h3, h4, h5⟩
    · exact absurd hS.1 z
    · unfold fnd at hQ
      rw [if_neg (by omega)] at hQ
      rw [h2, h4]
      refine ⟨fun q => ?_, fun q => by rw [if_pos q] at hQ; exact hQ⟩
      rw [if_neg (fun z => z q)] at hQ
      refine ⟨fun q1 => b_X3_find_45_47 (by rw [if_neg (by omega)] at hQ; exact hQ), fun q1 => ⟨fun q2 => b_X3_find_45_47 (by rw [if_neg (by omega)] at hQ; exact hQ), fun q2 => ?_⟩⟩
      rw [jsub_eq (by omega) (by omega)]
      exact ⟨hs, fun q3 => by rw [if_pos (by omega)] at hQ; exact hQ, fun q3 => b_X3_find_45_47 (by rw [if_neg (by omega)] at hQ; exact hQ)⟩
  · rcases hS with hS | hS
    · unfold fnd at hQ
      rw [if_pos (by omega)] at hQ
      exact hQ
    · exact absurd (hS.1.symm.trans z) (by decide)
theorem c_lacks {s lane f w : Int} {σ τ : Mem} {Q : Int → Mem → Prop} (hS : SH1 σ τ s) (hs : 0 ≤ s ∧ s < 4) (hl : 0 ≤ lane ∧ lane < 3) (hw : 0 ≤ w ∧ w < 1000) (hQ : Q (fnd τ s lane f w) τ) : HT GM M_X9_lacksRow [mr 0, mi s, mi lane, mi f, mi w] τ Q := by
  apply e_X9_lacksRow_0
  unfold fnd at hQ
  refine ⟨hs, fun z => ⟨hs, ?_⟩, fun z => ⟨hs, fun q => ?_, fun q => ?_⟩⟩
  · rcases hS with hS | ⟨h1, h2, h3, h4, h5⟩
    · omega
    · rw [if_neg (by omega), if_neg (fun q => q z)] at hQ
      rw [jsub_eq (by omega) (by omega)]
      exact c_in (fun q => bn1 (by rw [if_pos (by omega)] at hQ; exact hQ) |> fun x => ⟨x.2, x.1⟩) (fun q => bn0 (by rw [if_neg (by omega)] at hQ; exact hQ) |> fun x => ⟨x.2, x.1⟩)
  · rw [if_neg (by omega), if_pos z] at hQ; exact hQ
  · rw [if_pos (by omega)] at hQ; exact hQ
theorem c_isSheet {s lane : Int} {τ : Mem} {Q : Int → Mem → Prop} (h1 : (0 ≤ s ∧ s < 4) ∧ (0 ≤ lane ∧ lane < 3) → Q 1 τ) (h0 : ¬ ((0 ≤ s ∧ s < 4) ∧ (0 ≤ lane ∧ lane < 3)) → Q 0 τ) : HT GM M_X9_isSheet [mi s, mi lane] τ Q := by
  apply e_X9_isSheet
  exact c_in (fun z => br1 (c_in (fun z2 => br1 (h1 (by omega))) (fun z2 => br0 (h0 (by omega))))) (fun z => br0 (h0 (by omega)))
theorem l_lay {s : Int} {Q : Int → Mem → Prop} (hs : 0 ≤ s ∧ s < 4) : ∀ (n : Nat) (x4 : Int) (σ : Mem), x4 + n = 24 → 0 ≤ x4 → (∀ σ', (∀ a, a ≠ 49 → σ' a = σ a) → (∀ j, σ' 49 j = if 24 * s + x4 ≤ j ∧ j < 24 * s + 24 then 0 else σ 49 j) → Q 0 σ') → WP GC M_X3_lay 24 [some (mr 45), some (mi s), none, none, some (mi x4)] [] σ Q
  | 0, x4, σ, hx, h0, hQ => b_X3_lay_45_24 _ _ ⟨fun _ => hQ σ (fun _ _ => rfl) (fun j => by rw [if_neg (by omega)]), fun z => absurd (by omega) z⟩
  | n + 1, x4, σ, hx, h0, hQ => by
    apply b_X3_lay_45_24
    rw [jmul_eq (by omega) (by omega), jadd_eq (a := s * 24) (by omega) (by omega), jadd_eq (a := x4) (by omega) (by omega), Int.mul_comm s 24]
    refine ⟨fun z => absurd z (by omega), fun _ => ⟨by omega, l_lay hs n (x4 + 1) _ (by omega) (by omega) (fun σ' s1 s2 => hQ σ' (fun a ha => by rw [s1 a ha, mupd_ne _ ha]) (fun j => ?_))⟩⟩
    rw [s2 j]
    unfold mupd
    by_cases c1 : 24 * s + (x4 + 1) ≤ j ∧ j < 24 * s + 24
    · rw [if_pos c1, if_pos (by omega)]
    · rw [if_neg c1]
      by_cases c2 : j = 24 * s + x4
      · rw [if_pos ⟨rfl, c2⟩, if_pos (by omega)]
      · rw [if_neg (fun z => c2 z.2), if_neg (by omega)]
theorem l_layM {s x3 : Int} {Q : Int → Mem → Prop} (hs : 0 ≤ s ∧ s < 4) : ∀ (n : Nat) (x4 : Int) (σ : Mem), x4 + n = 24 → 0 ≤ x4 → (∀ σ', (∀ a, a ≠ 20 → σ' a = σ a) → (∀ j, σ' 20 j = if 24 * s + x4 ≤ j ∧ j < 24 * s + 24 then 0 else σ 20 j) → Q x3 σ') → WP GM M_X9_sheet 40 [some (mr 0), some (mi s), none, some (mi x3), some (mi x4)] [] σ Q
  | 0, x4, σ, hx, h0, hQ => b_X9_sheet_0_40 _ _ _ ⟨fun _ => hQ σ (fun _ _ => rfl) (fun j => by rw [if_neg (by omega)]), fun z => absurd (by omega) z⟩
  | n + 1, x4, σ, hx, h0, hQ => by
    apply b_X9_sheet_0_40
    rw [jmul_eq (by omega) (by omega), jadd_eq (a := 24 * s) (by omega) (by omega), jadd_eq (a := x4) (by omega) (by omega)]
    refine ⟨fun z => absurd z (by omega), fun _ => ⟨by omega, l_layM hs n (x4 + 1) _ (by omega) (by omega) (fun σ' s1 s2 => hQ σ' (fun a ha => by rw [s1 a ha, mupd_ne _ ha]) (fun j => ?_))⟩⟩
    rw [s2 j]
    unfold mupd
    by_cases c1 : 24 * s + (x4 + 1) ≤ j ∧ j < 24 * s + 24
    · rw [if_pos c1, if_pos (by omega)]
    · rw [if_neg c1]
      by_cases c2 : j = 24 * s + x4
      · rw [if_pos ⟨rfl, c2⟩, if_pos (by omega)]
      · rw [if_neg (fun z => c2 z.2), if_neg (by omega)]
theorem sim_sheet {s lane n : Int} {σ τ : Mem} (hR : RR σ τ) : SIM M_X8_sheet M_X9_sheet [mr 0, mi s, mi lane, mi n] σ τ RR := by
  by_cases h : (0 ≤ s ∧ s < 4) ∧ (0 ≤ lane ∧ lane < 3)
  · by_cases h24 : n ≤ 24
    · by_cases h0 : 0 ≤ n
      · refine ⟨n, fun σ' => (∀ a, a ≠ 49 → σ' a = mupd (mupd (mupd σ 46 s 1) 47 s lane) 48 s n a) ∧ ∀ j, σ' 49 j = if 24 * s ≤ j ∧ j < 24 * s + 24 then 0 else σ 49 j, fun τ' => (∀ a, a ≠ 20 → τ' a = mupd (mupd τ 18 s lane) 19 s n a) ∧ ∀ j, τ' 20 j = if 24 * s ≤ j ∧ j < 24 * s + 24 then 0 else τ 20 j, ?_, ?_, ?_⟩
        · apply e_X8_sheet_0
          refine c_within (fun _ => br1 (c_within (fun _ => br1 ⟨fun _ => ⟨fun _ => ?_, fun z => absurd h0 z⟩, fun z => absurd h24 z⟩) (fun z => absurd h.2 z))) (fun z => absurd h.1 z)
          apply e_X3_lay_45
          refine ⟨h.1, h.1, h.1, l_lay h.1 24 0 _ (by omega) (by omega) (fun σ' s1 s2 => ⟨rfl, s1, fun j => ?_⟩)⟩
          rw [s2 j, mupd_rp (by decide), mupd_rp (by decide), mupd_rp (by decide), Int.add_zero]
        · apply e_X9_sheet_0
          refine c_isSheet (fun _ => br1 ⟨fun _ => ⟨fun _ => ⟨h.1, h.1, ?_⟩, fun z => absurd h0 z⟩, fun z => absurd h24 z⟩) (fun z => absurd h z)
          refine l_layM h.1 24 0 _ (by omega) (by omega) (fun σ' s1 s2 => ⟨rfl, s1, fun j => ?_⟩)
          rw [s2 j, mupd_rp (by decide), mupd_rp (by decide), Int.add_zero]
        · rintro σ' τ' - - ⟨s1, s2⟩ ⟨t1, t2⟩
          have hS := hR.2.2.2.2
          refine hR.sheets (fun k hk => by rw [s1 k (by omega), mupd_ne _ (by omega), mupd_ne _ (by omega), mupd_ne _ (by omega)]) (fun k hk => by rw [t1 k (by omega), mupd_ne _ (by omega), mupd_ne _ (by omega)]) ⟨fun q q1 q2 => ?_, fun i i1 i2 => ?_⟩
          · unfold SH1
            rw [s1 46 (by decide), s1 47 (by decide), s1 48 (by decide), t1 18 (by decide), t1 19 (by decide)]
            by_cases e : q = s
            · subst e
              right
              simp only [mupd]
              refine ⟨by simp, by simp, by simp; omega, by simp, by simp; omega⟩
            · have h9 := hS.1 q q1 q2
              unfold SH1 at h9
              simp only [mupd, e, and_false, if_false]
              exact h9
          · rw [s2 i, t2 i]
            split
            · rfl
            · exact hS.2 i i1 i2
      · refine sim_same hR (-14) ?_ ?_
        · apply e_X8_sheet_0
          exact c_within (fun _ => br1 (c_within (fun _ => br1 ⟨fun _ => ⟨fun z => absurd z h0, fun _ => ⟨rfl, rfl⟩⟩, fun z => absurd h24 z⟩) (fun z => absurd h.2 z))) (fun z => absurd h.1 z)
        · apply e_X9_sheet_0
          exact c_isSheet (fun _ => br1 ⟨fun _ => ⟨fun z => absurd z h0, fun _ => ⟨rfl, rfl⟩⟩, fun z => absurd h24 z⟩) (fun z => absurd h z)
    · refine sim_same hR (-1) ?_ ?_
      · apply e_X8_sheet_0
        exact c_within (fun _ => br1 (c_within (fun _ => br1 ⟨fun z => absurd z h24, fun _ => ⟨rfl, rfl⟩⟩) (fun z => absurd h.2 z))) (fun z => absurd h.1 z)
      · apply e_X9_sheet_0
        exact c_isSheet (fun _ => br1 ⟨fun z => absurd z h24, fun _ => ⟨rfl, rfl⟩⟩) (fun z => absurd h z)
  · refine sim_same hR (-1) ?_ ?_
    · apply e_X8_sheet_0
      exact c_within (fun z1 => br1 (c_within (fun z2 => absurd ⟨z1, z2⟩ h) (fun _ => br0 ⟨rfl, rfl⟩))) (fun _ => br0 ⟨rfl, rfl⟩)
    · apply e_X9_sheet_0
      exact c_isSheet (fun z => absurd z h) (fun _ => br0 ⟨rfl, rfl⟩)
theorem sim_drop {s : Int} {σ τ : Mem} (hR : RR σ τ) : SIM M_X8_drop M_X9_drop [mr 0, mi s] σ τ RR := by
  by_cases h : 0 ≤ s ∧ s < 4
  · rcases hR.2.2.2.2.1 s h.1 h.2 with hS | ⟨h1, h2, h3, h4, h5⟩
    · refine sim_same hR (-11) ?_ ?_
      · apply e_X8_drop_0
        exact c_within (fun _ => bn1 ⟨h, fun z => absurd hS.1 z, fun _ => ⟨rfl, rfl⟩⟩) (fun z => absurd h z)
      · apply e_X9_drop_0
        exact c_in (fun _ => bn1 ⟨h, fun z => by omega, fun _ => ⟨rfl, rfl⟩⟩) (fun z => absurd (by omega) z)
    · refine ⟨τ 19 s, (· = mupd σ 46 s 0), (· = mupd τ 18 s (-1)), ?_, ?_, ?_⟩
      · apply e_X8_drop_0
        exact c_within (fun _ => bn1 ⟨h, fun z => ⟨h, h, h4, rfl⟩, fun z => by omega⟩) (fun z => absurd h z)
      · apply e_X9_drop_0
        exact c_in (fun _ => bn1 ⟨h, fun z => ⟨h, h, rfl, rfl⟩, fun z => by omega⟩) (fun z => absurd (by omega) z)
      · rintro σ' τ' - - hs ht
        refine hR.sheets (fun k hk => by rw [hs, mupd_ne _ (by omega)]) (fun k hk => by rw [ht, mupd_ne _ (by omega)]) ⟨fun q q1 q2 => ?_, fun i i1 i2 => ?_⟩
        · by_cases e : q = s
          · subst e
            left
            rw [hs, ht, mupd_at, mupd_at]
            exact ⟨rfl, rfl⟩
          · have h9 := hR.2.2.2.2.1 q q1 q2
            unfold SH1 at *
            rw [hs, ht, mupd_ri e, mupd_ri e, mupd_rp (by decide), mupd_rp (by decide), mupd_rp (by decide)]
            exact h9
        · rw [hs, ht, mupd_rp (by decide), mupd_rp (by decide)]
          exact hR.2.2.2.2.2 i i1 i2
  · refine sim_same hR (-1) ?_ ?_
    · apply e_X8_drop_0
      exact c_within (fun z => absurd z h) (fun _ => bn0 ⟨rfl, rfl⟩)
    · apply e_X9_drop_0
      exact c_in (fun z => absurd (by omega) h) (fun _ => bn0 ⟨rfl, rfl⟩)
theorem zb_shl (n : Nat) (hn : n < 32) (x : Int32) {i : Nat} (hi : i < 32) : (x <<< (nI n &&& 31)).toBitVec.getLsbD i = (decide (n ≤ i) && x.toBitVec.getLsbD (i - n)) := by
  rw [Int32.toBitVec_shiftLeft]
  show (x.toBitVec <<< ((nI n &&& 31).toBitVec.smod 32).toNat).getLsbD i = _
  rw [zz_sl n hn, BitVec.getLsbD_shiftLeft]
  rcases Nat.lt_or_ge i n with h | h
  · simp [h, Nat.not_le.mpr h]
  · simp [hi, h, Nat.not_lt.mpr h]
theorem zb_sshr (n : Nat) (hn : n < 32) (x : Int32) {i : Nat} (hi : i < 32) : (x >>> (nI n &&& 31)).toBitVec.getLsbD i = if n + i < 32 then x.toBitVec.getLsbD (n + i) else x.toBitVec.getLsbD 31 := by
  rw [Int32.toBitVec_shiftRight]
  show (x.toBitVec.sshiftRight ((nI n &&& 31).toBitVec.smod 32).toNat).getLsbD i = _
  rw [zz_sl n hn, BitVec.getLsbD_sshiftRight, BitVec.msb_eq_getLsbD_last]
  simp [hi]
theorem cutx8 (x : Int32) : x.toInt8.toInt32 = (x <<< (nI 24 &&& 31)) >>> (nI 24 &&& 31) := by
  apply Int32.toBitVec_inj.1
  apply BitVec.eq_of_getLsbD_eq
  intro i hi
  have L : (x.toInt8.toInt32).toBitVec.getLsbD i = if i < 8 then x.toBitVec.getLsbD i else x.toBitVec.getLsbD 7 := by
    have m : (x.toBitVec.signExtend 8).msb = x.toBitVec.getLsbD 7 := by
      rw [BitVec.msb_eq_getLsbD_last, BitVec.getLsbD_signExtend, if_pos (show 8 - 1 < 32 by decide)]
      rfl
    rw [Int8.toBitVec_toInt32, Int32.toBitVec_toInt8, BitVec.getLsbD_signExtend, m, decide_eq_true hi, Bool.true_and]
    by_cases h : i < 8
    · rw [if_pos h, if_pos h, BitVec.getLsbD_signExtend, if_pos hi, decide_eq_true h, Bool.true_and]
    · rw [if_neg h, if_neg h]
  rw [L, zb_sshr 24 (by decide) _ hi]
  by_cases h : i < 8
  · rw [if_pos h, if_pos (show 24 + i < 32 by omega), zb_shl 24 (by decide) _ (show 24 + i < 32 by omega), decide_eq_true (show 24 ≤ 24 + i by omega), Bool.true_and, Nat.add_sub_cancel_left]
  · rw [if_neg h, if_neg (show ¬ 24 + i < 32 by omega), zb_shl 24 (by decide) _ (show 31 < 32 by decide)]
    rfl
theorem cut8 (v : Int) : j2b v = jshr (jshl v 24) 24 := by
  unfold j2b jshr jshl
  rw [Int32.ofInt_toInt, show Int32.ofInt 24 = nI 24 from rfl, cutx8]
theorem cutx16 (x : Int32) : x.toInt16.toInt32 = (x <<< (nI 16 &&& 31)) >>> (nI 16 &&& 31) := by
  apply Int32.toBitVec_inj.1
  apply BitVec.eq_of_getLsbD_eq
  intro i hi
  have L : (x.toInt16.toInt32).toBitVec.getLsbD i = if i < 16 then x.toBitVec.getLsbD i else x.toBitVec.getLsbD 15 := by
    have m : (x.toBitVec.signExtend 16).msb = x.toBitVec.getLsbD 15 := by
      rw [BitVec.msb_eq_getLsbD_last, BitVec.getLsbD_signExtend, if_pos (show 16 - 1 < 32 by decide)]
      rfl
    rw [Int16.toBitVec_toInt32, Int32.toBitVec_toInt16, BitVec.getLsbD_signExtend, m, decide_eq_true hi, Bool.true_and]
    by_cases h : i < 16
    · rw [if_pos h, if_pos h, BitVec.getLsbD_signExtend, if_pos hi, decide_eq_true h, Bool.true_and]
    · rw [if_neg h, if_neg h]
  rw [L, zb_sshr 16 (by decide) _ hi]
  by_cases h : i < 16
  · rw [if_pos h, if_pos (show 16 + i < 32 by omega), zb_shl 16 (by decide) _ (show 16 + i < 32 by omega), decide_eq_true (show 16 ≤ 16 + i by omega), Bool.true_and, Nat.add_sub_cancel_left]
  · rw [if_neg h, if_neg (show ¬ 16 + i < 32 by omega), zb_shl 16 (by decide) _ (show 31 < 32 by decide)]
    rfl
theorem cut16 (v : Int) : j2s v = jshr (jshl v 16) 16 := by
  unfold j2s jshr jshl
  rw [Int32.ofInt_toInt, show Int32.ofInt 16 = nI 16 from rfl, cutx16]
/-- what an item of a lane keeps -/
def cutL (lane v : Int) : Int := if lane = 0 then j2b v else if lane = 1 then j2s v else v
theorem fnd_0 {τ : Mem} {s lane f w : Int} (h : fnd τ s lane f w = 0) : 0 ≤ f ∧ 0 ≤ w ∧ f ≤ τ 19 s - w := by
  unfold fnd at h
  split at h
  · omega
  · split at h
    · omega
    · split at h
      · assumption
      · omega
theorem fnd_lt {τ : Mem} {s lane f w : Int} (h : ¬ fnd τ s lane f w = 0) : fnd τ s lane f w < 0 := by
  unfold fnd at *
  split
  · omega
  · split
    · omega
    · split
      · rename_i a b c
        rw [if_neg a, if_neg b, if_pos c] at h
        exact absurd rfl h
      · omega
theorem SH1.sz {σ τ : Mem} {s lane f w : Int} (h : SH1 σ τ s) (h0 : fnd τ s lane f w = 0) : 0 ≤ τ 19 s ∧ τ 19 s ≤ 24 := by
  rcases h with h | h
  · unfold fnd at h0
    rw [if_pos (by omega)] at h0
    omega
  · exact h.2.2.2.2
theorem RR.items {σ σ' τ τ' : Mem} (hR : RR σ τ) (s1 : ∀ a, a ≠ 49 → σ' a = σ a) (t1 : ∀ a, a ≠ 20 → a ≠ 22 → τ' a = τ a) (h : ∀ i, 0 ≤ i → i < 96 → σ' 49 i = τ' 20 i) : RR σ' τ' := by
  refine hR.sheets (fun k hk => s1 k (by omega)) (fun k hk => t1 k (by omega) (by omega)) ⟨fun q q1 q2 => ?_, h⟩
  have h9 := hR.2.2.2.2.1 q q1 q2
  unfold SH1 at *
  rw [s1 46 (by decide), s1 47 (by decide), s1 48 (by decide), t1 18 (by decide) (by decide), t1 19 (by decide) (by decide)]
  exact h9
theorem sim_item {s lane i v : Int} {σ τ : Mem} (hR : RR σ τ) : SIM M_X8_item M_X9_item [mr 0, mi s, mi lane, mi i, mi v] σ τ RR := by
  by_cases h : (0 ≤ s ∧ s < 4) ∧ (0 ≤ lane ∧ lane < 3)
  · have hS := hR.2.2.2.2.1 s h.1.1 h.1.2
    by_cases h0 : fnd τ s lane i 1 = 0
    · have hf := fnd_0 h0
      have hz := hS.sz h0
      have ex : jadd (jmul s 24) i = 24 * s + i := by rw [jmul_eq (by omega) (by omega), jadd_eq (by omega) (by omega)]; omega
      have ey : jadd (jmul 24 s) i = 24 * s + i := by rw [jmul_eq (by omega) (by omega), jadd_eq (by omega) (by omega)]
      have hi : 0 ≤ 24 * s + i ∧ 24 * s + i < 96 := by omega
      refine ⟨1, (· = mupd σ 49 (24 * s + i) (cutL lane v)), (· = mupd τ 20 (24 * s + i) (cutL lane v)), ?_, ?_, ?_⟩
      · apply e_X8_item_0
        rw [ex]
        refine c_within (fun _ => br1 (c_within (fun _ => bn1 (c_find (τ := τ) hS h.1 ⟨by decide, by decide⟩ ?_)) (fun z => absurd h.2 z))) (fun z => absurd h.1 z)
        rw [h0]
        refine br0 ?_
        apply e_X8_cut
        unfold cutL
        refine ⟨fun q => ⟨fun q1 => ⟨hi, rfl, by rw [if_neg q, if_neg q1]⟩, fun q1 => ⟨hi, rfl, by rw [if_neg q, if_pos q1]⟩⟩, fun q => ⟨hi, rfl, by rw [if_pos q]⟩⟩
      · apply e_X9_item_0
        rw [ey]
        refine c_isSheet (fun _ => bn1 (c_lacks (σ := σ) hS h.1 h.2 ⟨by decide, by decide⟩ ?_)) (fun z => absurd h z)
        rw [h0]
        refine ⟨fun _ => ?_, fun z => absurd (by decide) z⟩
        unfold cutL
        rw [cut8, cut16]
        refine ⟨fun q => ⟨fun q1 => ⟨hi, rfl, by rw [if_neg q, if_neg q1]⟩, fun q1 => ⟨hi, rfl, by rw [if_neg q, if_pos q1]⟩⟩, fun q => ⟨hi, rfl, by rw [if_pos q]⟩⟩
      · rintro σ' τ' - - hs ht
        refine hR.items (fun a ha => by rw [hs, mupd_ne _ ha]) (fun a ha _ => by rw [ht, mupd_ne _ ha]) (fun j j1 j2 => ?_)
        by_cases e : j = 24 * s + i
        · rw [hs, ht, e, mupd_at, mupd_at]
        · rw [hs, ht, mupd_ri e, mupd_ri e]
          exact hR.2.2.2.2.2 j j1 j2
    · refine sim_same hR (fnd τ s lane i 1) ?_ ?_
      · apply e_X8_item_0
        refine c_within (fun _ => br1 (c_within (fun _ => bn1 (c_find (τ := τ) hS h.1 ⟨by decide, by decide⟩ ?_)) (fun z => absurd h.2 z))) (fun z => absurd h.1 z)
        exact ⟨fun z => absurd z h0, fun _ => ⟨rfl, rfl⟩⟩
      · apply e_X9_item_0
        refine c_isSheet (fun _ => bn1 (c_lacks (σ := σ) hS h.1 h.2 ⟨by decide, by decide⟩ ?_)) (fun z => absurd h z)
        have := fnd_lt h0
        exact ⟨fun z => by omega, fun _ => ⟨rfl, rfl⟩⟩
  · refine sim_same hR (-1) ?_ ?_
    · apply e_X8_item_0
      exact c_within (fun z1 => br1 (c_within (fun z2 => absurd ⟨z1, z2⟩ h) (fun _ => bn0 ⟨rfl, rfl⟩))) (fun _ => br0 ⟨rfl, rfl⟩)
    · apply e_X9_item_0
      exact c_isSheet (fun z => absurd z h) (fun _ => bn0 ⟨rfl, rfl⟩)
theorem l_filmM {s f : Int} {Q : Int → Mem → Prop} (m : Nat) (h8 : m ≤ 8) (hi : 0 ≤ 24 * s + f ∧ 24 * s + f + m ≤ 96) (hs : 0 ≤ s ∧ s < 4) (hf : 0 ≤ f ∧ f ≤ 24) : ∀ (n : Nat) (k : Nat) (τ : Mem), τ 0 9 = m → k + n = m → (∀ τ', (∀ a, a ≠ 20 → τ' a = τ a) → (∀ j, τ' 20 j = if 24 * s + f + k ≤ j ∧ j < 24 * s + f + m then τ 6 (j - (24 * s + f)) else τ 20 j) → Q m τ') → WP GM M_X9_film 34 [some (mr 0), some (mi s), none, some (mi f), none, some (mi (k : Int))] [] τ Q
  | 0, k, τ, hm, hk, hQ => by
    obtain rfl : k = m := by omega
    refine b_X9_film_0_34 _ _ _ ⟨fun _ => by rw [hm]; exact hQ τ (fun _ _ => rfl) (fun j => by rw [if_neg (by omega)]), fun z => absurd (by omega) z⟩
  | n + 1, k, τ, hm, hk, hQ => by
    apply b_X9_film_0_34
    rw [jmul_eq (by omega) (by omega), jadd_eq (a := 24 * s) (by omega) (by omega), jadd_eq (a := 24 * s + f) (by omega) (by omega), jadd_eq (a := (k : Int)) (by omega) (by omega)]
    refine ⟨fun z => absurd z (by omega), fun _ => ⟨by omega, by omega, ?_⟩⟩
    have ih := l_filmM m h8 hi hs hf n (k + 1) (mupd τ 20 (24 * s + f + k) (τ 6 k)) (Q := Q) (by rw [mupd_rp (by decide)]; exact hm) (by omega)
    refine ih (fun τ' s1 s2 => hQ τ' (fun a ha => by rw [s1 a ha, mupd_ne _ ha]) (fun j => ?_))
    rw [s2 j, mupd_rp (by decide)]
    unfold mupd
    by_cases c1 : 24 * s + f + ((k + 1 : Nat) : Int) ≤ j ∧ j < 24 * s + f + m
    · rw [if_pos c1, if_pos (by omega)]
    · rw [if_neg c1]
      by_cases c2 : j = 24 * s + f + k
      · rw [if_pos ⟨rfl, c2⟩, if_pos (by omega)]
        congr 1
        omega
      · rw [if_neg (fun z => c2 z.2), if_neg (by omega)]
theorem sim_film {s lane f : Int} {σ τ : Mem} (hR : RR σ τ) : SIM M_X8_film M_X9_film [mr 0, mi s, mi lane, mi f] σ τ RR := by
  obtain ⟨h8, e8⟩ := hR.nt
  by_cases h : (0 ≤ s ∧ s < 4) ∧ (0 ≤ lane ∧ lane < 3)
  · have hS := hR.2.2.2.2.1 s h.1.1 h.1.2
    by_cases h0 : fnd τ s lane f (τ 0 9) = 0
    · have hf := fnd_0 h0
      have hz := hS.sz h0
      have ex : jadd (jmul s 24) f = 24 * s + f := by rw [jmul_eq (by omega) (by omega), jadd_eq (by omega) (by omega)]; omega
      obtain ⟨m, hm⟩ := nn_of h8.1
      refine ⟨τ 0 9, (· = mcpy σ 10 0 49 (24 * s + f) (τ 0 9)), fun τ' => (∀ a, a ≠ 20 → τ' a = τ a) ∧ ∀ j, τ' 20 j = if 24 * s + f ≤ j ∧ j < 24 * s + f + τ 0 9 then τ 6 (j - (24 * s + f)) else τ 20 j, ?_, ?_, ?_⟩
      · apply e_X8_film_0
        rw [ex]
        refine c_within (fun _ => br1 (c_within (fun _ => bn1 ?_) (fun z => absurd h.2 z))) (fun z => absurd h.1 z)
        rw [e8]
        refine c_find (τ := τ) hS h.1 ⟨by omega, by omega⟩ ?_
        rw [h0]
        exact br0 ⟨by omega, rfl, rfl⟩
      · apply e_X9_film_0
        refine c_isSheet (fun _ => bn1 (c_lacks (σ := σ) hS h.1 h.2 (by omega) ?_)) (fun z => absurd h z)
        rw [h0]
        refine ⟨fun _ => ?_, fun z => absurd (by decide) z⟩
        refine l_filmM m (by omega) (by omega) h.1 (by omega) m 0 τ hm (by omega) (fun τ' t1 t2 => ⟨hm.symm, t1, fun j => ?_⟩)
        rw [t2 j, hm, show ((0 : Nat) : Int) = 0 from rfl, Int.add_zero]
      · rintro σ' τ' - - hs ⟨t1, t2⟩
        refine hR.items (fun a ha => by rw [hs, mcpy_ne _ ha]) (fun a ha _ => t1 a ha) (fun j j1 j2 => ?_)
        rw [hs, t2 j]
        unfold mcpy
        by_cases c : 24 * s + f ≤ j ∧ j < 24 * s + f + τ 0 9
        · rw [if_pos ⟨rfl, c⟩, if_pos c, Int.zero_add]
          exact (hR.2.1.2.2.2.2.2.1 _ (by omega) (by omega)).2.1
        · rw [if_neg (fun z => c z.2), if_neg c]
          exact hR.2.2.2.2.2 j j1 j2
    · refine sim_same hR (fnd τ s lane f (τ 0 9)) ?_ ?_
      · apply e_X8_film_0
        refine c_within (fun _ => br1 (c_within (fun _ => bn1 ?_) (fun z => absurd h.2 z))) (fun z => absurd h.1 z)
        rw [e8]
        refine c_find (τ := τ) hS h.1 ⟨by omega, by omega⟩ ?_
        exact ⟨fun z => absurd z h0, fun _ => ⟨rfl, rfl⟩⟩
      · apply e_X9_film_0
        refine c_isSheet (fun _ => bn1 (c_lacks (σ := σ) hS h.1 h.2 (by omega) ?_)) (fun z => absurd h z)
        have := fnd_lt h0
        exact ⟨fun z => by omega, fun _ => ⟨rfl, rfl⟩⟩
  · refine sim_same hR (-1) ?_ ?_
    · apply e_X8_film_0
      exact c_within (fun z1 => br1 (c_within (fun z2 => absurd ⟨z1, z2⟩ h) (fun _ => bn0 ⟨rfl, rfl⟩))) (fun _ => br0 ⟨rfl, rfl⟩)
    · apply e_X9_film_0
      exact c_isSheet (fun z => absurd z h) (fun _ => bn0 ⟨rfl, rfl⟩)
