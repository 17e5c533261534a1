/-! ===== coils in the reference ===== -/
section
variable {F : Nat} {T : zV} {lv : Nat} {S : y_S} {V V' : zV}
def y_q (S : y_S) (k : List Nat) : y_S := (S.1, S.2.1, S.2.2.1, k)
theorem y_mg_q {k : List Nat} (h : y_mg T S V) (f : y_fr [(0, 85)] [55] V V') (h85 : zI V' 0 85 = nI k.length) (h55 : ∀ i c, k[i]? = some c → zA V' 55 i = nI c) : y_mg T (y_q S k) V' := by
  obtain ⟨g1, g2, g3, g4, g5, g6, g7, gb, p, hp, g8, g9⟩ := h
  refine ⟨fun q hq => (f.1 0 q.2.2 ?_).trans (g1 q hq), fun q hq i hi => ?_, fun s hs => ?_, fun c hc => ?_, (f.2.2.1 0 65).trans g5, (f.1 0 69 (by decide)).trans g6, ⟨h85, h55⟩, gb, p, hp, g8, y_ml_fr g9 f (by decide) (by decide) (by decide) (by decide)⟩
  · exact (show ∀ q ∈ y_mnum, ((0, q.2.2) : Nat × Nat) ∉ [(0, 85)] by decide) q hq
  · rw [f.2.1 q.2.1 ((show ∀ q ∈ y_mrow, q.2.1 ∉ [55] by decide) q hq)]; exact g2 q hq i hi
  · rw [f.2.1 46 (by decide)]; exact g3 s hs
  · rw [f.2.1 54 (by decide)]; exact g4 c hc
theorem y_mg_fire {s : Nat} (h : y_mg T S V) (hc : ∃ c, c < 6000 ∧ y_R S 11 s = nI c) : y_mg T (y_sR (y_sR S 11 s (y_R S 11 s + 1)) 12 s (y_I S 0 10)) (zsA (zsA V 53 (upd (zA V 53) s (y_R S 11 s + 1))) 54 (upd (zA V 54) s (y_I S 0 10))) := by
  obtain ⟨c, hc, ec⟩ := hc
  obtain ⟨g1, g2, g3, g4, g5, g6, g7, gb, p, hp, g8, g9⟩ := h
  have f : y_fr [] [53, 54] V (zsA (zsA V 53 (upd (zA V 53) s (y_R S 11 s + 1))) 54 (upd (zA V 54) s (y_I S 0 10))) := y_fr_A (y_fr_A y_fr_refl (by decide)) (by decide)
  refine ⟨g1, fun q hq i hi => ?_, fun j hj => g3 j hj, fun d hd => ?_, g5, g6, g7, fun m hm => gb m hm, p, hp, g8, y_ml_fr g9 f List.not_mem_nil List.not_mem_nil (by decide) (by decide)⟩
  · have hq' : q = (1, 43, 16) ∨ q = (6, 44, 16) ∨ q = (7, 45, 16) ∨ q = (9, 48, 16) ∨ q = (11, 53, 8) ∨ q = (19, 49, 12) ∨ q = (20, 50, 12) ∨ q = (21, 51, 12) ∨ q = (22, 52, 12) := by
      have : q ∈ [(1, 43, 16), (6, 44, 16), (7, 45, 16), (9, 48, 16), (11, 53, 8), (19, 49, 12), (20, 50, 12), (21, 51, 12), (22, 52, 12)] := hq
      simpa using this
    have u : ∀ (a b : Nat → Int32) (x : Int32), a i = b i → upd a s x i = upd b s x i := by
      intro a b x e
      rw [y_upd, y_upd]
      by_cases c : i = s
      · rw [if_pos c, if_pos c]
      · rw [if_neg c, if_neg c]; exact e
    rcases hq' with rfl | rfl | rfl | rfl | rfl | rfl | rfl | rfl | rfl
    · exact g2 (1, 43, 16) (by decide) i hi
    · exact g2 (6, 44, 16) (by decide) i hi
    · exact g2 (7, 45, 16) (by decide) i hi
    · exact g2 (9, 48, 16) (by decide) i hi
    · exact u (zA V 53) (zA S.1 11) _ (g2 (11, 53, 8) (by decide) i hi)
    · exact g2 (19, 49, 12) (by decide) i hi
    · exact g2 (20, 50, 12) (by decide) i hi
    · exact g2 (21, 51, 12) (by decide) i hi
    · exact g2 (22, 52, 12) (by decide) i hi
  · show upd (zA V 54) s (y_I S 0 10) d = if upd (zA S.1 11) s (y_R S 11 s + 1) d = 0 then -1 else upd (zA S.1 12) s (y_I S 0 10) d
    rw [y_upd, y_upd, y_upd]
    by_cases c : d = s
    · rw [if_pos c, if_pos c, if_pos c, ec, nI_1, if_neg (nI_ne0 (by omega) (by omega))]
    · rw [if_neg c, if_neg c, if_neg c]; exact g4 d hd
/-- a pair a of coils kept apart, the other fired now -/
def y_bad (lv : Nat) (V : zV) (c a : Nat) : Prop := (zA V 14 (8 * lv + a) = nI c ∧ zA V 54 (zA V 15 (8 * lv + a)).toNatClampNeg = zI V 0 68) ∨ (zA V 15 (8 * lv + a) = nI c ∧ zA V 54 (zA V 14 (8 * lv + a)).toNatClampNeg = zI V 0 68)
def y_keep (k6 : zV → Int32 → Int32 → Int32 → Option (Int32 × zV)) (V : zV) (x1 x2 x3 : Int32) (c : Nat) : Option (Int32 × zV) :=
  zchk (zix x2 8) <| k6 (zsA V 55 (upd (zA V 55) x2.toNatClampNeg (nI c))) x1 (x2 + 1) (x3 + 1)
def y_fire (k6 : zV → Int32 → Int32 → Int32 → Option (Int32 × zV)) (V : zV) (x1 x2 x3 : Int32) (c : Nat) : Option (Int32 × zV) :=
  k6 (zsA (zsA V 53 (upd (zA V 53) c (zA V 53 c + 1))) 54 (upd (zA V 54) c (zI V 0 68))) (x1 + 1) x2 (x3 + 1)
theorem m_apl (hT : y_mt T lv V) {A c : Nat} (hA : A ≤ 8) (hA2 : zA T 1 2 = nI A) (hc : c < 8) (hcd : ∀ a, a < A → ∃ c d, c < 8 ∧ d < 8 ∧ zA V 14 (8 * lv + a) = nI c ∧ zA V 15 (8 * lv + a) = nI d) {k6 : zV → Int32 → Int32 → Int32 → Option (Int32 × zV)} {x1 x2 x3 : Int32} : ∀ (r a N : Nat) (fl : Int32), a + r = A → r + 1 ≤ N →
    ((fl = 0 ∨ ∃ a', a ≤ a' ∧ a' < A ∧ y_bad lv V c a') → fX12_fires_l79 F k6 N V x1 x2 x3 (nI c) fl (nI (8 * lv + a)) = y_keep k6 V x1 x2 x3 c) ∧
    (¬ (fl = 0 ∨ ∃ a', a ≤ a' ∧ a' < A ∧ y_bad lv V c a') → fX12_fires_l79 F k6 N V x1 x2 x3 (nI c) fl (nI (8 * lv + a)) = y_fire k6 V x1 x2 x3 c) := by
  have hlv := hT.1.1
  intro r
  induction r with
  | zero =>
    intro a N fl e hN
    obtain ⟨N, rfl⟩ : ∃ N', N = N' + 1 := ⟨N - 1, by omega⟩
    have no : (fl = 0 ∨ ∃ a', a ≤ a' ∧ a' < A ∧ y_bad lv V c a') ↔ fl = 0 := ⟨fun z => z.elim id (fun ⟨a', h1, h2, _⟩ => by omega), Or.inl⟩
    have key : fX12_fires_l79 F k6 (N + 1) V x1 x2 x3 (nI c) fl (nI (8 * lv + a)) = if fl = 0 then y_keep k6 V x1 x2 x3 c else y_fire k6 V x1 x2 x3 c := by
      rw [fX12_fires_l79, show (2 : Int32) = nI 2 from rfl, m_sort hT (by decide), y_bd, hA2, hT.1.2, show (8 : Int32) = nI 8 from rfl, pk_mul, nI_add, if_pos (nI_le (by omega) (by omega))]
      by_cases q : fl = 0
      · rw [if_pos q, if_pos q]; rfl
      · rw [if_neg q, if_neg q, y_ck hc (by decide), y_ck hc (by decide), y_let, y_ck hc (by decide), y_let, nI_clamp (show c < 2 ^ 31 by omega)]
        rfl
    rw [key, no]
    exact ⟨fun z => if_pos z, fun z => if_neg z⟩
  | succ r ih =>
    intro a N fl e hN
    obtain ⟨N, rfl⟩ : ∃ N', N = N' + 1 := ⟨N - 1, by omega⟩
    obtain ⟨c1, d1, h1, h2, e1, e2⟩ := hcd a (by omega)
    have key : (y_bad lv V c a → fX12_fires_l79 F k6 (N + 1) V x1 x2 x3 (nI c) fl (nI (8 * lv + a)) = fX12_fires_l79 F k6 N V x1 x2 x3 (nI c) 0 (nI (8 * lv + (a + 1)))) ∧
        (¬ y_bad lv V c a → fX12_fires_l79 F k6 (N + 1) V x1 x2 x3 (nI c) fl (nI (8 * lv + a)) = fX12_fires_l79 F k6 N V x1 x2 x3 (nI c) fl (nI (8 * lv + (a + 1)))) := by
      unfold y_bad
      rw [fX12_fires_l79, show (2 : Int32) = nI 2 from rfl, m_sort hT (by decide), y_bd, hA2, hT.1.2, show (8 : Int32) = nI 8 from rfl, pk_mul, nI_add, if_neg (nI_ge (by omega) (by omega)), y_ck (by omega) (by decide), y_ck (by omega) (by decide)]
      simp only [fX12_fires_b128, y_ck (show 8 * lv + a < 16 by omega) (by decide), nI_clamp (show 8 * lv + a < 2 ^ 31 by omega), e1, e2, y_ck h1 (by decide), y_ck h2 (by decide), nI_clamp (show c1 < 2 ^ 31 by omega), nI_clamp (show d1 < 2 ^ 31 by omega), fX12_fires_b159, fX12_fires_b162, nI_1, Nat.add_assoc]
      constructor
      · rintro (⟨z1, z2⟩ | ⟨z1, z2⟩)
        · rw [if_pos z1, if_pos z2]
        · by_cases y : nI c1 = nI c ∧ zA V 54 d1 = zI V 0 68
          · rw [if_pos y.1, if_pos y.2]
          · have : (if nI c1 = nI c then if zA V 54 d1 = zI V 0 68 then fX12_fires_l79 F k6 N V x1 x2 x3 (nI c) 0 (nI (8 * lv + (a + 1))) else if nI d1 = nI c then if zA V 54 c1 = zI V 0 68 then fX12_fires_l79 F k6 N V x1 x2 x3 (nI c) 0 (nI (8 * lv + (a + 1))) else fX12_fires_l79 F k6 N V x1 x2 x3 (nI c) fl (nI (8 * lv + (a + 1))) else fX12_fires_l79 F k6 N V x1 x2 x3 (nI c) fl (nI (8 * lv + (a + 1))) else if nI d1 = nI c then if zA V 54 c1 = zI V 0 68 then fX12_fires_l79 F k6 N V x1 x2 x3 (nI c) 0 (nI (8 * lv + (a + 1))) else fX12_fires_l79 F k6 N V x1 x2 x3 (nI c) fl (nI (8 * lv + (a + 1))) else fX12_fires_l79 F k6 N V x1 x2 x3 (nI c) fl (nI (8 * lv + (a + 1)))) = fX12_fires_l79 F k6 N V x1 x2 x3 (nI c) 0 (nI (8 * lv + (a + 1))) := by
              rw [if_pos z1, if_pos z2]
              split
              · split <;> rfl
              · rfl
            exact this
      · intro z
        have z1 : ¬ (nI c1 = nI c ∧ zA V 54 d1 = zI V 0 68) := fun y => z (Or.inl y)
        have z2 : ¬ (nI d1 = nI c ∧ zA V 54 c1 = zI V 0 68) := fun y => z (Or.inr y)
        split
        · rename_i y1
          rw [if_neg (fun y => z1 ⟨y1, y⟩)]
          split
          · rename_i y2
            rw [if_neg (fun y => z2 ⟨y2, y⟩)]
          · rfl
        · split
          · rename_i y2
            rw [if_neg (fun y => z2 ⟨y2, y⟩)]
          · rfl
    by_cases q : y_bad lv V c a
    · rw [key.1 q]
      exact ⟨fun _ => (ih (a + 1) N 0 (by omega) (by omega)).1 (Or.inl rfl), fun z => absurd (Or.inr ⟨a, Nat.le_refl _, by omega, q⟩) z⟩
    · have i := ih (a + 1) N fl (by omega) (by omega)
      have eq : (fl = 0 ∨ ∃ a', a ≤ a' ∧ a' < A ∧ y_bad lv V c a') ↔ (fl = 0 ∨ ∃ a', a + 1 ≤ a' ∧ a' < A ∧ y_bad lv V c a') := by
        constructor
        · rintro (z | ⟨a', h1, h2, h3⟩)
          · exact Or.inl z
          · by_cases w : a' = a
            · subst w; exact absurd h3 q
            · exact Or.inr ⟨a', by omega, h2, h3⟩
        · rintro (z | ⟨a', h1, h2, h3⟩)
          · exact Or.inl z
          · exact Or.inr ⟨a', by omega, h2, h3⟩
      rw [key.2 q, eq]
      exact i
end
