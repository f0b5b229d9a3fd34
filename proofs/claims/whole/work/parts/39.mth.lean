/-! the soonest way, as numbers -/
def lo (v b : Int) : Int := if v < b then v else b
theorem lo_le (v b : Int) : lo v b ≤ v ∧ lo v b ≤ b ∧ (lo v b = v ∨ lo v b = b) := by unfold lo; split <;> omega
def W3 (c : Int → Int) : Int := lo (c 2) (lo (c 1) (lo (c 0) 1000000))
theorem W3_le (c : Int → Int) : W3 c ≤ 1000000 ∧ ∀ p, 0 ≤ p → p < 3 → W3 c ≤ c p := by
  have h0 := lo_le (c 0) 1000000
  have h1 := lo_le (c 1) (lo (c 0) 1000000)
  have h2 := lo_le (c 2) (lo (c 1) (lo (c 0) 1000000))
  refine ⟨by unfold W3; omega, ?_⟩
  intro p p1 p2
  rcases (by omega : p = 0 ∨ p = 1 ∨ p = 2) with e | e | e <;> subst e <;> unfold W3 <;> omega
theorem W3_at (c : Int → Int) : W3 c = 1000000 ∨ ∃ p, 0 ≤ p ∧ p < 3 ∧ W3 c = c p := by
  have h0 := lo_le (c 0) 1000000
  have h1 := lo_le (c 1) (lo (c 0) 1000000)
  have h2 := lo_le (c 2) (lo (c 1) (lo (c 0) 1000000))
  unfold W3
  by_cases k2 : lo (c 2) (lo (c 1) (lo (c 0) 1000000)) = c 2
  · exact Or.inr ⟨2, by omega, by omega, k2⟩
  · by_cases k1 : lo (c 1) (lo (c 0) 1000000) = c 1
    · exact Or.inr ⟨1, by omega, by omega, by omega⟩
    · by_cases k0 : lo (c 0) 1000000 = c 0
      · exact Or.inr ⟨0, by omega, by omega, by omega⟩
      · exact Or.inl (by omega)
theorem W3_mono {c c' : Int → Int} (h : ∀ p, 0 ≤ p → p < 3 → c p ≤ c' p) : W3 c ≤ W3 c' := by
  have a := W3_le c
  rcases W3_at c' with e | ⟨p, p1, p2, e⟩
  · omega
  · have := a.2 p p1 p2
    have := h p p1 p2
    omega
theorem W3_congr {c c' : Int → Int} (h : ∀ p, 0 ≤ p → p < 3 → c p = c' p) : W3 c = W3 c' := by
  have a := W3_mono (c := c) (c' := c') (fun p p1 p2 => by have := h p p1 p2; omega)
  have b := W3_mono (c := c') (c' := c) (fun p p1 p2 => by have := h p p1 p2; omega)
  omega
/-- by the pace p with s, sparing sp: what it costs with what is behind it -/
def cand (sp : Int) (ls mi : Int → Int) (s : Int) (a : Int → Int) (p : Int) : Int := if s - ls p < sp then 1000000 else mi p + a (s - ls p)
/-- come to the mile m: w, or what begins anew at its place -/
def Aw (N : Int) (pl E : Int → Int) (m w : Int) : Int := if m = N then 0 else if pl m = -1 then w else lo (E (pl m)) w
theorem Aw_mono {N : Int} {pl E : Int → Int} {m w w' : Int} (h : w ≤ w') : Aw N pl E m w ≤ Aw N pl E m w' := by
  unfold Aw lo
  repeat' split
  all_goals omega
/-- the least minutes to the end, ridden on with s, d miles ahead of it -/
def Wv (N sp : Int) (pl E : Int → Int) (ls mi : Int → Int → Int) : Nat → Int → Int
  | 0, _ => 1000000
  | d + 1, s => W3 (cand sp (ls (N - (d + 1))) (mi (N - (d + 1))) s (fun s' => Aw N pl E (N - d) (Wv N sp pl E ls mi d s')))
section MT
variable {N sp : Int} {pl E : Int → Int} {ls mi : Int → Int → Int}
theorem Wv_le (d : Nat) (s : Int) : Wv N sp pl E ls mi d s ≤ 1000000 := by
  cases d with
  | zero => exact Int.le_refl _
  | succ d => exact (W3_le _).1
theorem Wv_mono : ∀ (d : Nat) (s s' : Int), s ≤ s' → Wv N sp pl E ls mi d s' ≤ Wv N sp pl E ls mi d s := by
  intro d
  induction d with
  | zero => intro s s' _; exact Int.le_refl _
  | succ d ih =>
    intro s s' h
    rw [Wv, Wv]
    have a := W3_le (cand sp (ls (N - (d + 1))) (mi (N - (d + 1))) s' (fun s' => Aw N pl E (N - d) (Wv N sp pl E ls mi d s')))
    rcases W3_at (cand sp (ls (N - (d + 1))) (mi (N - (d + 1))) s (fun s' => Aw N pl E (N - d) (Wv N sp pl E ls mi d s'))) with e | ⟨p, p1, p2, e⟩
    · omega
    · have b := a.2 p p1 p2
      rw [e]
      unfold cand
      by_cases k : s - ls (N - (d + 1)) p < sp
      · rw [if_pos k]
        exact a.1
      · rw [if_neg k]
        refine Int.le_trans b ?_
        unfold cand
        rw [if_neg (by omega)]
        have m := Aw_mono (N := N) (pl := pl) (E := E) (m := N - d) (ih (s - ls (N - (d + 1)) p) (s' - ls (N - (d + 1)) p) (by omega))
        dsimp only
        omega
theorem Wv_congr {E' : Int → Int} : ∀ (d : Nat) (s : Int), (∀ m, N - d < m → m < N → pl m ≠ -1 → E (pl m) = E' (pl m)) → Wv N sp pl E ls mi d s = Wv N sp pl E' ls mi d s := by
  intro d
  induction d with
  | zero => intro s _; rfl
  | succ d ih =>
    intro s h
    rw [Wv, Wv]
    apply W3_congr
    intro p p1 p2
    unfold cand
    split
    · rfl
    · have e := ih (s - ls (N - (d + 1)) p) (fun m m1 m2 m3 => h m (by omega) m2 m3)
      congr 1
      simp only [e]
      unfold Aw
      split
      · rfl
      · split
        · rfl
        · next k1 k2 => rw [h (N - d) (by omega) (by omega) k2]
theorem Wv_b (hE : ∀ q, 0 ≤ E q) (hm : ∀ m p, 0 ≤ p → p < 3 → 0 ≤ mi m p) : ∀ (d : Nat) (s : Int), 0 ≤ Wv N sp pl E ls mi d s := by
  intro d
  induction d with
  | zero => intro s; show (0 : Int) ≤ 1000000; omega
  | succ d ih =>
    intro s
    rw [Wv]
    rcases W3_at (cand sp (ls (N - (d + 1))) (mi (N - (d + 1))) s (fun s' => Aw N pl E (N - d) (Wv N sp pl E ls mi d s'))) with e | ⟨p, p1, p2, e⟩
    · omega
    · rw [e]
      unfold cand
      split
      · omega
      · have a := ih (s - ls (N - (d + 1)) p)
        have b := hm (N - (d + 1)) p p1 p2
        have c := hE (pl (N - d))
        have : 0 ≤ Aw N pl E (N - d) (Wv N sp pl E ls mi d (s - ls (N - (d + 1)) p)) := by
          unfold Aw lo
          repeat' split
          all_goals omega
        dsimp only
        omega
end MT
