/-! by which edge a node was come to -/
def chn (s : Nat) (par : Nat → Nat) : Nat → Nat → Prop
  | 0, n => n = s
  | k + 1, n => n ≠ s ∧ chn s par k (par n)
def parI (N ne : Nat) (fr to : Nat → Nat) (rm cs : Nat → Int) (s : Nat) (E : Int) (far : Nat → Int) (came : Nat → Nat) : Prop := ∀ n, n < N → n ≠ s → far n < E → (came n < ne ∧ 0 < rm (came n) ∧ to (came n) = n ∧ far (fr (came n)) < E ∧ far (fr (came n)) + cs (came n) ≤ far n) ∧ ∃ k, chn s (fun x => fr (came x)) k n
section PR
variable {N ne : Nat} {fr to : Nat → Nat} {rm cs : Nat → Int} {s : Nat} {E : Int} {far : Nat → Int} {came : Nat → Nat}
theorem parI_0 : parI N ne fr to rm cs s E (fun n => if n = s then 0 else E) came := by
  intro n hn hs h
  simp only [if_neg hs] at h
  omega
theorem chn_keep {pi : Nat → Int} (hp : pot ne fr to rm cs pi) (hfr : ∀ e, e < ne → fr e < N) (h : parI N ne fr to rm cs s E far came) {c2 : Nat → Nat} {v : Nat} (hv : ∀ n, n ≠ v → c2 n = came n) : ∀ (k x : Nat), x < N → far x < E → far x - pi x < far v - pi v → chn s (fun x => fr (came x)) k x → chn s (fun x => fr (c2 x)) k x
  | 0, x, _, _, _, hc => hc
  | k + 1, x, hx, hf, hr, hc => by
    obtain ⟨h1, h2⟩ := hc
    obtain ⟨⟨a1, a2, a3, a4, a5⟩, -⟩ := h x hx h1 hf
    have hne : x ≠ v := fun q => by rw [q] at hr; omega
    refine ⟨h1, ?_⟩
    show chn s (fun x => fr (c2 x)) k (fr (c2 x))
    rw [hv x hne]
    have h6 := hp _ a1 a2
    rw [a3] at h6
    exact chn_keep hp hfr h hv k _ (hfr _ a1) a4 (by omega) h2
theorem chn_new {c2 : Nat → Nat} {v : Nat} (hv : ∀ n, n ≠ v → c2 n = came n) (hvs : v ≠ s) {k0 : Nat} (hk : chn s (fun x => fr (c2 x)) k0 (fr (c2 v))) : ∀ (k x : Nat), chn s (fun x => fr (came x)) k x → ∃ k', chn s (fun x => fr (c2 x)) k' x
  | 0, x, hc => ⟨0, hc⟩
  | k + 1, x, hc => by
    obtain ⟨h1, h2⟩ := hc
    by_cases q : x = v
    · subst q
      exact ⟨k0 + 1, hvs, hk⟩
    · obtain ⟨k', h'⟩ := chn_new hv hvs hk k _ h2
      refine ⟨k' + 1, h1, ?_⟩
      show chn s (fun x => fr (c2 x)) k' (fr (c2 x))
      rw [hv x q]
      exact h'
theorem parI_step {pi : Nat → Int} (hp : pot ne fr to rm cs pi) (hfr : ∀ e, e < ne → fr e < N) {e : Nat} (he : e < ne) (hte : to e < N) (hts : to e ≠ s) (hr : 0 < rm e) (h : parI N ne fr to rm cs s E far came) (hf : far (fr e) < E) (hl : far (fr e) + cs e < far (to e)) : parI N ne fr to rm cs s E (fun n => if n = to e then far (fr e) + cs e else far n) (fun n => if n = to e then e else came n) := by
  have hpe := hp e he hr
  have hv : ∀ n, n ≠ to e → (fun n => if n = to e then e else came n) n = came n := fun n hn => if_neg hn
  have hch : ∃ k0, chn s (fun x => fr (if x = to e then e else came x)) k0 (fr e) := by
    by_cases q : fr e = s
    · exact ⟨0, q⟩
    · obtain ⟨-, k, hk⟩ := h _ (hfr e he) q hf
      exact ⟨k, chn_keep hp hfr h hv k _ (hfr e he) hf (by omega) hk⟩
  obtain ⟨k0, hk0⟩ := hch
  have hk1 : chn s (fun x => fr (if x = to e then e else came x)) k0 (fr (if to e = to e then e else came (to e))) := by rw [if_pos rfl]; exact hk0
  have hcfr : ∀ n, (if n = to e then far (fr e) + cs e else far n) ≤ far n := fun n => by
    by_cases q : n = to e
    · rw [if_pos q, q]; omega
    · rw [if_neg q]; omega
  intro n hn hs hlt
  by_cases q : n = to e
  · subst q
    refine ⟨?_, k0 + 1, hts, hk1⟩
    simp only [if_true]
    have h9 := hcfr (fr e)
    exact ⟨he, hr, trivial, by omega, by omega⟩
  · simp only [if_neg q] at hlt ⊢
    obtain ⟨⟨a1, a2, a3, a4, a5⟩, k, hk⟩ := h n hn hs hlt
    have h9 := hcfr (fr (came n))
    exact ⟨⟨a1, a2, a3, by omega, by omega⟩, chn_new hv hts hk1 k n hk⟩
/-- the depth of a chain is one number -/
theorem chn_un {par : Nat → Nat} : ∀ (k j n : Nat), chn s par k n → chn s par j n → k = j
  | 0, 0, n, _, _ => rfl
  | 0, j + 1, n, a, b => absurd a b.1
  | k + 1, 0, n, a, b => absurd b a.1
  | k + 1, j + 1, n, a, b => by rw [chn_un k j _ a.2 b.2]
end PR
