/-! ===== each call, on both sides ===== -/
def Rn (w k : Nat) (vs : List Value) (h : Hp) (v : Int32) (h' : Hp) : Prop := ∃ n, run w n 100 k 0 (entry (.ref 0 :: vs) (mL k)) [] h = some (some (.int v), h')
def Alk (kx km : Nat) (vs : List Value) (n L : Nat) (hx hm : Hp) : Prop := ∃ v hx' hm' L' T', Rn 0 kx vs hx v hx' ∧ Rn 1 km vs hm v hm' ∧ WF 0 hx' ∧ WF 1 hm' ∧ Rl n L' T' hx' hm' ∧ L' ≤ L + 24
theorem al_mk {kx km n L L' : Nat} {vs : List Value} {hx hm hx' hm' : Hp} {v v' : Int32} {T' : Nat → Tc} (a : R 0 100 kx 0 (entry (.ref 0 :: vs) (mL kx)) [] hx (fun r H => r = some (.int v) ∧ H = hx' ∧ WF 0 hx')) (b : R 1 100 km 0 (entry (.ref 0 :: vs) (mL km)) [] hm (fun r H => r = some (.int v') ∧ H = hm' ∧ WF 1 hm')) (e : v = v') (r : Rl n L' T' hx' hm') (hL : L' ≤ L + 24) : Alk kx km vs n L hx hm := by
  obtain ⟨n1, r1, h1, e1, rfl, rfl, w1⟩ := a
  obtain ⟨n2, r2, h2, e2, rfl, rfl, w2⟩ := b
  subst e
  exact ⟨v, h1, h2, L', T', ⟨n1, e1⟩, ⟨n2, e2⟩, w1, w2, r, hL⟩
section AL
variable {n L : Nat} {T : Nat → Tc} {hx hm : Hp}
theorem al_depth (p1 p2 p3 : Int32) (r : Rl n L T hx hm) (wx : WF 0 hx) (wm : WF 1 hm) (hL : L + 24 < 1000000) : Alk 91 149 [.int p1, .int p2, .int p3] n L hx hm := by
  obtain ⟨x, ex, y, ey, e, r1⟩ := op_depth (N := 10000) p1 p2 p3 r
  exact al_mk (f91_l (d := 100) ex wx (by omega) (fun w => ⟨rfl, rfl, w⟩)) (f149_l (d := 100) ey wm (by omega) (fun w => ⟨rfl, rfl, w⟩)) e r1 (by omega)
theorem al_rocks (p1 : Int32) (r : Rl n L T hx hm) (wx : WF 0 hx) (wm : WF 1 hm) (hL : L + 24 < 1000000) : Alk 92 150 [.int p1] n L hx hm := by
  obtain ⟨x, ex, y, ey, e, r1⟩ := op_rocks (N := 10000) p1 r
  exact al_mk (f92_l (d := 100) ex wx (by omega) (fun w => ⟨rfl, rfl, w⟩)) (f150_l (d := 100) ey wm (by omega) (fun w => ⟨rfl, rfl, w⟩)) e r1 (by omega)
theorem al_winds (p1 p2 : Int32) (r : Rl n L T hx hm) (wx : WF 0 hx) (wm : WF 1 hm) (hL : L + 24 < 1000000) : Alk 93 151 [.int p1, .int p2] n L hx hm := by
  obtain ⟨x, ex, y, ey, e, r1⟩ := op_winds (N := 10000) p1 p2 r
  exact al_mk (f93_l (d := 100) ex wx (by omega) (fun w => ⟨rfl, rfl, w⟩)) (f151_l (d := 100) ey wm (by omega) (fun w => ⟨rfl, rfl, w⟩)) e r1 (by omega)
theorem al_weigh (p1 : Int32) (r : Rl n L T hx hm) (wx : WF 0 hx) (wm : WF 1 hm) (hL : L + 24 < 1000000) : Alk 94 152 [.int p1] n L hx hm := by
  obtain ⟨x, ex, y, ey, e, r1⟩ := op_weigh (N := 10000) p1 r
  exact al_mk (f94_l (d := 100) ex wx (by omega) (fun w => ⟨rfl, rfl, w⟩)) (f152_l (d := 100) ey wm (by omega) (fun w => ⟨rfl, rfl, w⟩)) e r1 (by omega)
theorem al_feed (p1 p2 p3 p4 p5 : Int32) (r : Rl n L T hx hm) (wx : WF 0 hx) (wm : WF 1 hm) (hL : L + 24 < 1000000) : Alk 95 154 [.int p1, .int p2, .int p3, .int p4, .int p5] n L hx hm := by
  obtain ⟨x, ex, y, ey, e, r1⟩ := op_feed (N := 10000) p1 p2 p3 p4 p5 (by decide) r
  exact al_mk (f95_l (d := 100) ex wx (by omega) (fun w => ⟨rfl, rfl, w⟩)) (f154_l (d := 100) ey wm (by omega) (fun w => ⟨rfl, rfl, w⟩)) e r1 (by omega)
theorem al_end (p1 : Int32) (r : Rl n L T hx hm) (wx : WF 0 hx) (wm : WF 1 hm) (hL : L + 24 < 1000000) : Alk 96 155 [.int p1] n L hx hm := by
  obtain ⟨x, ex, y, ey, e, r1⟩ := op_end (N := 10000) p1 r
  exact al_mk (f96_l (d := 100) ex wx (by omega) (fun w => ⟨rfl, rfl, w⟩)) (f155_l (d := 100) ey wm (by omega) (fun w => ⟨rfl, rfl, w⟩)) e r1 (by omega)
theorem al_text (r : Rl n L T hx hm) (wx : WF 0 hx) (wm : WF 1 hm) (hL : L + 24 < 1000000) : Alk 97 182 [] n L hx hm := by
  obtain ⟨x, ex, y, ey, e, T1, r1⟩ := op_text (N := 10000) (by decide) r wx
  exact al_mk (f97_l (d := 100) ex wx (by omega) (fun w => ⟨rfl, rfl, w⟩)) (f182_l (d := 100) ey wm (by omega) (fun w => ⟨rfl, rfl, w⟩)) e r1 (by omega)
theorem al_fault (p1 : Int32) (r : Rl n L T hx hm) (wx : WF 0 hx) (wm : WF 1 hm) (hL : L + 24 < 1000000) : Alk 98 183 [.int p1] n L hx hm := by
  obtain ⟨x, ex, y, ey, e⟩ := op_fault (N := 10000) p1 r
  exact al_mk (f98_l (d := 100) ex wx (by omega) ⟨rfl, rfl, wx⟩) (f183_l (d := 100) ey wm (by omega) ⟨rfl, rfl, wm⟩) e r (by omega)
theorem al_by (p1 : Int32) (r : Rl n L T hx hm) (wx : WF 0 hx) (wm : WF 1 hm) (hL : L + 24 < 1000000) : Alk 99 184 [.int p1] n L hx hm := by
  obtain ⟨x, ex, y, ey, e, r1⟩ := op_by (N := 10000) p1 r wx
  exact al_mk (f99_l (d := 100) ex wx (by omega) (fun w => ⟨rfl, rfl, w⟩)) (f184_l (d := 100) ey wm (by omega) (fun w => ⟨rfl, rfl, w⟩)) e r1 (by omega)
theorem al_becomes (p1 p2 p3 : Int32) (r : Rl n L T hx hm) (wx : WF 0 hx) (wm : WF 1 hm) (hL : L + 24 < 1000000) : Alk 100 197 [.int p1, .int p2, .int p3] n L hx hm := by
  obtain ⟨x, ex, y, ey, e, r1⟩ := op_becomes (N := 10000) p1 p2 p3 (by decide) r wx
  exact al_mk (f100_l (d := 100) ex wx (by omega) (fun w => ⟨rfl, rfl, w⟩)) (f197_l (d := 100) ey wm (by omega) (fun w => ⟨rfl, rfl, w⟩)) e r1 (by omega)
theorem al_go (p1 p2 : Int32) (r : Rl n L T hx hm) (wx : WF 0 hx) (wm : WF 1 hm) (hL : L + 24 < 1000000) : Alk 101 201 [.int p1, .int p2] n L hx hm := by
  obtain ⟨x, ex, y, ey, e, r1⟩ := op_go (N := 10000) p1 p2 (by decide) (by omega) r wx
  exact al_mk (f101_l (d := 100) ex wx (by omega) (fun w => ⟨rfl, rfl, w⟩)) (f201_l (d := 100) ey wm (by omega) (fun w => ⟨rfl, rfl, w⟩)) e r1 (by omega)
theorem al_course (p1 : Int32) (r : Rl n L T hx hm) (wx : WF 0 hx) (wm : WF 1 hm) (hL : L + 24 < 1000000) : Alk 102 202 [.int p1] n L hx hm := by
  obtain ⟨x, ex, y, ey, e, r1⟩ := op_course (N := 10000) p1 r
  exact al_mk (f102_l (d := 100) ex wx (by omega) (fun w => ⟨rfl, rfl, w⟩)) (f202_l (d := 100) ey wm (by omega) (fun w => ⟨rfl, rfl, w⟩)) e r1 (by omega)
theorem al_sail (p1 : Int32) (r : Rl n L T hx hm) (wx : WF 0 hx) (wm : WF 1 hm) (hL : L + 24 < 1000000) : Alk 103 204 [.int p1] n L hx hm := by
  obtain ⟨x, ex, y, ey, e, r1⟩ := op_sail (N := 10000) p1 (by decide) (by omega) r wx
  exact al_mk (f103_l (d := 100) ex wx (by omega) (fun w => ⟨rfl, rfl, w⟩)) (f204_l (d := 100) ey wm (by omega) (fun w => ⟨rfl, rfl, w⟩)) e r1 (by omega)
theorem al_undo (r : Rl n L T hx hm) (wx : WF 0 hx) (wm : WF 1 hm) (hL : L + 24 < 1000000) : Alk 104 205 [] n L hx hm := by
  obtain ⟨x, ex, y, ey, e, r1⟩ := op_undo (N := 10000) (by decide) r
  exact al_mk (f104_l (d := 100) ex wx (by omega) (fun w => ⟨rfl, rfl, w⟩)) (f205_l (d := 100) ey wm (by omega) (fun w => ⟨rfl, rfl, w⟩)) e r1 (by omega)
theorem al_ship (p1 : Int32) (r : Rl n L T hx hm) (wx : WF 0 hx) (wm : WF 1 hm) (hL : L + 24 < 1000000) : Alk 105 206 [.int p1] n L hx hm := by
  obtain ⟨x, ex, y, ey, e⟩ := op_ship (N := 10000) p1 r
  exact al_mk (f105_l (d := 100) ex wx (by omega) ⟨rfl, rfl, wx⟩) (f206_l (d := 100) ey wm (by omega) ⟨rfl, rfl, wm⟩) e r (by omega)
theorem al_reach (p1 p2 p3 : Int32) (r : Rl n L T hx hm) (wx : WF 0 hx) (wm : WF 1 hm) (hL : L + 24 < 1000000) : Alk 106 210 [.int p1, .int p2, .int p3] n L hx hm := by
  obtain ⟨x, ex, y, ey, e, r1⟩ := op_reach (N := 10000) p1 p2 p3 (by decide) r wx
  exact al_mk (f106_l (d := 100) ex wx (by omega) (fun w => ⟨rfl, rfl, w⟩)) (f210_l (d := 100) ey wm (by omega) (fun w => ⟨rfl, rfl, w⟩)) e r1 (by omega)
theorem al_kept (p1 p2 : Int32) (r : Rl n L T hx hm) (wx : WF 0 hx) (wm : WF 1 hm) (hL : L + 24 < 1000000) : Alk 107 214 [.int p1, .int p2] n L hx hm := by
  obtain ⟨x, ex, y, ey, e, r1⟩ := op_kept (N := 10000) p1 p2 (by decide) r wx
  exact al_mk (f107_l (d := 100) ex wx (by omega) (fun w => ⟨rfl, rfl, w⟩)) (f214_l (d := 100) ey wm (by omega) (fun w => ⟨rfl, rfl, w⟩)) e r1 (by omega)
theorem al_think (r : Rl n L T hx hm) (wx : WF 0 hx) (wm : WF 1 hm) (hL : L + 24 < 1000000) : Alk 108 215 [] n L hx hm := by
  obtain ⟨x, ex, y, ey, e, r1⟩ := op_think (N := 10000) (by decide) r wx
  exact al_mk (f108_l (d := 100) ex wx (by omega) (fun w => ⟨rfl, rfl, w⟩)) (f215_l (d := 100) ey wm (by omega) (fun w => ⟨rfl, rfl, w⟩)) e r1 (by omega)
theorem al_best (p1 : Int32) (r : Rl n L T hx hm) (wx : WF 0 hx) (wm : WF 1 hm) (hL : L + 24 < 1000000) : Alk 109 216 [.int p1] n L hx hm := by
  obtain ⟨x, ex, y, ey, e, r1⟩ := op_best (N := 10000) p1 (by decide) r wx
  exact al_mk (f109_l (d := 100) ex wx (by omega) (fun w => ⟨rfl, rfl, w⟩)) (f216_l (d := 100) ey wm (by omega) (fun w => ⟨rfl, rfl, w⟩)) e r1 (by omega)
theorem al_between (p1 p2 p3 p4 : Int32) (r : Rl n L T hx hm) (wx : WF 0 hx) (wm : WF 1 hm) (hL : L + 24 < 1000000) : Alk 110 219 [.int p1, .int p2, .int p3, .int p4] n L hx hm := by
  obtain ⟨x, ex, y, ey, e, r1⟩ := op_between (N := 10000) p1 p2 p3 p4 (by decide) r wx
  exact al_mk (f110_l (d := 100) ex wx (by omega) (fun w => ⟨rfl, rfl, w⟩)) (f219_l (d := 100) ey wm (by omega) (fun w => ⟨rfl, rfl, w⟩)) e r1 (by omega)
theorem al_meet (p1 p2 p3 p4 : Int32) (r : Rl n L T hx hm) (wx : WF 0 hx) (wm : WF 1 hm) (hL : L + 24 < 1000000) : Alk 111 220 [.int p1, .int p2, .int p3, .int p4] n L hx hm := by
  obtain ⟨x, ex, y, ey, e, r1⟩ := op_meet (N := 10000) p1 p2 p3 p4 (by decide) r wx
  exact al_mk (f111_l (d := 100) ex wx (by omega) (fun w => ⟨rfl, rfl, w⟩)) (f220_l (d := 100) ey wm (by omega) (fun w => ⟨rfl, rfl, w⟩)) e r1 (by omega)
theorem al_goods (p1 : Int32) (r : Rl n L T hx hm) (wx : WF 0 hx) (wm : WF 1 hm) (hL : L + 24 < 1000000) : Alk 112 221 [.int p1] n L hx hm := by
  obtain ⟨x, ex, y, ey, e, r1⟩ := op_goods (N := 10000) p1 r
  exact al_mk (f112_l (d := 100) ex wx (by omega) (fun w => ⟨rfl, rfl, w⟩)) (f221_l (d := 100) ey wm (by omega) (fun w => ⟨rfl, rfl, w⟩)) e r1 (by omega)
theorem al_level (p1 : Int32) (r : Rl n L T hx hm) (wx : WF 0 hx) (wm : WF 1 hm) (hL : L + 24 < 1000000) : Alk 113 222 [.int p1] n L hx hm := by
  obtain ⟨x, ex, y, ey, e⟩ := op_level (N := 10000) p1 (by decide) r
  exact al_mk (f113_l (d := 100) ex wx (by omega) ⟨rfl, rfl, wx⟩) (f222_l (d := 100) ey wm (by omega) ⟨rfl, rfl, wm⟩) e r (by omega)
theorem al_leap (p1 p2 : Int32) (hb : p2 = 0 ∨ p2 = 1) (r : Rl n L T hx hm) (wx : WF 0 hx) (wm : WF 1 hm) (hL : L + 24 < 1000000) : Alk 114 224 [.int p1, .int p2] n L hx hm := by
  obtain ⟨x, ex, y, ey, e, r1⟩ := op_leap (N := 10000) p1 p2 hb (by omega) (by decide) r
  exact al_mk (f114_l (d := 100) ex wx (by omega) (fun w => ⟨rfl, rfl, w⟩)) (f224_l (d := 100) ey wm (by omega) (fun w => ⟨rfl, rfl, w⟩)) e r1 (by omega)
theorem al_aboard (p1 p2 : Int32) (hb : p2 = 0 ∨ p2 = 1) (r : Rl n L T hx hm) (wx : WF 0 hx) (wm : WF 1 hm) (hL : L + 24 < 1000000) : Alk 115 225 [.int p1, .int p2] n L hx hm := by
  obtain ⟨x, ex, y, ey, e⟩ := op_aboard (N := 10000) p1 p2 hb (by omega) (by decide) r
  exact al_mk (f115_l (d := 100) ex wx (by omega) ⟨rfl, rfl, wx⟩) (f225_l (d := 100) ey wm (by omega) ⟨rfl, rfl, wm⟩) e r (by omega)
theorem al_image (r : Rl n L T hx hm) (wx : WF 0 hx) (wm : WF 1 hm) (hL : L + 24 < 1000000) : Alk 116 226 [] n L hx hm := by
  obtain ⟨x, ex, y, ey, e, r1⟩ := op_image (N := 10000) r (by decide)
  exact al_mk (f116_l (d := 100) ex wx (by omega) (fun w => ⟨rfl, rfl, w⟩)) (f226_l (d := 100) ey wm (by omega) (fun w => ⟨rfl, rfl, w⟩)) e r1 (by omega)
theorem al_back (r : Rl n L T hx hm) (wx : WF 0 hx) (wm : WF 1 hm) (hL : L + 24 < 1000000) : Alk 117 227 [] n L hx hm := by
  obtain ⟨x, ex, y, ey, e, r1⟩ := op_back (N := 10000) r wx (by decide)
  exact al_mk (f117_l (d := 100) ex wx (by omega) (fun w => ⟨rfl, rfl, w⟩)) (f227_l (d := 100) ey wm (by omega) (fun w => ⟨rfl, rfl, w⟩)) e r1 (by omega)
theorem al_about (p1 : Int32) (r : Rl n L T hx hm) (wx : WF 0 hx) (wm : WF 1 hm) (hL : L + 24 < 1000000) : Alk 118 228 [.int p1] n L hx hm := by
  obtain ⟨x, ex, y, ey, e⟩ := op_about (N := 10000) p1 r
  exact al_mk (f118_l (d := 100) ex wx (by omega) ⟨rfl, rfl, wx⟩) (f228_l (d := 100) ey wm (by omega) ⟨rfl, rfl, wm⟩) e r (by omega)
end AL
