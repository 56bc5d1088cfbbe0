/-! THE LAW'S LOOP, printed by a program; the end of the model's constructor -/
theorem tl_298_18 {x3 : Int} {M : Mem} {Q : AV → Mem → Prop} (h : if wr32 ((M (-2000) (-1)) - 6) < wr32 x3 then (Q (vI 1) M) else ((0 ≤ x3 ∧ x3 < M (-2000) (-1)) ∧ inR (and32 (M (-2000) x3) 31) ∧ (if (and32 (M (-2000) x3) 31) = 0 then ((0 ≤ (x3 + 1) ∧ (x3 + 1) < M (-2000) (-1)) ∧ (0 ≤ (x3 + 2) ∧ (x3 + 2) < M (-2000) (-1)) ∧ (0 ≤ (x3 + 3) ∧ (x3 + 3) < M (-2000) (-1)) ∧ (0 ≤ (x3 + 4) ∧ (x3 + 4) < M (-2000) (-1)) ∧ (0 ≤ (x3 + 5) ∧ (x3 + 5) < M (-2000) (-1)) ∧ WI 144 [vR 1, vI (M (-2000) (x3 + 1)), vI (M (-2000) (x3 + 2)), vI (M (-2000) (x3 + 3)), vI (M (-2000) (x3 + 4)), vI (M (-2000) (x3 + 5))] M (fun y4 M3 => (0 ≤ (x3 + 1) ∧ (x3 + 1) < M3 (-2000) (-1)) ∧ (0 ≤ (x3 + 2) ∧ (x3 + 2) < M3 (-2000) (-1)) ∧ (0 ≤ (x3 + 3) ∧ (x3 + 3) < M3 (-2000) (-1)) ∧ (0 ≤ (x3 + 4) ∧ (x3 + 4) < M3 (-2000) (-1)) ∧ (0 ≤ (x3 + 5) ∧ (x3 + 5) < M3 (-2000) (-1)) ∧ WI 181 [vR 204, vI (M3 (-2000) (x3 + 1)), vI (M3 (-2000) (x3 + 2)), vI (M3 (-2000) (x3 + 3)), vI (M3 (-2000) (x3 + 4)), vI (M3 (-2000) (x3 + 5))] M3 (fun y6 M5 => if wr32 y4 = wr32 y6 then (WR 298 18 [some (vR (-2000)), some (vR 1), some (vR 204), some (vI (x3 + 6))] [] M5 Q) else (Q (vI 0) M5)))) else (if (and32 (M (-2000) x3) 31) = 1 then ((0 ≤ (x3 + 1) ∧ (x3 + 1) < M (-2000) (-1)) ∧ WI 145 [vR 1, vI (M (-2000) (x3 + 1))] M (fun y10 M9 => (0 ≤ (x3 + 1) ∧ (x3 + 1) < M9 (-2000) (-1)) ∧ WI 183 [vR 204, vI (M9 (-2000) (x3 + 1))] M9 (fun y12 M11 => if wr32 y10 = wr32 y12 then (WR 298 18 [some (vR (-2000)), some (vR 1), some (vR 204), some (vI (x3 + 6))] [] M11 Q) else (Q (vI 0) M11)))) else (if (and32 (M (-2000) x3) 31) = 2 then (WI 146 [vR 1] M (fun y16 M15 => WI 209 [vR 204] M15 (fun y18 M17 => if wr32 y16 = wr32 y18 then (WR 298 18 [some (vR (-2000)), some (vR 1), some (vR 204), some (vI (x3 + 6))] [] M17 Q) else (Q (vI 0) M17)))) else (if (and32 (M (-2000) x3) 31) = 3 then (WI 147 [vR 1] M (fun y22 M21 => WI 211 [vR 204] M21 (fun y24 M23 => if wr32 y22 = wr32 y24 then (WR 298 18 [some (vR (-2000)), some (vR 1), some (vR 204), some (vI (x3 + 6))] [] M23 Q) else (Q (vI 0) M23)))) else (if (and32 (M (-2000) x3) 31) = 4 then ((0 ≤ (x3 + 1) ∧ (x3 + 1) < M (-2000) (-1)) ∧ WI 148 [vR 1, vI (M (-2000) (x3 + 1))] M (fun y28 M27 => (0 ≤ (x3 + 1) ∧ (x3 + 1) < M27 (-2000) (-1)) ∧ WI 212 [vR 204, vI (M27 (-2000) (x3 + 1))] M27 (fun y30 M29 => if wr32 y28 = wr32 y30 then (WR 298 18 [some (vR (-2000)), some (vR 1), some (vR 204), some (vI (x3 + 6))] [] M29 Q) else (Q (vI 0) M29)))) else (if (and32 (M (-2000) x3) 31) = 5 then ((0 ≤ (x3 + 1) ∧ (x3 + 1) < M (-2000) (-1)) ∧ (0 ≤ (x3 + 2) ∧ (x3 + 2) < M (-2000) (-1)) ∧ WI 149 [vR 1, vI (M (-2000) (x3 + 1)), vI (M (-2000) (x3 + 2))] M (fun y34 M33 => (0 ≤ (x3 + 1) ∧ (x3 + 1) < M33 (-2000) (-1)) ∧ (0 ≤ (x3 + 2) ∧ (x3 + 2) < M33 (-2000) (-1)) ∧ WI 224 [vR 204, vI (M33 (-2000) (x3 + 1)), vI (M33 (-2000) (x3 + 2))] M33 (fun y36 M35 => if wr32 y34 = wr32 y36 then (WR 298 18 [some (vR (-2000)), some (vR 1), some (vR 204), some (vI (x3 + 6))] [] M35 Q) else (Q (vI 0) M35)))) else (if (and32 (M (-2000) x3) 31) = 6 then ((0 ≤ (x3 + 1) ∧ (x3 + 1) < M (-2000) (-1)) ∧ (0 ≤ (x3 + 2) ∧ (x3 + 2) < M (-2000) (-1)) ∧ (0 ≤ (x3 + 3) ∧ (x3 + 3) < M (-2000) (-1)) ∧ (0 ≤ (x3 + 4) ∧ (x3 + 4) < M (-2000) (-1)) ∧ WI 150 [vR 1, vI (M (-2000) (x3 + 1)), vI (M (-2000) (x3 + 2)), vI (M (-2000) (x3 + 3)), vI (M (-2000) (x3 + 4))] M (fun y40 M39 => (0 ≤ (x3 + 1) ∧ (x3 + 1) < M39 (-2000) (-1)) ∧ (0 ≤ (x3 + 2) ∧ (x3 + 2) < M39 (-2000) (-1)) ∧ (0 ≤ (x3 + 3) ∧ (x3 + 3) < M39 (-2000) (-1)) ∧ (0 ≤ (x3 + 4) ∧ (x3 + 4) < M39 (-2000) (-1)) ∧ WI 237 [vR 204, vI (M39 (-2000) (x3 + 1)), vI (M39 (-2000) (x3 + 2)), vI (M39 (-2000) (x3 + 3)), vI (M39 (-2000) (x3 + 4))] M39 (fun y42 M41 => if wr32 y40 = wr32 y42 then (WR 298 18 [some (vR (-2000)), some (vR 1), some (vR 204), some (vI (x3 + 6))] [] M41 Q) else (Q (vI 0) M41)))) else (if (and32 (M (-2000) x3) 31) = 7 then ((0 ≤ (x3 + 1) ∧ (x3 + 1) < M (-2000) (-1)) ∧ (0 ≤ (x3 + 2) ∧ (x3 + 2) < M (-2000) (-1)) ∧ WI 151 [vR 1, vI (M (-2000) (x3 + 1)), vI (M (-2000) (x3 + 2))] M (fun y46 M45 => (0 ≤ (x3 + 1) ∧ (x3 + 1) < M45 (-2000) (-1)) ∧ (0 ≤ (x3 + 2) ∧ (x3 + 2) < M45 (-2000) (-1)) ∧ WI 253 [vR 204, vI (M45 (-2000) (x3 + 1)), vI (M45 (-2000) (x3 + 2))] M45 (fun y48 M47 => if wr32 y46 = wr32 y48 then (WR 298 18 [some (vR (-2000)), some (vR 1), some (vR 204), some (vI (x3 + 6))] [] M47 Q) else (Q (vI 0) M47)))) else (if (and32 (M (-2000) x3) 31) = 8 then ((0 ≤ (x3 + 1) ∧ (x3 + 1) < M (-2000) (-1)) ∧ (0 ≤ (x3 + 2) ∧ (x3 + 2) < M (-2000) (-1)) ∧ WI 152 [vR 1, vI (M (-2000) (x3 + 1)), vI (M (-2000) (x3 + 2))] M (fun y52 M51 => (0 ≤ (x3 + 1) ∧ (x3 + 1) < M51 (-2000) (-1)) ∧ (0 ≤ (x3 + 2) ∧ (x3 + 2) < M51 (-2000) (-1)) ∧ WI 223 [vR 204, vI (M51 (-2000) (x3 + 1)), vI (M51 (-2000) (x3 + 2))] M51 (fun y54 M53 => if wr32 y52 = wr32 y54 then (WR 298 18 [some (vR (-2000)), some (vR 1), some (vR 204), some (vI (x3 + 6))] [] M53 Q) else (Q (vI 0) M53)))) else (if (and32 (M (-2000) x3) 31) = 9 then ((0 ≤ (x3 + 1) ∧ (x3 + 1) < M (-2000) (-1)) ∧ (0 ≤ (x3 + 2) ∧ (x3 + 2) < M (-2000) (-1)) ∧ (0 ≤ (x3 + 3) ∧ (x3 + 3) < M (-2000) (-1)) ∧ (0 ≤ (x3 + 4) ∧ (x3 + 4) < M (-2000) (-1)) ∧ WI 153 [vR 1, vI (M (-2000) (x3 + 1)), vI (M (-2000) (x3 + 2)), vI (M (-2000) (x3 + 3)), vI (M (-2000) (x3 + 4))] M (fun y58 M57 => (0 ≤ (x3 + 1) ∧ (x3 + 1) < M57 (-2000) (-1)) ∧ (0 ≤ (x3 + 2) ∧ (x3 + 2) < M57 (-2000) (-1)) ∧ (0 ≤ (x3 + 3) ∧ (x3 + 3) < M57 (-2000) (-1)) ∧ (0 ≤ (x3 + 4) ∧ (x3 + 4) < M57 (-2000) (-1)) ∧ WI 260 [vR 204, vI (M57 (-2000) (x3 + 1)), vI (M57 (-2000) (x3 + 2)), vI (M57 (-2000) (x3 + 3)), vI (M57 (-2000) (x3 + 4))] M57 (fun y60 M59 => if wr32 y58 = wr32 y60 then (WR 298 18 [some (vR (-2000)), some (vR 1), some (vR 204), some (vI (x3 + 6))] [] M59 Q) else (Q (vI 0) M59)))) else (if (and32 (M (-2000) x3) 31) = 10 then ((0 ≤ (x3 + 1) ∧ (x3 + 1) < M (-2000) (-1)) ∧ (0 ≤ (x3 + 2) ∧ (x3 + 2) < M (-2000) (-1)) ∧ (0 ≤ (x3 + 3) ∧ (x3 + 3) < M (-2000) (-1)) ∧ (0 ≤ (x3 + 4) ∧ (x3 + 4) < M (-2000) (-1)) ∧ WI 155 [vR 1, vI (M (-2000) (x3 + 1)), vL (or64 ((wr32 (M (-2000) (x3 + 2))) * 4294967296) (and64 (wr32 (M (-2000) (x3 + 3))) 4294967295)), vI (M (-2000) (x3 + 4))] M (fun y64 M63 => (0 ≤ (x3 + 1) ∧ (x3 + 1) < M63 (-2000) (-1)) ∧ (0 ≤ (x3 + 2) ∧ (x3 + 2) < M63 (-2000) (-1)) ∧ (0 ≤ (x3 + 3) ∧ (x3 + 3) < M63 (-2000) (-1)) ∧ (0 ≤ (x3 + 4) ∧ (x3 + 4) < M63 (-2000) (-1)) ∧ WI 256 [vR 204, vI (M63 (-2000) (x3 + 1)), vL (or64 ((wr32 (M63 (-2000) (x3 + 2))) * 4294967296) (and64 (wr32 (M63 (-2000) (x3 + 3))) 4294967295)), vI (M63 (-2000) (x3 + 4))] M63 (fun y66 M65 => if wr32 y64 = wr32 y66 then (WR 298 18 [some (vR (-2000)), some (vR 1), some (vR 204), some (vI (x3 + 6))] [] M65 Q) else (Q (vI 0) M65)))) else (if (and32 (M (-2000) x3) 31) = 11 then ((0 ≤ (x3 + 1) ∧ (x3 + 1) < M (-2000) (-1)) ∧ (0 ≤ (x3 + 2) ∧ (x3 + 2) < M (-2000) (-1)) ∧ WI 156 [vR 1, vI (M (-2000) (x3 + 1)), vI (M (-2000) (x3 + 2))] M (fun y70 M69 => (0 ≤ (x3 + 1) ∧ (x3 + 1) < M69 (-2000) (-1)) ∧ (0 ≤ (x3 + 2) ∧ (x3 + 2) < M69 (-2000) (-1)) ∧ WI 255 [vR 204, vI (M69 (-2000) (x3 + 1)), vI (M69 (-2000) (x3 + 2))] M69 (fun y72 M71 => if wr32 y70 = wr32 y72 then (WR 298 18 [some (vR (-2000)), some (vR 1), some (vR 204), some (vI (x3 + 6))] [] M71 Q) else (Q (vI 0) M71)))) else (if (and32 (M (-2000) x3) 31) = 12 then ((0 ≤ (x3 + 1) ∧ (x3 + 1) < M (-2000) (-1)) ∧ (0 ≤ (x3 + 2) ∧ (x3 + 2) < M (-2000) (-1)) ∧ WI 157 [vR 1, vI (M (-2000) (x3 + 1)), vI (M (-2000) (x3 + 2))] M (fun y76 M75 => (0 ≤ (x3 + 1) ∧ (x3 + 1) < M75 (-2000) (-1)) ∧ (0 ≤ (x3 + 2) ∧ (x3 + 2) < M75 (-2000) (-1)) ∧ WI 262 [vR 204, vI (M75 (-2000) (x3 + 1)), vI (M75 (-2000) (x3 + 2))] M75 (fun y78 M77 => if wr32 y76 = wr32 y78 then (WR 298 18 [some (vR (-2000)), some (vR 1), some (vR 204), some (vI (x3 + 6))] [] M77 Q) else (Q (vI 0) M77)))) else (if (and32 (M (-2000) x3) 31) = 13 then ((0 ≤ (x3 + 1) ∧ (x3 + 1) < M (-2000) (-1)) ∧ (0 ≤ (x3 + 2) ∧ (x3 + 2) < M (-2000) (-1)) ∧ WI 158 [vR 1, vI (M (-2000) (x3 + 1)), vI (M (-2000) (x3 + 2))] M (fun y82 M81 => (0 ≤ (x3 + 1) ∧ (x3 + 1) < M81 (-2000) (-1)) ∧ (0 ≤ (x3 + 2) ∧ (x3 + 2) < M81 (-2000) (-1)) ∧ WI 266 [vR 204, vI (M81 (-2000) (x3 + 1)), vI (M81 (-2000) (x3 + 2))] M81 (fun y84 M83 => if wr32 y82 = wr32 y84 then (WR 298 18 [some (vR (-2000)), some (vR 1), some (vR 204), some (vI (x3 + 6))] [] M83 Q) else (Q (vI 0) M83)))) else (if (and32 (M (-2000) x3) 31) = 14 then ((0 ≤ (x3 + 1) ∧ (x3 + 1) < M (-2000) (-1)) ∧ (0 ≤ (x3 + 2) ∧ (x3 + 2) < M (-2000) (-1)) ∧ WI 159 [vR 1, vI (M (-2000) (x3 + 1)), vI (M (-2000) (x3 + 2))] M (fun y88 M87 => (0 ≤ (x3 + 1) ∧ (x3 + 1) < M87 (-2000) (-1)) ∧ (0 ≤ (x3 + 2) ∧ (x3 + 2) < M87 (-2000) (-1)) ∧ WI 269 [vR 204, vI (M87 (-2000) (x3 + 1)), vI (M87 (-2000) (x3 + 2))] M87 (fun y90 M89 => if wr32 y88 = wr32 y90 then (WR 298 18 [some (vR (-2000)), some (vR 1), some (vR 204), some (vI (x3 + 6))] [] M89 Q) else (Q (vI 0) M89)))) else (if (and32 (M (-2000) x3) 31) = 15 then ((0 ≤ (x3 + 1) ∧ (x3 + 1) < M (-2000) (-1)) ∧ WI 160 [vR 1, vI (M (-2000) (x3 + 1))] M (fun y94 M93 => (0 ≤ (x3 + 1) ∧ (x3 + 1) < M93 (-2000) (-1)) ∧ WI 270 [vR 204, vI (M93 (-2000) (x3 + 1))] M93 (fun y96 M95 => if wr32 y94 = wr32 y96 then (WR 298 18 [some (vR (-2000)), some (vR 1), some (vR 204), some (vI (x3 + 6))] [] M95 Q) else (Q (vI 0) M95)))) else (if (and32 (M (-2000) x3) 31) = 16 then ((0 ≤ (x3 + 1) ∧ (x3 + 1) < M (-2000) (-1)) ∧ WI 161 [vR 1, vI (M (-2000) (x3 + 1))] M (fun y100 M99 => (0 ≤ (x3 + 1) ∧ (x3 + 1) < M99 (-2000) (-1)) ∧ WI 273 [vR 204, vI (M99 (-2000) (x3 + 1))] M99 (fun y102 M101 => if wr32 y100 = wr32 y102 then (WR 298 18 [some (vR (-2000)), some (vR 1), some (vR 204), some (vI (x3 + 6))] [] M101 Q) else (Q (vI 0) M101)))) else (if (and32 (M (-2000) x3) 31) = 17 then ((0 ≤ (x3 + 1) ∧ (x3 + 1) < M (-2000) (-1)) ∧ WI 162 [vR 1, vI (M (-2000) (x3 + 1))] M (fun y106 M105 => (0 ≤ (x3 + 1) ∧ (x3 + 1) < M105 (-2000) (-1)) ∧ WI 254 [vR 204, vI (M105 (-2000) (x3 + 1))] M105 (fun y108 M107 => if wr32 y106 = wr32 y108 then (WR 298 18 [some (vR (-2000)), some (vR 1), some (vR 204), some (vI (x3 + 6))] [] M107 Q) else (Q (vI 0) M107)))) else (if (and32 (M (-2000) x3) 31) = 18 then ((0 ≤ (x3 + 1) ∧ (x3 + 1) < M (-2000) (-1)) ∧ WI 163 [vR 1, vI (M (-2000) (x3 + 1))] M (fun y112 M111 => (0 ≤ (x3 + 1) ∧ (x3 + 1) < M111 (-2000) (-1)) ∧ WI 258 [vR 204, vI (M111 (-2000) (x3 + 1))] M111 (fun y114 M113 => if wr32 y112 = wr32 y114 then (WR 298 18 [some (vR (-2000)), some (vR 1), some (vR 204), some (vI (x3 + 6))] [] M113 Q) else (Q (vI 0) M113)))) else (if (and32 (M (-2000) x3) 31) = 19 then ((0 ≤ (x3 + 1) ∧ (x3 + 1) < M (-2000) (-1)) ∧ WI 164 [vR 1, vI (M (-2000) (x3 + 1))] M (fun y118 M117 => (0 ≤ (x3 + 1) ∧ (x3 + 1) < M117 (-2000) (-1)) ∧ WI 261 [vR 204, vI (M117 (-2000) (x3 + 1))] M117 (fun y120 M119 => if wr32 y118 = wr32 y120 then (WR 298 18 [some (vR (-2000)), some (vR 1), some (vR 204), some (vI (x3 + 6))] [] M119 Q) else (Q (vI 0) M119)))) else (if (and32 (M (-2000) x3) 31) = 20 then ((0 ≤ (x3 + 1) ∧ (x3 + 1) < M (-2000) (-1)) ∧ (0 ≤ (x3 + 2) ∧ (x3 + 2) < M (-2000) (-1)) ∧ WI 165 [vR 1, vI (M (-2000) (x3 + 1)), vI (M (-2000) (x3 + 2))] M (fun y124 M123 => (0 ≤ (x3 + 1) ∧ (x3 + 1) < M123 (-2000) (-1)) ∧ (0 ≤ (x3 + 2) ∧ (x3 + 2) < M123 (-2000) (-1)) ∧ WI 276 [vR 204, vI (M123 (-2000) (x3 + 1)), vI (M123 (-2000) (x3 + 2))] M123 (fun y126 M125 => if wr32 y124 = wr32 y126 then (WR 298 18 [some (vR (-2000)), some (vR 1), some (vR 204), some (vI (x3 + 6))] [] M125 Q) else (Q (vI 0) M125)))) else (if (and32 (M (-2000) x3) 31) = 21 then ((0 ≤ (x3 + 1) ∧ (x3 + 1) < M (-2000) (-1)) ∧ WI 166 [vR 1, vI (M (-2000) (x3 + 1))] M (fun y130 M129 => (0 ≤ (x3 + 1) ∧ (x3 + 1) < M129 (-2000) (-1)) ∧ WI 277 [vR 204, vI (M129 (-2000) (x3 + 1))] M129 (fun y132 M131 => if wr32 y130 = wr32 y132 then (WR 298 18 [some (vR (-2000)), some (vR 1), some (vR 204), some (vI (x3 + 6))] [] M131 Q) else (Q (vI 0) M131)))) else (if (and32 (M (-2000) x3) 31) = 22 then ((0 ≤ (x3 + 1) ∧ (x3 + 1) < M (-2000) (-1)) ∧ WI 167 [vR 1, vI (M (-2000) (x3 + 1))] M (fun y136 M135 => (0 ≤ (x3 + 1) ∧ (x3 + 1) < M135 (-2000) (-1)) ∧ WI 281 [vR 204, vI (M135 (-2000) (x3 + 1))] M135 (fun y138 M137 => if wr32 y136 = wr32 y138 then (WR 298 18 [some (vR (-2000)), some (vR 1), some (vR 204), some (vI (x3 + 6))] [] M137 Q) else (Q (vI 0) M137)))) else (if (and32 (M (-2000) x3) 31) = 23 then ((0 ≤ (x3 + 1) ∧ (x3 + 1) < M (-2000) (-1)) ∧ (0 ≤ (x3 + 2) ∧ (x3 + 2) < M (-2000) (-1)) ∧ (0 ≤ (x3 + 3) ∧ (x3 + 3) < M (-2000) (-1)) ∧ WI 168 [vR 1, vI (M (-2000) (x3 + 1)), vI (M (-2000) (x3 + 2)), vI (M (-2000) (x3 + 3))] M (fun y142 M141 => (0 ≤ (x3 + 1) ∧ (x3 + 1) < M141 (-2000) (-1)) ∧ (0 ≤ (x3 + 2) ∧ (x3 + 2) < M141 (-2000) (-1)) ∧ (0 ≤ (x3 + 3) ∧ (x3 + 3) < M141 (-2000) (-1)) ∧ WI 286 [vR 204, vI (M141 (-2000) (x3 + 1)), vI (M141 (-2000) (x3 + 2)), vI (M141 (-2000) (x3 + 3))] M141 (fun y144 M143 => if wr32 y142 = wr32 y144 then (WR 298 18 [some (vR (-2000)), some (vR 1), some (vR 204), some (vI (x3 + 6))] [] M143 Q) else (Q (vI 0) M143)))) else (if (and32 (M (-2000) x3) 31) = 24 then ((0 ≤ (x3 + 1) ∧ (x3 + 1) < M (-2000) (-1)) ∧ (0 ≤ (x3 + 2) ∧ (x3 + 2) < M (-2000) (-1)) ∧ (0 ≤ (x3 + 3) ∧ (x3 + 3) < M (-2000) (-1)) ∧ WI 169 [vR 1, vI (M (-2000) (x3 + 1)), vI (M (-2000) (x3 + 2)), vI (M (-2000) (x3 + 3))] M (fun y148 M147 => (0 ≤ (x3 + 1) ∧ (x3 + 1) < M147 (-2000) (-1)) ∧ (0 ≤ (x3 + 2) ∧ (x3 + 2) < M147 (-2000) (-1)) ∧ (0 ≤ (x3 + 3) ∧ (x3 + 3) < M147 (-2000) (-1)) ∧ WI 289 [vR 204, vI (M147 (-2000) (x3 + 1)), vI (M147 (-2000) (x3 + 2)), vI (M147 (-2000) (x3 + 3))] M147 (fun y150 M149 => if wr32 y148 = wr32 y150 then (WR 298 18 [some (vR (-2000)), some (vR 1), some (vR 204), some (vI (x3 + 6))] [] M149 Q) else (Q (vI 0) M149)))) else (if (and32 (M (-2000) x3) 31) = 25 then ((0 ≤ (x3 + 1) ∧ (x3 + 1) < M (-2000) (-1)) ∧ WI 170 [vR 1, vI (M (-2000) (x3 + 1))] M (fun y154 M153 => (0 ≤ (x3 + 1) ∧ (x3 + 1) < M153 (-2000) (-1)) ∧ WI 215 [vR 204, vI (M153 (-2000) (x3 + 1))] M153 (fun y156 M155 => if wr32 y154 = wr32 y156 then (WR 298 18 [some (vR (-2000)), some (vR 1), some (vR 204), some (vI (x3 + 6))] [] M155 Q) else (Q (vI 0) M155)))) else (if (and32 (M (-2000) x3) 31) = 26 then ((0 ≤ (x3 + 1) ∧ (x3 + 1) < M (-2000) (-1)) ∧ WI 171 [vR 1, vI (M (-2000) (x3 + 1))] M (fun y160 M159 => (0 ≤ (x3 + 1) ∧ (x3 + 1) < M159 (-2000) (-1)) ∧ WI 216 [vR 204, vI (M159 (-2000) (x3 + 1))] M159 (fun y162 M161 => if wr32 y160 = wr32 y162 then (WR 298 18 [some (vR (-2000)), some (vR 1), some (vR 204), some (vI (x3 + 6))] [] M161 Q) else (Q (vI 0) M161)))) else (if (and32 (M (-2000) x3) 31) = 27 then ((0 ≤ (x3 + 1) ∧ (x3 + 1) < M (-2000) (-1)) ∧ (0 ≤ (x3 + 2) ∧ (x3 + 2) < M (-2000) (-1)) ∧ WI 172 [vR 1, vI (M (-2000) (x3 + 1)), vI (M (-2000) (x3 + 2))] M (fun y166 M165 => (0 ≤ (x3 + 1) ∧ (x3 + 1) < M165 (-2000) (-1)) ∧ (0 ≤ (x3 + 2) ∧ (x3 + 2) < M165 (-2000) (-1)) ∧ WI 217 [vR 204, vI (M165 (-2000) (x3 + 1)), vI (M165 (-2000) (x3 + 2))] M165 (fun y168 M167 => if wr32 y166 = wr32 y168 then (WR 298 18 [some (vR (-2000)), some (vR 1), some (vR 204), some (vI (x3 + 6))] [] M167 Q) else (Q (vI 0) M167)))) else (if (and32 (M (-2000) x3) 31) = 28 then (WI 173 [vR 1] M (fun y172 M171 => WI 214 [vR 204] M171 (fun y174 M173 => if wr32 y172 = wr32 y174 then (WR 298 18 [some (vR (-2000)), some (vR 1), some (vR 204), some (vI (x3 + 6))] [] M173 Q) else (Q (vI 0) M173)))) else (if (and32 (M (-2000) x3) 31) = 29 then ((0 ≤ (x3 + 1) ∧ (x3 + 1) < M (-2000) (-1)) ∧ WI 174 [vR 1, vI (M (-2000) (x3 + 1))] M (fun y178 M177 => (0 ≤ (x3 + 1) ∧ (x3 + 1) < M177 (-2000) (-1)) ∧ WI 290 [vR 204, vI (M177 (-2000) (x3 + 1))] M177 (fun y180 M179 => if wr32 y178 = wr32 y180 then (WR 298 18 [some (vR (-2000)), some (vR 1), some (vR 204), some (vI (x3 + 6))] [] M179 Q) else (Q (vI 0) M179)))) else (WR 298 18 [some (vR (-2000)), some (vR 1), some (vR 204), some (vI (x3 + 6))] [] M Q))))))))))))))))))))))))))))))))) : WR 298 18 [some (vR (-2000)), some (vR 1), some (vR 204), some (vI x3)] [] M Q := by
  refine g_5 (a := 3) (b := 0) (nx := 19) (by decide +kernel) rfl ?_
  refine g_7 (a := 0) (b := 0) (nx := 20) (by decide +kernel) rfl ?_
  refine g_60p (a := 0) (b := 0) (nx := 21) (by decide +kernel) ?_
  refine g_1 (a := 6) (b := 0) (nx := 23) (by decide +kernel) ?_
  refine g_16 (a := 0) (b := 0) (nx := 24) (by decide +kernel) ?_
  by_cases c182 : wr32 ((M (-2000) (-1)) - 6) < wr32 x3
  · rw [if_pos c182] at h
    refine g_41t (a := 4) (b := 1114) (nx := 27) (by decide +kernel) (by exact (cb_4 _ _).mpr c182) ?_
    refine g_1 (a := 1) (b := 0) (nx := 1115) (by decide +kernel) ?_
    exact g_91z (b := 0) (nx := 1116) (by decide +kernel) (by decide) h
  · rw [if_neg c182] at h
    refine g_41f (a := 4) (b := 1114) (nx := 27) (by decide +kernel) (by exact fun hz => c182 ((cb_4 _ _).mp hz)) ?_
    refine g_7 (a := 0) (b := 0) (nx := 28) (by decide +kernel) rfl ?_
    refine g_5 (a := 3) (b := 0) (nx := 29) (by decide +kernel) rfl ?_
    refine g_61p (a := 0) (b := 0) (nx := 30) (by decide +kernel) h.1 ?_
    replace h := h.2
    refine g_1 (a := 31) (b := 0) (nx := 32) (by decide +kernel) ?_
    refine g_20 (a := 0) (b := 0) (nx := 33) (by decide +kernel) ?_
    obtain ⟨r1, h⟩ := h
    by_cases c2 : (and32 (M (-2000) x3) 31) = 0
    · rw [if_pos c2] at h
      refine g_45 (a := 0) (b := 1108) (nx := 168) (by decide +kernel) r1 (t := 168) (by rw [(show sws LAWN 33 = [(0, 168), (1, 231), (2, 254), (3, 267), (4, 280), (5, 303), (6, 336), (7, 389), (8, 422), (9, 455), (10, 508), (11, 581), (12, 614), (13, 647), (14, 680), (15, 713), (16, 736), (17, 759), (18, 782), (19, 805), (20, 828), (21, 861), (22, 884), (23, 907), (24, 950), (25, 993), (26, 1016), (27, 1039), (28, 1072), (29, 1085)] from by decide +kernel)]; simp only [swL]; simp [c2]) ?_
      refine g_7 (a := 1) (b := 0) (nx := 169) (by decide +kernel) rfl ?_
      refine g_7 (a := 0) (b := 0) (nx := 170) (by decide +kernel) rfl ?_
      refine g_5 (a := 3) (b := 0) (nx := 171) (by decide +kernel) rfl ?_
      refine g_1 (a := 1) (b := 0) (nx := 172) (by decide +kernel) ?_
      refine g_15 (a := 0) (b := 0) (nx := 173) (by decide +kernel) ?_
      refine g_61p (a := 0) (b := 0) (nx := 174) (by decide +kernel) h.1 ?_
      replace h := h.2
      refine g_7 (a := 0) (b := 0) (nx := 175) (by decide +kernel) rfl ?_
      refine g_5 (a := 3) (b := 0) (nx := 176) (by decide +kernel) rfl ?_
      refine g_1 (a := 2) (b := 0) (nx := 177) (by decide +kernel) ?_
      refine g_15 (a := 0) (b := 0) (nx := 178) (by decide +kernel) ?_
      refine g_61p (a := 0) (b := 0) (nx := 179) (by decide +kernel) h.1 ?_
      replace h := h.2
      refine g_7 (a := 0) (b := 0) (nx := 180) (by decide +kernel) rfl ?_
      refine g_5 (a := 3) (b := 0) (nx := 181) (by decide +kernel) rfl ?_
      refine g_1 (a := 3) (b := 0) (nx := 182) (by decide +kernel) ?_
      refine g_15 (a := 0) (b := 0) (nx := 183) (by decide +kernel) ?_
      refine g_61p (a := 0) (b := 0) (nx := 184) (by decide +kernel) h.1 ?_
      replace h := h.2
      refine g_7 (a := 0) (b := 0) (nx := 185) (by decide +kernel) rfl ?_
      refine g_5 (a := 3) (b := 0) (nx := 186) (by decide +kernel) rfl ?_
      refine g_1 (a := 4) (b := 0) (nx := 187) (by decide +kernel) ?_
      refine g_15 (a := 0) (b := 0) (nx := 188) (by decide +kernel) ?_
      refine g_61p (a := 0) (b := 0) (nx := 189) (by decide +kernel) h.1 ?_
      replace h := h.2
      refine g_7 (a := 0) (b := 0) (nx := 190) (by decide +kernel) rfl ?_
      refine g_5 (a := 3) (b := 0) (nx := 191) (by decide +kernel) rfl ?_
      refine g_1 (a := 5) (b := 0) (nx := 192) (by decide +kernel) ?_
      refine g_15 (a := 0) (b := 0) (nx := 193) (by decide +kernel) ?_
      refine g_61p (a := 0) (b := 0) (nx := 194) (by decide +kernel) h.1 ?_
      replace h := h.2
      refine g_80 (a := 144) (b := 5) (nx := 197) (by decide +kernel) (r := 1) (As := [vI (M (-2000) (x3 + 1)), vI (M (-2000) (x3 + 2)), vI (M (-2000) (x3 + 3)), vI (M (-2000) (x3 + 4)), vI (M (-2000) (x3 + 5))]) (st' := []) (z := 144) rfl rfl rfl (Nat.le_of_ble_eq_true rfl) (show (shA SH 1).1 = 11 by decide +kernel) (Nat.le_of_ble_eq_true rfl) rfl (c_I (by decide +kernel) h (fun y4 M3 h => ?_))
      refine g_7 (a := 2) (b := 0) (nx := 198) (by decide +kernel) rfl ?_
      refine g_7 (a := 0) (b := 0) (nx := 199) (by decide +kernel) rfl ?_
      refine g_5 (a := 3) (b := 0) (nx := 200) (by decide +kernel) rfl ?_
      refine g_1 (a := 1) (b := 0) (nx := 201) (by decide +kernel) ?_
      refine g_15 (a := 0) (b := 0) (nx := 202) (by decide +kernel) ?_
      refine g_61p (a := 0) (b := 0) (nx := 203) (by decide +kernel) h.1 ?_
      replace h := h.2
      refine g_7 (a := 0) (b := 0) (nx := 204) (by decide +kernel) rfl ?_
      refine g_5 (a := 3) (b := 0) (nx := 205) (by decide +kernel) rfl ?_
      refine g_1 (a := 2) (b := 0) (nx := 206) (by decide +kernel) ?_
      refine g_15 (a := 0) (b := 0) (nx := 207) (by decide +kernel) ?_
      refine g_61p (a := 0) (b := 0) (nx := 208) (by decide +kernel) h.1 ?_
      replace h := h.2
      refine g_7 (a := 0) (b := 0) (nx := 209) (by decide +kernel) rfl ?_
      refine g_5 (a := 3) (b := 0) (nx := 210) (by decide +kernel) rfl ?_
      refine g_1 (a := 3) (b := 0) (nx := 211) (by decide +kernel) ?_
      refine g_15 (a := 0) (b := 0) (nx := 212) (by decide +kernel) ?_
      refine g_61p (a := 0) (b := 0) (nx := 213) (by decide +kernel) h.1 ?_
      replace h := h.2
      refine g_7 (a := 0) (b := 0) (nx := 214) (by decide +kernel) rfl ?_
      refine g_5 (a := 3) (b := 0) (nx := 215) (by decide +kernel) rfl ?_
      refine g_1 (a := 4) (b := 0) (nx := 216) (by decide +kernel) ?_
      refine g_15 (a := 0) (b := 0) (nx := 217) (by decide +kernel) ?_
      refine g_61p (a := 0) (b := 0) (nx := 218) (by decide +kernel) h.1 ?_
      replace h := h.2
      refine g_7 (a := 0) (b := 0) (nx := 219) (by decide +kernel) rfl ?_
      refine g_5 (a := 3) (b := 0) (nx := 220) (by decide +kernel) rfl ?_
      refine g_1 (a := 5) (b := 0) (nx := 221) (by decide +kernel) ?_
      refine g_15 (a := 0) (b := 0) (nx := 222) (by decide +kernel) ?_
      refine g_61p (a := 0) (b := 0) (nx := 223) (by decide +kernel) h.1 ?_
      replace h := h.2
      refine g_80 (a := 181) (b := 5) (nx := 226) (by decide +kernel) (r := 204) (As := [vI (M3 (-2000) (x3 + 1)), vI (M3 (-2000) (x3 + 2)), vI (M3 (-2000) (x3 + 3)), vI (M3 (-2000) (x3 + 4)), vI (M3 (-2000) (x3 + 5))]) (st' := [vI y4]) (z := 181) rfl rfl rfl (Nat.le_of_ble_eq_true rfl) (show (shA SH 204).1 = 12 by decide +kernel) (Nat.le_of_ble_eq_true rfl) rfl (c_I (by decide +kernel) h (fun y6 M5 h => ?_))
      by_cases c7 : wr32 y4 = wr32 y6
      · rw [if_pos c7] at h
        refine g_41t (a := 0) (b := 1108) (nx := 229) (by decide +kernel) (by exact (cb_0 _ _).mpr c7) ?_
        refine g_11 (a := 3) (b := 6) (nx := 1111) (by decide +kernel) rfl rfl (ls' := [some (vR (-2000)), some (vR 1), some (vR 204), some (vI (x3 + 6))]) rfl ?_
        refine g_44 (a := 0) (b := 18) (nx := 1114) (by decide +kernel) ?_
        exact h
      · rw [if_neg c7] at h
        refine g_41f (a := 0) (b := 1108) (nx := 229) (by decide +kernel) (by exact fun hz => c7 ((cb_0 _ _).mp hz)) ?_
        refine g_1 (a := 0) (b := 0) (nx := 230) (by decide +kernel) ?_
        exact g_91z (b := 0) (nx := 231) (by decide +kernel) (by decide) h
    · rw [if_neg c2] at h
      by_cases c8 : (and32 (M (-2000) x3) 31) = 1
      · rw [if_pos c8] at h
        refine g_45 (a := 0) (b := 1108) (nx := 168) (by decide +kernel) r1 (t := 231) (by rw [(show sws LAWN 33 = [(0, 168), (1, 231), (2, 254), (3, 267), (4, 280), (5, 303), (6, 336), (7, 389), (8, 422), (9, 455), (10, 508), (11, 581), (12, 614), (13, 647), (14, 680), (15, 713), (16, 736), (17, 759), (18, 782), (19, 805), (20, 828), (21, 861), (22, 884), (23, 907), (24, 950), (25, 993), (26, 1016), (27, 1039), (28, 1072), (29, 1085)] from by decide +kernel)]; simp only [swL]; simp [c8]) ?_
        refine g_7 (a := 1) (b := 0) (nx := 232) (by decide +kernel) rfl ?_
        refine g_7 (a := 0) (b := 0) (nx := 233) (by decide +kernel) rfl ?_
        refine g_5 (a := 3) (b := 0) (nx := 234) (by decide +kernel) rfl ?_
        refine g_1 (a := 1) (b := 0) (nx := 235) (by decide +kernel) ?_
        refine g_15 (a := 0) (b := 0) (nx := 236) (by decide +kernel) ?_
        refine g_61p (a := 0) (b := 0) (nx := 237) (by decide +kernel) h.1 ?_
        replace h := h.2
        refine g_80 (a := 145) (b := 1) (nx := 240) (by decide +kernel) (r := 1) (As := [vI (M (-2000) (x3 + 1))]) (st' := []) (z := 145) rfl rfl rfl (Nat.le_of_ble_eq_true rfl) (show (shA SH 1).1 = 11 by decide +kernel) (Nat.le_of_ble_eq_true rfl) rfl (c_I (by decide +kernel) h (fun y10 M9 h => ?_))
        refine g_7 (a := 2) (b := 0) (nx := 241) (by decide +kernel) rfl ?_
        refine g_7 (a := 0) (b := 0) (nx := 242) (by decide +kernel) rfl ?_
        refine g_5 (a := 3) (b := 0) (nx := 243) (by decide +kernel) rfl ?_
        refine g_1 (a := 1) (b := 0) (nx := 244) (by decide +kernel) ?_
        refine g_15 (a := 0) (b := 0) (nx := 245) (by decide +kernel) ?_
        refine g_61p (a := 0) (b := 0) (nx := 246) (by decide +kernel) h.1 ?_
        replace h := h.2
        refine g_80 (a := 183) (b := 1) (nx := 249) (by decide +kernel) (r := 204) (As := [vI (M9 (-2000) (x3 + 1))]) (st' := [vI y10]) (z := 183) rfl rfl rfl (Nat.le_of_ble_eq_true rfl) (show (shA SH 204).1 = 12 by decide +kernel) (Nat.le_of_ble_eq_true rfl) rfl (c_I (by decide +kernel) h (fun y12 M11 h => ?_))
        by_cases c13 : wr32 y10 = wr32 y12
        · rw [if_pos c13] at h
          refine g_41t (a := 0) (b := 1108) (nx := 252) (by decide +kernel) (by exact (cb_0 _ _).mpr c13) ?_
          refine g_11 (a := 3) (b := 6) (nx := 1111) (by decide +kernel) rfl rfl (ls' := [some (vR (-2000)), some (vR 1), some (vR 204), some (vI (x3 + 6))]) rfl ?_
          refine g_44 (a := 0) (b := 18) (nx := 1114) (by decide +kernel) ?_
          exact h
        · rw [if_neg c13] at h
          refine g_41f (a := 0) (b := 1108) (nx := 252) (by decide +kernel) (by exact fun hz => c13 ((cb_0 _ _).mp hz)) ?_
          refine g_1 (a := 0) (b := 0) (nx := 253) (by decide +kernel) ?_
          exact g_91z (b := 0) (nx := 254) (by decide +kernel) (by decide) h
      · rw [if_neg c8] at h
        by_cases c14 : (and32 (M (-2000) x3) 31) = 2
        · rw [if_pos c14] at h
          refine g_45 (a := 0) (b := 1108) (nx := 168) (by decide +kernel) r1 (t := 254) (by rw [(show sws LAWN 33 = [(0, 168), (1, 231), (2, 254), (3, 267), (4, 280), (5, 303), (6, 336), (7, 389), (8, 422), (9, 455), (10, 508), (11, 581), (12, 614), (13, 647), (14, 680), (15, 713), (16, 736), (17, 759), (18, 782), (19, 805), (20, 828), (21, 861), (22, 884), (23, 907), (24, 950), (25, 993), (26, 1016), (27, 1039), (28, 1072), (29, 1085)] from by decide +kernel)]; simp only [swL]; simp [c14]) ?_
          refine g_7 (a := 1) (b := 0) (nx := 255) (by decide +kernel) rfl ?_
          refine g_80 (a := 146) (b := 0) (nx := 258) (by decide +kernel) (r := 1) (As := []) (st' := []) (z := 146) rfl rfl rfl (Nat.le_of_ble_eq_true rfl) (show (shA SH 1).1 = 11 by decide +kernel) (Nat.le_of_ble_eq_true rfl) rfl (c_I (by decide +kernel) h (fun y16 M15 h => ?_))
          refine g_7 (a := 2) (b := 0) (nx := 259) (by decide +kernel) rfl ?_
          refine g_80 (a := 209) (b := 0) (nx := 262) (by decide +kernel) (r := 204) (As := []) (st' := [vI y16]) (z := 209) rfl rfl rfl (Nat.le_of_ble_eq_true rfl) (show (shA SH 204).1 = 12 by decide +kernel) (Nat.le_of_ble_eq_true rfl) rfl (c_I (by decide +kernel) h (fun y18 M17 h => ?_))
          by_cases c19 : wr32 y16 = wr32 y18
          · rw [if_pos c19] at h
            refine g_41t (a := 0) (b := 1108) (nx := 265) (by decide +kernel) (by exact (cb_0 _ _).mpr c19) ?_
            refine g_11 (a := 3) (b := 6) (nx := 1111) (by decide +kernel) rfl rfl (ls' := [some (vR (-2000)), some (vR 1), some (vR 204), some (vI (x3 + 6))]) rfl ?_
            refine g_44 (a := 0) (b := 18) (nx := 1114) (by decide +kernel) ?_
            exact h
          · rw [if_neg c19] at h
            refine g_41f (a := 0) (b := 1108) (nx := 265) (by decide +kernel) (by exact fun hz => c19 ((cb_0 _ _).mp hz)) ?_
            refine g_1 (a := 0) (b := 0) (nx := 266) (by decide +kernel) ?_
            exact g_91z (b := 0) (nx := 267) (by decide +kernel) (by decide) h
        · rw [if_neg c14] at h
          by_cases c20 : (and32 (M (-2000) x3) 31) = 3
          · rw [if_pos c20] at h
            refine g_45 (a := 0) (b := 1108) (nx := 168) (by decide +kernel) r1 (t := 267) (by rw [(show sws LAWN 33 = [(0, 168), (1, 231), (2, 254), (3, 267), (4, 280), (5, 303), (6, 336), (7, 389), (8, 422), (9, 455), (10, 508), (11, 581), (12, 614), (13, 647), (14, 680), (15, 713), (16, 736), (17, 759), (18, 782), (19, 805), (20, 828), (21, 861), (22, 884), (23, 907), (24, 950), (25, 993), (26, 1016), (27, 1039), (28, 1072), (29, 1085)] from by decide +kernel)]; simp only [swL]; simp [c20]) ?_
            refine g_7 (a := 1) (b := 0) (nx := 268) (by decide +kernel) rfl ?_
            refine g_80 (a := 147) (b := 0) (nx := 271) (by decide +kernel) (r := 1) (As := []) (st' := []) (z := 147) rfl rfl rfl (Nat.le_of_ble_eq_true rfl) (show (shA SH 1).1 = 11 by decide +kernel) (Nat.le_of_ble_eq_true rfl) rfl (c_I (by decide +kernel) h (fun y22 M21 h => ?_))
            refine g_7 (a := 2) (b := 0) (nx := 272) (by decide +kernel) rfl ?_
            refine g_80 (a := 211) (b := 0) (nx := 275) (by decide +kernel) (r := 204) (As := []) (st' := [vI y22]) (z := 211) rfl rfl rfl (Nat.le_of_ble_eq_true rfl) (show (shA SH 204).1 = 12 by decide +kernel) (Nat.le_of_ble_eq_true rfl) rfl (c_I (by decide +kernel) h (fun y24 M23 h => ?_))
            by_cases c25 : wr32 y22 = wr32 y24
            · rw [if_pos c25] at h
              refine g_41t (a := 0) (b := 1108) (nx := 278) (by decide +kernel) (by exact (cb_0 _ _).mpr c25) ?_
              refine g_11 (a := 3) (b := 6) (nx := 1111) (by decide +kernel) rfl rfl (ls' := [some (vR (-2000)), some (vR 1), some (vR 204), some (vI (x3 + 6))]) rfl ?_
              refine g_44 (a := 0) (b := 18) (nx := 1114) (by decide +kernel) ?_
              exact h
            · rw [if_neg c25] at h
              refine g_41f (a := 0) (b := 1108) (nx := 278) (by decide +kernel) (by exact fun hz => c25 ((cb_0 _ _).mp hz)) ?_
              refine g_1 (a := 0) (b := 0) (nx := 279) (by decide +kernel) ?_
              exact g_91z (b := 0) (nx := 280) (by decide +kernel) (by decide) h
          · rw [if_neg c20] at h
            by_cases c26 : (and32 (M (-2000) x3) 31) = 4
            · rw [if_pos c26] at h
              refine g_45 (a := 0) (b := 1108) (nx := 168) (by decide +kernel) r1 (t := 280) (by rw [(show sws LAWN 33 = [(0, 168), (1, 231), (2, 254), (3, 267), (4, 280), (5, 303), (6, 336), (7, 389), (8, 422), (9, 455), (10, 508), (11, 581), (12, 614), (13, 647), (14, 680), (15, 713), (16, 736), (17, 759), (18, 782), (19, 805), (20, 828), (21, 861), (22, 884), (23, 907), (24, 950), (25, 993), (26, 1016), (27, 1039), (28, 1072), (29, 1085)] from by decide +kernel)]; simp only [swL]; simp [c26]) ?_
              refine g_7 (a := 1) (b := 0) (nx := 281) (by decide +kernel) rfl ?_
              refine g_7 (a := 0) (b := 0) (nx := 282) (by decide +kernel) rfl ?_
              refine g_5 (a := 3) (b := 0) (nx := 283) (by decide +kernel) rfl ?_
              refine g_1 (a := 1) (b := 0) (nx := 284) (by decide +kernel) ?_
              refine g_15 (a := 0) (b := 0) (nx := 285) (by decide +kernel) ?_
              refine g_61p (a := 0) (b := 0) (nx := 286) (by decide +kernel) h.1 ?_
              replace h := h.2
              refine g_80 (a := 148) (b := 1) (nx := 289) (by decide +kernel) (r := 1) (As := [vI (M (-2000) (x3 + 1))]) (st' := []) (z := 148) rfl rfl rfl (Nat.le_of_ble_eq_true rfl) (show (shA SH 1).1 = 11 by decide +kernel) (Nat.le_of_ble_eq_true rfl) rfl (c_I (by decide +kernel) h (fun y28 M27 h => ?_))
              refine g_7 (a := 2) (b := 0) (nx := 290) (by decide +kernel) rfl ?_
              refine g_7 (a := 0) (b := 0) (nx := 291) (by decide +kernel) rfl ?_
              refine g_5 (a := 3) (b := 0) (nx := 292) (by decide +kernel) rfl ?_
              refine g_1 (a := 1) (b := 0) (nx := 293) (by decide +kernel) ?_
              refine g_15 (a := 0) (b := 0) (nx := 294) (by decide +kernel) ?_
              refine g_61p (a := 0) (b := 0) (nx := 295) (by decide +kernel) h.1 ?_
              replace h := h.2
              refine g_80 (a := 212) (b := 1) (nx := 298) (by decide +kernel) (r := 204) (As := [vI (M27 (-2000) (x3 + 1))]) (st' := [vI y28]) (z := 212) rfl rfl rfl (Nat.le_of_ble_eq_true rfl) (show (shA SH 204).1 = 12 by decide +kernel) (Nat.le_of_ble_eq_true rfl) rfl (c_I (by decide +kernel) h (fun y30 M29 h => ?_))
              by_cases c31 : wr32 y28 = wr32 y30
              · rw [if_pos c31] at h
                refine g_41t (a := 0) (b := 1108) (nx := 301) (by decide +kernel) (by exact (cb_0 _ _).mpr c31) ?_
                refine g_11 (a := 3) (b := 6) (nx := 1111) (by decide +kernel) rfl rfl (ls' := [some (vR (-2000)), some (vR 1), some (vR 204), some (vI (x3 + 6))]) rfl ?_
                refine g_44 (a := 0) (b := 18) (nx := 1114) (by decide +kernel) ?_
                exact h
              · rw [if_neg c31] at h
                refine g_41f (a := 0) (b := 1108) (nx := 301) (by decide +kernel) (by exact fun hz => c31 ((cb_0 _ _).mp hz)) ?_
                refine g_1 (a := 0) (b := 0) (nx := 302) (by decide +kernel) ?_
                exact g_91z (b := 0) (nx := 303) (by decide +kernel) (by decide) h
            · rw [if_neg c26] at h
              by_cases c32 : (and32 (M (-2000) x3) 31) = 5
              · rw [if_pos c32] at h
                refine g_45 (a := 0) (b := 1108) (nx := 168) (by decide +kernel) r1 (t := 303) (by rw [(show sws LAWN 33 = [(0, 168), (1, 231), (2, 254), (3, 267), (4, 280), (5, 303), (6, 336), (7, 389), (8, 422), (9, 455), (10, 508), (11, 581), (12, 614), (13, 647), (14, 680), (15, 713), (16, 736), (17, 759), (18, 782), (19, 805), (20, 828), (21, 861), (22, 884), (23, 907), (24, 950), (25, 993), (26, 1016), (27, 1039), (28, 1072), (29, 1085)] from by decide +kernel)]; simp only [swL]; simp [c32]) ?_
                refine g_7 (a := 1) (b := 0) (nx := 304) (by decide +kernel) rfl ?_
                refine g_7 (a := 0) (b := 0) (nx := 305) (by decide +kernel) rfl ?_
                refine g_5 (a := 3) (b := 0) (nx := 306) (by decide +kernel) rfl ?_
                refine g_1 (a := 1) (b := 0) (nx := 307) (by decide +kernel) ?_
                refine g_15 (a := 0) (b := 0) (nx := 308) (by decide +kernel) ?_
                refine g_61p (a := 0) (b := 0) (nx := 309) (by decide +kernel) h.1 ?_
                replace h := h.2
                refine g_7 (a := 0) (b := 0) (nx := 310) (by decide +kernel) rfl ?_
                refine g_5 (a := 3) (b := 0) (nx := 311) (by decide +kernel) rfl ?_
                refine g_1 (a := 2) (b := 0) (nx := 312) (by decide +kernel) ?_
                refine g_15 (a := 0) (b := 0) (nx := 313) (by decide +kernel) ?_
                refine g_61p (a := 0) (b := 0) (nx := 314) (by decide +kernel) h.1 ?_
                replace h := h.2
                refine g_80 (a := 149) (b := 2) (nx := 317) (by decide +kernel) (r := 1) (As := [vI (M (-2000) (x3 + 1)), vI (M (-2000) (x3 + 2))]) (st' := []) (z := 149) rfl rfl rfl (Nat.le_of_ble_eq_true rfl) (show (shA SH 1).1 = 11 by decide +kernel) (Nat.le_of_ble_eq_true rfl) rfl (c_I (by decide +kernel) h (fun y34 M33 h => ?_))
                refine g_7 (a := 2) (b := 0) (nx := 318) (by decide +kernel) rfl ?_
                refine g_7 (a := 0) (b := 0) (nx := 319) (by decide +kernel) rfl ?_
                refine g_5 (a := 3) (b := 0) (nx := 320) (by decide +kernel) rfl ?_
                refine g_1 (a := 1) (b := 0) (nx := 321) (by decide +kernel) ?_
                refine g_15 (a := 0) (b := 0) (nx := 322) (by decide +kernel) ?_
                refine g_61p (a := 0) (b := 0) (nx := 323) (by decide +kernel) h.1 ?_
                replace h := h.2
                refine g_7 (a := 0) (b := 0) (nx := 324) (by decide +kernel) rfl ?_
                refine g_5 (a := 3) (b := 0) (nx := 325) (by decide +kernel) rfl ?_
                refine g_1 (a := 2) (b := 0) (nx := 326) (by decide +kernel) ?_
                refine g_15 (a := 0) (b := 0) (nx := 327) (by decide +kernel) ?_
                refine g_61p (a := 0) (b := 0) (nx := 328) (by decide +kernel) h.1 ?_
                replace h := h.2
                refine g_80 (a := 224) (b := 2) (nx := 331) (by decide +kernel) (r := 204) (As := [vI (M33 (-2000) (x3 + 1)), vI (M33 (-2000) (x3 + 2))]) (st' := [vI y34]) (z := 224) rfl rfl rfl (Nat.le_of_ble_eq_true rfl) (show (shA SH 204).1 = 12 by decide +kernel) (Nat.le_of_ble_eq_true rfl) rfl (c_I (by decide +kernel) h (fun y36 M35 h => ?_))
                by_cases c37 : wr32 y34 = wr32 y36
                · rw [if_pos c37] at h
                  refine g_41t (a := 0) (b := 1108) (nx := 334) (by decide +kernel) (by exact (cb_0 _ _).mpr c37) ?_
                  refine g_11 (a := 3) (b := 6) (nx := 1111) (by decide +kernel) rfl rfl (ls' := [some (vR (-2000)), some (vR 1), some (vR 204), some (vI (x3 + 6))]) rfl ?_
                  refine g_44 (a := 0) (b := 18) (nx := 1114) (by decide +kernel) ?_
                  exact h
                · rw [if_neg c37] at h
                  refine g_41f (a := 0) (b := 1108) (nx := 334) (by decide +kernel) (by exact fun hz => c37 ((cb_0 _ _).mp hz)) ?_
                  refine g_1 (a := 0) (b := 0) (nx := 335) (by decide +kernel) ?_
                  exact g_91z (b := 0) (nx := 336) (by decide +kernel) (by decide) h
              · rw [if_neg c32] at h
                by_cases c38 : (and32 (M (-2000) x3) 31) = 6
                · rw [if_pos c38] at h
                  refine g_45 (a := 0) (b := 1108) (nx := 168) (by decide +kernel) r1 (t := 336) (by rw [(show sws LAWN 33 = [(0, 168), (1, 231), (2, 254), (3, 267), (4, 280), (5, 303), (6, 336), (7, 389), (8, 422), (9, 455), (10, 508), (11, 581), (12, 614), (13, 647), (14, 680), (15, 713), (16, 736), (17, 759), (18, 782), (19, 805), (20, 828), (21, 861), (22, 884), (23, 907), (24, 950), (25, 993), (26, 1016), (27, 1039), (28, 1072), (29, 1085)] from by decide +kernel)]; simp only [swL]; simp [c38]) ?_
                  refine g_7 (a := 1) (b := 0) (nx := 337) (by decide +kernel) rfl ?_
                  refine g_7 (a := 0) (b := 0) (nx := 338) (by decide +kernel) rfl ?_
                  refine g_5 (a := 3) (b := 0) (nx := 339) (by decide +kernel) rfl ?_
                  refine g_1 (a := 1) (b := 0) (nx := 340) (by decide +kernel) ?_
                  refine g_15 (a := 0) (b := 0) (nx := 341) (by decide +kernel) ?_
                  refine g_61p (a := 0) (b := 0) (nx := 342) (by decide +kernel) h.1 ?_
                  replace h := h.2
                  refine g_7 (a := 0) (b := 0) (nx := 343) (by decide +kernel) rfl ?_
                  refine g_5 (a := 3) (b := 0) (nx := 344) (by decide +kernel) rfl ?_
                  refine g_1 (a := 2) (b := 0) (nx := 345) (by decide +kernel) ?_
                  refine g_15 (a := 0) (b := 0) (nx := 346) (by decide +kernel) ?_
                  refine g_61p (a := 0) (b := 0) (nx := 347) (by decide +kernel) h.1 ?_
                  replace h := h.2
                  refine g_7 (a := 0) (b := 0) (nx := 348) (by decide +kernel) rfl ?_
                  refine g_5 (a := 3) (b := 0) (nx := 349) (by decide +kernel) rfl ?_
                  refine g_1 (a := 3) (b := 0) (nx := 350) (by decide +kernel) ?_
                  refine g_15 (a := 0) (b := 0) (nx := 351) (by decide +kernel) ?_
                  refine g_61p (a := 0) (b := 0) (nx := 352) (by decide +kernel) h.1 ?_
                  replace h := h.2
                  refine g_7 (a := 0) (b := 0) (nx := 353) (by decide +kernel) rfl ?_
                  refine g_5 (a := 3) (b := 0) (nx := 354) (by decide +kernel) rfl ?_
                  refine g_1 (a := 4) (b := 0) (nx := 355) (by decide +kernel) ?_
                  refine g_15 (a := 0) (b := 0) (nx := 356) (by decide +kernel) ?_
                  refine g_61p (a := 0) (b := 0) (nx := 357) (by decide +kernel) h.1 ?_
                  replace h := h.2
                  refine g_80 (a := 150) (b := 4) (nx := 360) (by decide +kernel) (r := 1) (As := [vI (M (-2000) (x3 + 1)), vI (M (-2000) (x3 + 2)), vI (M (-2000) (x3 + 3)), vI (M (-2000) (x3 + 4))]) (st' := []) (z := 150) rfl rfl rfl (Nat.le_of_ble_eq_true rfl) (show (shA SH 1).1 = 11 by decide +kernel) (Nat.le_of_ble_eq_true rfl) rfl (c_I (by decide +kernel) h (fun y40 M39 h => ?_))
                  refine g_7 (a := 2) (b := 0) (nx := 361) (by decide +kernel) rfl ?_
                  refine g_7 (a := 0) (b := 0) (nx := 362) (by decide +kernel) rfl ?_
                  refine g_5 (a := 3) (b := 0) (nx := 363) (by decide +kernel) rfl ?_
                  refine g_1 (a := 1) (b := 0) (nx := 364) (by decide +kernel) ?_
                  refine g_15 (a := 0) (b := 0) (nx := 365) (by decide +kernel) ?_
                  refine g_61p (a := 0) (b := 0) (nx := 366) (by decide +kernel) h.1 ?_
                  replace h := h.2
                  refine g_7 (a := 0) (b := 0) (nx := 367) (by decide +kernel) rfl ?_
                  refine g_5 (a := 3) (b := 0) (nx := 368) (by decide +kernel) rfl ?_
                  refine g_1 (a := 2) (b := 0) (nx := 369) (by decide +kernel) ?_
                  refine g_15 (a := 0) (b := 0) (nx := 370) (by decide +kernel) ?_
                  refine g_61p (a := 0) (b := 0) (nx := 371) (by decide +kernel) h.1 ?_
                  replace h := h.2
                  refine g_7 (a := 0) (b := 0) (nx := 372) (by decide +kernel) rfl ?_
                  refine g_5 (a := 3) (b := 0) (nx := 373) (by decide +kernel) rfl ?_
                  refine g_1 (a := 3) (b := 0) (nx := 374) (by decide +kernel) ?_
                  refine g_15 (a := 0) (b := 0) (nx := 375) (by decide +kernel) ?_
                  refine g_61p (a := 0) (b := 0) (nx := 376) (by decide +kernel) h.1 ?_
                  replace h := h.2
                  refine g_7 (a := 0) (b := 0) (nx := 377) (by decide +kernel) rfl ?_
                  refine g_5 (a := 3) (b := 0) (nx := 378) (by decide +kernel) rfl ?_
                  refine g_1 (a := 4) (b := 0) (nx := 379) (by decide +kernel) ?_
                  refine g_15 (a := 0) (b := 0) (nx := 380) (by decide +kernel) ?_
                  refine g_61p (a := 0) (b := 0) (nx := 381) (by decide +kernel) h.1 ?_
                  replace h := h.2
                  refine g_80 (a := 237) (b := 4) (nx := 384) (by decide +kernel) (r := 204) (As := [vI (M39 (-2000) (x3 + 1)), vI (M39 (-2000) (x3 + 2)), vI (M39 (-2000) (x3 + 3)), vI (M39 (-2000) (x3 + 4))]) (st' := [vI y40]) (z := 237) rfl rfl rfl (Nat.le_of_ble_eq_true rfl) (show (shA SH 204).1 = 12 by decide +kernel) (Nat.le_of_ble_eq_true rfl) rfl (c_I (by decide +kernel) h (fun y42 M41 h => ?_))
                  by_cases c43 : wr32 y40 = wr32 y42
                  · rw [if_pos c43] at h
                    refine g_41t (a := 0) (b := 1108) (nx := 387) (by decide +kernel) (by exact (cb_0 _ _).mpr c43) ?_
                    refine g_11 (a := 3) (b := 6) (nx := 1111) (by decide +kernel) rfl rfl (ls' := [some (vR (-2000)), some (vR 1), some (vR 204), some (vI (x3 + 6))]) rfl ?_
                    refine g_44 (a := 0) (b := 18) (nx := 1114) (by decide +kernel) ?_
                    exact h
                  · rw [if_neg c43] at h
                    refine g_41f (a := 0) (b := 1108) (nx := 387) (by decide +kernel) (by exact fun hz => c43 ((cb_0 _ _).mp hz)) ?_
                    refine g_1 (a := 0) (b := 0) (nx := 388) (by decide +kernel) ?_
                    exact g_91z (b := 0) (nx := 389) (by decide +kernel) (by decide) h
                · rw [if_neg c38] at h
                  by_cases c44 : (and32 (M (-2000) x3) 31) = 7
                  · rw [if_pos c44] at h
                    refine g_45 (a := 0) (b := 1108) (nx := 168) (by decide +kernel) r1 (t := 389) (by rw [(show sws LAWN 33 = [(0, 168), (1, 231), (2, 254), (3, 267), (4, 280), (5, 303), (6, 336), (7, 389), (8, 422), (9, 455), (10, 508), (11, 581), (12, 614), (13, 647), (14, 680), (15, 713), (16, 736), (17, 759), (18, 782), (19, 805), (20, 828), (21, 861), (22, 884), (23, 907), (24, 950), (25, 993), (26, 1016), (27, 1039), (28, 1072), (29, 1085)] from by decide +kernel)]; simp only [swL]; simp [c44]) ?_
                    refine g_7 (a := 1) (b := 0) (nx := 390) (by decide +kernel) rfl ?_
                    refine g_7 (a := 0) (b := 0) (nx := 391) (by decide +kernel) rfl ?_
                    refine g_5 (a := 3) (b := 0) (nx := 392) (by decide +kernel) rfl ?_
                    refine g_1 (a := 1) (b := 0) (nx := 393) (by decide +kernel) ?_
                    refine g_15 (a := 0) (b := 0) (nx := 394) (by decide +kernel) ?_
                    refine g_61p (a := 0) (b := 0) (nx := 395) (by decide +kernel) h.1 ?_
                    replace h := h.2
                    refine g_7 (a := 0) (b := 0) (nx := 396) (by decide +kernel) rfl ?_
                    refine g_5 (a := 3) (b := 0) (nx := 397) (by decide +kernel) rfl ?_
                    refine g_1 (a := 2) (b := 0) (nx := 398) (by decide +kernel) ?_
                    refine g_15 (a := 0) (b := 0) (nx := 399) (by decide +kernel) ?_
                    refine g_61p (a := 0) (b := 0) (nx := 400) (by decide +kernel) h.1 ?_
                    replace h := h.2
                    refine g_80 (a := 151) (b := 2) (nx := 403) (by decide +kernel) (r := 1) (As := [vI (M (-2000) (x3 + 1)), vI (M (-2000) (x3 + 2))]) (st' := []) (z := 151) rfl rfl rfl (Nat.le_of_ble_eq_true rfl) (show (shA SH 1).1 = 11 by decide +kernel) (Nat.le_of_ble_eq_true rfl) rfl (c_I (by decide +kernel) h (fun y46 M45 h => ?_))
                    refine g_7 (a := 2) (b := 0) (nx := 404) (by decide +kernel) rfl ?_
                    refine g_7 (a := 0) (b := 0) (nx := 405) (by decide +kernel) rfl ?_
                    refine g_5 (a := 3) (b := 0) (nx := 406) (by decide +kernel) rfl ?_
                    refine g_1 (a := 1) (b := 0) (nx := 407) (by decide +kernel) ?_
                    refine g_15 (a := 0) (b := 0) (nx := 408) (by decide +kernel) ?_
                    refine g_61p (a := 0) (b := 0) (nx := 409) (by decide +kernel) h.1 ?_
                    replace h := h.2
                    refine g_7 (a := 0) (b := 0) (nx := 410) (by decide +kernel) rfl ?_
                    refine g_5 (a := 3) (b := 0) (nx := 411) (by decide +kernel) rfl ?_
                    refine g_1 (a := 2) (b := 0) (nx := 412) (by decide +kernel) ?_
                    refine g_15 (a := 0) (b := 0) (nx := 413) (by decide +kernel) ?_
                    refine g_61p (a := 0) (b := 0) (nx := 414) (by decide +kernel) h.1 ?_
                    replace h := h.2
                    refine g_80 (a := 253) (b := 2) (nx := 417) (by decide +kernel) (r := 204) (As := [vI (M45 (-2000) (x3 + 1)), vI (M45 (-2000) (x3 + 2))]) (st' := [vI y46]) (z := 253) rfl rfl rfl (Nat.le_of_ble_eq_true rfl) (show (shA SH 204).1 = 12 by decide +kernel) (Nat.le_of_ble_eq_true rfl) rfl (c_I (by decide +kernel) h (fun y48 M47 h => ?_))
                    by_cases c49 : wr32 y46 = wr32 y48
                    · rw [if_pos c49] at h
                      refine g_41t (a := 0) (b := 1108) (nx := 420) (by decide +kernel) (by exact (cb_0 _ _).mpr c49) ?_
                      refine g_11 (a := 3) (b := 6) (nx := 1111) (by decide +kernel) rfl rfl (ls' := [some (vR (-2000)), some (vR 1), some (vR 204), some (vI (x3 + 6))]) rfl ?_
                      refine g_44 (a := 0) (b := 18) (nx := 1114) (by decide +kernel) ?_
                      exact h
                    · rw [if_neg c49] at h
                      refine g_41f (a := 0) (b := 1108) (nx := 420) (by decide +kernel) (by exact fun hz => c49 ((cb_0 _ _).mp hz)) ?_
                      refine g_1 (a := 0) (b := 0) (nx := 421) (by decide +kernel) ?_
                      exact g_91z (b := 0) (nx := 422) (by decide +kernel) (by decide) h
                  · rw [if_neg c44] at h
                    by_cases c50 : (and32 (M (-2000) x3) 31) = 8
                    · rw [if_pos c50] at h
                      refine g_45 (a := 0) (b := 1108) (nx := 168) (by decide +kernel) r1 (t := 422) (by rw [(show sws LAWN 33 = [(0, 168), (1, 231), (2, 254), (3, 267), (4, 280), (5, 303), (6, 336), (7, 389), (8, 422), (9, 455), (10, 508), (11, 581), (12, 614), (13, 647), (14, 680), (15, 713), (16, 736), (17, 759), (18, 782), (19, 805), (20, 828), (21, 861), (22, 884), (23, 907), (24, 950), (25, 993), (26, 1016), (27, 1039), (28, 1072), (29, 1085)] from by decide +kernel)]; simp only [swL]; simp [c50]) ?_
                      refine g_7 (a := 1) (b := 0) (nx := 423) (by decide +kernel) rfl ?_
                      refine g_7 (a := 0) (b := 0) (nx := 424) (by decide +kernel) rfl ?_
                      refine g_5 (a := 3) (b := 0) (nx := 425) (by decide +kernel) rfl ?_
                      refine g_1 (a := 1) (b := 0) (nx := 426) (by decide +kernel) ?_
                      refine g_15 (a := 0) (b := 0) (nx := 427) (by decide +kernel) ?_
                      refine g_61p (a := 0) (b := 0) (nx := 428) (by decide +kernel) h.1 ?_
                      replace h := h.2
                      refine g_7 (a := 0) (b := 0) (nx := 429) (by decide +kernel) rfl ?_
                      refine g_5 (a := 3) (b := 0) (nx := 430) (by decide +kernel) rfl ?_
                      refine g_1 (a := 2) (b := 0) (nx := 431) (by decide +kernel) ?_
                      refine g_15 (a := 0) (b := 0) (nx := 432) (by decide +kernel) ?_
                      refine g_61p (a := 0) (b := 0) (nx := 433) (by decide +kernel) h.1 ?_
                      replace h := h.2
                      refine g_80 (a := 152) (b := 2) (nx := 436) (by decide +kernel) (r := 1) (As := [vI (M (-2000) (x3 + 1)), vI (M (-2000) (x3 + 2))]) (st' := []) (z := 152) rfl rfl rfl (Nat.le_of_ble_eq_true rfl) (show (shA SH 1).1 = 11 by decide +kernel) (Nat.le_of_ble_eq_true rfl) rfl (c_I (by decide +kernel) h (fun y52 M51 h => ?_))
                      refine g_7 (a := 2) (b := 0) (nx := 437) (by decide +kernel) rfl ?_
                      refine g_7 (a := 0) (b := 0) (nx := 438) (by decide +kernel) rfl ?_
                      refine g_5 (a := 3) (b := 0) (nx := 439) (by decide +kernel) rfl ?_
                      refine g_1 (a := 1) (b := 0) (nx := 440) (by decide +kernel) ?_
                      refine g_15 (a := 0) (b := 0) (nx := 441) (by decide +kernel) ?_
                      refine g_61p (a := 0) (b := 0) (nx := 442) (by decide +kernel) h.1 ?_
                      replace h := h.2
                      refine g_7 (a := 0) (b := 0) (nx := 443) (by decide +kernel) rfl ?_
                      refine g_5 (a := 3) (b := 0) (nx := 444) (by decide +kernel) rfl ?_
                      refine g_1 (a := 2) (b := 0) (nx := 445) (by decide +kernel) ?_
                      refine g_15 (a := 0) (b := 0) (nx := 446) (by decide +kernel) ?_
                      refine g_61p (a := 0) (b := 0) (nx := 447) (by decide +kernel) h.1 ?_
                      replace h := h.2
                      refine g_80 (a := 223) (b := 2) (nx := 450) (by decide +kernel) (r := 204) (As := [vI (M51 (-2000) (x3 + 1)), vI (M51 (-2000) (x3 + 2))]) (st' := [vI y52]) (z := 223) rfl rfl rfl (Nat.le_of_ble_eq_true rfl) (show (shA SH 204).1 = 12 by decide +kernel) (Nat.le_of_ble_eq_true rfl) rfl (c_I (by decide +kernel) h (fun y54 M53 h => ?_))
                      by_cases c55 : wr32 y52 = wr32 y54
                      · rw [if_pos c55] at h
                        refine g_41t (a := 0) (b := 1108) (nx := 453) (by decide +kernel) (by exact (cb_0 _ _).mpr c55) ?_
                        refine g_11 (a := 3) (b := 6) (nx := 1111) (by decide +kernel) rfl rfl (ls' := [some (vR (-2000)), some (vR 1), some (vR 204), some (vI (x3 + 6))]) rfl ?_
                        refine g_44 (a := 0) (b := 18) (nx := 1114) (by decide +kernel) ?_
                        exact h
                      · rw [if_neg c55] at h
                        refine g_41f (a := 0) (b := 1108) (nx := 453) (by decide +kernel) (by exact fun hz => c55 ((cb_0 _ _).mp hz)) ?_
                        refine g_1 (a := 0) (b := 0) (nx := 454) (by decide +kernel) ?_
                        exact g_91z (b := 0) (nx := 455) (by decide +kernel) (by decide) h
                    · rw [if_neg c50] at h
                      by_cases c56 : (and32 (M (-2000) x3) 31) = 9
                      · rw [if_pos c56] at h
                        refine g_45 (a := 0) (b := 1108) (nx := 168) (by decide +kernel) r1 (t := 455) (by rw [(show sws LAWN 33 = [(0, 168), (1, 231), (2, 254), (3, 267), (4, 280), (5, 303), (6, 336), (7, 389), (8, 422), (9, 455), (10, 508), (11, 581), (12, 614), (13, 647), (14, 680), (15, 713), (16, 736), (17, 759), (18, 782), (19, 805), (20, 828), (21, 861), (22, 884), (23, 907), (24, 950), (25, 993), (26, 1016), (27, 1039), (28, 1072), (29, 1085)] from by decide +kernel)]; simp only [swL]; simp [c56]) ?_
                        refine g_7 (a := 1) (b := 0) (nx := 456) (by decide +kernel) rfl ?_
                        refine g_7 (a := 0) (b := 0) (nx := 457) (by decide +kernel) rfl ?_
                        refine g_5 (a := 3) (b := 0) (nx := 458) (by decide +kernel) rfl ?_
                        refine g_1 (a := 1) (b := 0) (nx := 459) (by decide +kernel) ?_
                        refine g_15 (a := 0) (b := 0) (nx := 460) (by decide +kernel) ?_
                        refine g_61p (a := 0) (b := 0) (nx := 461) (by decide +kernel) h.1 ?_
                        replace h := h.2
                        refine g_7 (a := 0) (b := 0) (nx := 462) (by decide +kernel) rfl ?_
                        refine g_5 (a := 3) (b := 0) (nx := 463) (by decide +kernel) rfl ?_
                        refine g_1 (a := 2) (b := 0) (nx := 464) (by decide +kernel) ?_
                        refine g_15 (a := 0) (b := 0) (nx := 465) (by decide +kernel) ?_
                        refine g_61p (a := 0) (b := 0) (nx := 466) (by decide +kernel) h.1 ?_
                        replace h := h.2
                        refine g_7 (a := 0) (b := 0) (nx := 467) (by decide +kernel) rfl ?_
                        refine g_5 (a := 3) (b := 0) (nx := 468) (by decide +kernel) rfl ?_
                        refine g_1 (a := 3) (b := 0) (nx := 469) (by decide +kernel) ?_
                        refine g_15 (a := 0) (b := 0) (nx := 470) (by decide +kernel) ?_
                        refine g_61p (a := 0) (b := 0) (nx := 471) (by decide +kernel) h.1 ?_
                        replace h := h.2
                        refine g_7 (a := 0) (b := 0) (nx := 472) (by decide +kernel) rfl ?_
                        refine g_5 (a := 3) (b := 0) (nx := 473) (by decide +kernel) rfl ?_
                        refine g_1 (a := 4) (b := 0) (nx := 474) (by decide +kernel) ?_
                        refine g_15 (a := 0) (b := 0) (nx := 475) (by decide +kernel) ?_
                        refine g_61p (a := 0) (b := 0) (nx := 476) (by decide +kernel) h.1 ?_
                        replace h := h.2
                        refine g_80 (a := 153) (b := 4) (nx := 479) (by decide +kernel) (r := 1) (As := [vI (M (-2000) (x3 + 1)), vI (M (-2000) (x3 + 2)), vI (M (-2000) (x3 + 3)), vI (M (-2000) (x3 + 4))]) (st' := []) (z := 153) rfl rfl rfl (Nat.le_of_ble_eq_true rfl) (show (shA SH 1).1 = 11 by decide +kernel) (Nat.le_of_ble_eq_true rfl) rfl (c_I (by decide +kernel) h (fun y58 M57 h => ?_))
                        refine g_7 (a := 2) (b := 0) (nx := 480) (by decide +kernel) rfl ?_
                        refine g_7 (a := 0) (b := 0) (nx := 481) (by decide +kernel) rfl ?_
                        refine g_5 (a := 3) (b := 0) (nx := 482) (by decide +kernel) rfl ?_
                        refine g_1 (a := 1) (b := 0) (nx := 483) (by decide +kernel) ?_
                        refine g_15 (a := 0) (b := 0) (nx := 484) (by decide +kernel) ?_
                        refine g_61p (a := 0) (b := 0) (nx := 485) (by decide +kernel) h.1 ?_
                        replace h := h.2
                        refine g_7 (a := 0) (b := 0) (nx := 486) (by decide +kernel) rfl ?_
                        refine g_5 (a := 3) (b := 0) (nx := 487) (by decide +kernel) rfl ?_
                        refine g_1 (a := 2) (b := 0) (nx := 488) (by decide +kernel) ?_
                        refine g_15 (a := 0) (b := 0) (nx := 489) (by decide +kernel) ?_
                        refine g_61p (a := 0) (b := 0) (nx := 490) (by decide +kernel) h.1 ?_
                        replace h := h.2
                        refine g_7 (a := 0) (b := 0) (nx := 491) (by decide +kernel) rfl ?_
                        refine g_5 (a := 3) (b := 0) (nx := 492) (by decide +kernel) rfl ?_
                        refine g_1 (a := 3) (b := 0) (nx := 493) (by decide +kernel) ?_
                        refine g_15 (a := 0) (b := 0) (nx := 494) (by decide +kernel) ?_
                        refine g_61p (a := 0) (b := 0) (nx := 495) (by decide +kernel) h.1 ?_
                        replace h := h.2
                        refine g_7 (a := 0) (b := 0) (nx := 496) (by decide +kernel) rfl ?_
                        refine g_5 (a := 3) (b := 0) (nx := 497) (by decide +kernel) rfl ?_
                        refine g_1 (a := 4) (b := 0) (nx := 498) (by decide +kernel) ?_
                        refine g_15 (a := 0) (b := 0) (nx := 499) (by decide +kernel) ?_
                        refine g_61p (a := 0) (b := 0) (nx := 500) (by decide +kernel) h.1 ?_
                        replace h := h.2
                        refine g_80 (a := 260) (b := 4) (nx := 503) (by decide +kernel) (r := 204) (As := [vI (M57 (-2000) (x3 + 1)), vI (M57 (-2000) (x3 + 2)), vI (M57 (-2000) (x3 + 3)), vI (M57 (-2000) (x3 + 4))]) (st' := [vI y58]) (z := 260) rfl rfl rfl (Nat.le_of_ble_eq_true rfl) (show (shA SH 204).1 = 12 by decide +kernel) (Nat.le_of_ble_eq_true rfl) rfl (c_I (by decide +kernel) h (fun y60 M59 h => ?_))
                        by_cases c61 : wr32 y58 = wr32 y60
                        · rw [if_pos c61] at h
                          refine g_41t (a := 0) (b := 1108) (nx := 506) (by decide +kernel) (by exact (cb_0 _ _).mpr c61) ?_
                          refine g_11 (a := 3) (b := 6) (nx := 1111) (by decide +kernel) rfl rfl (ls' := [some (vR (-2000)), some (vR 1), some (vR 204), some (vI (x3 + 6))]) rfl ?_
                          refine g_44 (a := 0) (b := 18) (nx := 1114) (by decide +kernel) ?_
                          exact h
                        · rw [if_neg c61] at h
                          refine g_41f (a := 0) (b := 1108) (nx := 506) (by decide +kernel) (by exact fun hz => c61 ((cb_0 _ _).mp hz)) ?_
                          refine g_1 (a := 0) (b := 0) (nx := 507) (by decide +kernel) ?_
                          exact g_91z (b := 0) (nx := 508) (by decide +kernel) (by decide) h
                      · rw [if_neg c56] at h
                        by_cases c62 : (and32 (M (-2000) x3) 31) = 10
                        · rw [if_pos c62] at h
                          refine g_45 (a := 0) (b := 1108) (nx := 168) (by decide +kernel) r1 (t := 508) (by rw [(show sws LAWN 33 = [(0, 168), (1, 231), (2, 254), (3, 267), (4, 280), (5, 303), (6, 336), (7, 389), (8, 422), (9, 455), (10, 508), (11, 581), (12, 614), (13, 647), (14, 680), (15, 713), (16, 736), (17, 759), (18, 782), (19, 805), (20, 828), (21, 861), (22, 884), (23, 907), (24, 950), (25, 993), (26, 1016), (27, 1039), (28, 1072), (29, 1085)] from by decide +kernel)]; simp only [swL]; simp [c62]) ?_
                          refine g_7 (a := 1) (b := 0) (nx := 509) (by decide +kernel) rfl ?_
                          refine g_7 (a := 0) (b := 0) (nx := 510) (by decide +kernel) rfl ?_
                          refine g_5 (a := 3) (b := 0) (nx := 511) (by decide +kernel) rfl ?_
                          refine g_1 (a := 1) (b := 0) (nx := 512) (by decide +kernel) ?_
                          refine g_15 (a := 0) (b := 0) (nx := 513) (by decide +kernel) ?_
                          refine g_61p (a := 0) (b := 0) (nx := 514) (by decide +kernel) h.1 ?_
                          replace h := h.2
                          refine g_7 (a := 0) (b := 0) (nx := 515) (by decide +kernel) rfl ?_
                          refine g_5 (a := 3) (b := 0) (nx := 516) (by decide +kernel) rfl ?_
                          refine g_1 (a := 2) (b := 0) (nx := 517) (by decide +kernel) ?_
                          refine g_15 (a := 0) (b := 0) (nx := 518) (by decide +kernel) ?_
                          refine g_61p (a := 0) (b := 0) (nx := 519) (by decide +kernel) h.1 ?_
                          replace h := h.2
                          refine g_35 (a := 0) (b := 0) (nx := 520) (by decide +kernel) ?_
                          refine g_1 (a := 32) (b := 0) (nx := 522) (by decide +kernel) ?_
                          refine g_32 (a := 0) (b := 0) (nx := 523) (by decide +kernel) (by decide) ?_
                          show WR 298 523 [some (vR (-2000)), some (vR 1), some (vR 204), some (vI x3)] [vL ((wr32 (M (-2000) (x3 + 2))) * 4294967296), vI (M (-2000) (x3 + 1)), vR 1] M Q
                          refine g_7 (a := 0) (b := 0) (nx := 524) (by decide +kernel) rfl ?_
                          refine g_5 (a := 3) (b := 0) (nx := 525) (by decide +kernel) rfl ?_
                          refine g_1 (a := 3) (b := 0) (nx := 526) (by decide +kernel) ?_
                          refine g_15 (a := 0) (b := 0) (nx := 527) (by decide +kernel) ?_
                          refine g_61p (a := 0) (b := 0) (nx := 528) (by decide +kernel) h.1 ?_
                          replace h := h.2
                          refine g_35 (a := 0) (b := 0) (nx := 529) (by decide +kernel) ?_
                          refine g_2 (a := 4294967295) (b := 0) (nx := 532) (by decide +kernel) ?_
                          refine g_30 (a := 0) (b := 0) (nx := 533) (by decide +kernel) ?_
                          refine g_31 (a := 0) (b := 0) (nx := 534) (by decide +kernel) ?_
                          refine g_7 (a := 0) (b := 0) (nx := 535) (by decide +kernel) rfl ?_
                          refine g_5 (a := 3) (b := 0) (nx := 536) (by decide +kernel) rfl ?_
                          refine g_1 (a := 4) (b := 0) (nx := 537) (by decide +kernel) ?_
                          refine g_15 (a := 0) (b := 0) (nx := 538) (by decide +kernel) ?_
                          refine g_61p (a := 0) (b := 0) (nx := 539) (by decide +kernel) h.1 ?_
                          replace h := h.2
                          refine g_80 (a := 155) (b := 3) (nx := 542) (by decide +kernel) (r := 1) (As := [vI (M (-2000) (x3 + 1)), vL (or64 ((wr32 (M (-2000) (x3 + 2))) * 4294967296) (and64 (wr32 (M (-2000) (x3 + 3))) 4294967295)), vI (M (-2000) (x3 + 4))]) (st' := []) (z := 155) rfl rfl rfl (Nat.le_of_ble_eq_true rfl) (show (shA SH 1).1 = 11 by decide +kernel) (Nat.le_of_ble_eq_true rfl) rfl (c_I (by decide +kernel) h (fun y64 M63 h => ?_))
                          refine g_7 (a := 2) (b := 0) (nx := 543) (by decide +kernel) rfl ?_
                          refine g_7 (a := 0) (b := 0) (nx := 544) (by decide +kernel) rfl ?_
                          refine g_5 (a := 3) (b := 0) (nx := 545) (by decide +kernel) rfl ?_
                          refine g_1 (a := 1) (b := 0) (nx := 546) (by decide +kernel) ?_
                          refine g_15 (a := 0) (b := 0) (nx := 547) (by decide +kernel) ?_
                          refine g_61p (a := 0) (b := 0) (nx := 548) (by decide +kernel) h.1 ?_
                          replace h := h.2
                          refine g_7 (a := 0) (b := 0) (nx := 549) (by decide +kernel) rfl ?_
                          refine g_5 (a := 3) (b := 0) (nx := 550) (by decide +kernel) rfl ?_
                          refine g_1 (a := 2) (b := 0) (nx := 551) (by decide +kernel) ?_
                          refine g_15 (a := 0) (b := 0) (nx := 552) (by decide +kernel) ?_
                          refine g_61p (a := 0) (b := 0) (nx := 553) (by decide +kernel) h.1 ?_
                          replace h := h.2
                          refine g_35 (a := 0) (b := 0) (nx := 554) (by decide +kernel) ?_
                          refine g_1 (a := 32) (b := 0) (nx := 556) (by decide +kernel) ?_
                          refine g_32 (a := 0) (b := 0) (nx := 557) (by decide +kernel) (by decide) ?_
                          show WR 298 557 [some (vR (-2000)), some (vR 1), some (vR 204), some (vI x3)] [vL ((wr32 (M63 (-2000) (x3 + 2))) * 4294967296), vI (M63 (-2000) (x3 + 1)), vR 204, vI y64] M63 Q
                          refine g_7 (a := 0) (b := 0) (nx := 558) (by decide +kernel) rfl ?_
                          refine g_5 (a := 3) (b := 0) (nx := 559) (by decide +kernel) rfl ?_
                          refine g_1 (a := 3) (b := 0) (nx := 560) (by decide +kernel) ?_
                          refine g_15 (a := 0) (b := 0) (nx := 561) (by decide +kernel) ?_
                          refine g_61p (a := 0) (b := 0) (nx := 562) (by decide +kernel) h.1 ?_
                          replace h := h.2
                          refine g_35 (a := 0) (b := 0) (nx := 563) (by decide +kernel) ?_
                          refine g_2 (a := 4294967295) (b := 0) (nx := 566) (by decide +kernel) ?_
                          refine g_30 (a := 0) (b := 0) (nx := 567) (by decide +kernel) ?_
                          refine g_31 (a := 0) (b := 0) (nx := 568) (by decide +kernel) ?_
                          refine g_7 (a := 0) (b := 0) (nx := 569) (by decide +kernel) rfl ?_
                          refine g_5 (a := 3) (b := 0) (nx := 570) (by decide +kernel) rfl ?_
                          refine g_1 (a := 4) (b := 0) (nx := 571) (by decide +kernel) ?_
                          refine g_15 (a := 0) (b := 0) (nx := 572) (by decide +kernel) ?_
                          refine g_61p (a := 0) (b := 0) (nx := 573) (by decide +kernel) h.1 ?_
                          replace h := h.2
                          refine g_80 (a := 256) (b := 3) (nx := 576) (by decide +kernel) (r := 204) (As := [vI (M63 (-2000) (x3 + 1)), vL (or64 ((wr32 (M63 (-2000) (x3 + 2))) * 4294967296) (and64 (wr32 (M63 (-2000) (x3 + 3))) 4294967295)), vI (M63 (-2000) (x3 + 4))]) (st' := [vI y64]) (z := 256) rfl rfl rfl (Nat.le_of_ble_eq_true rfl) (show (shA SH 204).1 = 12 by decide +kernel) (Nat.le_of_ble_eq_true rfl) rfl (c_I (by decide +kernel) h (fun y66 M65 h => ?_))
                          by_cases c67 : wr32 y64 = wr32 y66
                          · rw [if_pos c67] at h
                            refine g_41t (a := 0) (b := 1108) (nx := 579) (by decide +kernel) (by exact (cb_0 _ _).mpr c67) ?_
                            refine g_11 (a := 3) (b := 6) (nx := 1111) (by decide +kernel) rfl rfl (ls' := [some (vR (-2000)), some (vR 1), some (vR 204), some (vI (x3 + 6))]) rfl ?_
                            refine g_44 (a := 0) (b := 18) (nx := 1114) (by decide +kernel) ?_
                            exact h
                          · rw [if_neg c67] at h
                            refine g_41f (a := 0) (b := 1108) (nx := 579) (by decide +kernel) (by exact fun hz => c67 ((cb_0 _ _).mp hz)) ?_
                            refine g_1 (a := 0) (b := 0) (nx := 580) (by decide +kernel) ?_
                            exact g_91z (b := 0) (nx := 581) (by decide +kernel) (by decide) h
                        · rw [if_neg c62] at h
                          by_cases c68 : (and32 (M (-2000) x3) 31) = 11
                          · rw [if_pos c68] at h
                            refine g_45 (a := 0) (b := 1108) (nx := 168) (by decide +kernel) r1 (t := 581) (by rw [(show sws LAWN 33 = [(0, 168), (1, 231), (2, 254), (3, 267), (4, 280), (5, 303), (6, 336), (7, 389), (8, 422), (9, 455), (10, 508), (11, 581), (12, 614), (13, 647), (14, 680), (15, 713), (16, 736), (17, 759), (18, 782), (19, 805), (20, 828), (21, 861), (22, 884), (23, 907), (24, 950), (25, 993), (26, 1016), (27, 1039), (28, 1072), (29, 1085)] from by decide +kernel)]; simp only [swL]; simp [c68]) ?_
                            refine g_7 (a := 1) (b := 0) (nx := 582) (by decide +kernel) rfl ?_
                            refine g_7 (a := 0) (b := 0) (nx := 583) (by decide +kernel) rfl ?_
                            refine g_5 (a := 3) (b := 0) (nx := 584) (by decide +kernel) rfl ?_
                            refine g_1 (a := 1) (b := 0) (nx := 585) (by decide +kernel) ?_
                            refine g_15 (a := 0) (b := 0) (nx := 586) (by decide +kernel) ?_
                            refine g_61p (a := 0) (b := 0) (nx := 587) (by decide +kernel) h.1 ?_
                            replace h := h.2
                            refine g_7 (a := 0) (b := 0) (nx := 588) (by decide +kernel) rfl ?_
                            refine g_5 (a := 3) (b := 0) (nx := 589) (by decide +kernel) rfl ?_
                            refine g_1 (a := 2) (b := 0) (nx := 590) (by decide +kernel) ?_
                            refine g_15 (a := 0) (b := 0) (nx := 591) (by decide +kernel) ?_
                            refine g_61p (a := 0) (b := 0) (nx := 592) (by decide +kernel) h.1 ?_
                            replace h := h.2
                            refine g_80 (a := 156) (b := 2) (nx := 595) (by decide +kernel) (r := 1) (As := [vI (M (-2000) (x3 + 1)), vI (M (-2000) (x3 + 2))]) (st' := []) (z := 156) rfl rfl rfl (Nat.le_of_ble_eq_true rfl) (show (shA SH 1).1 = 11 by decide +kernel) (Nat.le_of_ble_eq_true rfl) rfl (c_I (by decide +kernel) h (fun y70 M69 h => ?_))
                            refine g_7 (a := 2) (b := 0) (nx := 596) (by decide +kernel) rfl ?_
                            refine g_7 (a := 0) (b := 0) (nx := 597) (by decide +kernel) rfl ?_
                            refine g_5 (a := 3) (b := 0) (nx := 598) (by decide +kernel) rfl ?_
                            refine g_1 (a := 1) (b := 0) (nx := 599) (by decide +kernel) ?_
                            refine g_15 (a := 0) (b := 0) (nx := 600) (by decide +kernel) ?_
                            refine g_61p (a := 0) (b := 0) (nx := 601) (by decide +kernel) h.1 ?_
                            replace h := h.2
                            refine g_7 (a := 0) (b := 0) (nx := 602) (by decide +kernel) rfl ?_
                            refine g_5 (a := 3) (b := 0) (nx := 603) (by decide +kernel) rfl ?_
                            refine g_1 (a := 2) (b := 0) (nx := 604) (by decide +kernel) ?_
                            refine g_15 (a := 0) (b := 0) (nx := 605) (by decide +kernel) ?_
                            refine g_61p (a := 0) (b := 0) (nx := 606) (by decide +kernel) h.1 ?_
                            replace h := h.2
                            refine g_80 (a := 255) (b := 2) (nx := 609) (by decide +kernel) (r := 204) (As := [vI (M69 (-2000) (x3 + 1)), vI (M69 (-2000) (x3 + 2))]) (st' := [vI y70]) (z := 255) rfl rfl rfl (Nat.le_of_ble_eq_true rfl) (show (shA SH 204).1 = 12 by decide +kernel) (Nat.le_of_ble_eq_true rfl) rfl (c_I (by decide +kernel) h (fun y72 M71 h => ?_))
                            by_cases c73 : wr32 y70 = wr32 y72
                            · rw [if_pos c73] at h
                              refine g_41t (a := 0) (b := 1108) (nx := 612) (by decide +kernel) (by exact (cb_0 _ _).mpr c73) ?_
                              refine g_11 (a := 3) (b := 6) (nx := 1111) (by decide +kernel) rfl rfl (ls' := [some (vR (-2000)), some (vR 1), some (vR 204), some (vI (x3 + 6))]) rfl ?_
                              refine g_44 (a := 0) (b := 18) (nx := 1114) (by decide +kernel) ?_
                              exact h
                            · rw [if_neg c73] at h
                              refine g_41f (a := 0) (b := 1108) (nx := 612) (by decide +kernel) (by exact fun hz => c73 ((cb_0 _ _).mp hz)) ?_
                              refine g_1 (a := 0) (b := 0) (nx := 613) (by decide +kernel) ?_
                              exact g_91z (b := 0) (nx := 614) (by decide +kernel) (by decide) h
                          · rw [if_neg c68] at h
                            by_cases c74 : (and32 (M (-2000) x3) 31) = 12
                            · rw [if_pos c74] at h
                              refine g_45 (a := 0) (b := 1108) (nx := 168) (by decide +kernel) r1 (t := 614) (by rw [(show sws LAWN 33 = [(0, 168), (1, 231), (2, 254), (3, 267), (4, 280), (5, 303), (6, 336), (7, 389), (8, 422), (9, 455), (10, 508), (11, 581), (12, 614), (13, 647), (14, 680), (15, 713), (16, 736), (17, 759), (18, 782), (19, 805), (20, 828), (21, 861), (22, 884), (23, 907), (24, 950), (25, 993), (26, 1016), (27, 1039), (28, 1072), (29, 1085)] from by decide +kernel)]; simp only [swL]; simp [c74]) ?_
                              refine g_7 (a := 1) (b := 0) (nx := 615) (by decide +kernel) rfl ?_
                              refine g_7 (a := 0) (b := 0) (nx := 616) (by decide +kernel) rfl ?_
                              refine g_5 (a := 3) (b := 0) (nx := 617) (by decide +kernel) rfl ?_
                              refine g_1 (a := 1) (b := 0) (nx := 618) (by decide +kernel) ?_
                              refine g_15 (a := 0) (b := 0) (nx := 619) (by decide +kernel) ?_
                              refine g_61p (a := 0) (b := 0) (nx := 620) (by decide +kernel) h.1 ?_
                              replace h := h.2
                              refine g_7 (a := 0) (b := 0) (nx := 621) (by decide +kernel) rfl ?_
                              refine g_5 (a := 3) (b := 0) (nx := 622) (by decide +kernel) rfl ?_
                              refine g_1 (a := 2) (b := 0) (nx := 623) (by decide +kernel) ?_
                              refine g_15 (a := 0) (b := 0) (nx := 624) (by decide +kernel) ?_
                              refine g_61p (a := 0) (b := 0) (nx := 625) (by decide +kernel) h.1 ?_
                              replace h := h.2
                              refine g_80 (a := 157) (b := 2) (nx := 628) (by decide +kernel) (r := 1) (As := [vI (M (-2000) (x3 + 1)), vI (M (-2000) (x3 + 2))]) (st' := []) (z := 157) rfl rfl rfl (Nat.le_of_ble_eq_true rfl) (show (shA SH 1).1 = 11 by decide +kernel) (Nat.le_of_ble_eq_true rfl) rfl (c_I (by decide +kernel) h (fun y76 M75 h => ?_))
                              refine g_7 (a := 2) (b := 0) (nx := 629) (by decide +kernel) rfl ?_
                              refine g_7 (a := 0) (b := 0) (nx := 630) (by decide +kernel) rfl ?_
                              refine g_5 (a := 3) (b := 0) (nx := 631) (by decide +kernel) rfl ?_
                              refine g_1 (a := 1) (b := 0) (nx := 632) (by decide +kernel) ?_
                              refine g_15 (a := 0) (b := 0) (nx := 633) (by decide +kernel) ?_
                              refine g_61p (a := 0) (b := 0) (nx := 634) (by decide +kernel) h.1 ?_
                              replace h := h.2
                              refine g_7 (a := 0) (b := 0) (nx := 635) (by decide +kernel) rfl ?_
                              refine g_5 (a := 3) (b := 0) (nx := 636) (by decide +kernel) rfl ?_
                              refine g_1 (a := 2) (b := 0) (nx := 637) (by decide +kernel) ?_
                              refine g_15 (a := 0) (b := 0) (nx := 638) (by decide +kernel) ?_
                              refine g_61p (a := 0) (b := 0) (nx := 639) (by decide +kernel) h.1 ?_
                              replace h := h.2
                              refine g_80 (a := 262) (b := 2) (nx := 642) (by decide +kernel) (r := 204) (As := [vI (M75 (-2000) (x3 + 1)), vI (M75 (-2000) (x3 + 2))]) (st' := [vI y76]) (z := 262) rfl rfl rfl (Nat.le_of_ble_eq_true rfl) (show (shA SH 204).1 = 12 by decide +kernel) (Nat.le_of_ble_eq_true rfl) rfl (c_I (by decide +kernel) h (fun y78 M77 h => ?_))
                              by_cases c79 : wr32 y76 = wr32 y78
                              · rw [if_pos c79] at h
                                refine g_41t (a := 0) (b := 1108) (nx := 645) (by decide +kernel) (by exact (cb_0 _ _).mpr c79) ?_
                                refine g_11 (a := 3) (b := 6) (nx := 1111) (by decide +kernel) rfl rfl (ls' := [some (vR (-2000)), some (vR 1), some (vR 204), some (vI (x3 + 6))]) rfl ?_
                                refine g_44 (a := 0) (b := 18) (nx := 1114) (by decide +kernel) ?_
                                exact h
                              · rw [if_neg c79] at h
                                refine g_41f (a := 0) (b := 1108) (nx := 645) (by decide +kernel) (by exact fun hz => c79 ((cb_0 _ _).mp hz)) ?_
                                refine g_1 (a := 0) (b := 0) (nx := 646) (by decide +kernel) ?_
                                exact g_91z (b := 0) (nx := 647) (by decide +kernel) (by decide) h
                            · rw [if_neg c74] at h
                              by_cases c80 : (and32 (M (-2000) x3) 31) = 13
                              · rw [if_pos c80] at h
                                refine g_45 (a := 0) (b := 1108) (nx := 168) (by decide +kernel) r1 (t := 647) (by rw [(show sws LAWN 33 = [(0, 168), (1, 231), (2, 254), (3, 267), (4, 280), (5, 303), (6, 336), (7, 389), (8, 422), (9, 455), (10, 508), (11, 581), (12, 614), (13, 647), (14, 680), (15, 713), (16, 736), (17, 759), (18, 782), (19, 805), (20, 828), (21, 861), (22, 884), (23, 907), (24, 950), (25, 993), (26, 1016), (27, 1039), (28, 1072), (29, 1085)] from by decide +kernel)]; simp only [swL]; simp [c80]) ?_
                                refine g_7 (a := 1) (b := 0) (nx := 648) (by decide +kernel) rfl ?_
                                refine g_7 (a := 0) (b := 0) (nx := 649) (by decide +kernel) rfl ?_
                                refine g_5 (a := 3) (b := 0) (nx := 650) (by decide +kernel) rfl ?_
                                refine g_1 (a := 1) (b := 0) (nx := 651) (by decide +kernel) ?_
                                refine g_15 (a := 0) (b := 0) (nx := 652) (by decide +kernel) ?_
                                refine g_61p (a := 0) (b := 0) (nx := 653) (by decide +kernel) h.1 ?_
                                replace h := h.2
                                refine g_7 (a := 0) (b := 0) (nx := 654) (by decide +kernel) rfl ?_
                                refine g_5 (a := 3) (b := 0) (nx := 655) (by decide +kernel) rfl ?_
                                refine g_1 (a := 2) (b := 0) (nx := 656) (by decide +kernel) ?_
                                refine g_15 (a := 0) (b := 0) (nx := 657) (by decide +kernel) ?_
                                refine g_61p (a := 0) (b := 0) (nx := 658) (by decide +kernel) h.1 ?_
                                replace h := h.2
                                refine g_80 (a := 158) (b := 2) (nx := 661) (by decide +kernel) (r := 1) (As := [vI (M (-2000) (x3 + 1)), vI (M (-2000) (x3 + 2))]) (st' := []) (z := 158) rfl rfl rfl (Nat.le_of_ble_eq_true rfl) (show (shA SH 1).1 = 11 by decide +kernel) (Nat.le_of_ble_eq_true rfl) rfl (c_I (by decide +kernel) h (fun y82 M81 h => ?_))
                                refine g_7 (a := 2) (b := 0) (nx := 662) (by decide +kernel) rfl ?_
                                refine g_7 (a := 0) (b := 0) (nx := 663) (by decide +kernel) rfl ?_
                                refine g_5 (a := 3) (b := 0) (nx := 664) (by decide +kernel) rfl ?_
                                refine g_1 (a := 1) (b := 0) (nx := 665) (by decide +kernel) ?_
                                refine g_15 (a := 0) (b := 0) (nx := 666) (by decide +kernel) ?_
                                refine g_61p (a := 0) (b := 0) (nx := 667) (by decide +kernel) h.1 ?_
                                replace h := h.2
                                refine g_7 (a := 0) (b := 0) (nx := 668) (by decide +kernel) rfl ?_
                                refine g_5 (a := 3) (b := 0) (nx := 669) (by decide +kernel) rfl ?_
                                refine g_1 (a := 2) (b := 0) (nx := 670) (by decide +kernel) ?_
                                refine g_15 (a := 0) (b := 0) (nx := 671) (by decide +kernel) ?_
                                refine g_61p (a := 0) (b := 0) (nx := 672) (by decide +kernel) h.1 ?_
                                replace h := h.2
                                refine g_80 (a := 266) (b := 2) (nx := 675) (by decide +kernel) (r := 204) (As := [vI (M81 (-2000) (x3 + 1)), vI (M81 (-2000) (x3 + 2))]) (st' := [vI y82]) (z := 266) rfl rfl rfl (Nat.le_of_ble_eq_true rfl) (show (shA SH 204).1 = 12 by decide +kernel) (Nat.le_of_ble_eq_true rfl) rfl (c_I (by decide +kernel) h (fun y84 M83 h => ?_))
                                by_cases c85 : wr32 y82 = wr32 y84
                                · rw [if_pos c85] at h
                                  refine g_41t (a := 0) (b := 1108) (nx := 678) (by decide +kernel) (by exact (cb_0 _ _).mpr c85) ?_
                                  refine g_11 (a := 3) (b := 6) (nx := 1111) (by decide +kernel) rfl rfl (ls' := [some (vR (-2000)), some (vR 1), some (vR 204), some (vI (x3 + 6))]) rfl ?_
                                  refine g_44 (a := 0) (b := 18) (nx := 1114) (by decide +kernel) ?_
                                  exact h
                                · rw [if_neg c85] at h
                                  refine g_41f (a := 0) (b := 1108) (nx := 678) (by decide +kernel) (by exact fun hz => c85 ((cb_0 _ _).mp hz)) ?_
                                  refine g_1 (a := 0) (b := 0) (nx := 679) (by decide +kernel) ?_
                                  exact g_91z (b := 0) (nx := 680) (by decide +kernel) (by decide) h
                              · rw [if_neg c80] at h
                                by_cases c86 : (and32 (M (-2000) x3) 31) = 14
                                · rw [if_pos c86] at h
                                  refine g_45 (a := 0) (b := 1108) (nx := 168) (by decide +kernel) r1 (t := 680) (by rw [(show sws LAWN 33 = [(0, 168), (1, 231), (2, 254), (3, 267), (4, 280), (5, 303), (6, 336), (7, 389), (8, 422), (9, 455), (10, 508), (11, 581), (12, 614), (13, 647), (14, 680), (15, 713), (16, 736), (17, 759), (18, 782), (19, 805), (20, 828), (21, 861), (22, 884), (23, 907), (24, 950), (25, 993), (26, 1016), (27, 1039), (28, 1072), (29, 1085)] from by decide +kernel)]; simp only [swL]; simp [c86]) ?_
                                  refine g_7 (a := 1) (b := 0) (nx := 681) (by decide +kernel) rfl ?_
                                  refine g_7 (a := 0) (b := 0) (nx := 682) (by decide +kernel) rfl ?_
                                  refine g_5 (a := 3) (b := 0) (nx := 683) (by decide +kernel) rfl ?_
                                  refine g_1 (a := 1) (b := 0) (nx := 684) (by decide +kernel) ?_
                                  refine g_15 (a := 0) (b := 0) (nx := 685) (by decide +kernel) ?_
                                  refine g_61p (a := 0) (b := 0) (nx := 686) (by decide +kernel) h.1 ?_
                                  replace h := h.2
                                  refine g_7 (a := 0) (b := 0) (nx := 687) (by decide +kernel) rfl ?_
                                  refine g_5 (a := 3) (b := 0) (nx := 688) (by decide +kernel) rfl ?_
                                  refine g_1 (a := 2) (b := 0) (nx := 689) (by decide +kernel) ?_
                                  refine g_15 (a := 0) (b := 0) (nx := 690) (by decide +kernel) ?_
                                  refine g_61p (a := 0) (b := 0) (nx := 691) (by decide +kernel) h.1 ?_
                                  replace h := h.2
                                  refine g_80 (a := 159) (b := 2) (nx := 694) (by decide +kernel) (r := 1) (As := [vI (M (-2000) (x3 + 1)), vI (M (-2000) (x3 + 2))]) (st' := []) (z := 159) rfl rfl rfl (Nat.le_of_ble_eq_true rfl) (show (shA SH 1).1 = 11 by decide +kernel) (Nat.le_of_ble_eq_true rfl) rfl (c_I (by decide +kernel) h (fun y88 M87 h => ?_))
                                  refine g_7 (a := 2) (b := 0) (nx := 695) (by decide +kernel) rfl ?_
                                  refine g_7 (a := 0) (b := 0) (nx := 696) (by decide +kernel) rfl ?_
                                  refine g_5 (a := 3) (b := 0) (nx := 697) (by decide +kernel) rfl ?_
                                  refine g_1 (a := 1) (b := 0) (nx := 698) (by decide +kernel) ?_
                                  refine g_15 (a := 0) (b := 0) (nx := 699) (by decide +kernel) ?_
                                  refine g_61p (a := 0) (b := 0) (nx := 700) (by decide +kernel) h.1 ?_
                                  replace h := h.2
                                  refine g_7 (a := 0) (b := 0) (nx := 701) (by decide +kernel) rfl ?_
                                  refine g_5 (a := 3) (b := 0) (nx := 702) (by decide +kernel) rfl ?_
                                  refine g_1 (a := 2) (b := 0) (nx := 703) (by decide +kernel) ?_
                                  refine g_15 (a := 0) (b := 0) (nx := 704) (by decide +kernel) ?_
                                  refine g_61p (a := 0) (b := 0) (nx := 705) (by decide +kernel) h.1 ?_
                                  replace h := h.2
                                  refine g_80 (a := 269) (b := 2) (nx := 708) (by decide +kernel) (r := 204) (As := [vI (M87 (-2000) (x3 + 1)), vI (M87 (-2000) (x3 + 2))]) (st' := [vI y88]) (z := 269) rfl rfl rfl (Nat.le_of_ble_eq_true rfl) (show (shA SH 204).1 = 12 by decide +kernel) (Nat.le_of_ble_eq_true rfl) rfl (c_I (by decide +kernel) h (fun y90 M89 h => ?_))
                                  by_cases c91 : wr32 y88 = wr32 y90
                                  · rw [if_pos c91] at h
                                    refine g_41t (a := 0) (b := 1108) (nx := 711) (by decide +kernel) (by exact (cb_0 _ _).mpr c91) ?_
                                    refine g_11 (a := 3) (b := 6) (nx := 1111) (by decide +kernel) rfl rfl (ls' := [some (vR (-2000)), some (vR 1), some (vR 204), some (vI (x3 + 6))]) rfl ?_
                                    refine g_44 (a := 0) (b := 18) (nx := 1114) (by decide +kernel) ?_
                                    exact h
                                  · rw [if_neg c91] at h
                                    refine g_41f (a := 0) (b := 1108) (nx := 711) (by decide +kernel) (by exact fun hz => c91 ((cb_0 _ _).mp hz)) ?_
                                    refine g_1 (a := 0) (b := 0) (nx := 712) (by decide +kernel) ?_
                                    exact g_91z (b := 0) (nx := 713) (by decide +kernel) (by decide) h
                                · rw [if_neg c86] at h
                                  by_cases c92 : (and32 (M (-2000) x3) 31) = 15
                                  · rw [if_pos c92] at h
                                    refine g_45 (a := 0) (b := 1108) (nx := 168) (by decide +kernel) r1 (t := 713) (by rw [(show sws LAWN 33 = [(0, 168), (1, 231), (2, 254), (3, 267), (4, 280), (5, 303), (6, 336), (7, 389), (8, 422), (9, 455), (10, 508), (11, 581), (12, 614), (13, 647), (14, 680), (15, 713), (16, 736), (17, 759), (18, 782), (19, 805), (20, 828), (21, 861), (22, 884), (23, 907), (24, 950), (25, 993), (26, 1016), (27, 1039), (28, 1072), (29, 1085)] from by decide +kernel)]; simp only [swL]; simp [c92]) ?_
                                    refine g_7 (a := 1) (b := 0) (nx := 714) (by decide +kernel) rfl ?_
                                    refine g_7 (a := 0) (b := 0) (nx := 715) (by decide +kernel) rfl ?_
                                    refine g_5 (a := 3) (b := 0) (nx := 716) (by decide +kernel) rfl ?_
                                    refine g_1 (a := 1) (b := 0) (nx := 717) (by decide +kernel) ?_
                                    refine g_15 (a := 0) (b := 0) (nx := 718) (by decide +kernel) ?_
                                    refine g_61p (a := 0) (b := 0) (nx := 719) (by decide +kernel) h.1 ?_
                                    replace h := h.2
                                    refine g_80 (a := 160) (b := 1) (nx := 722) (by decide +kernel) (r := 1) (As := [vI (M (-2000) (x3 + 1))]) (st' := []) (z := 160) rfl rfl rfl (Nat.le_of_ble_eq_true rfl) (show (shA SH 1).1 = 11 by decide +kernel) (Nat.le_of_ble_eq_true rfl) rfl (c_I (by decide +kernel) h (fun y94 M93 h => ?_))
                                    refine g_7 (a := 2) (b := 0) (nx := 723) (by decide +kernel) rfl ?_
                                    refine g_7 (a := 0) (b := 0) (nx := 724) (by decide +kernel) rfl ?_
                                    refine g_5 (a := 3) (b := 0) (nx := 725) (by decide +kernel) rfl ?_
                                    refine g_1 (a := 1) (b := 0) (nx := 726) (by decide +kernel) ?_
                                    refine g_15 (a := 0) (b := 0) (nx := 727) (by decide +kernel) ?_
                                    refine g_61p (a := 0) (b := 0) (nx := 728) (by decide +kernel) h.1 ?_
                                    replace h := h.2
                                    refine g_80 (a := 270) (b := 1) (nx := 731) (by decide +kernel) (r := 204) (As := [vI (M93 (-2000) (x3 + 1))]) (st' := [vI y94]) (z := 270) rfl rfl rfl (Nat.le_of_ble_eq_true rfl) (show (shA SH 204).1 = 12 by decide +kernel) (Nat.le_of_ble_eq_true rfl) rfl (c_I (by decide +kernel) h (fun y96 M95 h => ?_))
                                    by_cases c97 : wr32 y94 = wr32 y96
                                    · rw [if_pos c97] at h
                                      refine g_41t (a := 0) (b := 1108) (nx := 734) (by decide +kernel) (by exact (cb_0 _ _).mpr c97) ?_
                                      refine g_11 (a := 3) (b := 6) (nx := 1111) (by decide +kernel) rfl rfl (ls' := [some (vR (-2000)), some (vR 1), some (vR 204), some (vI (x3 + 6))]) rfl ?_
                                      refine g_44 (a := 0) (b := 18) (nx := 1114) (by decide +kernel) ?_
                                      exact h
                                    · rw [if_neg c97] at h
                                      refine g_41f (a := 0) (b := 1108) (nx := 734) (by decide +kernel) (by exact fun hz => c97 ((cb_0 _ _).mp hz)) ?_
                                      refine g_1 (a := 0) (b := 0) (nx := 735) (by decide +kernel) ?_
                                      exact g_91z (b := 0) (nx := 736) (by decide +kernel) (by decide) h
                                  · rw [if_neg c92] at h
                                    by_cases c98 : (and32 (M (-2000) x3) 31) = 16
                                    · rw [if_pos c98] at h
                                      refine g_45 (a := 0) (b := 1108) (nx := 168) (by decide +kernel) r1 (t := 736) (by rw [(show sws LAWN 33 = [(0, 168), (1, 231), (2, 254), (3, 267), (4, 280), (5, 303), (6, 336), (7, 389), (8, 422), (9, 455), (10, 508), (11, 581), (12, 614), (13, 647), (14, 680), (15, 713), (16, 736), (17, 759), (18, 782), (19, 805), (20, 828), (21, 861), (22, 884), (23, 907), (24, 950), (25, 993), (26, 1016), (27, 1039), (28, 1072), (29, 1085)] from by decide +kernel)]; simp only [swL]; simp [c98]) ?_
                                      refine g_7 (a := 1) (b := 0) (nx := 737) (by decide +kernel) rfl ?_
                                      refine g_7 (a := 0) (b := 0) (nx := 738) (by decide +kernel) rfl ?_
                                      refine g_5 (a := 3) (b := 0) (nx := 739) (by decide +kernel) rfl ?_
                                      refine g_1 (a := 1) (b := 0) (nx := 740) (by decide +kernel) ?_
                                      refine g_15 (a := 0) (b := 0) (nx := 741) (by decide +kernel) ?_
                                      refine g_61p (a := 0) (b := 0) (nx := 742) (by decide +kernel) h.1 ?_
                                      replace h := h.2
                                      refine g_80 (a := 161) (b := 1) (nx := 745) (by decide +kernel) (r := 1) (As := [vI (M (-2000) (x3 + 1))]) (st' := []) (z := 161) rfl rfl rfl (Nat.le_of_ble_eq_true rfl) (show (shA SH 1).1 = 11 by decide +kernel) (Nat.le_of_ble_eq_true rfl) rfl (c_I (by decide +kernel) h (fun y100 M99 h => ?_))
                                      refine g_7 (a := 2) (b := 0) (nx := 746) (by decide +kernel) rfl ?_
                                      refine g_7 (a := 0) (b := 0) (nx := 747) (by decide +kernel) rfl ?_
                                      refine g_5 (a := 3) (b := 0) (nx := 748) (by decide +kernel) rfl ?_
                                      refine g_1 (a := 1) (b := 0) (nx := 749) (by decide +kernel) ?_
                                      refine g_15 (a := 0) (b := 0) (nx := 750) (by decide +kernel) ?_
                                      refine g_61p (a := 0) (b := 0) (nx := 751) (by decide +kernel) h.1 ?_
                                      replace h := h.2
                                      refine g_80 (a := 273) (b := 1) (nx := 754) (by decide +kernel) (r := 204) (As := [vI (M99 (-2000) (x3 + 1))]) (st' := [vI y100]) (z := 273) rfl rfl rfl (Nat.le_of_ble_eq_true rfl) (show (shA SH 204).1 = 12 by decide +kernel) (Nat.le_of_ble_eq_true rfl) rfl (c_I (by decide +kernel) h (fun y102 M101 h => ?_))
                                      by_cases c103 : wr32 y100 = wr32 y102
                                      · rw [if_pos c103] at h
                                        refine g_41t (a := 0) (b := 1108) (nx := 757) (by decide +kernel) (by exact (cb_0 _ _).mpr c103) ?_
                                        refine g_11 (a := 3) (b := 6) (nx := 1111) (by decide +kernel) rfl rfl (ls' := [some (vR (-2000)), some (vR 1), some (vR 204), some (vI (x3 + 6))]) rfl ?_
                                        refine g_44 (a := 0) (b := 18) (nx := 1114) (by decide +kernel) ?_
                                        exact h
                                      · rw [if_neg c103] at h
                                        refine g_41f (a := 0) (b := 1108) (nx := 757) (by decide +kernel) (by exact fun hz => c103 ((cb_0 _ _).mp hz)) ?_
                                        refine g_1 (a := 0) (b := 0) (nx := 758) (by decide +kernel) ?_
                                        exact g_91z (b := 0) (nx := 759) (by decide +kernel) (by decide) h
                                    · rw [if_neg c98] at h
                                      by_cases c104 : (and32 (M (-2000) x3) 31) = 17
                                      · rw [if_pos c104] at h
                                        refine g_45 (a := 0) (b := 1108) (nx := 168) (by decide +kernel) r1 (t := 759) (by rw [(show sws LAWN 33 = [(0, 168), (1, 231), (2, 254), (3, 267), (4, 280), (5, 303), (6, 336), (7, 389), (8, 422), (9, 455), (10, 508), (11, 581), (12, 614), (13, 647), (14, 680), (15, 713), (16, 736), (17, 759), (18, 782), (19, 805), (20, 828), (21, 861), (22, 884), (23, 907), (24, 950), (25, 993), (26, 1016), (27, 1039), (28, 1072), (29, 1085)] from by decide +kernel)]; simp only [swL]; simp [c104]) ?_
                                        refine g_7 (a := 1) (b := 0) (nx := 760) (by decide +kernel) rfl ?_
                                        refine g_7 (a := 0) (b := 0) (nx := 761) (by decide +kernel) rfl ?_
                                        refine g_5 (a := 3) (b := 0) (nx := 762) (by decide +kernel) rfl ?_
                                        refine g_1 (a := 1) (b := 0) (nx := 763) (by decide +kernel) ?_
                                        refine g_15 (a := 0) (b := 0) (nx := 764) (by decide +kernel) ?_
                                        refine g_61p (a := 0) (b := 0) (nx := 765) (by decide +kernel) h.1 ?_
                                        replace h := h.2
                                        refine g_80 (a := 162) (b := 1) (nx := 768) (by decide +kernel) (r := 1) (As := [vI (M (-2000) (x3 + 1))]) (st' := []) (z := 162) rfl rfl rfl (Nat.le_of_ble_eq_true rfl) (show (shA SH 1).1 = 11 by decide +kernel) (Nat.le_of_ble_eq_true rfl) rfl (c_I (by decide +kernel) h (fun y106 M105 h => ?_))
                                        refine g_7 (a := 2) (b := 0) (nx := 769) (by decide +kernel) rfl ?_
                                        refine g_7 (a := 0) (b := 0) (nx := 770) (by decide +kernel) rfl ?_
                                        refine g_5 (a := 3) (b := 0) (nx := 771) (by decide +kernel) rfl ?_
                                        refine g_1 (a := 1) (b := 0) (nx := 772) (by decide +kernel) ?_
                                        refine g_15 (a := 0) (b := 0) (nx := 773) (by decide +kernel) ?_
                                        refine g_61p (a := 0) (b := 0) (nx := 774) (by decide +kernel) h.1 ?_
                                        replace h := h.2
                                        refine g_80 (a := 254) (b := 1) (nx := 777) (by decide +kernel) (r := 204) (As := [vI (M105 (-2000) (x3 + 1))]) (st' := [vI y106]) (z := 254) rfl rfl rfl (Nat.le_of_ble_eq_true rfl) (show (shA SH 204).1 = 12 by decide +kernel) (Nat.le_of_ble_eq_true rfl) rfl (c_I (by decide +kernel) h (fun y108 M107 h => ?_))
                                        by_cases c109 : wr32 y106 = wr32 y108
                                        · rw [if_pos c109] at h
                                          refine g_41t (a := 0) (b := 1108) (nx := 780) (by decide +kernel) (by exact (cb_0 _ _).mpr c109) ?_
                                          refine g_11 (a := 3) (b := 6) (nx := 1111) (by decide +kernel) rfl rfl (ls' := [some (vR (-2000)), some (vR 1), some (vR 204), some (vI (x3 + 6))]) rfl ?_
                                          refine g_44 (a := 0) (b := 18) (nx := 1114) (by decide +kernel) ?_
                                          exact h
                                        · rw [if_neg c109] at h
                                          refine g_41f (a := 0) (b := 1108) (nx := 780) (by decide +kernel) (by exact fun hz => c109 ((cb_0 _ _).mp hz)) ?_
                                          refine g_1 (a := 0) (b := 0) (nx := 781) (by decide +kernel) ?_
                                          exact g_91z (b := 0) (nx := 782) (by decide +kernel) (by decide) h
                                      · rw [if_neg c104] at h
                                        by_cases c110 : (and32 (M (-2000) x3) 31) = 18
                                        · rw [if_pos c110] at h
                                          refine g_45 (a := 0) (b := 1108) (nx := 168) (by decide +kernel) r1 (t := 782) (by rw [(show sws LAWN 33 = [(0, 168), (1, 231), (2, 254), (3, 267), (4, 280), (5, 303), (6, 336), (7, 389), (8, 422), (9, 455), (10, 508), (11, 581), (12, 614), (13, 647), (14, 680), (15, 713), (16, 736), (17, 759), (18, 782), (19, 805), (20, 828), (21, 861), (22, 884), (23, 907), (24, 950), (25, 993), (26, 1016), (27, 1039), (28, 1072), (29, 1085)] from by decide +kernel)]; simp only [swL]; simp [c110]) ?_
                                          refine g_7 (a := 1) (b := 0) (nx := 783) (by decide +kernel) rfl ?_
                                          refine g_7 (a := 0) (b := 0) (nx := 784) (by decide +kernel) rfl ?_
                                          refine g_5 (a := 3) (b := 0) (nx := 785) (by decide +kernel) rfl ?_
                                          refine g_1 (a := 1) (b := 0) (nx := 786) (by decide +kernel) ?_
                                          refine g_15 (a := 0) (b := 0) (nx := 787) (by decide +kernel) ?_
                                          refine g_61p (a := 0) (b := 0) (nx := 788) (by decide +kernel) h.1 ?_
                                          replace h := h.2
                                          refine g_80 (a := 163) (b := 1) (nx := 791) (by decide +kernel) (r := 1) (As := [vI (M (-2000) (x3 + 1))]) (st' := []) (z := 163) rfl rfl rfl (Nat.le_of_ble_eq_true rfl) (show (shA SH 1).1 = 11 by decide +kernel) (Nat.le_of_ble_eq_true rfl) rfl (c_I (by decide +kernel) h (fun y112 M111 h => ?_))
                                          refine g_7 (a := 2) (b := 0) (nx := 792) (by decide +kernel) rfl ?_
                                          refine g_7 (a := 0) (b := 0) (nx := 793) (by decide +kernel) rfl ?_
                                          refine g_5 (a := 3) (b := 0) (nx := 794) (by decide +kernel) rfl ?_
                                          refine g_1 (a := 1) (b := 0) (nx := 795) (by decide +kernel) ?_
                                          refine g_15 (a := 0) (b := 0) (nx := 796) (by decide +kernel) ?_
                                          refine g_61p (a := 0) (b := 0) (nx := 797) (by decide +kernel) h.1 ?_
                                          replace h := h.2
                                          refine g_80 (a := 258) (b := 1) (nx := 800) (by decide +kernel) (r := 204) (As := [vI (M111 (-2000) (x3 + 1))]) (st' := [vI y112]) (z := 258) rfl rfl rfl (Nat.le_of_ble_eq_true rfl) (show (shA SH 204).1 = 12 by decide +kernel) (Nat.le_of_ble_eq_true rfl) rfl (c_I (by decide +kernel) h (fun y114 M113 h => ?_))
                                          by_cases c115 : wr32 y112 = wr32 y114
                                          · rw [if_pos c115] at h
                                            refine g_41t (a := 0) (b := 1108) (nx := 803) (by decide +kernel) (by exact (cb_0 _ _).mpr c115) ?_
                                            refine g_11 (a := 3) (b := 6) (nx := 1111) (by decide +kernel) rfl rfl (ls' := [some (vR (-2000)), some (vR 1), some (vR 204), some (vI (x3 + 6))]) rfl ?_
                                            refine g_44 (a := 0) (b := 18) (nx := 1114) (by decide +kernel) ?_
                                            exact h
                                          · rw [if_neg c115] at h
                                            refine g_41f (a := 0) (b := 1108) (nx := 803) (by decide +kernel) (by exact fun hz => c115 ((cb_0 _ _).mp hz)) ?_
                                            refine g_1 (a := 0) (b := 0) (nx := 804) (by decide +kernel) ?_
                                            exact g_91z (b := 0) (nx := 805) (by decide +kernel) (by decide) h
                                        · rw [if_neg c110] at h
                                          by_cases c116 : (and32 (M (-2000) x3) 31) = 19
                                          · rw [if_pos c116] at h
                                            refine g_45 (a := 0) (b := 1108) (nx := 168) (by decide +kernel) r1 (t := 805) (by rw [(show sws LAWN 33 = [(0, 168), (1, 231), (2, 254), (3, 267), (4, 280), (5, 303), (6, 336), (7, 389), (8, 422), (9, 455), (10, 508), (11, 581), (12, 614), (13, 647), (14, 680), (15, 713), (16, 736), (17, 759), (18, 782), (19, 805), (20, 828), (21, 861), (22, 884), (23, 907), (24, 950), (25, 993), (26, 1016), (27, 1039), (28, 1072), (29, 1085)] from by decide +kernel)]; simp only [swL]; simp [c116]) ?_
                                            refine g_7 (a := 1) (b := 0) (nx := 806) (by decide +kernel) rfl ?_
                                            refine g_7 (a := 0) (b := 0) (nx := 807) (by decide +kernel) rfl ?_
                                            refine g_5 (a := 3) (b := 0) (nx := 808) (by decide +kernel) rfl ?_
                                            refine g_1 (a := 1) (b := 0) (nx := 809) (by decide +kernel) ?_
                                            refine g_15 (a := 0) (b := 0) (nx := 810) (by decide +kernel) ?_
                                            refine g_61p (a := 0) (b := 0) (nx := 811) (by decide +kernel) h.1 ?_
                                            replace h := h.2
                                            refine g_80 (a := 164) (b := 1) (nx := 814) (by decide +kernel) (r := 1) (As := [vI (M (-2000) (x3 + 1))]) (st' := []) (z := 164) rfl rfl rfl (Nat.le_of_ble_eq_true rfl) (show (shA SH 1).1 = 11 by decide +kernel) (Nat.le_of_ble_eq_true rfl) rfl (c_I (by decide +kernel) h (fun y118 M117 h => ?_))
                                            refine g_7 (a := 2) (b := 0) (nx := 815) (by decide +kernel) rfl ?_
                                            refine g_7 (a := 0) (b := 0) (nx := 816) (by decide +kernel) rfl ?_
                                            refine g_5 (a := 3) (b := 0) (nx := 817) (by decide +kernel) rfl ?_
                                            refine g_1 (a := 1) (b := 0) (nx := 818) (by decide +kernel) ?_
                                            refine g_15 (a := 0) (b := 0) (nx := 819) (by decide +kernel) ?_
                                            refine g_61p (a := 0) (b := 0) (nx := 820) (by decide +kernel) h.1 ?_
                                            replace h := h.2
                                            refine g_80 (a := 261) (b := 1) (nx := 823) (by decide +kernel) (r := 204) (As := [vI (M117 (-2000) (x3 + 1))]) (st' := [vI y118]) (z := 261) rfl rfl rfl (Nat.le_of_ble_eq_true rfl) (show (shA SH 204).1 = 12 by decide +kernel) (Nat.le_of_ble_eq_true rfl) rfl (c_I (by decide +kernel) h (fun y120 M119 h => ?_))
                                            by_cases c121 : wr32 y118 = wr32 y120
                                            · rw [if_pos c121] at h
                                              refine g_41t (a := 0) (b := 1108) (nx := 826) (by decide +kernel) (by exact (cb_0 _ _).mpr c121) ?_
                                              refine g_11 (a := 3) (b := 6) (nx := 1111) (by decide +kernel) rfl rfl (ls' := [some (vR (-2000)), some (vR 1), some (vR 204), some (vI (x3 + 6))]) rfl ?_
                                              refine g_44 (a := 0) (b := 18) (nx := 1114) (by decide +kernel) ?_
                                              exact h
                                            · rw [if_neg c121] at h
                                              refine g_41f (a := 0) (b := 1108) (nx := 826) (by decide +kernel) (by exact fun hz => c121 ((cb_0 _ _).mp hz)) ?_
                                              refine g_1 (a := 0) (b := 0) (nx := 827) (by decide +kernel) ?_
                                              exact g_91z (b := 0) (nx := 828) (by decide +kernel) (by decide) h
                                          · rw [if_neg c116] at h
                                            by_cases c122 : (and32 (M (-2000) x3) 31) = 20
                                            · rw [if_pos c122] at h
                                              refine g_45 (a := 0) (b := 1108) (nx := 168) (by decide +kernel) r1 (t := 828) (by rw [(show sws LAWN 33 = [(0, 168), (1, 231), (2, 254), (3, 267), (4, 280), (5, 303), (6, 336), (7, 389), (8, 422), (9, 455), (10, 508), (11, 581), (12, 614), (13, 647), (14, 680), (15, 713), (16, 736), (17, 759), (18, 782), (19, 805), (20, 828), (21, 861), (22, 884), (23, 907), (24, 950), (25, 993), (26, 1016), (27, 1039), (28, 1072), (29, 1085)] from by decide +kernel)]; simp only [swL]; simp [c122]) ?_
                                              refine g_7 (a := 1) (b := 0) (nx := 829) (by decide +kernel) rfl ?_
                                              refine g_7 (a := 0) (b := 0) (nx := 830) (by decide +kernel) rfl ?_
                                              refine g_5 (a := 3) (b := 0) (nx := 831) (by decide +kernel) rfl ?_
                                              refine g_1 (a := 1) (b := 0) (nx := 832) (by decide +kernel) ?_
                                              refine g_15 (a := 0) (b := 0) (nx := 833) (by decide +kernel) ?_
                                              refine g_61p (a := 0) (b := 0) (nx := 834) (by decide +kernel) h.1 ?_
                                              replace h := h.2
                                              refine g_7 (a := 0) (b := 0) (nx := 835) (by decide +kernel) rfl ?_
                                              refine g_5 (a := 3) (b := 0) (nx := 836) (by decide +kernel) rfl ?_
                                              refine g_1 (a := 2) (b := 0) (nx := 837) (by decide +kernel) ?_
                                              refine g_15 (a := 0) (b := 0) (nx := 838) (by decide +kernel) ?_
                                              refine g_61p (a := 0) (b := 0) (nx := 839) (by decide +kernel) h.1 ?_
                                              replace h := h.2
                                              refine g_80 (a := 165) (b := 2) (nx := 842) (by decide +kernel) (r := 1) (As := [vI (M (-2000) (x3 + 1)), vI (M (-2000) (x3 + 2))]) (st' := []) (z := 165) rfl rfl rfl (Nat.le_of_ble_eq_true rfl) (show (shA SH 1).1 = 11 by decide +kernel) (Nat.le_of_ble_eq_true rfl) rfl (c_I (by decide +kernel) h (fun y124 M123 h => ?_))
                                              refine g_7 (a := 2) (b := 0) (nx := 843) (by decide +kernel) rfl ?_
                                              refine g_7 (a := 0) (b := 0) (nx := 844) (by decide +kernel) rfl ?_
                                              refine g_5 (a := 3) (b := 0) (nx := 845) (by decide +kernel) rfl ?_
                                              refine g_1 (a := 1) (b := 0) (nx := 846) (by decide +kernel) ?_
                                              refine g_15 (a := 0) (b := 0) (nx := 847) (by decide +kernel) ?_
                                              refine g_61p (a := 0) (b := 0) (nx := 848) (by decide +kernel) h.1 ?_
                                              replace h := h.2
                                              refine g_7 (a := 0) (b := 0) (nx := 849) (by decide +kernel) rfl ?_
                                              refine g_5 (a := 3) (b := 0) (nx := 850) (by decide +kernel) rfl ?_
                                              refine g_1 (a := 2) (b := 0) (nx := 851) (by decide +kernel) ?_
                                              refine g_15 (a := 0) (b := 0) (nx := 852) (by decide +kernel) ?_
                                              refine g_61p (a := 0) (b := 0) (nx := 853) (by decide +kernel) h.1 ?_
                                              replace h := h.2
                                              refine g_80 (a := 276) (b := 2) (nx := 856) (by decide +kernel) (r := 204) (As := [vI (M123 (-2000) (x3 + 1)), vI (M123 (-2000) (x3 + 2))]) (st' := [vI y124]) (z := 276) rfl rfl rfl (Nat.le_of_ble_eq_true rfl) (show (shA SH 204).1 = 12 by decide +kernel) (Nat.le_of_ble_eq_true rfl) rfl (c_I (by decide +kernel) h (fun y126 M125 h => ?_))
                                              by_cases c127 : wr32 y124 = wr32 y126
                                              · rw [if_pos c127] at h
                                                refine g_41t (a := 0) (b := 1108) (nx := 859) (by decide +kernel) (by exact (cb_0 _ _).mpr c127) ?_
                                                refine g_11 (a := 3) (b := 6) (nx := 1111) (by decide +kernel) rfl rfl (ls' := [some (vR (-2000)), some (vR 1), some (vR 204), some (vI (x3 + 6))]) rfl ?_
                                                refine g_44 (a := 0) (b := 18) (nx := 1114) (by decide +kernel) ?_
                                                exact h
                                              · rw [if_neg c127] at h
                                                refine g_41f (a := 0) (b := 1108) (nx := 859) (by decide +kernel) (by exact fun hz => c127 ((cb_0 _ _).mp hz)) ?_
                                                refine g_1 (a := 0) (b := 0) (nx := 860) (by decide +kernel) ?_
                                                exact g_91z (b := 0) (nx := 861) (by decide +kernel) (by decide) h
                                            · rw [if_neg c122] at h
                                              by_cases c128 : (and32 (M (-2000) x3) 31) = 21
                                              · rw [if_pos c128] at h
                                                refine g_45 (a := 0) (b := 1108) (nx := 168) (by decide +kernel) r1 (t := 861) (by rw [(show sws LAWN 33 = [(0, 168), (1, 231), (2, 254), (3, 267), (4, 280), (5, 303), (6, 336), (7, 389), (8, 422), (9, 455), (10, 508), (11, 581), (12, 614), (13, 647), (14, 680), (15, 713), (16, 736), (17, 759), (18, 782), (19, 805), (20, 828), (21, 861), (22, 884), (23, 907), (24, 950), (25, 993), (26, 1016), (27, 1039), (28, 1072), (29, 1085)] from by decide +kernel)]; simp only [swL]; simp [c128]) ?_
                                                refine g_7 (a := 1) (b := 0) (nx := 862) (by decide +kernel) rfl ?_
                                                refine g_7 (a := 0) (b := 0) (nx := 863) (by decide +kernel) rfl ?_
                                                refine g_5 (a := 3) (b := 0) (nx := 864) (by decide +kernel) rfl ?_
                                                refine g_1 (a := 1) (b := 0) (nx := 865) (by decide +kernel) ?_
                                                refine g_15 (a := 0) (b := 0) (nx := 866) (by decide +kernel) ?_
                                                refine g_61p (a := 0) (b := 0) (nx := 867) (by decide +kernel) h.1 ?_
                                                replace h := h.2
                                                refine g_80 (a := 166) (b := 1) (nx := 870) (by decide +kernel) (r := 1) (As := [vI (M (-2000) (x3 + 1))]) (st' := []) (z := 166) rfl rfl rfl (Nat.le_of_ble_eq_true rfl) (show (shA SH 1).1 = 11 by decide +kernel) (Nat.le_of_ble_eq_true rfl) rfl (c_I (by decide +kernel) h (fun y130 M129 h => ?_))
                                                refine g_7 (a := 2) (b := 0) (nx := 871) (by decide +kernel) rfl ?_
                                                refine g_7 (a := 0) (b := 0) (nx := 872) (by decide +kernel) rfl ?_
                                                refine g_5 (a := 3) (b := 0) (nx := 873) (by decide +kernel) rfl ?_
                                                refine g_1 (a := 1) (b := 0) (nx := 874) (by decide +kernel) ?_
                                                refine g_15 (a := 0) (b := 0) (nx := 875) (by decide +kernel) ?_
                                                refine g_61p (a := 0) (b := 0) (nx := 876) (by decide +kernel) h.1 ?_
                                                replace h := h.2
                                                refine g_80 (a := 277) (b := 1) (nx := 879) (by decide +kernel) (r := 204) (As := [vI (M129 (-2000) (x3 + 1))]) (st' := [vI y130]) (z := 277) rfl rfl rfl (Nat.le_of_ble_eq_true rfl) (show (shA SH 204).1 = 12 by decide +kernel) (Nat.le_of_ble_eq_true rfl) rfl (c_I (by decide +kernel) h (fun y132 M131 h => ?_))
                                                by_cases c133 : wr32 y130 = wr32 y132
                                                · rw [if_pos c133] at h
                                                  refine g_41t (a := 0) (b := 1108) (nx := 882) (by decide +kernel) (by exact (cb_0 _ _).mpr c133) ?_
                                                  refine g_11 (a := 3) (b := 6) (nx := 1111) (by decide +kernel) rfl rfl (ls' := [some (vR (-2000)), some (vR 1), some (vR 204), some (vI (x3 + 6))]) rfl ?_
                                                  refine g_44 (a := 0) (b := 18) (nx := 1114) (by decide +kernel) ?_
                                                  exact h
                                                · rw [if_neg c133] at h
                                                  refine g_41f (a := 0) (b := 1108) (nx := 882) (by decide +kernel) (by exact fun hz => c133 ((cb_0 _ _).mp hz)) ?_
                                                  refine g_1 (a := 0) (b := 0) (nx := 883) (by decide +kernel) ?_
                                                  exact g_91z (b := 0) (nx := 884) (by decide +kernel) (by decide) h
                                              · rw [if_neg c128] at h
                                                by_cases c134 : (and32 (M (-2000) x3) 31) = 22
                                                · rw [if_pos c134] at h
                                                  refine g_45 (a := 0) (b := 1108) (nx := 168) (by decide +kernel) r1 (t := 884) (by rw [(show sws LAWN 33 = [(0, 168), (1, 231), (2, 254), (3, 267), (4, 280), (5, 303), (6, 336), (7, 389), (8, 422), (9, 455), (10, 508), (11, 581), (12, 614), (13, 647), (14, 680), (15, 713), (16, 736), (17, 759), (18, 782), (19, 805), (20, 828), (21, 861), (22, 884), (23, 907), (24, 950), (25, 993), (26, 1016), (27, 1039), (28, 1072), (29, 1085)] from by decide +kernel)]; simp only [swL]; simp [c134]) ?_
                                                  refine g_7 (a := 1) (b := 0) (nx := 885) (by decide +kernel) rfl ?_
                                                  refine g_7 (a := 0) (b := 0) (nx := 886) (by decide +kernel) rfl ?_
                                                  refine g_5 (a := 3) (b := 0) (nx := 887) (by decide +kernel) rfl ?_
                                                  refine g_1 (a := 1) (b := 0) (nx := 888) (by decide +kernel) ?_
                                                  refine g_15 (a := 0) (b := 0) (nx := 889) (by decide +kernel) ?_
                                                  refine g_61p (a := 0) (b := 0) (nx := 890) (by decide +kernel) h.1 ?_
                                                  replace h := h.2
                                                  refine g_80 (a := 167) (b := 1) (nx := 893) (by decide +kernel) (r := 1) (As := [vI (M (-2000) (x3 + 1))]) (st' := []) (z := 167) rfl rfl rfl (Nat.le_of_ble_eq_true rfl) (show (shA SH 1).1 = 11 by decide +kernel) (Nat.le_of_ble_eq_true rfl) rfl (c_I (by decide +kernel) h (fun y136 M135 h => ?_))
                                                  refine g_7 (a := 2) (b := 0) (nx := 894) (by decide +kernel) rfl ?_
                                                  refine g_7 (a := 0) (b := 0) (nx := 895) (by decide +kernel) rfl ?_
                                                  refine g_5 (a := 3) (b := 0) (nx := 896) (by decide +kernel) rfl ?_
                                                  refine g_1 (a := 1) (b := 0) (nx := 897) (by decide +kernel) ?_
                                                  refine g_15 (a := 0) (b := 0) (nx := 898) (by decide +kernel) ?_
                                                  refine g_61p (a := 0) (b := 0) (nx := 899) (by decide +kernel) h.1 ?_
                                                  replace h := h.2
                                                  refine g_80 (a := 281) (b := 1) (nx := 902) (by decide +kernel) (r := 204) (As := [vI (M135 (-2000) (x3 + 1))]) (st' := [vI y136]) (z := 281) rfl rfl rfl (Nat.le_of_ble_eq_true rfl) (show (shA SH 204).1 = 12 by decide +kernel) (Nat.le_of_ble_eq_true rfl) rfl (c_I (by decide +kernel) h (fun y138 M137 h => ?_))
                                                  by_cases c139 : wr32 y136 = wr32 y138
                                                  · rw [if_pos c139] at h
                                                    refine g_41t (a := 0) (b := 1108) (nx := 905) (by decide +kernel) (by exact (cb_0 _ _).mpr c139) ?_
                                                    refine g_11 (a := 3) (b := 6) (nx := 1111) (by decide +kernel) rfl rfl (ls' := [some (vR (-2000)), some (vR 1), some (vR 204), some (vI (x3 + 6))]) rfl ?_
                                                    refine g_44 (a := 0) (b := 18) (nx := 1114) (by decide +kernel) ?_
                                                    exact h
                                                  · rw [if_neg c139] at h
                                                    refine g_41f (a := 0) (b := 1108) (nx := 905) (by decide +kernel) (by exact fun hz => c139 ((cb_0 _ _).mp hz)) ?_
                                                    refine g_1 (a := 0) (b := 0) (nx := 906) (by decide +kernel) ?_
                                                    exact g_91z (b := 0) (nx := 907) (by decide +kernel) (by decide) h
                                                · rw [if_neg c134] at h
                                                  by_cases c140 : (and32 (M (-2000) x3) 31) = 23
                                                  · rw [if_pos c140] at h
                                                    refine g_45 (a := 0) (b := 1108) (nx := 168) (by decide +kernel) r1 (t := 907) (by rw [(show sws LAWN 33 = [(0, 168), (1, 231), (2, 254), (3, 267), (4, 280), (5, 303), (6, 336), (7, 389), (8, 422), (9, 455), (10, 508), (11, 581), (12, 614), (13, 647), (14, 680), (15, 713), (16, 736), (17, 759), (18, 782), (19, 805), (20, 828), (21, 861), (22, 884), (23, 907), (24, 950), (25, 993), (26, 1016), (27, 1039), (28, 1072), (29, 1085)] from by decide +kernel)]; simp only [swL]; simp [c140]) ?_
                                                    refine g_7 (a := 1) (b := 0) (nx := 908) (by decide +kernel) rfl ?_
                                                    refine g_7 (a := 0) (b := 0) (nx := 909) (by decide +kernel) rfl ?_
                                                    refine g_5 (a := 3) (b := 0) (nx := 910) (by decide +kernel) rfl ?_
                                                    refine g_1 (a := 1) (b := 0) (nx := 911) (by decide +kernel) ?_
                                                    refine g_15 (a := 0) (b := 0) (nx := 912) (by decide +kernel) ?_
                                                    refine g_61p (a := 0) (b := 0) (nx := 913) (by decide +kernel) h.1 ?_
                                                    replace h := h.2
                                                    refine g_7 (a := 0) (b := 0) (nx := 914) (by decide +kernel) rfl ?_
                                                    refine g_5 (a := 3) (b := 0) (nx := 915) (by decide +kernel) rfl ?_
                                                    refine g_1 (a := 2) (b := 0) (nx := 916) (by decide +kernel) ?_
                                                    refine g_15 (a := 0) (b := 0) (nx := 917) (by decide +kernel) ?_
                                                    refine g_61p (a := 0) (b := 0) (nx := 918) (by decide +kernel) h.1 ?_
                                                    replace h := h.2
                                                    refine g_7 (a := 0) (b := 0) (nx := 919) (by decide +kernel) rfl ?_
                                                    refine g_5 (a := 3) (b := 0) (nx := 920) (by decide +kernel) rfl ?_
                                                    refine g_1 (a := 3) (b := 0) (nx := 921) (by decide +kernel) ?_
                                                    refine g_15 (a := 0) (b := 0) (nx := 922) (by decide +kernel) ?_
                                                    refine g_61p (a := 0) (b := 0) (nx := 923) (by decide +kernel) h.1 ?_
                                                    replace h := h.2
                                                    refine g_80 (a := 168) (b := 3) (nx := 926) (by decide +kernel) (r := 1) (As := [vI (M (-2000) (x3 + 1)), vI (M (-2000) (x3 + 2)), vI (M (-2000) (x3 + 3))]) (st' := []) (z := 168) rfl rfl rfl (Nat.le_of_ble_eq_true rfl) (show (shA SH 1).1 = 11 by decide +kernel) (Nat.le_of_ble_eq_true rfl) rfl (c_I (by decide +kernel) h (fun y142 M141 h => ?_))
                                                    refine g_7 (a := 2) (b := 0) (nx := 927) (by decide +kernel) rfl ?_
                                                    refine g_7 (a := 0) (b := 0) (nx := 928) (by decide +kernel) rfl ?_
                                                    refine g_5 (a := 3) (b := 0) (nx := 929) (by decide +kernel) rfl ?_
                                                    refine g_1 (a := 1) (b := 0) (nx := 930) (by decide +kernel) ?_
                                                    refine g_15 (a := 0) (b := 0) (nx := 931) (by decide +kernel) ?_
                                                    refine g_61p (a := 0) (b := 0) (nx := 932) (by decide +kernel) h.1 ?_
                                                    replace h := h.2
                                                    refine g_7 (a := 0) (b := 0) (nx := 933) (by decide +kernel) rfl ?_
                                                    refine g_5 (a := 3) (b := 0) (nx := 934) (by decide +kernel) rfl ?_
                                                    refine g_1 (a := 2) (b := 0) (nx := 935) (by decide +kernel) ?_
                                                    refine g_15 (a := 0) (b := 0) (nx := 936) (by decide +kernel) ?_
                                                    refine g_61p (a := 0) (b := 0) (nx := 937) (by decide +kernel) h.1 ?_
                                                    replace h := h.2
                                                    refine g_7 (a := 0) (b := 0) (nx := 938) (by decide +kernel) rfl ?_
                                                    refine g_5 (a := 3) (b := 0) (nx := 939) (by decide +kernel) rfl ?_
                                                    refine g_1 (a := 3) (b := 0) (nx := 940) (by decide +kernel) ?_
                                                    refine g_15 (a := 0) (b := 0) (nx := 941) (by decide +kernel) ?_
                                                    refine g_61p (a := 0) (b := 0) (nx := 942) (by decide +kernel) h.1 ?_
                                                    replace h := h.2
                                                    refine g_80 (a := 286) (b := 3) (nx := 945) (by decide +kernel) (r := 204) (As := [vI (M141 (-2000) (x3 + 1)), vI (M141 (-2000) (x3 + 2)), vI (M141 (-2000) (x3 + 3))]) (st' := [vI y142]) (z := 286) rfl rfl rfl (Nat.le_of_ble_eq_true rfl) (show (shA SH 204).1 = 12 by decide +kernel) (Nat.le_of_ble_eq_true rfl) rfl (c_I (by decide +kernel) h (fun y144 M143 h => ?_))
                                                    by_cases c145 : wr32 y142 = wr32 y144
                                                    · rw [if_pos c145] at h
                                                      refine g_41t (a := 0) (b := 1108) (nx := 948) (by decide +kernel) (by exact (cb_0 _ _).mpr c145) ?_
                                                      refine g_11 (a := 3) (b := 6) (nx := 1111) (by decide +kernel) rfl rfl (ls' := [some (vR (-2000)), some (vR 1), some (vR 204), some (vI (x3 + 6))]) rfl ?_
                                                      refine g_44 (a := 0) (b := 18) (nx := 1114) (by decide +kernel) ?_
                                                      exact h
                                                    · rw [if_neg c145] at h
                                                      refine g_41f (a := 0) (b := 1108) (nx := 948) (by decide +kernel) (by exact fun hz => c145 ((cb_0 _ _).mp hz)) ?_
                                                      refine g_1 (a := 0) (b := 0) (nx := 949) (by decide +kernel) ?_
                                                      exact g_91z (b := 0) (nx := 950) (by decide +kernel) (by decide) h
                                                  · rw [if_neg c140] at h
                                                    by_cases c146 : (and32 (M (-2000) x3) 31) = 24
                                                    · rw [if_pos c146] at h
                                                      refine g_45 (a := 0) (b := 1108) (nx := 168) (by decide +kernel) r1 (t := 950) (by rw [(show sws LAWN 33 = [(0, 168), (1, 231), (2, 254), (3, 267), (4, 280), (5, 303), (6, 336), (7, 389), (8, 422), (9, 455), (10, 508), (11, 581), (12, 614), (13, 647), (14, 680), (15, 713), (16, 736), (17, 759), (18, 782), (19, 805), (20, 828), (21, 861), (22, 884), (23, 907), (24, 950), (25, 993), (26, 1016), (27, 1039), (28, 1072), (29, 1085)] from by decide +kernel)]; simp only [swL]; simp [c146]) ?_
                                                      refine g_7 (a := 1) (b := 0) (nx := 951) (by decide +kernel) rfl ?_
                                                      refine g_7 (a := 0) (b := 0) (nx := 952) (by decide +kernel) rfl ?_
                                                      refine g_5 (a := 3) (b := 0) (nx := 953) (by decide +kernel) rfl ?_
                                                      refine g_1 (a := 1) (b := 0) (nx := 954) (by decide +kernel) ?_
                                                      refine g_15 (a := 0) (b := 0) (nx := 955) (by decide +kernel) ?_
                                                      refine g_61p (a := 0) (b := 0) (nx := 956) (by decide +kernel) h.1 ?_
                                                      replace h := h.2
                                                      refine g_7 (a := 0) (b := 0) (nx := 957) (by decide +kernel) rfl ?_
                                                      refine g_5 (a := 3) (b := 0) (nx := 958) (by decide +kernel) rfl ?_
                                                      refine g_1 (a := 2) (b := 0) (nx := 959) (by decide +kernel) ?_
                                                      refine g_15 (a := 0) (b := 0) (nx := 960) (by decide +kernel) ?_
                                                      refine g_61p (a := 0) (b := 0) (nx := 961) (by decide +kernel) h.1 ?_
                                                      replace h := h.2
                                                      refine g_7 (a := 0) (b := 0) (nx := 962) (by decide +kernel) rfl ?_
                                                      refine g_5 (a := 3) (b := 0) (nx := 963) (by decide +kernel) rfl ?_
                                                      refine g_1 (a := 3) (b := 0) (nx := 964) (by decide +kernel) ?_
                                                      refine g_15 (a := 0) (b := 0) (nx := 965) (by decide +kernel) ?_
                                                      refine g_61p (a := 0) (b := 0) (nx := 966) (by decide +kernel) h.1 ?_
                                                      replace h := h.2
                                                      refine g_80 (a := 169) (b := 3) (nx := 969) (by decide +kernel) (r := 1) (As := [vI (M (-2000) (x3 + 1)), vI (M (-2000) (x3 + 2)), vI (M (-2000) (x3 + 3))]) (st' := []) (z := 169) rfl rfl rfl (Nat.le_of_ble_eq_true rfl) (show (shA SH 1).1 = 11 by decide +kernel) (Nat.le_of_ble_eq_true rfl) rfl (c_I (by decide +kernel) h (fun y148 M147 h => ?_))
                                                      refine g_7 (a := 2) (b := 0) (nx := 970) (by decide +kernel) rfl ?_
                                                      refine g_7 (a := 0) (b := 0) (nx := 971) (by decide +kernel) rfl ?_
                                                      refine g_5 (a := 3) (b := 0) (nx := 972) (by decide +kernel) rfl ?_
                                                      refine g_1 (a := 1) (b := 0) (nx := 973) (by decide +kernel) ?_
                                                      refine g_15 (a := 0) (b := 0) (nx := 974) (by decide +kernel) ?_
                                                      refine g_61p (a := 0) (b := 0) (nx := 975) (by decide +kernel) h.1 ?_
                                                      replace h := h.2
                                                      refine g_7 (a := 0) (b := 0) (nx := 976) (by decide +kernel) rfl ?_
                                                      refine g_5 (a := 3) (b := 0) (nx := 977) (by decide +kernel) rfl ?_
                                                      refine g_1 (a := 2) (b := 0) (nx := 978) (by decide +kernel) ?_
                                                      refine g_15 (a := 0) (b := 0) (nx := 979) (by decide +kernel) ?_
                                                      refine g_61p (a := 0) (b := 0) (nx := 980) (by decide +kernel) h.1 ?_
                                                      replace h := h.2
                                                      refine g_7 (a := 0) (b := 0) (nx := 981) (by decide +kernel) rfl ?_
                                                      refine g_5 (a := 3) (b := 0) (nx := 982) (by decide +kernel) rfl ?_
                                                      refine g_1 (a := 3) (b := 0) (nx := 983) (by decide +kernel) ?_
                                                      refine g_15 (a := 0) (b := 0) (nx := 984) (by decide +kernel) ?_
                                                      refine g_61p (a := 0) (b := 0) (nx := 985) (by decide +kernel) h.1 ?_
                                                      replace h := h.2
                                                      refine g_80 (a := 289) (b := 3) (nx := 988) (by decide +kernel) (r := 204) (As := [vI (M147 (-2000) (x3 + 1)), vI (M147 (-2000) (x3 + 2)), vI (M147 (-2000) (x3 + 3))]) (st' := [vI y148]) (z := 289) rfl rfl rfl (Nat.le_of_ble_eq_true rfl) (show (shA SH 204).1 = 12 by decide +kernel) (Nat.le_of_ble_eq_true rfl) rfl (c_I (by decide +kernel) h (fun y150 M149 h => ?_))
                                                      by_cases c151 : wr32 y148 = wr32 y150
                                                      · rw [if_pos c151] at h
                                                        refine g_41t (a := 0) (b := 1108) (nx := 991) (by decide +kernel) (by exact (cb_0 _ _).mpr c151) ?_
                                                        refine g_11 (a := 3) (b := 6) (nx := 1111) (by decide +kernel) rfl rfl (ls' := [some (vR (-2000)), some (vR 1), some (vR 204), some (vI (x3 + 6))]) rfl ?_
                                                        refine g_44 (a := 0) (b := 18) (nx := 1114) (by decide +kernel) ?_
                                                        exact h
                                                      · rw [if_neg c151] at h
                                                        refine g_41f (a := 0) (b := 1108) (nx := 991) (by decide +kernel) (by exact fun hz => c151 ((cb_0 _ _).mp hz)) ?_
                                                        refine g_1 (a := 0) (b := 0) (nx := 992) (by decide +kernel) ?_
                                                        exact g_91z (b := 0) (nx := 993) (by decide +kernel) (by decide) h
                                                    · rw [if_neg c146] at h
                                                      by_cases c152 : (and32 (M (-2000) x3) 31) = 25
                                                      · rw [if_pos c152] at h
                                                        refine g_45 (a := 0) (b := 1108) (nx := 168) (by decide +kernel) r1 (t := 993) (by rw [(show sws LAWN 33 = [(0, 168), (1, 231), (2, 254), (3, 267), (4, 280), (5, 303), (6, 336), (7, 389), (8, 422), (9, 455), (10, 508), (11, 581), (12, 614), (13, 647), (14, 680), (15, 713), (16, 736), (17, 759), (18, 782), (19, 805), (20, 828), (21, 861), (22, 884), (23, 907), (24, 950), (25, 993), (26, 1016), (27, 1039), (28, 1072), (29, 1085)] from by decide +kernel)]; simp only [swL]; simp [c152]) ?_
                                                        refine g_7 (a := 1) (b := 0) (nx := 994) (by decide +kernel) rfl ?_
                                                        refine g_7 (a := 0) (b := 0) (nx := 995) (by decide +kernel) rfl ?_
                                                        refine g_5 (a := 3) (b := 0) (nx := 996) (by decide +kernel) rfl ?_
                                                        refine g_1 (a := 1) (b := 0) (nx := 997) (by decide +kernel) ?_
                                                        refine g_15 (a := 0) (b := 0) (nx := 998) (by decide +kernel) ?_
                                                        refine g_61p (a := 0) (b := 0) (nx := 999) (by decide +kernel) h.1 ?_
                                                        replace h := h.2
                                                        refine g_80 (a := 170) (b := 1) (nx := 1002) (by decide +kernel) (r := 1) (As := [vI (M (-2000) (x3 + 1))]) (st' := []) (z := 170) rfl rfl rfl (Nat.le_of_ble_eq_true rfl) (show (shA SH 1).1 = 11 by decide +kernel) (Nat.le_of_ble_eq_true rfl) rfl (c_I (by decide +kernel) h (fun y154 M153 h => ?_))
                                                        refine g_7 (a := 2) (b := 0) (nx := 1003) (by decide +kernel) rfl ?_
                                                        refine g_7 (a := 0) (b := 0) (nx := 1004) (by decide +kernel) rfl ?_
                                                        refine g_5 (a := 3) (b := 0) (nx := 1005) (by decide +kernel) rfl ?_
                                                        refine g_1 (a := 1) (b := 0) (nx := 1006) (by decide +kernel) ?_
                                                        refine g_15 (a := 0) (b := 0) (nx := 1007) (by decide +kernel) ?_
                                                        refine g_61p (a := 0) (b := 0) (nx := 1008) (by decide +kernel) h.1 ?_
                                                        replace h := h.2
                                                        refine g_80 (a := 215) (b := 1) (nx := 1011) (by decide +kernel) (r := 204) (As := [vI (M153 (-2000) (x3 + 1))]) (st' := [vI y154]) (z := 215) rfl rfl rfl (Nat.le_of_ble_eq_true rfl) (show (shA SH 204).1 = 12 by decide +kernel) (Nat.le_of_ble_eq_true rfl) rfl (c_I (by decide +kernel) h (fun y156 M155 h => ?_))
                                                        by_cases c157 : wr32 y154 = wr32 y156
                                                        · rw [if_pos c157] at h
                                                          refine g_41t (a := 0) (b := 1108) (nx := 1014) (by decide +kernel) (by exact (cb_0 _ _).mpr c157) ?_
                                                          refine g_11 (a := 3) (b := 6) (nx := 1111) (by decide +kernel) rfl rfl (ls' := [some (vR (-2000)), some (vR 1), some (vR 204), some (vI (x3 + 6))]) rfl ?_
                                                          refine g_44 (a := 0) (b := 18) (nx := 1114) (by decide +kernel) ?_
                                                          exact h
                                                        · rw [if_neg c157] at h
                                                          refine g_41f (a := 0) (b := 1108) (nx := 1014) (by decide +kernel) (by exact fun hz => c157 ((cb_0 _ _).mp hz)) ?_
                                                          refine g_1 (a := 0) (b := 0) (nx := 1015) (by decide +kernel) ?_
                                                          exact g_91z (b := 0) (nx := 1016) (by decide +kernel) (by decide) h
                                                      · rw [if_neg c152] at h
                                                        by_cases c158 : (and32 (M (-2000) x3) 31) = 26
                                                        · rw [if_pos c158] at h
                                                          refine g_45 (a := 0) (b := 1108) (nx := 168) (by decide +kernel) r1 (t := 1016) (by rw [(show sws LAWN 33 = [(0, 168), (1, 231), (2, 254), (3, 267), (4, 280), (5, 303), (6, 336), (7, 389), (8, 422), (9, 455), (10, 508), (11, 581), (12, 614), (13, 647), (14, 680), (15, 713), (16, 736), (17, 759), (18, 782), (19, 805), (20, 828), (21, 861), (22, 884), (23, 907), (24, 950), (25, 993), (26, 1016), (27, 1039), (28, 1072), (29, 1085)] from by decide +kernel)]; simp only [swL]; simp [c158]) ?_
                                                          refine g_7 (a := 1) (b := 0) (nx := 1017) (by decide +kernel) rfl ?_
                                                          refine g_7 (a := 0) (b := 0) (nx := 1018) (by decide +kernel) rfl ?_
                                                          refine g_5 (a := 3) (b := 0) (nx := 1019) (by decide +kernel) rfl ?_
                                                          refine g_1 (a := 1) (b := 0) (nx := 1020) (by decide +kernel) ?_
                                                          refine g_15 (a := 0) (b := 0) (nx := 1021) (by decide +kernel) ?_
                                                          refine g_61p (a := 0) (b := 0) (nx := 1022) (by decide +kernel) h.1 ?_
                                                          replace h := h.2
                                                          refine g_80 (a := 171) (b := 1) (nx := 1025) (by decide +kernel) (r := 1) (As := [vI (M (-2000) (x3 + 1))]) (st' := []) (z := 171) rfl rfl rfl (Nat.le_of_ble_eq_true rfl) (show (shA SH 1).1 = 11 by decide +kernel) (Nat.le_of_ble_eq_true rfl) rfl (c_I (by decide +kernel) h (fun y160 M159 h => ?_))
                                                          refine g_7 (a := 2) (b := 0) (nx := 1026) (by decide +kernel) rfl ?_
                                                          refine g_7 (a := 0) (b := 0) (nx := 1027) (by decide +kernel) rfl ?_
                                                          refine g_5 (a := 3) (b := 0) (nx := 1028) (by decide +kernel) rfl ?_
                                                          refine g_1 (a := 1) (b := 0) (nx := 1029) (by decide +kernel) ?_
                                                          refine g_15 (a := 0) (b := 0) (nx := 1030) (by decide +kernel) ?_
                                                          refine g_61p (a := 0) (b := 0) (nx := 1031) (by decide +kernel) h.1 ?_
                                                          replace h := h.2
                                                          refine g_80 (a := 216) (b := 1) (nx := 1034) (by decide +kernel) (r := 204) (As := [vI (M159 (-2000) (x3 + 1))]) (st' := [vI y160]) (z := 216) rfl rfl rfl (Nat.le_of_ble_eq_true rfl) (show (shA SH 204).1 = 12 by decide +kernel) (Nat.le_of_ble_eq_true rfl) rfl (c_I (by decide +kernel) h (fun y162 M161 h => ?_))
                                                          by_cases c163 : wr32 y160 = wr32 y162
                                                          · rw [if_pos c163] at h
                                                            refine g_41t (a := 0) (b := 1108) (nx := 1037) (by decide +kernel) (by exact (cb_0 _ _).mpr c163) ?_
                                                            refine g_11 (a := 3) (b := 6) (nx := 1111) (by decide +kernel) rfl rfl (ls' := [some (vR (-2000)), some (vR 1), some (vR 204), some (vI (x3 + 6))]) rfl ?_
                                                            refine g_44 (a := 0) (b := 18) (nx := 1114) (by decide +kernel) ?_
                                                            exact h
                                                          · rw [if_neg c163] at h
                                                            refine g_41f (a := 0) (b := 1108) (nx := 1037) (by decide +kernel) (by exact fun hz => c163 ((cb_0 _ _).mp hz)) ?_
                                                            refine g_1 (a := 0) (b := 0) (nx := 1038) (by decide +kernel) ?_
                                                            exact g_91z (b := 0) (nx := 1039) (by decide +kernel) (by decide) h
                                                        · rw [if_neg c158] at h
                                                          by_cases c164 : (and32 (M (-2000) x3) 31) = 27
                                                          · rw [if_pos c164] at h
                                                            refine g_45 (a := 0) (b := 1108) (nx := 168) (by decide +kernel) r1 (t := 1039) (by rw [(show sws LAWN 33 = [(0, 168), (1, 231), (2, 254), (3, 267), (4, 280), (5, 303), (6, 336), (7, 389), (8, 422), (9, 455), (10, 508), (11, 581), (12, 614), (13, 647), (14, 680), (15, 713), (16, 736), (17, 759), (18, 782), (19, 805), (20, 828), (21, 861), (22, 884), (23, 907), (24, 950), (25, 993), (26, 1016), (27, 1039), (28, 1072), (29, 1085)] from by decide +kernel)]; simp only [swL]; simp [c164]) ?_
                                                            refine g_7 (a := 1) (b := 0) (nx := 1040) (by decide +kernel) rfl ?_
                                                            refine g_7 (a := 0) (b := 0) (nx := 1041) (by decide +kernel) rfl ?_
                                                            refine g_5 (a := 3) (b := 0) (nx := 1042) (by decide +kernel) rfl ?_
                                                            refine g_1 (a := 1) (b := 0) (nx := 1043) (by decide +kernel) ?_
                                                            refine g_15 (a := 0) (b := 0) (nx := 1044) (by decide +kernel) ?_
                                                            refine g_61p (a := 0) (b := 0) (nx := 1045) (by decide +kernel) h.1 ?_
                                                            replace h := h.2
                                                            refine g_7 (a := 0) (b := 0) (nx := 1046) (by decide +kernel) rfl ?_
                                                            refine g_5 (a := 3) (b := 0) (nx := 1047) (by decide +kernel) rfl ?_
                                                            refine g_1 (a := 2) (b := 0) (nx := 1048) (by decide +kernel) ?_
                                                            refine g_15 (a := 0) (b := 0) (nx := 1049) (by decide +kernel) ?_
                                                            refine g_61p (a := 0) (b := 0) (nx := 1050) (by decide +kernel) h.1 ?_
                                                            replace h := h.2
                                                            refine g_80 (a := 172) (b := 2) (nx := 1053) (by decide +kernel) (r := 1) (As := [vI (M (-2000) (x3 + 1)), vI (M (-2000) (x3 + 2))]) (st' := []) (z := 172) rfl rfl rfl (Nat.le_of_ble_eq_true rfl) (show (shA SH 1).1 = 11 by decide +kernel) (Nat.le_of_ble_eq_true rfl) rfl (c_I (by decide +kernel) h (fun y166 M165 h => ?_))
                                                            refine g_7 (a := 2) (b := 0) (nx := 1054) (by decide +kernel) rfl ?_
                                                            refine g_7 (a := 0) (b := 0) (nx := 1055) (by decide +kernel) rfl ?_
                                                            refine g_5 (a := 3) (b := 0) (nx := 1056) (by decide +kernel) rfl ?_
                                                            refine g_1 (a := 1) (b := 0) (nx := 1057) (by decide +kernel) ?_
                                                            refine g_15 (a := 0) (b := 0) (nx := 1058) (by decide +kernel) ?_
                                                            refine g_61p (a := 0) (b := 0) (nx := 1059) (by decide +kernel) h.1 ?_
                                                            replace h := h.2
                                                            refine g_7 (a := 0) (b := 0) (nx := 1060) (by decide +kernel) rfl ?_
                                                            refine g_5 (a := 3) (b := 0) (nx := 1061) (by decide +kernel) rfl ?_
                                                            refine g_1 (a := 2) (b := 0) (nx := 1062) (by decide +kernel) ?_
                                                            refine g_15 (a := 0) (b := 0) (nx := 1063) (by decide +kernel) ?_
                                                            refine g_61p (a := 0) (b := 0) (nx := 1064) (by decide +kernel) h.1 ?_
                                                            replace h := h.2
                                                            refine g_80 (a := 217) (b := 2) (nx := 1067) (by decide +kernel) (r := 204) (As := [vI (M165 (-2000) (x3 + 1)), vI (M165 (-2000) (x3 + 2))]) (st' := [vI y166]) (z := 217) rfl rfl rfl (Nat.le_of_ble_eq_true rfl) (show (shA SH 204).1 = 12 by decide +kernel) (Nat.le_of_ble_eq_true rfl) rfl (c_I (by decide +kernel) h (fun y168 M167 h => ?_))
                                                            by_cases c169 : wr32 y166 = wr32 y168
                                                            · rw [if_pos c169] at h
                                                              refine g_41t (a := 0) (b := 1108) (nx := 1070) (by decide +kernel) (by exact (cb_0 _ _).mpr c169) ?_
                                                              refine g_11 (a := 3) (b := 6) (nx := 1111) (by decide +kernel) rfl rfl (ls' := [some (vR (-2000)), some (vR 1), some (vR 204), some (vI (x3 + 6))]) rfl ?_
                                                              refine g_44 (a := 0) (b := 18) (nx := 1114) (by decide +kernel) ?_
                                                              exact h
                                                            · rw [if_neg c169] at h
                                                              refine g_41f (a := 0) (b := 1108) (nx := 1070) (by decide +kernel) (by exact fun hz => c169 ((cb_0 _ _).mp hz)) ?_
                                                              refine g_1 (a := 0) (b := 0) (nx := 1071) (by decide +kernel) ?_
                                                              exact g_91z (b := 0) (nx := 1072) (by decide +kernel) (by decide) h
                                                          · rw [if_neg c164] at h
                                                            by_cases c170 : (and32 (M (-2000) x3) 31) = 28
                                                            · rw [if_pos c170] at h
                                                              refine g_45 (a := 0) (b := 1108) (nx := 168) (by decide +kernel) r1 (t := 1072) (by rw [(show sws LAWN 33 = [(0, 168), (1, 231), (2, 254), (3, 267), (4, 280), (5, 303), (6, 336), (7, 389), (8, 422), (9, 455), (10, 508), (11, 581), (12, 614), (13, 647), (14, 680), (15, 713), (16, 736), (17, 759), (18, 782), (19, 805), (20, 828), (21, 861), (22, 884), (23, 907), (24, 950), (25, 993), (26, 1016), (27, 1039), (28, 1072), (29, 1085)] from by decide +kernel)]; simp only [swL]; simp [c170]) ?_
                                                              refine g_7 (a := 1) (b := 0) (nx := 1073) (by decide +kernel) rfl ?_
                                                              refine g_80 (a := 173) (b := 0) (nx := 1076) (by decide +kernel) (r := 1) (As := []) (st' := []) (z := 173) rfl rfl rfl (Nat.le_of_ble_eq_true rfl) (show (shA SH 1).1 = 11 by decide +kernel) (Nat.le_of_ble_eq_true rfl) rfl (c_I (by decide +kernel) h (fun y172 M171 h => ?_))
                                                              refine g_7 (a := 2) (b := 0) (nx := 1077) (by decide +kernel) rfl ?_
                                                              refine g_80 (a := 214) (b := 0) (nx := 1080) (by decide +kernel) (r := 204) (As := []) (st' := [vI y172]) (z := 214) rfl rfl rfl (Nat.le_of_ble_eq_true rfl) (show (shA SH 204).1 = 12 by decide +kernel) (Nat.le_of_ble_eq_true rfl) rfl (c_I (by decide +kernel) h (fun y174 M173 h => ?_))
                                                              by_cases c175 : wr32 y172 = wr32 y174
                                                              · rw [if_pos c175] at h
                                                                refine g_41t (a := 0) (b := 1108) (nx := 1083) (by decide +kernel) (by exact (cb_0 _ _).mpr c175) ?_
                                                                refine g_11 (a := 3) (b := 6) (nx := 1111) (by decide +kernel) rfl rfl (ls' := [some (vR (-2000)), some (vR 1), some (vR 204), some (vI (x3 + 6))]) rfl ?_
                                                                refine g_44 (a := 0) (b := 18) (nx := 1114) (by decide +kernel) ?_
                                                                exact h
                                                              · rw [if_neg c175] at h
                                                                refine g_41f (a := 0) (b := 1108) (nx := 1083) (by decide +kernel) (by exact fun hz => c175 ((cb_0 _ _).mp hz)) ?_
                                                                refine g_1 (a := 0) (b := 0) (nx := 1084) (by decide +kernel) ?_
                                                                exact g_91z (b := 0) (nx := 1085) (by decide +kernel) (by decide) h
                                                            · rw [if_neg c170] at h
                                                              by_cases c176 : (and32 (M (-2000) x3) 31) = 29
                                                              · rw [if_pos c176] at h
                                                                refine g_45 (a := 0) (b := 1108) (nx := 168) (by decide +kernel) r1 (t := 1085) (by rw [(show sws LAWN 33 = [(0, 168), (1, 231), (2, 254), (3, 267), (4, 280), (5, 303), (6, 336), (7, 389), (8, 422), (9, 455), (10, 508), (11, 581), (12, 614), (13, 647), (14, 680), (15, 713), (16, 736), (17, 759), (18, 782), (19, 805), (20, 828), (21, 861), (22, 884), (23, 907), (24, 950), (25, 993), (26, 1016), (27, 1039), (28, 1072), (29, 1085)] from by decide +kernel)]; simp only [swL]; simp [c176]) ?_
                                                                refine g_7 (a := 1) (b := 0) (nx := 1086) (by decide +kernel) rfl ?_
                                                                refine g_7 (a := 0) (b := 0) (nx := 1087) (by decide +kernel) rfl ?_
                                                                refine g_5 (a := 3) (b := 0) (nx := 1088) (by decide +kernel) rfl ?_
                                                                refine g_1 (a := 1) (b := 0) (nx := 1089) (by decide +kernel) ?_
                                                                refine g_15 (a := 0) (b := 0) (nx := 1090) (by decide +kernel) ?_
                                                                refine g_61p (a := 0) (b := 0) (nx := 1091) (by decide +kernel) h.1 ?_
                                                                replace h := h.2
                                                                refine g_80 (a := 174) (b := 1) (nx := 1094) (by decide +kernel) (r := 1) (As := [vI (M (-2000) (x3 + 1))]) (st' := []) (z := 174) rfl rfl rfl (Nat.le_of_ble_eq_true rfl) (show (shA SH 1).1 = 11 by decide +kernel) (Nat.le_of_ble_eq_true rfl) rfl (c_I (by decide +kernel) h (fun y178 M177 h => ?_))
                                                                refine g_7 (a := 2) (b := 0) (nx := 1095) (by decide +kernel) rfl ?_
                                                                refine g_7 (a := 0) (b := 0) (nx := 1096) (by decide +kernel) rfl ?_
                                                                refine g_5 (a := 3) (b := 0) (nx := 1097) (by decide +kernel) rfl ?_
                                                                refine g_1 (a := 1) (b := 0) (nx := 1098) (by decide +kernel) ?_
                                                                refine g_15 (a := 0) (b := 0) (nx := 1099) (by decide +kernel) ?_
                                                                refine g_61p (a := 0) (b := 0) (nx := 1100) (by decide +kernel) h.1 ?_
                                                                replace h := h.2
                                                                refine g_80 (a := 290) (b := 1) (nx := 1103) (by decide +kernel) (r := 204) (As := [vI (M177 (-2000) (x3 + 1))]) (st' := [vI y178]) (z := 290) rfl rfl rfl (Nat.le_of_ble_eq_true rfl) (show (shA SH 204).1 = 12 by decide +kernel) (Nat.le_of_ble_eq_true rfl) rfl (c_I (by decide +kernel) h (fun y180 M179 h => ?_))
                                                                by_cases c181 : wr32 y178 = wr32 y180
                                                                · rw [if_pos c181] at h
                                                                  refine g_41t (a := 0) (b := 1108) (nx := 1106) (by decide +kernel) (by exact (cb_0 _ _).mpr c181) ?_
                                                                  refine g_11 (a := 3) (b := 6) (nx := 1111) (by decide +kernel) rfl rfl (ls' := [some (vR (-2000)), some (vR 1), some (vR 204), some (vI (x3 + 6))]) rfl ?_
                                                                  refine g_44 (a := 0) (b := 18) (nx := 1114) (by decide +kernel) ?_
                                                                  exact h
                                                                · rw [if_neg c181] at h
                                                                  refine g_41f (a := 0) (b := 1108) (nx := 1106) (by decide +kernel) (by exact fun hz => c181 ((cb_0 _ _).mp hz)) ?_
                                                                  refine g_1 (a := 0) (b := 0) (nx := 1107) (by decide +kernel) ?_
                                                                  exact g_91z (b := 0) (nx := 1108) (by decide +kernel) (by decide) h
                                                              · rw [if_neg c176] at h
                                                                refine g_45 (a := 0) (b := 1108) (nx := 168) (by decide +kernel) r1 (t := 1108) (by rw [(show sws LAWN 33 = [(0, 168), (1, 231), (2, 254), (3, 267), (4, 280), (5, 303), (6, 336), (7, 389), (8, 422), (9, 455), (10, 508), (11, 581), (12, 614), (13, 647), (14, 680), (15, 713), (16, 736), (17, 759), (18, 782), (19, 805), (20, 828), (21, 861), (22, 884), (23, 907), (24, 950), (25, 993), (26, 1016), (27, 1039), (28, 1072), (29, 1085)] from by decide +kernel)]; simp only [swL]; first | rfl | (simp [c2, c8, c14, c20, c26, c32, c38, c44, c50, c56, c62, c68, c74, c80, c86, c92, c98, c104, c110, c116, c122, c128, c134, c140, c146, c152, c158, c164, c170, c176])) ?_
                                                                refine g_11 (a := 3) (b := 6) (nx := 1111) (by decide +kernel) rfl rfl (ls' := [some (vR (-2000)), some (vR 1), some (vR 204), some (vI (x3 + 6))]) rfl ?_
                                                                refine g_44 (a := 0) (b := 18) (nx := 1114) (by decide +kernel) ?_
                                                                exact h
theorem tl_298_15 {s0 : Int} {M : Mem} {Q : AV → Mem → Prop} (h : WR 298 18 [some (vR (-2000)), some (vR 1), some (vR s0), some (vI 0)] [] M Q) : WR 298 15 [some (vR (-2000)), some (vR 1), none, none] [vR s0] M Q := by
  refine g_10 (a := 2) (b := 0) (nx := 16) (by decide +kernel) rfl (ls' := [some (vR (-2000)), some (vR 1), some (vR s0), none]) rfl ?_
  refine g_1 (a := 0) (b := 0) (nx := 17) (by decide +kernel) ?_
  refine g_8 (a := 3) (b := 0) (nx := 18) (by decide +kernel) rfl (ls' := [some (vR (-2000)), some (vR 1), some (vR s0), some (vI 0)]) rfl ?_
  exact h
theorem tl_176_386 {M : Mem} {Q : AV → Mem → Prop} (h : WV 193 [vR 204] M (fun M1 => WV 210 [vR 204] M1 (fun M3 => Q (vI 0) M3))) : WR 176 386 [some (vR 204)] [] M Q := by
  refine g_7 (a := 0) (b := 0) (nx := 387) (by decide +kernel) rfl ?_
  refine g_80 (a := 193) (b := 0) (nx := 390) (by decide +kernel) (r := 204) (As := []) (st' := []) (z := 193) rfl rfl rfl (Nat.le_of_ble_eq_true rfl) (show (shA SH 204).1 = 12 by decide +kernel) (Nat.le_of_ble_eq_true rfl) rfl (c_V (by decide +kernel) h (fun M1 h => ?_))
  refine g_7 (a := 0) (b := 0) (nx := 391) (by decide +kernel) rfl ?_
  refine g_80 (a := 210) (b := 0) (nx := 394) (by decide +kernel) (r := 204) (As := []) (st' := []) (z := 210) rfl rfl rfl (Nat.le_of_ble_eq_true rfl) (show (shA SH 204).1 = 12 by decide +kernel) (Nat.le_of_ble_eq_true rfl) rfl (c_V (by decide +kernel) h (fun M3 h => ?_))
  exact g_90 (a := 0) (b := 0) (nx := 395) (by decide +kernel) h
