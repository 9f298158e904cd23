/-! behind the constructors: the references are rho0, but for code and draft of the law -/
def rho0 : Mem := (upm (upm (upm (upm (upm (upm (upm (upm (upm (upm (upm (upm (upm (upm (upm (upm (upm (upm (upm (upm (upm (upm (upm (upm (upm (upm (upm (upm (upm (upm (upm (upm (upm (upm (upm (upm (upm (upm (gro (upm (upm (upm (upm (upm (upm (upm (upm (upm (upm (upm (upm (upm (upm (upm (upm (upm (upm (upm (upm (upm (upm (upm (upm (upm (upm (gro (upm (gro (upm (upm (upm (upm (upm (upm (upm (upm (upm (upm (upm (upm (upm (upm (upm (upm (upm (upm (upm (upm (upm (upm (upm (upm (upm (gro (upm (upm (upm (upm (upm (upm (upm (gro (fun _ _ => 0) 3 13) 2 0 3) 2 1 17) 18 0 19) 18 1 20) 18 2 21) 18 3 22) 2 2 18) 24 9) 23 1 24) 23 2 34) 23 3 35) 23 4 36) 23 0 2) 37 2 38) 37 3 39) 37 4 40) 37 5 41) 37 0 2) 37 1 23) 1 0 2) 1 1 23) 1 2 37) 42 3 43) 42 0 2) 42 1 23) 42 2 37) 1 3 42) 44 3 45) 44 4 46) 44 0 2) 44 1 23) 44 2 37) 1 4 44) 48 3) 47 3 48) 52 5) 47 4 52) 47 5 58) 47 6 59) 47 0 2) 47 1 23) 47 2 37) 1 5 47) 60 2 61) 60 3 62) 60 4 63) 60 0 2) 60 1 23) 1 6 60) 64 1 65) 64 2 66) 64 3 67) 64 4 68) 64 0 2) 1 7 64) 69 0 70) 69 1 71) 1 8 69) 72 0 73) 72 1 74) 72 2 75) 72 3 76) 77 6) 72 4 77) 1 9 72) 84 2 85) 84 3 86) 84 4 87) 84 5 88) 84 6 89) 84 7 90) 84 8 91) 84 11 92) 84 12 93) 84 13 94) 84 14 95) 84 15 96) 84 21 97) 84 22 98) 84 23 99) 84 24 100) 84 25 101) 84 26 102) 84 27 103) 84 29 104) 84 32 105) 84 34 106) 84 36 107) 84 37 108) 84 38 109) 84 39 110) 84 41 111) 84 42 112) 84 45 113) 84 46 114) 84 48 115) 84 50 116) 84 51 117) 84 52 118) 84 53 119) 84 54 120)
def mem0 : Mem := (upm (upm (upm (upm (upm (upm (upm (upm (upm (upm (upm (upm (upm (upm (upm (upm (upm (upm (upm (upm (upm (upm (fun _ _ => 0) 12 0 60) 13 0 1) 14 0 2) 23 5 1) 23 6 (-1)) 37 7 1) 37 8 (-1)) 47 7 1) 91 0 0) 91 1 0) 91 2 60) 91 3 1) 91 4 2) 91 5 0) 91 6 0) 84 33 (-1)) 117 0 (-1)) 117 1 (-1)) 117 2 (-1)) 117 3 (-1)) 117 4 (-1)) 117 5 (-1))
def rhoS (sw : Bool) : Mem := if sw then upm (upm rho0 18 2 22) 18 3 21 else rho0
def rcode (sw : Bool) : Int := if sw then 22 else 21
def rdraft (sw : Bool) : Int := if sw then 21 else 22
abbrev R2 (X : Cx) (d : Nat) (M : Md) (pc : Nat) (lv : List (Nat × AV)) (st : List AV) (sw : Bool) (m : Mem) (Q : Int → Bool → Mem → Prop) : Prop := RR X d M NT NT NT pc lv st (rhoS sw) m (fun z r m1 => ∃ sw1, r = rhoS sw1 ∧ Q z sw1 m1)
abbrev M2 (X : Cx) (d : Nat) (M : Md) (as : List AV) (sw : Bool) (m : Mem) (Q : Int → Bool → Mem → Prop) : Prop := Mt X d M NT NT as (rhoS sw) m (fun z r m1 => ∃ sw1, r = rhoS sw1 ∧ Q z sw1 m1)
theorem c1 : isO NT 1 0 := ⟨by decide, by decide, by decide, rfl⟩
theorem c2 : isO NT 2 1 := ⟨by decide, by decide, by decide, rfl⟩
theorem c3 : isA NT 3 (.array .int) 13 := ⟨by decide, by decide, by decide, rfl⟩
theorem c4 : isA NT 4 (.int) 9 := ⟨by decide, by decide, by decide, rfl⟩
theorem c5 : isA NT 5 (.int) 9 := ⟨by decide, by decide, by decide, rfl⟩
theorem c6 : isA NT 6 (.int) 9 := ⟨by decide, by decide, by decide, rfl⟩
theorem c7 : isA NT 7 (.int) 9 := ⟨by decide, by decide, by decide, rfl⟩
theorem c8 : isA NT 8 (.int) 9 := ⟨by decide, by decide, by decide, rfl⟩
theorem c9 : isA NT 9 (.int) 9 := ⟨by decide, by decide, by decide, rfl⟩
theorem c10 : isA NT 10 (.int) 9 := ⟨by decide, by decide, by decide, rfl⟩
theorem c11 : isA NT 11 (.int) 9 := ⟨by decide, by decide, by decide, rfl⟩
theorem c12 : isA NT 12 (.int) 9 := ⟨by decide, by decide, by decide, rfl⟩
theorem c13 : isA NT 13 (.int) 9 := ⟨by decide, by decide, by decide, rfl⟩
theorem c14 : isA NT 14 (.int) 9 := ⟨by decide, by decide, by decide, rfl⟩
theorem c15 : isA NT 15 (.int) 9 := ⟨by decide, by decide, by decide, rfl⟩
theorem c16 : isA NT 16 (.int) 9 := ⟨by decide, by decide, by decide, rfl⟩
theorem c17 : isA NT 17 (.int) 6 := ⟨by decide, by decide, by decide, rfl⟩
theorem c18 : isO NT 18 2 := ⟨by decide, by decide, by decide, rfl⟩
theorem c19 : isA NT 19 (.int) 120 := ⟨by decide, by decide, by decide, rfl⟩
theorem c20 : isA NT 20 (.int) 128 := ⟨by decide, by decide, by decide, rfl⟩
theorem c21 : isA NT 21 (.int) 128 := ⟨by decide, by decide, by decide, rfl⟩
theorem c22 : isA NT 22 (.int) 128 := ⟨by decide, by decide, by decide, rfl⟩
theorem c23 : isO NT 23 3 := ⟨by decide, by decide, by decide, rfl⟩
theorem c24 : isA NT 24 (.array .int) 9 := ⟨by decide, by decide, by decide, rfl⟩
theorem c25 : isA NT 25 (.int) 512 := ⟨by decide, by decide, by decide, rfl⟩
theorem c26 : isA NT 26 (.int) 512 := ⟨by decide, by decide, by decide, rfl⟩
theorem c27 : isA NT 27 (.int) 512 := ⟨by decide, by decide, by decide, rfl⟩
theorem c28 : isA NT 28 (.int) 512 := ⟨by decide, by decide, by decide, rfl⟩
theorem c29 : isA NT 29 (.int) 512 := ⟨by decide, by decide, by decide, rfl⟩
theorem c30 : isA NT 30 (.int) 512 := ⟨by decide, by decide, by decide, rfl⟩
theorem c31 : isA NT 31 (.int) 512 := ⟨by decide, by decide, by decide, rfl⟩
theorem c32 : isA NT 32 (.int) 512 := ⟨by decide, by decide, by decide, rfl⟩
theorem c33 : isA NT 33 (.int) 512 := ⟨by decide, by decide, by decide, rfl⟩
theorem c34 : isA NT 34 (.int) 512 := ⟨by decide, by decide, by decide, rfl⟩
theorem c35 : isA NT 35 (.int) 512 := ⟨by decide, by decide, by decide, rfl⟩
theorem c36 : isA NT 36 (.int) 512 := ⟨by decide, by decide, by decide, rfl⟩
theorem c37 : isO NT 37 4 := ⟨by decide, by decide, by decide, rfl⟩
theorem c38 : isA NT 38 (.int) 9 := ⟨by decide, by decide, by decide, rfl⟩
theorem c39 : isA NT 39 (.long) 512 := ⟨by decide, by decide, by decide, rfl⟩
theorem c40 : isA NT 40 (.long) 541 := ⟨by decide, by decide, by decide, rfl⟩
theorem c41 : isA NT 41 (.int) 512 := ⟨by decide, by decide, by decide, rfl⟩
theorem c42 : isO NT 42 5 := ⟨by decide, by decide, by decide, rfl⟩
theorem c43 : isA NT 43 (.long) 512 := ⟨by decide, by decide, by decide, rfl⟩
theorem c44 : isO NT 44 6 := ⟨by decide, by decide, by decide, rfl⟩
theorem c45 : isA NT 45 (.long) 512 := ⟨by decide, by decide, by decide, rfl⟩
theorem c46 : isA NT 46 (.long) 13 := ⟨by decide, by decide, by decide, rfl⟩
theorem c47 : isO NT 47 7 := ⟨by decide, by decide, by decide, rfl⟩
theorem c48 : isA NT 48 (.array .int) 3 := ⟨by decide, by decide, by decide, rfl⟩
theorem c49 : isA NT 49 (.int) 216 := ⟨by decide, by decide, by decide, rfl⟩
theorem c50 : isA NT 50 (.int) 216 := ⟨by decide, by decide, by decide, rfl⟩
theorem c51 : isA NT 51 (.int) 216 := ⟨by decide, by decide, by decide, rfl⟩
theorem c52 : isA NT 52 (.array .int) 5 := ⟨by decide, by decide, by decide, rfl⟩
theorem c53 : isA NT 53 (.int) 6 := ⟨by decide, by decide, by decide, rfl⟩
theorem c54 : isA NT 54 (.int) 6 := ⟨by decide, by decide, by decide, rfl⟩
theorem c55 : isA NT 55 (.int) 6 := ⟨by decide, by decide, by decide, rfl⟩
theorem c56 : isA NT 56 (.int) 6 := ⟨by decide, by decide, by decide, rfl⟩
theorem c57 : isA NT 57 (.int) 6 := ⟨by decide, by decide, by decide, rfl⟩
theorem c58 : isA NT 58 (.int) 5 := ⟨by decide, by decide, by decide, rfl⟩
theorem c59 : isA NT 59 (.long) 32 := ⟨by decide, by decide, by decide, rfl⟩
theorem c60 : isO NT 60 8 := ⟨by decide, by decide, by decide, rfl⟩
theorem c61 : isA NT 61 (.int) 6 := ⟨by decide, by decide, by decide, rfl⟩
theorem c62 : isA NT 62 (.int) 6 := ⟨by decide, by decide, by decide, rfl⟩
theorem c63 : isA NT 63 (.int) 9 := ⟨by decide, by decide, by decide, rfl⟩
theorem c64 : isO NT 64 9 := ⟨by decide, by decide, by decide, rfl⟩
theorem c65 : isA NT 65 (.int) 40 := ⟨by decide, by decide, by decide, rfl⟩
theorem c66 : isA NT 66 (.int) 40 := ⟨by decide, by decide, by decide, rfl⟩
theorem c67 : isA NT 67 (.int) 40 := ⟨by decide, by decide, by decide, rfl⟩
theorem c68 : isA NT 68 (.int) 40 := ⟨by decide, by decide, by decide, rfl⟩
theorem c69 : isO NT 69 10 := ⟨by decide, by decide, by decide, rfl⟩
theorem c70 : isA NT 70 (.int) 50 := ⟨by decide, by decide, by decide, rfl⟩
theorem c71 : isA NT 71 (.int) 24 := ⟨by decide, by decide, by decide, rfl⟩
theorem c72 : isO NT 72 11 := ⟨by decide, by decide, by decide, rfl⟩
theorem c73 : isA NT 73 (.int) 6 := ⟨by decide, by decide, by decide, rfl⟩
theorem c74 : isA NT 74 (.int) 6 := ⟨by decide, by decide, by decide, rfl⟩
theorem c75 : isA NT 75 (.int) 6 := ⟨by decide, by decide, by decide, rfl⟩
theorem c76 : isA NT 76 (.int) 6 := ⟨by decide, by decide, by decide, rfl⟩
theorem c77 : isA NT 77 (.array .long) 6 := ⟨by decide, by decide, by decide, rfl⟩
theorem c78 : isA NT 78 (.long) 60 := ⟨by decide, by decide, by decide, rfl⟩
theorem c79 : isA NT 79 (.long) 60 := ⟨by decide, by decide, by decide, rfl⟩
theorem c80 : isA NT 80 (.long) 60 := ⟨by decide, by decide, by decide, rfl⟩
theorem c81 : isA NT 81 (.long) 60 := ⟨by decide, by decide, by decide, rfl⟩
theorem c82 : isA NT 82 (.long) 60 := ⟨by decide, by decide, by decide, rfl⟩
theorem c83 : isA NT 83 (.long) 60 := ⟨by decide, by decide, by decide, rfl⟩
theorem c84 : isO NT 84 12 := ⟨by decide, by decide, by decide, rfl⟩
theorem c85 : isA NT 85 (.int) 9 := ⟨by decide, by decide, by decide, rfl⟩
theorem c86 : isA NT 86 (.int) 9 := ⟨by decide, by decide, by decide, rfl⟩
theorem c87 : isA NT 87 (.int) 9 := ⟨by decide, by decide, by decide, rfl⟩
theorem c88 : isA NT 88 (.int) 9 := ⟨by decide, by decide, by decide, rfl⟩
theorem c89 : isA NT 89 (.int) 9 := ⟨by decide, by decide, by decide, rfl⟩
theorem c90 : isA NT 90 (.int) 9 := ⟨by decide, by decide, by decide, rfl⟩
theorem c91 : isA NT 91 (.int) 7 := ⟨by decide, by decide, by decide, rfl⟩
theorem c92 : isA NT 92 (.int) 40 := ⟨by decide, by decide, by decide, rfl⟩
theorem c93 : isA NT 93 (.int) 40 := ⟨by decide, by decide, by decide, rfl⟩
theorem c94 : isA NT 94 (.int) 40 := ⟨by decide, by decide, by decide, rfl⟩
theorem c95 : isA NT 95 (.int) 40 := ⟨by decide, by decide, by decide, rfl⟩
theorem c96 : isA NT 96 (.byte) 120 := ⟨by decide, by decide, by decide, rfl⟩
theorem c97 : isA NT 97 (.byte) 260 := ⟨by decide, by decide, by decide, rfl⟩
theorem c98 : isA NT 98 (.int) 260 := ⟨by decide, by decide, by decide, rfl⟩
theorem c99 : isA NT 99 (.int) 2 := ⟨by decide, by decide, by decide, rfl⟩
theorem c100 : isA NT 100 (.short) 122 := ⟨by decide, by decide, by decide, rfl⟩
theorem c101 : isA NT 101 (.short) 122 := ⟨by decide, by decide, by decide, rfl⟩
theorem c102 : isA NT 102 (.int) 6 := ⟨by decide, by decide, by decide, rfl⟩
theorem c103 : isA NT 103 (.int) 130 := ⟨by decide, by decide, by decide, rfl⟩
theorem c104 : isA NT 104 (.int) 9 := ⟨by decide, by decide, by decide, rfl⟩
theorem c105 : isA NT 105 (.int) 9 := ⟨by decide, by decide, by decide, rfl⟩
theorem c106 : isA NT 106 (.long) 541 := ⟨by decide, by decide, by decide, rfl⟩
theorem c107 : isA NT 107 (.long) 9 := ⟨by decide, by decide, by decide, rfl⟩
theorem c108 : isA NT 108 (.long) 9 := ⟨by decide, by decide, by decide, rfl⟩
theorem c109 : isA NT 109 (.int) 3 := ⟨by decide, by decide, by decide, rfl⟩
theorem c110 : isA NT 110 (.int) 3 := ⟨by decide, by decide, by decide, rfl⟩
theorem c111 : isA NT 111 (.int) 15 := ⟨by decide, by decide, by decide, rfl⟩
theorem c112 : isA NT 112 (.int) 6 := ⟨by decide, by decide, by decide, rfl⟩
theorem c113 : isA NT 113 (.int) 9 := ⟨by decide, by decide, by decide, rfl⟩
theorem c114 : isA NT 114 (.int) 6 := ⟨by decide, by decide, by decide, rfl⟩
theorem c115 : isA NT 115 (.int) 50 := ⟨by decide, by decide, by decide, rfl⟩
theorem c116 : isA NT 116 (.int) 24 := ⟨by decide, by decide, by decide, rfl⟩
theorem c117 : isA NT 117 (.int) 6 := ⟨by decide, by decide, by decide, rfl⟩
theorem c118 : isA NT 118 (.int) 6 := ⟨by decide, by decide, by decide, rfl⟩
theorem c119 : isA NT 119 (.long) 360 := ⟨by decide, by decide, by decide, rfl⟩
theorem c120 : isA NT 120 (.long) 60 := ⟨by decide, by decide, by decide, rfl⟩
theorem cco (sw : Bool) : isA NT (rcode sw) .int 128 := by cases sw <;> exact ⟨by decide, by decide, by decide, rfl⟩
theorem cdr (sw : Bool) : isA NT (rdraft sw) .int 128 := by cases sw <;> exact ⟨by decide, by decide, by decide, rfl⟩
theorem gco (sw : Bool) : rhoS sw 18 2 = rcode sw := by cases sw <;> decide +kernel
theorem gdr (sw : Bool) : rhoS sw 18 3 = rdraft sw := by cases sw <;> decide +kernel
theorem nco (sw : Bool) : ¬ rcode sw = 0 := by cases sw <;> decide
theorem ndr (sw : Bool) : ¬ rdraft sw = 0 := by cases sw <;> decide
theorem g1_0 (sw : Bool) : rhoS sw 1 0 = 2 := by cases sw <;> decide +kernel
theorem g1_1 (sw : Bool) : rhoS sw 1 1 = 23 := by cases sw <;> decide +kernel
theorem g1_2 (sw : Bool) : rhoS sw 1 2 = 37 := by cases sw <;> decide +kernel
theorem g1_3 (sw : Bool) : rhoS sw 1 3 = 42 := by cases sw <;> decide +kernel
theorem g1_4 (sw : Bool) : rhoS sw 1 4 = 44 := by cases sw <;> decide +kernel
theorem g1_5 (sw : Bool) : rhoS sw 1 5 = 47 := by cases sw <;> decide +kernel
theorem g1_6 (sw : Bool) : rhoS sw 1 6 = 60 := by cases sw <;> decide +kernel
theorem g1_7 (sw : Bool) : rhoS sw 1 7 = 64 := by cases sw <;> decide +kernel
theorem g1_8 (sw : Bool) : rhoS sw 1 8 = 69 := by cases sw <;> decide +kernel
theorem g1_9 (sw : Bool) : rhoS sw 1 9 = 72 := by cases sw <;> decide +kernel
theorem g2_0 (sw : Bool) : rhoS sw 2 0 = 3 := by cases sw <;> decide +kernel
theorem g2_1 (sw : Bool) : rhoS sw 2 1 = 17 := by cases sw <;> decide +kernel
theorem g2_2 (sw : Bool) : rhoS sw 2 2 = 18 := by cases sw <;> decide +kernel
theorem g18_0 (sw : Bool) : rhoS sw 18 0 = 19 := by cases sw <;> decide +kernel
theorem g18_1 (sw : Bool) : rhoS sw 18 1 = 20 := by cases sw <;> decide +kernel
theorem g23_0 (sw : Bool) : rhoS sw 23 0 = 2 := by cases sw <;> decide +kernel
theorem g23_1 (sw : Bool) : rhoS sw 23 1 = 24 := by cases sw <;> decide +kernel
theorem g23_2 (sw : Bool) : rhoS sw 23 2 = 34 := by cases sw <;> decide +kernel
theorem g23_3 (sw : Bool) : rhoS sw 23 3 = 35 := by cases sw <;> decide +kernel
theorem g23_4 (sw : Bool) : rhoS sw 23 4 = 36 := by cases sw <;> decide +kernel
theorem g37_0 (sw : Bool) : rhoS sw 37 0 = 2 := by cases sw <;> decide +kernel
theorem g37_1 (sw : Bool) : rhoS sw 37 1 = 23 := by cases sw <;> decide +kernel
theorem g37_2 (sw : Bool) : rhoS sw 37 2 = 38 := by cases sw <;> decide +kernel
theorem g37_3 (sw : Bool) : rhoS sw 37 3 = 39 := by cases sw <;> decide +kernel
theorem g37_4 (sw : Bool) : rhoS sw 37 4 = 40 := by cases sw <;> decide +kernel
theorem g37_5 (sw : Bool) : rhoS sw 37 5 = 41 := by cases sw <;> decide +kernel
theorem g42_0 (sw : Bool) : rhoS sw 42 0 = 2 := by cases sw <;> decide +kernel
theorem g42_1 (sw : Bool) : rhoS sw 42 1 = 23 := by cases sw <;> decide +kernel
theorem g42_2 (sw : Bool) : rhoS sw 42 2 = 37 := by cases sw <;> decide +kernel
theorem g42_3 (sw : Bool) : rhoS sw 42 3 = 43 := by cases sw <;> decide +kernel
theorem g44_0 (sw : Bool) : rhoS sw 44 0 = 2 := by cases sw <;> decide +kernel
theorem g44_1 (sw : Bool) : rhoS sw 44 1 = 23 := by cases sw <;> decide +kernel
theorem g44_2 (sw : Bool) : rhoS sw 44 2 = 37 := by cases sw <;> decide +kernel
theorem g44_3 (sw : Bool) : rhoS sw 44 3 = 45 := by cases sw <;> decide +kernel
theorem g44_4 (sw : Bool) : rhoS sw 44 4 = 46 := by cases sw <;> decide +kernel
theorem g47_0 (sw : Bool) : rhoS sw 47 0 = 2 := by cases sw <;> decide +kernel
theorem g47_1 (sw : Bool) : rhoS sw 47 1 = 23 := by cases sw <;> decide +kernel
theorem g47_2 (sw : Bool) : rhoS sw 47 2 = 37 := by cases sw <;> decide +kernel
theorem g47_3 (sw : Bool) : rhoS sw 47 3 = 48 := by cases sw <;> decide +kernel
theorem g47_4 (sw : Bool) : rhoS sw 47 4 = 52 := by cases sw <;> decide +kernel
theorem g47_5 (sw : Bool) : rhoS sw 47 5 = 58 := by cases sw <;> decide +kernel
theorem g47_6 (sw : Bool) : rhoS sw 47 6 = 59 := by cases sw <;> decide +kernel
theorem g60_0 (sw : Bool) : rhoS sw 60 0 = 2 := by cases sw <;> decide +kernel
theorem g60_1 (sw : Bool) : rhoS sw 60 1 = 23 := by cases sw <;> decide +kernel
theorem g60_2 (sw : Bool) : rhoS sw 60 2 = 61 := by cases sw <;> decide +kernel
theorem g60_3 (sw : Bool) : rhoS sw 60 3 = 62 := by cases sw <;> decide +kernel
theorem g60_4 (sw : Bool) : rhoS sw 60 4 = 63 := by cases sw <;> decide +kernel
theorem g64_0 (sw : Bool) : rhoS sw 64 0 = 2 := by cases sw <;> decide +kernel
theorem g64_1 (sw : Bool) : rhoS sw 64 1 = 65 := by cases sw <;> decide +kernel
theorem g64_2 (sw : Bool) : rhoS sw 64 2 = 66 := by cases sw <;> decide +kernel
theorem g64_3 (sw : Bool) : rhoS sw 64 3 = 67 := by cases sw <;> decide +kernel
theorem g64_4 (sw : Bool) : rhoS sw 64 4 = 68 := by cases sw <;> decide +kernel
theorem g69_0 (sw : Bool) : rhoS sw 69 0 = 70 := by cases sw <;> decide +kernel
theorem g69_1 (sw : Bool) : rhoS sw 69 1 = 71 := by cases sw <;> decide +kernel
theorem g72_0 (sw : Bool) : rhoS sw 72 0 = 73 := by cases sw <;> decide +kernel
theorem g72_1 (sw : Bool) : rhoS sw 72 1 = 74 := by cases sw <;> decide +kernel
theorem g72_2 (sw : Bool) : rhoS sw 72 2 = 75 := by cases sw <;> decide +kernel
theorem g72_3 (sw : Bool) : rhoS sw 72 3 = 76 := by cases sw <;> decide +kernel
theorem g72_4 (sw : Bool) : rhoS sw 72 4 = 77 := by cases sw <;> decide +kernel
theorem g84_2 (sw : Bool) : rhoS sw 84 2 = 85 := by cases sw <;> decide +kernel
theorem g84_3 (sw : Bool) : rhoS sw 84 3 = 86 := by cases sw <;> decide +kernel
theorem g84_4 (sw : Bool) : rhoS sw 84 4 = 87 := by cases sw <;> decide +kernel
theorem g84_5 (sw : Bool) : rhoS sw 84 5 = 88 := by cases sw <;> decide +kernel
theorem g84_6 (sw : Bool) : rhoS sw 84 6 = 89 := by cases sw <;> decide +kernel
theorem g84_7 (sw : Bool) : rhoS sw 84 7 = 90 := by cases sw <;> decide +kernel
theorem g84_8 (sw : Bool) : rhoS sw 84 8 = 91 := by cases sw <;> decide +kernel
theorem g84_11 (sw : Bool) : rhoS sw 84 11 = 92 := by cases sw <;> decide +kernel
theorem g84_12 (sw : Bool) : rhoS sw 84 12 = 93 := by cases sw <;> decide +kernel
theorem g84_13 (sw : Bool) : rhoS sw 84 13 = 94 := by cases sw <;> decide +kernel
theorem g84_14 (sw : Bool) : rhoS sw 84 14 = 95 := by cases sw <;> decide +kernel
theorem g84_15 (sw : Bool) : rhoS sw 84 15 = 96 := by cases sw <;> decide +kernel
theorem g84_21 (sw : Bool) : rhoS sw 84 21 = 97 := by cases sw <;> decide +kernel
theorem g84_22 (sw : Bool) : rhoS sw 84 22 = 98 := by cases sw <;> decide +kernel
theorem g84_23 (sw : Bool) : rhoS sw 84 23 = 99 := by cases sw <;> decide +kernel
theorem g84_24 (sw : Bool) : rhoS sw 84 24 = 100 := by cases sw <;> decide +kernel
theorem g84_25 (sw : Bool) : rhoS sw 84 25 = 101 := by cases sw <;> decide +kernel
theorem g84_26 (sw : Bool) : rhoS sw 84 26 = 102 := by cases sw <;> decide +kernel
theorem g84_27 (sw : Bool) : rhoS sw 84 27 = 103 := by cases sw <;> decide +kernel
theorem g84_29 (sw : Bool) : rhoS sw 84 29 = 104 := by cases sw <;> decide +kernel
theorem g84_32 (sw : Bool) : rhoS sw 84 32 = 105 := by cases sw <;> decide +kernel
theorem g84_34 (sw : Bool) : rhoS sw 84 34 = 106 := by cases sw <;> decide +kernel
theorem g84_36 (sw : Bool) : rhoS sw 84 36 = 107 := by cases sw <;> decide +kernel
theorem g84_37 (sw : Bool) : rhoS sw 84 37 = 108 := by cases sw <;> decide +kernel
theorem g84_38 (sw : Bool) : rhoS sw 84 38 = 109 := by cases sw <;> decide +kernel
theorem g84_39 (sw : Bool) : rhoS sw 84 39 = 110 := by cases sw <;> decide +kernel
theorem g84_41 (sw : Bool) : rhoS sw 84 41 = 111 := by cases sw <;> decide +kernel
theorem g84_42 (sw : Bool) : rhoS sw 84 42 = 112 := by cases sw <;> decide +kernel
theorem g84_45 (sw : Bool) : rhoS sw 84 45 = 113 := by cases sw <;> decide +kernel
theorem g84_46 (sw : Bool) : rhoS sw 84 46 = 114 := by cases sw <;> decide +kernel
theorem g84_48 (sw : Bool) : rhoS sw 84 48 = 115 := by cases sw <;> decide +kernel
theorem g84_50 (sw : Bool) : rhoS sw 84 50 = 116 := by cases sw <;> decide +kernel
theorem g84_51 (sw : Bool) : rhoS sw 84 51 = 117 := by cases sw <;> decide +kernel
theorem g84_52 (sw : Bool) : rhoS sw 84 52 = 118 := by cases sw <;> decide +kernel
theorem g84_53 (sw : Bool) : rhoS sw 84 53 = 119 := by cases sw <;> decide +kernel
theorem g84_54 (sw : Bool) : rhoS sw 84 54 = 120 := by cases sw <;> decide +kernel
theorem gr3 (sw : Bool) {i : Int} (h : 0 ≤ i ∧ i < 13) : rhoS sw 3 i = 4 + i := by
  have h1 : i = 0 ∨ i = 1 ∨ i = 2 ∨ i = 3 ∨ i = 4 ∨ i = 5 ∨ i = 6 ∨ i = 7 ∨ i = 8 ∨ i = 9 ∨ i = 10 ∨ i = 11 ∨ i = 12 := by omega
  rcases h1 with rfl | rfl | rfl | rfl | rfl | rfl | rfl | rfl | rfl | rfl | rfl | rfl | rfl <;> cases sw <;> decide +kernel
theorem cr3 {i : Int} (h : 0 ≤ i ∧ i < 13) : isA NT (4 + i) (.int) 9 := by
  have h1 : i = 0 ∨ i = 1 ∨ i = 2 ∨ i = 3 ∨ i = 4 ∨ i = 5 ∨ i = 6 ∨ i = 7 ∨ i = 8 ∨ i = 9 ∨ i = 10 ∨ i = 11 ∨ i = 12 := by omega
  rcases h1 with rfl | rfl | rfl | rfl | rfl | rfl | rfl | rfl | rfl | rfl | rfl | rfl | rfl <;> exact ⟨by decide, by decide, by decide, rfl⟩
theorem nr3 {i : Int} (h : 0 ≤ i ∧ i < 13) : ¬ 4 + i = 0 := by omega
theorem gr24 (sw : Bool) {i : Int} (h : 0 ≤ i ∧ i < 9) : rhoS sw 24 i = 25 + i := by
  have h1 : i = 0 ∨ i = 1 ∨ i = 2 ∨ i = 3 ∨ i = 4 ∨ i = 5 ∨ i = 6 ∨ i = 7 ∨ i = 8 := by omega
  rcases h1 with rfl | rfl | rfl | rfl | rfl | rfl | rfl | rfl | rfl <;> cases sw <;> decide +kernel
theorem cr24 {i : Int} (h : 0 ≤ i ∧ i < 9) : isA NT (25 + i) (.int) 512 := by
  have h1 : i = 0 ∨ i = 1 ∨ i = 2 ∨ i = 3 ∨ i = 4 ∨ i = 5 ∨ i = 6 ∨ i = 7 ∨ i = 8 := by omega
  rcases h1 with rfl | rfl | rfl | rfl | rfl | rfl | rfl | rfl | rfl <;> exact ⟨by decide, by decide, by decide, rfl⟩
theorem nr24 {i : Int} (h : 0 ≤ i ∧ i < 9) : ¬ 25 + i = 0 := by omega
theorem gr48 (sw : Bool) {i : Int} (h : 0 ≤ i ∧ i < 3) : rhoS sw 48 i = 49 + i := by
  have h1 : i = 0 ∨ i = 1 ∨ i = 2 := by omega
  rcases h1 with rfl | rfl | rfl <;> cases sw <;> decide +kernel
theorem cr48 {i : Int} (h : 0 ≤ i ∧ i < 3) : isA NT (49 + i) (.int) 216 := by
  have h1 : i = 0 ∨ i = 1 ∨ i = 2 := by omega
  rcases h1 with rfl | rfl | rfl <;> exact ⟨by decide, by decide, by decide, rfl⟩
theorem nr48 {i : Int} (h : 0 ≤ i ∧ i < 3) : ¬ 49 + i = 0 := by omega
theorem gr52 (sw : Bool) {i : Int} (h : 0 ≤ i ∧ i < 5) : rhoS sw 52 i = 53 + i := by
  have h1 : i = 0 ∨ i = 1 ∨ i = 2 ∨ i = 3 ∨ i = 4 := by omega
  rcases h1 with rfl | rfl | rfl | rfl | rfl <;> cases sw <;> decide +kernel
theorem cr52 {i : Int} (h : 0 ≤ i ∧ i < 5) : isA NT (53 + i) (.int) 6 := by
  have h1 : i = 0 ∨ i = 1 ∨ i = 2 ∨ i = 3 ∨ i = 4 := by omega
  rcases h1 with rfl | rfl | rfl | rfl | rfl <;> exact ⟨by decide, by decide, by decide, rfl⟩
theorem nr52 {i : Int} (h : 0 ≤ i ∧ i < 5) : ¬ 53 + i = 0 := by omega
theorem gr77 (sw : Bool) {i : Int} (h : 0 ≤ i ∧ i < 6) : rhoS sw 77 i = 78 + i := by
  have h1 : i = 0 ∨ i = 1 ∨ i = 2 ∨ i = 3 ∨ i = 4 ∨ i = 5 := by omega
  rcases h1 with rfl | rfl | rfl | rfl | rfl | rfl <;> cases sw <;> decide +kernel
theorem cr77 {i : Int} (h : 0 ≤ i ∧ i < 6) : isA NT (78 + i) (.long) 60 := by
  have h1 : i = 0 ∨ i = 1 ∨ i = 2 ∨ i = 3 ∨ i = 4 ∨ i = 5 := by omega
  rcases h1 with rfl | rfl | rfl | rfl | rfl | rfl <;> exact ⟨by decide, by decide, by decide, rfl⟩
theorem nr77 {i : Int} (h : 0 ≤ i ∧ i < 6) : ¬ 78 + i = 0 := by omega
section RW5
variable {X : Cx} {d n0 n' n : Nat} {M : Md} {pc : Nat} {lv : List (Nat × AV)} {st : List AV} {r m : Mem} {Q : Int → Mem → Mem → Prop}
theorem q_iaload {k i : Int} (j : Int) {len : Nat} (hj : w32 i = j) (hk : isA n k .int len) (hi : 0 ≤ j ∧ j < (len : Int)) (hdg : decode M.2.1 pc = .ok (.iaload, 1)) (kk : RR X d M n0 n' n (pc + 1) lv (vi (m k j) :: st) r m Q) : RR X d M n0 n' n pc lv (vi i :: vr k :: st) r m Q := by
  subst hj
  exact r_iaload hk hi hdg kk
theorem q_laload {k i : Int} (j : Int) {len : Nat} (hj : w32 i = j) (hk : isA n k .long len) (hi : 0 ≤ j ∧ j < (len : Int)) (hdg : decode M.2.1 pc = .ok (.laload, 1)) (kk : RR X d M n0 n' n (pc + 1) lv (vl (m k j) :: st) r m Q) : RR X d M n0 n' n pc lv (vi i :: vr k :: st) r m Q := by
  subst hj
  exact r_laload hk hi hdg kk
theorem q_baload {k i : Int} (j : Int) {len : Nat} (hj : w32 i = j) (hk : isA n k .byte len) (hi : 0 ≤ j ∧ j < (len : Int)) (hdg : decode M.2.1 pc = .ok (.baload, 1)) (kk : RR X d M n0 n' n (pc + 1) lv (vi (m k j) :: st) r m Q) : RR X d M n0 n' n pc lv (vi i :: vr k :: st) r m Q := by
  subst hj
  exact r_baload hk hi hdg kk
theorem q_saload {k i : Int} (j : Int) {len : Nat} (hj : w32 i = j) (hk : isA n k .short len) (hi : 0 ≤ j ∧ j < (len : Int)) (hdg : decode M.2.1 pc = .ok (.saload, 1)) (kk : RR X d M n0 n' n (pc + 1) lv (vi (m k j) :: st) r m Q) : RR X d M n0 n' n pc lv (vi i :: vr k :: st) r m Q := by
  subst hj
  exact r_saload hk hi hdg kk
theorem q_aaload {k i t : Int} (j : Int) {ty : FieldType} {len : Nat} (hty : FieldType.array ty ∈ atys) (hj : w32 i = j) (hk : isA n k (.array ty) len) (hi : 0 ≤ j ∧ j < (len : Int)) (ht : r k j = t) (ht0 : ¬ t = 0) (hdg : decode M.2.1 pc = .ok (.aaload, 1)) (kk : RR X d M n0 n' n (pc + 1) lv (vr t :: st) r m Q) : RR X d M n0 n' n pc lv (vi i :: vr k :: st) r m Q := by
  subst hj
  exact r_aaload hty hk hi ht ht0 hdg kk
theorem q_iastore {k i z : Int} (j : Int) {len : Nat} (hj : w32 i = j) (hk : isA n k .int len) (hi : 0 ≤ j ∧ j < (len : Int)) (hdg : decode M.2.1 pc = .ok (.iastore, 1)) (kk : RR X d M n0 n' n (pc + 1) lv st r (upm m k j z) Q) : RR X d M n0 n' n pc lv (vi z :: vi i :: vr k :: st) r m Q := by
  subst hj
  exact r_iastore hk hi hdg kk
theorem q_lastore {k i z : Int} (j : Int) {len : Nat} (hj : w32 i = j) (hk : isA n k .long len) (hi : 0 ≤ j ∧ j < (len : Int)) (hdg : decode M.2.1 pc = .ok (.lastore, 1)) (kk : RR X d M n0 n' n (pc + 1) lv st r (upm m k j z) Q) : RR X d M n0 n' n pc lv (vl z :: vi i :: vr k :: st) r m Q := by
  subst hj
  exact r_lastore hk hi hdg kk
theorem q_bastore {k i z : Int} (j : Int) {len : Nat} (hj : w32 i = j) (hk : isA n k .byte len) (hi : 0 ≤ j ∧ j < (len : Int)) (hdg : decode M.2.1 pc = .ok (.bastore, 1)) (kk : RR X d M n0 n' n (pc + 1) lv st r (upm m k j (w8 z)) Q) : RR X d M n0 n' n pc lv (vi z :: vi i :: vr k :: st) r m Q := by
  subst hj
  exact r_bastore hk hi hdg kk
theorem q_sastore {k i z : Int} (j : Int) {len : Nat} (hj : w32 i = j) (hk : isA n k .short len) (hi : 0 ≤ j ∧ j < (len : Int)) (hdg : decode M.2.1 pc = .ok (.sastore, 1)) (kk : RR X d M n0 n' n (pc + 1) lv st r (upm m k j (w16 z)) Q) : RR X d M n0 n' n pc lv (vi z :: vi i :: vr k :: st) r m Q := by
  subst hj
  exact r_sastore hk hi hdg kk
theorem q_getI {k : Int} (jz : Int) {ci j ix : Nat} (hk : isO n k ci) (hf : FG M.1.cls ix ci j) (ht : tyC ci j = .int) (hj : ((j : Nat) : Int) = jz) (hdg : decode M.2.1 pc = .ok (.getfield ix, 3)) (kk : RR X d M n0 n' n (pc + 3) lv (vi (m k jz) :: st) r m Q) : RR X d M n0 n' n pc lv (vr k :: st) r m Q := by
  subst hj
  exact r_getI hk hf ht hdg kk
theorem q_getZ {k : Int} (jz : Int) {ci j ix : Nat} (hk : isO n k ci) (hf : FG M.1.cls ix ci j) (ht : tyC ci j = .boolean) (hj : ((j : Nat) : Int) = jz) (hdg : decode M.2.1 pc = .ok (.getfield ix, 3)) (kk : RR X d M n0 n' n (pc + 3) lv (vi (m k jz) :: st) r m Q) : RR X d M n0 n' n pc lv (vr k :: st) r m Q := by
  subst hj
  exact r_getZ hk hf ht hdg kk
theorem q_getL {k : Int} (jz : Int) {ci j ix : Nat} (hk : isO n k ci) (hf : FG M.1.cls ix ci j) (ht : tyC ci j = .long) (hj : ((j : Nat) : Int) = jz) (hdg : decode M.2.1 pc = .ok (.getfield ix, 3)) (kk : RR X d M n0 n' n (pc + 3) lv (vl (m k jz) :: st) r m Q) : RR X d M n0 n' n pc lv (vr k :: st) r m Q := by
  subst hj
  exact r_getL hk hf ht hdg kk
theorem q_getR {k t : Int} (jz : Int) {ci j ix : Nat} (hk : isO n k ci) (hf : FG M.1.cls ix ci j) (hty : isRf (tyC ci j) = true) (hj : ((j : Nat) : Int) = jz) (ht : r k jz = t) (ht0 : ¬ t = 0) (hdg : decode M.2.1 pc = .ok (.getfield ix, 3)) (kk : RR X d M n0 n' n (pc + 3) lv (vr t :: st) r m Q) : RR X d M n0 n' n pc lv (vr k :: st) r m Q := by
  subst hj
  exact r_getR hk hf hty ht ht0 hdg kk
theorem q_putI {k z : Int} (jz : Int) {ci j ix : Nat} (hk : isO n k ci) (hf : FP M.1.cls ix ci j) (ht : tyC ci j = .int) (hj : ((j : Nat) : Int) = jz) (hdg : decode M.2.1 pc = .ok (.putfield ix, 3)) (kk : RR X d M n0 n' n (pc + 3) lv st r (upm m k jz z) Q) : RR X d M n0 n' n pc lv (vi z :: vr k :: st) r m Q := by
  subst hj
  exact r_putI hk hf ht hdg kk
theorem q_putL {k z : Int} (jz : Int) {ci j ix : Nat} (hk : isO n k ci) (hf : FP M.1.cls ix ci j) (ht : tyC ci j = .long) (hj : ((j : Nat) : Int) = jz) (hdg : decode M.2.1 pc = .ok (.putfield ix, 3)) (kk : RR X d M n0 n' n (pc + 3) lv st r (upm m k jz z) Q) : RR X d M n0 n' n pc lv (vl z :: vr k :: st) r m Q := by
  subst hj
  exact r_putL hk hf ht hdg kk
theorem q_putZ {k z : Int} (jz : Int) {ci j ix : Nat} (hk : isO n k ci) (hf : FP M.1.cls ix ci j) (ht : tyC ci j = .boolean) (hj : ((j : Nat) : Int) = jz) (hz : z = 0 ∨ z = 1) (hdg : decode M.2.1 pc = .ok (.putfield ix, 3)) (kk : RR X d M n0 n' n (pc + 3) lv st r (upm m k jz z) Q) : RR X d M n0 n' n pc lv (vi z :: vr k :: st) r m Q := by
  subst hj
  exact r_putZ hk hf ht hz hdg kk
theorem q_putR {k z : Int} (jz : Int) {ci j ix : Nat} (hk : isO n k ci) (hf : FP M.1.cls ix ci j) (hty : isRf (tyC ci j) = true) (hj : ((j : Nat) : Int) = jz) (hz : ¬ z = 0) (hdg : decode M.2.1 pc = .ok (.putfield ix, 3)) (kk : RR X d M n0 n' n (pc + 3) lv st (upm r k jz z) m Q) : RR X d M n0 n' n pc lv (vr z :: vr k :: st) r m Q := by
  subst hj
  exact r_putR hk hf hty hz hdg kk
theorem q_xiload {e : Nat} {i : Int} (j : Int) {C f dd : String} {N : Nat} {cont : List Int} (he : exts[e]? = some (C, f, dd, .int, N, cont)) (hj : w32 i = j) (hi : 0 ≤ j ∧ j < (N : Int)) (hdg : decode M.2.1 pc = .ok (.iaload, 1)) (kk : RR X d M n0 n' n (pc + 1) lv (vi (cont.getD j.toNat 0) :: st) r m Q) : RR X d M n0 n' n pc lv (vi i :: vr (1000 + (e : Int)) :: st) r m Q := by
  subst hj
  exact r_xiload he hi hdg kk
theorem q_xcload {e : Nat} {i : Int} (j : Int) {C f dd : String} {N : Nat} {cont : List Int} (he : exts[e]? = some (C, f, dd, .char, N, cont)) (hj : w32 i = j) (hi : 0 ≤ j ∧ j < (N : Int)) (hdg : decode M.2.1 pc = .ok (.caload, 1)) (kk : RR X d M n0 n' n (pc + 1) lv (vi (cont.getD j.toNat 0) :: st) r m Q) : RR X d M n0 n' n pc lv (vi i :: vr (1000 + (e : Int)) :: st) r m Q := by
  subst hj
  exact r_xcload he hi hdg kk
theorem lcmpz_lt {a b : Int} : lcmpz a b < 0 ↔ w64 a < w64 b := by
  unfold lcmpz lg_cmp
  rw [← i64_w, ← i64_w, ← Int64.lt_iff_toInt_lt]
  by_cases h1 : Int64.ofInt b < Int64.ofInt a
  · rw [if_pos h1]
    constructor
    · intro h; exact absurd h (by decide)
    · intro h; rw [Int64.lt_iff_toInt_lt] at h h1; omega
  · rw [if_neg h1]
    by_cases h2 : Int64.ofInt a = Int64.ofInt b
    · rw [if_pos h2]
      constructor
      · intro h; exact absurd h (by decide)
      · intro h; rw [h2] at h; exact absurd h (Int64.lt_irrefl)
    · rw [if_neg h2]
      constructor
      · intro _
        rw [Int64.lt_iff_toInt_lt] at h1 ⊢
        have h3 : ¬ (Int64.ofInt a).toInt = (Int64.ofInt b).toInt := fun e => h2 (Int64.toInt_inj.mp e)
        omega
      · intro _; decide
theorem lcmpz_0 {a b : Int} : lcmpz a b = 0 ↔ w64 a = w64 b := by
  unfold lcmpz lg_cmp
  rw [← i64_w, ← i64_w]
  by_cases h1 : Int64.ofInt b < Int64.ofInt a
  · rw [if_pos h1]
    constructor
    · intro h; exact absurd h (by decide)
    · intro h; rw [Int64.lt_iff_toInt_lt] at h1; omega
  · rw [if_neg h1]
    by_cases h2 : Int64.ofInt a = Int64.ofInt b
    · rw [if_pos h2, h2]; simp
    · rw [if_neg h2]
      constructor
      · intro h; exact absurd h (by decide)
      · intro h; exact absurd (Int64.toInt_inj.mp h) h2
theorem lcmpz_w {a b : Int} : w32 (lcmpz a b) = lcmpz a b := by
  unfold lcmpz
  rw [← i32_w, i32_rt]
theorem q_lc_eq {a b A B : Int} (ea : w64 a = A) (eb : w64 b = B) {off : Int} {tgt : Nat} (hd1 : decode M.2.1 pc = .ok (.lcmp, 1)) (hdg : decode M.2.1 (pc + 1) = .ok (.ifCond .eq off, 3)) (ht : ((pc + 1 : Nat) : Int) + off = (tgt : Int)) (kt : A = B → RR X d M n0 n' n tgt lv st r m Q) (kf : ¬ (A = B) → RR X d M n0 n' n (pc + 4) lv st r m Q) : RR X d M n0 n' n pc lv (vl b :: vl a :: st) r m Q := by
  subst ea
  subst eb
  have e : (w32 (lcmpz a b) = 0) ↔ (w64 a = w64 b) := by rw [lcmpz_w, lcmpz_0]
  exact r_lcmp hd1 (r_if_eq hdg ht (fun h => kt (e.mp h)) (fun h => kf (fun q => h (e.mpr q))))
theorem q_lc_ne {a b A B : Int} (ea : w64 a = A) (eb : w64 b = B) {off : Int} {tgt : Nat} (hd1 : decode M.2.1 pc = .ok (.lcmp, 1)) (hdg : decode M.2.1 (pc + 1) = .ok (.ifCond .ne off, 3)) (ht : ((pc + 1 : Nat) : Int) + off = (tgt : Int)) (kt : ¬ A = B → RR X d M n0 n' n tgt lv st r m Q) (kf : ¬ (¬ A = B) → RR X d M n0 n' n (pc + 4) lv st r m Q) : RR X d M n0 n' n pc lv (vl b :: vl a :: st) r m Q := by
  subst ea
  subst eb
  have e : (¬ w32 (lcmpz a b) = 0) ↔ (¬ w64 a = w64 b) := by rw [lcmpz_w, lcmpz_0]
  exact r_lcmp hd1 (r_if_ne hdg ht (fun h => kt (e.mp h)) (fun h => kf (fun q => h (e.mpr q))))
theorem q_lc_lt {a b A B : Int} (ea : w64 a = A) (eb : w64 b = B) {off : Int} {tgt : Nat} (hd1 : decode M.2.1 pc = .ok (.lcmp, 1)) (hdg : decode M.2.1 (pc + 1) = .ok (.ifCond .lt off, 3)) (ht : ((pc + 1 : Nat) : Int) + off = (tgt : Int)) (kt : A < B → RR X d M n0 n' n tgt lv st r m Q) (kf : ¬ (A < B) → RR X d M n0 n' n (pc + 4) lv st r m Q) : RR X d M n0 n' n pc lv (vl b :: vl a :: st) r m Q := by
  subst ea
  subst eb
  have e : (w32 (lcmpz a b) < 0) ↔ (w64 a < w64 b) := by rw [lcmpz_w, lcmpz_lt]
  exact r_lcmp hd1 (r_if_lt hdg ht (fun h => kt (e.mp h)) (fun h => kf (fun q => h (e.mpr q))))
theorem q_lc_ge {a b A B : Int} (ea : w64 a = A) (eb : w64 b = B) {off : Int} {tgt : Nat} (hd1 : decode M.2.1 pc = .ok (.lcmp, 1)) (hdg : decode M.2.1 (pc + 1) = .ok (.ifCond .ge off, 3)) (ht : ((pc + 1 : Nat) : Int) + off = (tgt : Int)) (kt : B ≤ A → RR X d M n0 n' n tgt lv st r m Q) (kf : ¬ (B ≤ A) → RR X d M n0 n' n (pc + 4) lv st r m Q) : RR X d M n0 n' n pc lv (vl b :: vl a :: st) r m Q := by
  subst ea
  subst eb
  have e : (0 ≤ w32 (lcmpz a b)) ↔ (w64 b ≤ w64 a) := by rw [lcmpz_w]; have := @lcmpz_lt a b; omega
  exact r_lcmp hd1 (r_if_ge hdg ht (fun h => kt (e.mp h)) (fun h => kf (fun q => h (e.mpr q))))
theorem q_lc_gt {a b A B : Int} (ea : w64 a = A) (eb : w64 b = B) {off : Int} {tgt : Nat} (hd1 : decode M.2.1 pc = .ok (.lcmp, 1)) (hdg : decode M.2.1 (pc + 1) = .ok (.ifCond .gt off, 3)) (ht : ((pc + 1 : Nat) : Int) + off = (tgt : Int)) (kt : B < A → RR X d M n0 n' n tgt lv st r m Q) (kf : ¬ (B < A) → RR X d M n0 n' n (pc + 4) lv st r m Q) : RR X d M n0 n' n pc lv (vl b :: vl a :: st) r m Q := by
  subst ea
  subst eb
  have e : (0 < w32 (lcmpz a b)) ↔ (w64 b < w64 a) := by rw [lcmpz_w]; have := @lcmpz_lt a b; have := @lcmpz_0 a b; omega
  exact r_lcmp hd1 (r_if_gt hdg ht (fun h => kt (e.mp h)) (fun h => kf (fun q => h (e.mpr q))))
theorem q_lc_le {a b A B : Int} (ea : w64 a = A) (eb : w64 b = B) {off : Int} {tgt : Nat} (hd1 : decode M.2.1 pc = .ok (.lcmp, 1)) (hdg : decode M.2.1 (pc + 1) = .ok (.ifCond .le off, 3)) (ht : ((pc + 1 : Nat) : Int) + off = (tgt : Int)) (kt : A ≤ B → RR X d M n0 n' n tgt lv st r m Q) (kf : ¬ (A ≤ B) → RR X d M n0 n' n (pc + 4) lv st r m Q) : RR X d M n0 n' n pc lv (vl b :: vl a :: st) r m Q := by
  subst ea
  subst eb
  have e : (w32 (lcmpz a b) ≤ 0) ↔ (w64 a ≤ w64 b) := by rw [lcmpz_w]; have := @lcmpz_lt a b; have := @lcmpz_0 a b; omega
  exact r_lcmp hd1 (r_if_le hdg ht (fun h => kt (e.mp h)) (fun h => kf (fun q => h (e.mpr q))))
theorem q_iret {Q : Int → Bool → Mem → Prop} {sw : Bool} {a : Int} (hr : M.2.2.2 = some .int) (hq : Q a sw m) (hdg : decode M.2.1 pc = .ok (.ireturn, 1)) : R2 X d M pc lv [vi a] sw m Q := r_iret rfl hr ⟨sw, rfl, hq⟩ hdg
theorem q_bret {Q : Int → Bool → Mem → Prop} {sw : Bool} {a : Int} (hr : M.2.2.2 = some .boolean) (hz : a = 0 ∨ a = 1) (hq : Q a sw m) (hdg : decode M.2.1 pc = .ok (.ireturn, 1)) : R2 X d M pc lv [vi a] sw m Q := r_bret rfl hr hz ⟨sw, rfl, hq⟩ hdg
theorem q_lret {Q : Int → Bool → Mem → Prop} {sw : Bool} {a : Int} (hr : M.2.2.2 = some .long) (hq : Q a sw m) (hdg : decode M.2.1 pc = .ok (.lreturn, 1)) : R2 X d M pc lv [vl a] sw m Q := r_lret rfl hr ⟨sw, rfl, hq⟩ hdg
theorem q_vret {Q : Int → Bool → Mem → Prop} {sw : Bool} (hr : M.2.2.2 = none) (hq : Q 0 sw m) (hdg : decode M.2.1 pc = .ok (.return_, 1)) : R2 X d M pc lv [] sw m Q := r_vret rfl hr ⟨sw, rfl, hq⟩ hdg
abbrev R3 (X : Cx) (d : Nat) (M : Md) (pc : Nat) (lv : List (Nat × AV)) (st : List AV) (sw : Bool) (m : Mem) (Q : Int → Bool → Mem → Prop) : Prop := RR X d M 0 NT NT pc lv st (rhoS sw) m (fun z r m1 => ∃ sw1, r = rhoS sw1 ∧ Q z sw1 m1)
theorem q_bret3 {Q : Int → Bool → Mem → Prop} {sw : Bool} {a : Int} (hr : M.2.2.2 = some .boolean) (hz : a = 0 ∨ a = 1) (hq : Q a sw m) (hdg : decode M.2.1 pc = .ok (.ireturn, 1)) : R3 X d M pc lv [vi a] sw m Q := r_bret rfl hr hz ⟨sw, rfl, hq⟩ hdg
theorem osw_z {z k : Int} {o d : Int} {ps : List (Int × Int)} (h : ¬ z = k) : Op.lookupswitch.offset ((k, o) :: ps) d z = Op.lookupswitch.offset ps d z := by
  simp [Op.lookupswitch.offset, Ne.symm h, h, eq_comm]
end RW5
