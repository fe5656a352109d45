/-! Facts of the tables of part 02, each decided by a check over the tables. -/
def jx_len (i : Instr) : Nat := match i with
  | .iconst _ | .iload_n _ | .aload_n _ | .istore_n _ | .astore_n _ | .iadd | .isub | .imul | .iand | .ior | .ixor | .ishl | .ishr | .idiv | .irem | .dup | .pop | .dup2 | .dup_x1 | .dup_x2 | .i2l | .lconst _ | .lcmp | .laload | .lastore | .iaload | .baload | .iastore | .bastore | .aaload | .ireturn | .return_ => 1
  | .bipush _ | .iload _ | .aload _ | .istore _ | .astore _ => 2
  | .sipush _ | .iinc _ _ | .goto _ | .ifCond _ _ | .if_icmp _ _ | .getfield _ | .putfield _ | .getstatic _ | .new _ | .invokevirtual _ | .invokestatic _ => 3
  | _ => 0
def jx_off (i : Instr) : Option Int := match i with
  | .goto o => some o
  | .ifCond _ o => some o
  | .if_icmp _ o => some o
  | _ => none
def jx_chk (cc : ByteArray) (e : Nat × Instr × Nat × List Nat) : Bool := match e with
  | (pc, i, nx, tg) => decide (decode cc pc = .ok (i, nx - pc)) && decide (pc < nx) && (decide (jx_len i = 0) || decide (nx = pc + jx_len i))
    && (match jx_off i with
      | some o => decide (tg.length = 1) && decide ((pc : Int) + o = ((tg.getD 0 0 : Nat) : Int))
      | none => true)
    && (match i with
      | .tableswitch d0 lo hi offs => decide (0 ≤ lo) && decide (lo < 1000) && decide (tg.length < 1000) && decide (hi = lo + (tg.length : Int) - 2) && decide ((pc : Int) + d0 = ((tg.getD 0 0 : Nat) : Int)) && (List.range (tg.length - 1)).all (fun j => match offs[j]? with
        | some o => decide ((pc : Int) + o = ((tg.getD (j + 1) 0 : Nat) : Int))
        | none => false)
      | _ => true)
theorem jx_k0 : (jx_tb 0).all (jx_chk (jx_cd 0)) = true := by decide +kernel
theorem jx_k1 : (jx_tb 1).all (jx_chk (jx_cd 1)) = true := by decide +kernel
theorem jx_k2 : (jx_tb 2).all (jx_chk (jx_cd 2)) = true := by decide +kernel
theorem jx_k3 : (jx_tb 3).all (jx_chk (jx_cd 3)) = true := by decide +kernel
theorem jx_k4 : (jx_tb 4).all (jx_chk (jx_cd 4)) = true := by decide +kernel
theorem jx_k5 : (jx_tb 5).all (jx_chk (jx_cd 5)) = true := by decide +kernel
theorem jx_k6 : (jx_tb 6).all (jx_chk (jx_cd 6)) = true := by decide +kernel
theorem jx_k7 : (jx_tb 7).all (jx_chk (jx_cd 7)) = true := by decide +kernel
theorem jx_k8 : (jx_tb 8).all (jx_chk (jx_cd 8)) = true := by decide +kernel
theorem jx_k9 : (jx_tb 9).all (jx_chk (jx_cd 9)) = true := by decide +kernel
theorem jx_k10 : (jx_tb 10).all (jx_chk (jx_cd 10)) = true := by decide +kernel
theorem jx_k11 : (jx_tb 11).all (jx_chk (jx_cd 11)) = true := by decide +kernel
theorem jx_k12 : (jx_tb 12).all (jx_chk (jx_cd 12)) = true := by decide +kernel
theorem jx_k13 : (jx_tb 13).all (jx_chk (jx_cd 13)) = true := by decide +kernel
theorem jx_k14 : (jx_tb 14).all (jx_chk (jx_cd 14)) = true := by decide +kernel
theorem jx_k15 : (jx_tb 15).all (jx_chk (jx_cd 15)) = true := by decide +kernel
theorem jx_k16 : (jx_tb 16).all (jx_chk (jx_cd 16)) = true := by decide +kernel
theorem jx_k17 : (jx_tb 17).all (jx_chk (jx_cd 17)) = true := by decide +kernel
theorem jx_k18 : (jx_tb 18).all (jx_chk (jx_cd 18)) = true := by decide +kernel
theorem jx_k19 : (jx_tb 19).all (jx_chk (jx_cd 19)) = true := by decide +kernel
theorem jx_k20 : (jx_tb 20).all (jx_chk (jx_cd 20)) = true := by decide +kernel
theorem jx_k21 : (jx_tb 21).all (jx_chk (jx_cd 21)) = true := by decide +kernel
theorem jx_k22 : (jx_tb 22).all (jx_chk (jx_cd 22)) = true := by decide +kernel
theorem jx_k23 : (jx_tb 23).all (jx_chk (jx_cd 23)) = true := by decide +kernel
theorem jx_k24 : (jx_tb 24).all (jx_chk (jx_cd 24)) = true := by decide +kernel
theorem jx_k25 : (jx_tb 25).all (jx_chk (jx_cd 25)) = true := by decide +kernel
theorem jx_k26 : (jx_tb 26).all (jx_chk (jx_cd 26)) = true := by decide +kernel
theorem jx_k27 : (jx_tb 27).all (jx_chk (jx_cd 27)) = true := by decide +kernel
theorem jx_k28 : (jx_tb 28).all (jx_chk (jx_cd 28)) = true := by decide +kernel
theorem jx_k29 : (jx_tb 29).all (jx_chk (jx_cd 29)) = true := by decide +kernel
theorem jx_k30 : (jx_tb 30).all (jx_chk (jx_cd 30)) = true := by decide +kernel
theorem jx_k31 : (jx_tb 31).all (jx_chk (jx_cd 31)) = true := by decide +kernel
theorem jx_k32 : (jx_tb 32).all (jx_chk (jx_cd 32)) = true := by decide +kernel
theorem jx_k33 : (jx_tb 33).all (jx_chk (jx_cd 33)) = true := by decide +kernel
theorem jx_k34 : (jx_tb 34).all (jx_chk (jx_cd 34)) = true := by decide +kernel
theorem jx_k35 : (jx_tb 35).all (jx_chk (jx_cd 35)) = true := by decide +kernel
theorem jx_k36 : (jx_tb 36).all (jx_chk (jx_cd 36)) = true := by decide +kernel
theorem jx_k37 : (jx_tb 37).all (jx_chk (jx_cd 37)) = true := by decide +kernel
theorem jx_k38 : (jx_tb 38).all (jx_chk (jx_cd 38)) = true := by decide +kernel
theorem jx_k39 : (jx_tb 39).all (jx_chk (jx_cd 39)) = true := by decide +kernel
theorem jx_k40 : (jx_tb 40).all (jx_chk (jx_cd 40)) = true := by decide +kernel
theorem jx_k41 : (jx_tb 41).all (jx_chk (jx_cd 41)) = true := by decide +kernel
theorem jx_k42 : (jx_tb 42).all (jx_chk (jx_cd 42)) = true := by decide +kernel
theorem jx_k43 : (jx_tb 43).all (jx_chk (jx_cd 43)) = true := by decide +kernel
theorem jx_k44 : (jx_tb 44).all (jx_chk (jx_cd 44)) = true := by decide +kernel
theorem jx_k45 : (jx_tb 45).all (jx_chk (jx_cd 45)) = true := by decide +kernel
theorem jx_k46 : (jx_tb 46).all (jx_chk (jx_cd 46)) = true := by decide +kernel
theorem jx_k47 : (jx_tb 47).all (jx_chk (jx_cd 47)) = true := by decide +kernel
theorem jx_k48 : (jx_tb 48).all (jx_chk (jx_cd 48)) = true := by decide +kernel
theorem jx_k49 : (jx_tb 49).all (jx_chk (jx_cd 49)) = true := by decide +kernel
theorem jx_k50 : (jx_tb 50).all (jx_chk (jx_cd 50)) = true := by decide +kernel
theorem jx_k51 : (jx_tb 51).all (jx_chk (jx_cd 51)) = true := by decide +kernel
theorem jx_k52 : (jx_tb 52).all (jx_chk (jx_cd 52)) = true := by decide +kernel
theorem jx_k53 : (jx_tb 53).all (jx_chk (jx_cd 53)) = true := by decide +kernel
theorem jx_k54 : (jx_tb 54).all (jx_chk (jx_cd 54)) = true := by decide +kernel
theorem jx_k55 : (jx_tb 55).all (jx_chk (jx_cd 55)) = true := by decide +kernel
theorem jx_k56 : (jx_tb 56).all (jx_chk (jx_cd 56)) = true := by decide +kernel
theorem jx_k57 : (jx_tb 57).all (jx_chk (jx_cd 57)) = true := by decide +kernel
theorem jx_k58 : (jx_tb 58).all (jx_chk (jx_cd 58)) = true := by decide +kernel
theorem jx_k59 : (jx_tb 59).all (jx_chk (jx_cd 59)) = true := by decide +kernel
theorem jx_k60 : (jx_tb 60).all (jx_chk (jx_cd 60)) = true := by decide +kernel
theorem jx_k61 : (jx_tb 61).all (jx_chk (jx_cd 61)) = true := by decide +kernel
theorem jx_k62 : (jx_tb 62).all (jx_chk (jx_cd 62)) = true := by decide +kernel
theorem jx_k63 : (jx_tb 63).all (jx_chk (jx_cd 63)) = true := by decide +kernel
theorem jx_k64 : (jx_tb 64).all (jx_chk (jx_cd 64)) = true := by decide +kernel
theorem jx_k65 : (jx_tb 65).all (jx_chk (jx_cd 65)) = true := by decide +kernel
theorem jx_k66 : (jx_tb 66).all (jx_chk (jx_cd 66)) = true := by decide +kernel
theorem jx_k67 : (jx_tb 67).all (jx_chk (jx_cd 67)) = true := by decide +kernel
theorem jx_k68 : (jx_tb 68).all (jx_chk (jx_cd 68)) = true := by decide +kernel
theorem jx_k69 : (jx_tb 69).all (jx_chk (jx_cd 69)) = true := by decide +kernel
theorem jx_k70 : (jx_tb 70).all (jx_chk (jx_cd 70)) = true := by decide +kernel
theorem jx_k71 : (jx_tb 71).all (jx_chk (jx_cd 71)) = true := by decide +kernel
theorem jx_k72 : (jx_tb 72).all (jx_chk (jx_cd 72)) = true := by decide +kernel
theorem jx_k73 : (jx_tb 73).all (jx_chk (jx_cd 73)) = true := by decide +kernel
theorem jx_k74 : (jx_tb 74).all (jx_chk (jx_cd 74)) = true := by decide +kernel
theorem jx_k75 : (jx_tb 75).all (jx_chk (jx_cd 75)) = true := by decide +kernel
theorem jx_k76 : (jx_tb 76).all (jx_chk (jx_cd 76)) = true := by decide +kernel
theorem jx_k77 : (jx_tb 77).all (jx_chk (jx_cd 77)) = true := by decide +kernel
theorem jx_k78 : (jx_tb 78).all (jx_chk (jx_cd 78)) = true := by decide +kernel
theorem jx_k79 : (jx_tb 79).all (jx_chk (jx_cd 79)) = true := by decide +kernel
theorem jx_k80 : (jx_tb 80).all (jx_chk (jx_cd 80)) = true := by decide +kernel
theorem jx_k81 : (jx_tb 81).all (jx_chk (jx_cd 81)) = true := by decide +kernel
theorem jx_k82 : (jx_tb 82).all (jx_chk (jx_cd 82)) = true := by decide +kernel
theorem jx_k83 : (jx_tb 83).all (jx_chk (jx_cd 83)) = true := by decide +kernel
theorem jx_k84 : (jx_tb 84).all (jx_chk (jx_cd 84)) = true := by decide +kernel
theorem jx_k85 : (jx_tb 85).all (jx_chk (jx_cd 85)) = true := by decide +kernel
theorem jx_k86 : (jx_tb 86).all (jx_chk (jx_cd 86)) = true := by decide +kernel
theorem jx_k87 : (jx_tb 87).all (jx_chk (jx_cd 87)) = true := by decide +kernel
theorem jx_k88 : (jx_tb 88).all (jx_chk (jx_cd 88)) = true := by decide +kernel
theorem jx_k89 : (jx_tb 89).all (jx_chk (jx_cd 89)) = true := by decide +kernel
theorem jx_k90 : (jx_tb 90).all (jx_chk (jx_cd 90)) = true := by decide +kernel
theorem jx_k91 : (jx_tb 91).all (jx_chk (jx_cd 91)) = true := by decide +kernel
theorem jx_k92 : (jx_tb 92).all (jx_chk (jx_cd 92)) = true := by decide +kernel
theorem jx_k93 : (jx_tb 93).all (jx_chk (jx_cd 93)) = true := by decide +kernel
theorem jx_k94 : (jx_tb 94).all (jx_chk (jx_cd 94)) = true := by decide +kernel
theorem jx_k95 : (jx_tb 95).all (jx_chk (jx_cd 95)) = true := by decide +kernel
theorem jx_k96 : (jx_tb 96).all (jx_chk (jx_cd 96)) = true := by decide +kernel
theorem jx_k97 : (jx_tb 97).all (jx_chk (jx_cd 97)) = true := by decide +kernel
theorem jx_k98 : (jx_tb 98).all (jx_chk (jx_cd 98)) = true := by decide +kernel
theorem jx_k99 : (jx_tb 99).all (jx_chk (jx_cd 99)) = true := by decide +kernel
theorem jx_k100 : (jx_tb 100).all (jx_chk (jx_cd 100)) = true := by decide +kernel
theorem jx_k101 : (jx_tb 101).all (jx_chk (jx_cd 101)) = true := by decide +kernel
theorem jx_k102 : (jx_tb 102).all (jx_chk (jx_cd 102)) = true := by decide +kernel
theorem jx_k103 : (jx_tb 103).all (jx_chk (jx_cd 103)) = true := by decide +kernel
theorem jx_k104 : (jx_tb 104).all (jx_chk (jx_cd 104)) = true := by decide +kernel
theorem jx_k105 : (jx_tb 105).all (jx_chk (jx_cd 105)) = true := by decide +kernel
theorem jx_k106 : (jx_tb 106).all (jx_chk (jx_cd 106)) = true := by decide +kernel
theorem jx_k107 : (jx_tb 107).all (jx_chk (jx_cd 107)) = true := by decide +kernel
theorem jx_k108 : (jx_tb 108).all (jx_chk (jx_cd 108)) = true := by decide +kernel
theorem jx_k109 : (jx_tb 109).all (jx_chk (jx_cd 109)) = true := by decide +kernel
theorem jx_k110 : (jx_tb 110).all (jx_chk (jx_cd 110)) = true := by decide +kernel
theorem jx_k111 : (jx_tb 111).all (jx_chk (jx_cd 111)) = true := by decide +kernel
theorem jx_k112 : (jx_tb 112).all (jx_chk (jx_cd 112)) = true := by decide +kernel
theorem jx_k113 : (jx_tb 113).all (jx_chk (jx_cd 113)) = true := by decide +kernel
theorem jx_k114 : (jx_tb 114).all (jx_chk (jx_cd 114)) = true := by decide +kernel
theorem jx_k115 : (jx_tb 115).all (jx_chk (jx_cd 115)) = true := by decide +kernel
theorem jx_k116 : (jx_tb 116).all (jx_chk (jx_cd 116)) = true := by decide +kernel
theorem jx_k117 : (jx_tb 117).all (jx_chk (jx_cd 117)) = true := by decide +kernel
theorem jx_k118 : (jx_tb 118).all (jx_chk (jx_cd 118)) = true := by decide +kernel
theorem jx_k119 : (jx_tb 119).all (jx_chk (jx_cd 119)) = true := by decide +kernel
theorem jx_k120 : (jx_tb 120).all (jx_chk (jx_cd 120)) = true := by decide +kernel
theorem jx_k121 : (jx_tb 121).all (jx_chk (jx_cd 121)) = true := by decide +kernel
theorem jx_tb_ok (κ : Nat) (h : κ < jx_nt) : (jx_tb κ).all (jx_chk (jx_cd κ)) = true := by
  match κ, h with
  | 0, _ => exact jx_k0
  | 1, _ => exact jx_k1
  | 2, _ => exact jx_k2
  | 3, _ => exact jx_k3
  | 4, _ => exact jx_k4
  | 5, _ => exact jx_k5
  | 6, _ => exact jx_k6
  | 7, _ => exact jx_k7
  | 8, _ => exact jx_k8
  | 9, _ => exact jx_k9
  | 10, _ => exact jx_k10
  | 11, _ => exact jx_k11
  | 12, _ => exact jx_k12
  | 13, _ => exact jx_k13
  | 14, _ => exact jx_k14
  | 15, _ => exact jx_k15
  | 16, _ => exact jx_k16
  | 17, _ => exact jx_k17
  | 18, _ => exact jx_k18
  | 19, _ => exact jx_k19
  | 20, _ => exact jx_k20
  | 21, _ => exact jx_k21
  | 22, _ => exact jx_k22
  | 23, _ => exact jx_k23
  | 24, _ => exact jx_k24
  | 25, _ => exact jx_k25
  | 26, _ => exact jx_k26
  | 27, _ => exact jx_k27
  | 28, _ => exact jx_k28
  | 29, _ => exact jx_k29
  | 30, _ => exact jx_k30
  | 31, _ => exact jx_k31
  | 32, _ => exact jx_k32
  | 33, _ => exact jx_k33
  | 34, _ => exact jx_k34
  | 35, _ => exact jx_k35
  | 36, _ => exact jx_k36
  | 37, _ => exact jx_k37
  | 38, _ => exact jx_k38
  | 39, _ => exact jx_k39
  | 40, _ => exact jx_k40
  | 41, _ => exact jx_k41
  | 42, _ => exact jx_k42
  | 43, _ => exact jx_k43
  | 44, _ => exact jx_k44
  | 45, _ => exact jx_k45
  | 46, _ => exact jx_k46
  | 47, _ => exact jx_k47
  | 48, _ => exact jx_k48
  | 49, _ => exact jx_k49
  | 50, _ => exact jx_k50
  | 51, _ => exact jx_k51
  | 52, _ => exact jx_k52
  | 53, _ => exact jx_k53
  | 54, _ => exact jx_k54
  | 55, _ => exact jx_k55
  | 56, _ => exact jx_k56
  | 57, _ => exact jx_k57
  | 58, _ => exact jx_k58
  | 59, _ => exact jx_k59
  | 60, _ => exact jx_k60
  | 61, _ => exact jx_k61
  | 62, _ => exact jx_k62
  | 63, _ => exact jx_k63
  | 64, _ => exact jx_k64
  | 65, _ => exact jx_k65
  | 66, _ => exact jx_k66
  | 67, _ => exact jx_k67
  | 68, _ => exact jx_k68
  | 69, _ => exact jx_k69
  | 70, _ => exact jx_k70
  | 71, _ => exact jx_k71
  | 72, _ => exact jx_k72
  | 73, _ => exact jx_k73
  | 74, _ => exact jx_k74
  | 75, _ => exact jx_k75
  | 76, _ => exact jx_k76
  | 77, _ => exact jx_k77
  | 78, _ => exact jx_k78
  | 79, _ => exact jx_k79
  | 80, _ => exact jx_k80
  | 81, _ => exact jx_k81
  | 82, _ => exact jx_k82
  | 83, _ => exact jx_k83
  | 84, _ => exact jx_k84
  | 85, _ => exact jx_k85
  | 86, _ => exact jx_k86
  | 87, _ => exact jx_k87
  | 88, _ => exact jx_k88
  | 89, _ => exact jx_k89
  | 90, _ => exact jx_k90
  | 91, _ => exact jx_k91
  | 92, _ => exact jx_k92
  | 93, _ => exact jx_k93
  | 94, _ => exact jx_k94
  | 95, _ => exact jx_k95
  | 96, _ => exact jx_k96
  | 97, _ => exact jx_k97
  | 98, _ => exact jx_k98
  | 99, _ => exact jx_k99
  | 100, _ => exact jx_k100
  | 101, _ => exact jx_k101
  | 102, _ => exact jx_k102
  | 103, _ => exact jx_k103
  | 104, _ => exact jx_k104
  | 105, _ => exact jx_k105
  | 106, _ => exact jx_k106
  | 107, _ => exact jx_k107
  | 108, _ => exact jx_k108
  | 109, _ => exact jx_k109
  | 110, _ => exact jx_k110
  | 111, _ => exact jx_k111
  | 112, _ => exact jx_k112
  | 113, _ => exact jx_k113
  | 114, _ => exact jx_k114
  | 115, _ => exact jx_k115
  | 116, _ => exact jx_k116
  | 117, _ => exact jx_k117
  | 118, _ => exact jx_k118
  | 119, _ => exact jx_k119
  | 120, _ => exact jx_k120
  | 121, _ => exact jx_k121
  | n + 122, h => exact absurd h (Nat.not_lt.mpr (Nat.le_add_left 122 n))
