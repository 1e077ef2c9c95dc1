/-! The links and the methods' words stand in the tables; each method's rows are its code: printed by program. -/
set_option maxRecDepth 100000 in
theorem lkT_0_ok : ∀ e ∈ lkT_0, lnkOK 0 e := List.forall_mem_cons.mpr ⟨mem_g (i := 88) rfl rfl, List.forall_mem_cons.mpr ⟨mem_g (i := 89) rfl rfl, List.forall_mem_cons.mpr ⟨mem_g (i := 93) rfl rfl, List.forall_mem_cons.mpr ⟨mem_g (i := 96) rfl rfl, List.forall_mem_cons.mpr ⟨mem_g (i := 99) rfl rfl, List.forall_mem_cons.mpr ⟨mem_g (i := 100) rfl rfl, List.forall_mem_cons.mpr ⟨mem_g (i := 101) rfl rfl, List.forall_mem_cons.mpr ⟨mem_g (i := 102) rfl rfl, List.forall_mem_cons.mpr ⟨mem_g (i := 103) rfl rfl, List.forall_mem_cons.mpr ⟨mem_g (i := 104) rfl rfl, List.forall_mem_cons.mpr ⟨mem_g (i := 288) rfl rfl, List.forall_mem_cons.mpr ⟨mem_g (i := 442) rfl rfl, List.forall_mem_cons.mpr ⟨mem_g (i := 455) rfl rfl, List.forall_mem_cons.mpr ⟨mem_g (i := 462) rfl rfl, List.forall_mem_cons.mpr ⟨mem_g (i := 469) rfl rfl, List.forall_mem_cons.mpr ⟨mem_g (i := 491) rfl rfl, List.forall_mem_cons.mpr ⟨mem_g (i := 495) rfl rfl, List.forall_mem_cons.mpr ⟨mem_g (i := 508) rfl rfl, List.forall_mem_cons.mpr ⟨mem_g (i := 512) rfl rfl, List.forall_mem_cons.mpr ⟨mem_g (i := 516) rfl rfl, List.forall_mem_cons.mpr ⟨mem_g (i := 520) rfl rfl, List.forall_mem_cons.mpr ⟨mem_g (i := 609) rfl rfl, fun _ h => absurd h List.not_mem_nil⟩⟩⟩⟩⟩⟩⟩⟩⟩⟩⟩⟩⟩⟩⟩⟩⟩⟩⟩⟩⟩⟩
set_option maxRecDepth 100000 in
theorem lkT_1_ok : ∀ e ∈ lkT_1, lnkOK 1 e := List.forall_mem_cons.mpr ⟨mem_g (i := 193) rfl rfl, List.forall_mem_cons.mpr ⟨mem_g (i := 194) rfl rfl, List.forall_mem_cons.mpr ⟨mem_g (i := 196) rfl rfl, List.forall_mem_cons.mpr ⟨mem_g (i := 198) rfl rfl, List.forall_mem_cons.mpr ⟨mem_g (i := 200) rfl rfl, List.forall_mem_cons.mpr ⟨mem_g (i := 202) rfl rfl, List.forall_mem_cons.mpr ⟨mem_g (i := 204) rfl rfl, fun _ h => absurd h List.not_mem_nil⟩⟩⟩⟩⟩⟩⟩
set_option maxRecDepth 100000 in
theorem lkT_2_ok : ∀ e ∈ lkT_2, lnkOK 2 e := List.forall_mem_cons.mpr ⟨mem_g (i := 186) rfl rfl, List.forall_mem_cons.mpr ⟨mem_g (i := 187) rfl rfl, List.forall_mem_cons.mpr ⟨mem_l (i := 0) rfl, List.forall_mem_cons.mpr ⟨mem_l (i := 0) rfl, List.forall_mem_cons.mpr ⟨mem_l (i := 1) rfl, List.forall_mem_cons.mpr ⟨mem_l (i := 2) rfl, List.forall_mem_cons.mpr ⟨mem_l (i := 3) rfl, List.forall_mem_cons.mpr ⟨mem_l (i := 4) rfl, List.forall_mem_cons.mpr ⟨mem_l (i := 5) rfl, List.forall_mem_cons.mpr ⟨mem_g (i := 219) rfl rfl, List.forall_mem_cons.mpr ⟨mem_g (i := 422) rfl rfl, List.forall_mem_cons.mpr ⟨mem_g (i := 426) rfl rfl, List.forall_mem_cons.mpr ⟨mem_g (i := 711) rfl rfl, List.forall_mem_cons.mpr ⟨mem_g (i := 712) rfl rfl, List.forall_mem_cons.mpr ⟨mem_g (i := 716) rfl rfl, List.forall_mem_cons.mpr ⟨mem_g (i := 720) rfl rfl, List.forall_mem_cons.mpr ⟨mem_g (i := 732) rfl rfl, List.forall_mem_cons.mpr ⟨mem_g (i := 736) rfl rfl, List.forall_mem_cons.mpr ⟨mem_g (i := 754) rfl rfl, List.forall_mem_cons.mpr ⟨mem_g (i := 758) rfl rfl, List.forall_mem_cons.mpr ⟨mem_g (i := 762) rfl rfl, List.forall_mem_cons.mpr ⟨mem_g (i := 766) rfl rfl, List.forall_mem_cons.mpr ⟨mem_g (i := 770) rfl rfl, List.forall_mem_cons.mpr ⟨mem_g (i := 779) rfl rfl, List.forall_mem_cons.mpr ⟨mem_g (i := 783) rfl rfl, fun _ h => absurd h List.not_mem_nil⟩⟩⟩⟩⟩⟩⟩⟩⟩⟩⟩⟩⟩⟩⟩⟩⟩⟩⟩⟩⟩⟩⟩⟩⟩
set_option maxRecDepth 100000 in
theorem lkT_3_ok : ∀ e ∈ lkT_3, lnkOK 3 e := List.forall_mem_cons.mpr ⟨mem_g (i := 149) rfl rfl, List.forall_mem_cons.mpr ⟨mem_g (i := 150) rfl rfl, List.forall_mem_cons.mpr ⟨mem_g (i := 151) rfl rfl, List.forall_mem_cons.mpr ⟨mem_g (i := 152) rfl rfl, List.forall_mem_cons.mpr ⟨mem_g (i := 153) rfl rfl, List.forall_mem_cons.mpr ⟨mem_g (i := 557) rfl rfl, List.forall_mem_cons.mpr ⟨mem_g (i := 558) rfl rfl, List.forall_mem_cons.mpr ⟨mem_g (i := 567) rfl rfl, List.forall_mem_cons.mpr ⟨mem_g (i := 568) rfl rfl, List.forall_mem_cons.mpr ⟨mem_g (i := 569) rfl rfl, List.forall_mem_cons.mpr ⟨mem_g (i := 573) rfl rfl, List.forall_mem_cons.mpr ⟨mem_g (i := 574) rfl rfl, List.forall_mem_cons.mpr ⟨mem_g (i := 575) rfl rfl, List.forall_mem_cons.mpr ⟨mem_g (i := 576) rfl rfl, List.forall_mem_cons.mpr ⟨mem_g (i := 580) rfl rfl, List.forall_mem_cons.mpr ⟨mem_g (i := 596) rfl rfl, List.forall_mem_cons.mpr ⟨mem_g (i := 618) rfl rfl, List.forall_mem_cons.mpr ⟨mem_g (i := 619) rfl rfl, List.forall_mem_cons.mpr ⟨mem_g (i := 628) rfl rfl, List.forall_mem_cons.mpr ⟨mem_g (i := 629) rfl rfl, List.forall_mem_cons.mpr ⟨mem_g (i := 633) rfl rfl, List.forall_mem_cons.mpr ⟨mem_g (i := 634) rfl rfl, List.forall_mem_cons.mpr ⟨mem_g (i := 640) rfl rfl, fun _ h => absurd h List.not_mem_nil⟩⟩⟩⟩⟩⟩⟩⟩⟩⟩⟩⟩⟩⟩⟩⟩⟩⟩⟩⟩⟩⟩⟩
set_option maxRecDepth 100000 in
theorem lkT_4_ok : ∀ e ∈ lkT_4, lnkOK 4 e := List.forall_mem_cons.mpr ⟨mem_g (i := 164) rfl rfl, List.forall_mem_cons.mpr ⟨mem_g (i := 165) rfl rfl, List.forall_mem_cons.mpr ⟨mem_g (i := 166) rfl rfl, List.forall_mem_cons.mpr ⟨mem_g (i := 167) rfl rfl, List.forall_mem_cons.mpr ⟨mem_g (i := 168) rfl rfl, List.forall_mem_cons.mpr ⟨mem_g (i := 169) rfl rfl, List.forall_mem_cons.mpr ⟨mem_g (i := 667) rfl rfl, List.forall_mem_cons.mpr ⟨mem_g (i := 671) rfl rfl, List.forall_mem_cons.mpr ⟨mem_g (i := 672) rfl rfl, List.forall_mem_cons.mpr ⟨mem_g (i := 673) rfl rfl, List.forall_mem_cons.mpr ⟨mem_g (i := 682) rfl rfl, List.forall_mem_cons.mpr ⟨mem_g (i := 683) rfl rfl, List.forall_mem_cons.mpr ⟨mem_g (i := 684) rfl rfl, List.forall_mem_cons.mpr ⟨mem_g (i := 687) rfl rfl, List.forall_mem_cons.mpr ⟨mem_g (i := 690) rfl rfl, fun _ h => absurd h List.not_mem_nil⟩⟩⟩⟩⟩⟩⟩⟩⟩⟩⟩⟩⟩⟩⟩
set_option maxRecDepth 100000 in
theorem lkT_5_ok : ∀ e ∈ lkT_5, lnkOK 5 e := List.forall_mem_cons.mpr ⟨mem_g (i := 125) rfl rfl, List.forall_mem_cons.mpr ⟨mem_g (i := 126) rfl rfl, List.forall_mem_cons.mpr ⟨mem_g (i := 127) rfl rfl, List.forall_mem_cons.mpr ⟨mem_g (i := 128) rfl rfl, List.forall_mem_cons.mpr ⟨mem_g (i := 129) rfl rfl, List.forall_mem_cons.mpr ⟨mem_g (i := 130) rfl rfl, List.forall_mem_cons.mpr ⟨mem_g (i := 295) rfl rfl, List.forall_mem_cons.mpr ⟨mem_g (i := 299) rfl rfl, List.forall_mem_cons.mpr ⟨mem_g (i := 303) rfl rfl, List.forall_mem_cons.mpr ⟨mem_g (i := 307) rfl rfl, List.forall_mem_cons.mpr ⟨⟨rfl, by decide, by decide, rfl⟩, List.forall_mem_cons.mpr ⟨mem_g (i := 312) rfl rfl, List.forall_mem_cons.mpr ⟨mem_g (i := 316) rfl rfl, List.forall_mem_cons.mpr ⟨mem_g (i := 326) rfl rfl, List.forall_mem_cons.mpr ⟨⟨rfl, by decide, by decide, rfl⟩, List.forall_mem_cons.mpr ⟨⟨rfl, by decide, by decide, rfl⟩, List.forall_mem_cons.mpr ⟨⟨rfl, by decide, by decide, rfl⟩, List.forall_mem_cons.mpr ⟨⟨rfl, by decide, by decide, rfl⟩, List.forall_mem_cons.mpr ⟨⟨rfl, by decide, by decide, rfl⟩, List.forall_mem_cons.mpr ⟨⟨rfl, by decide, by decide, rfl⟩, List.forall_mem_cons.mpr ⟨⟨rfl, by decide, by decide, rfl⟩, List.forall_mem_cons.mpr ⟨⟨rfl, by decide, by decide, rfl⟩, List.forall_mem_cons.mpr ⟨mem_g (i := 372) rfl rfl, List.forall_mem_cons.mpr ⟨mem_g (i := 376) rfl rfl, List.forall_mem_cons.mpr ⟨mem_g (i := 380) rfl rfl, List.forall_mem_cons.mpr ⟨mem_l (i := 1) rfl, List.forall_mem_cons.mpr ⟨mem_g (i := 385) rfl rfl, List.forall_mem_cons.mpr ⟨mem_g (i := 389) rfl rfl, List.forall_mem_cons.mpr ⟨mem_g (i := 392) rfl rfl, List.forall_mem_cons.mpr ⟨mem_g (i := 393) rfl rfl, List.forall_mem_cons.mpr ⟨mem_g (i := 397) rfl rfl, List.forall_mem_cons.mpr ⟨mem_g (i := 401) rfl rfl, List.forall_mem_cons.mpr ⟨mem_g (i := 405) rfl rfl, fun _ h => absurd h List.not_mem_nil⟩⟩⟩⟩⟩⟩⟩⟩⟩⟩⟩⟩⟩⟩⟩⟩⟩⟩⟩⟩⟩⟩⟩⟩⟩⟩⟩⟩⟩⟩⟩⟩⟩
set_option maxRecDepth 100000 in
theorem lkT_6_ok : ∀ e ∈ lkT_6, lnkOK 6 e := List.forall_mem_cons.mpr ⟨mem_g (i := 80) rfl rfl, List.forall_mem_cons.mpr ⟨mem_g (i := 83) rfl rfl, List.forall_mem_cons.mpr ⟨mem_g (i := 85) rfl rfl, List.forall_mem_cons.mpr ⟨mem_g (i := 120) rfl rfl, List.forall_mem_cons.mpr ⟨mem_l (i := 2) rfl, List.forall_mem_cons.mpr ⟨mem_g (i := 144) rfl rfl, List.forall_mem_cons.mpr ⟨mem_g (i := 146) rfl rfl, List.forall_mem_cons.mpr ⟨mem_g (i := 159) rfl rfl, List.forall_mem_cons.mpr ⟨mem_l (i := 3) rfl, List.forall_mem_cons.mpr ⟨mem_g (i := 181) rfl rfl, List.forall_mem_cons.mpr ⟨mem_g (i := 183) rfl rfl, List.forall_mem_cons.mpr ⟨mem_g (i := 223) rfl rfl, List.forall_mem_cons.mpr ⟨mem_g (i := 224) rfl rfl, List.forall_mem_cons.mpr ⟨mem_g (i := 225) rfl rfl, List.forall_mem_cons.mpr ⟨mem_g (i := 226) rfl rfl, List.forall_mem_cons.mpr ⟨mem_g (i := 227) rfl rfl, List.forall_mem_cons.mpr ⟨mem_g (i := 228) rfl rfl, List.forall_mem_cons.mpr ⟨mem_g (i := 229) rfl rfl, List.forall_mem_cons.mpr ⟨mem_g (i := 230) rfl rfl, List.forall_mem_cons.mpr ⟨mem_g (i := 231) rfl rfl, List.forall_mem_cons.mpr ⟨mem_g (i := 232) rfl rfl, List.forall_mem_cons.mpr ⟨mem_g (i := 233) rfl rfl, List.forall_mem_cons.mpr ⟨mem_g (i := 261) rfl rfl, List.forall_mem_cons.mpr ⟨mem_g (i := 264) rfl rfl, List.forall_mem_cons.mpr ⟨mem_g (i := 268) rfl rfl, List.forall_mem_cons.mpr ⟨mem_g (i := 276) rfl rfl, List.forall_mem_cons.mpr ⟨mem_g (i := 284) rfl rfl, List.forall_mem_cons.mpr ⟨mem_g (i := 291) rfl rfl, List.forall_mem_cons.mpr ⟨mem_g (i := 414) rfl rfl, List.forall_mem_cons.mpr ⟨mem_g (i := 418) rfl rfl, List.forall_mem_cons.mpr ⟨mem_g (i := 430) rfl rfl, List.forall_mem_cons.mpr ⟨mem_g (i := 438) rfl rfl, List.forall_mem_cons.mpr ⟨mem_g (i := 443) rfl rfl, List.forall_mem_cons.mpr ⟨mem_g (i := 447) rfl rfl, List.forall_mem_cons.mpr ⟨mem_g (i := 451) rfl rfl, List.forall_mem_cons.mpr ⟨mem_g (i := 458) rfl rfl, List.forall_mem_cons.mpr ⟨mem_g (i := 465) rfl rfl, List.forall_mem_cons.mpr ⟨mem_g (i := 476) rfl rfl, List.forall_mem_cons.mpr ⟨mem_g (i := 482) rfl rfl, List.forall_mem_cons.mpr ⟨mem_g (i := 487) rfl rfl, List.forall_mem_cons.mpr ⟨mem_g (i := 496) rfl rfl, List.forall_mem_cons.mpr ⟨mem_g (i := 500) rfl rfl, List.forall_mem_cons.mpr ⟨mem_g (i := 504) rfl rfl, List.forall_mem_cons.mpr ⟨mem_g (i := 525) rfl rfl, List.forall_mem_cons.mpr ⟨mem_g (i := 533) rfl rfl, List.forall_mem_cons.mpr ⟨mem_g (i := 553) rfl rfl, List.forall_mem_cons.mpr ⟨mem_g (i := 563) rfl rfl, List.forall_mem_cons.mpr ⟨mem_g (i := 584) rfl rfl, List.forall_mem_cons.mpr ⟨mem_g (i := 592) rfl rfl, List.forall_mem_cons.mpr ⟨mem_g (i := 600) rfl rfl, List.forall_mem_cons.mpr ⟨mem_g (i := 605) rfl rfl, List.forall_mem_cons.mpr ⟨mem_g (i := 614) rfl rfl, List.forall_mem_cons.mpr ⟨mem_g (i := 624) rfl rfl, List.forall_mem_cons.mpr ⟨mem_g (i := 647) rfl rfl, List.forall_mem_cons.mpr ⟨mem_g (i := 651) rfl rfl, List.forall_mem_cons.mpr ⟨mem_g (i := 663) rfl rfl, List.forall_mem_cons.mpr ⟨mem_g (i := 678) rfl rfl, List.forall_mem_cons.mpr ⟨mem_g (i := 695) rfl rfl, List.forall_mem_cons.mpr ⟨mem_g (i := 699) rfl rfl, List.forall_mem_cons.mpr ⟨mem_g (i := 707) rfl rfl, List.forall_mem_cons.mpr ⟨mem_g (i := 728) rfl rfl, List.forall_mem_cons.mpr ⟨mem_g (i := 741) rfl rfl, List.forall_mem_cons.mpr ⟨mem_g (i := 749) rfl rfl, List.forall_mem_cons.mpr ⟨mem_g (i := 750) rfl rfl, List.forall_mem_cons.mpr ⟨mem_g (i := 775) rfl rfl, List.forall_mem_cons.mpr ⟨mem_g (i := 791) rfl rfl, List.forall_mem_cons.mpr ⟨mem_g (i := 796) rfl rfl, List.forall_mem_cons.mpr ⟨mem_g (i := 797) rfl rfl, List.forall_mem_cons.mpr ⟨mem_g (i := 798) rfl rfl, List.forall_mem_cons.mpr ⟨mem_g (i := 802) rfl rfl, List.forall_mem_cons.mpr ⟨mem_g (i := 806) rfl rfl, fun _ h => absurd h List.not_mem_nil⟩⟩⟩⟩⟩⟩⟩⟩⟩⟩⟩⟩⟩⟩⟩⟩⟩⟩⟩⟩⟩⟩⟩⟩⟩⟩⟩⟩⟩⟩⟩⟩⟩⟩⟩⟩⟩⟩⟩⟩⟩⟩⟩⟩⟩⟩⟩⟩⟩⟩⟩⟩⟩⟩⟩⟩⟩⟩⟩⟩⟩⟩⟩⟩⟩⟩⟩⟩⟩⟩⟩
set_option maxRecDepth 100000 in
theorem lkT_7_ok : ∀ e ∈ lkT_7, lnkOK 7 e := List.forall_mem_cons.mpr ⟨mem_g (i := 815) rfl rfl, List.forall_mem_cons.mpr ⟨mem_g (i := 816) rfl rfl, List.forall_mem_cons.mpr ⟨mem_g (i := 819) rfl rfl, List.forall_mem_cons.mpr ⟨mem_g (i := 823) rfl rfl, List.forall_mem_cons.mpr ⟨mem_g (i := 824) rfl rfl, List.forall_mem_cons.mpr ⟨mem_g (i := 825) rfl rfl, List.forall_mem_cons.mpr ⟨mem_g (i := 826) rfl rfl, List.forall_mem_cons.mpr ⟨mem_g (i := 827) rfl rfl, List.forall_mem_cons.mpr ⟨mem_g (i := 828) rfl rfl, List.forall_mem_cons.mpr ⟨mem_g (i := 829) rfl rfl, List.forall_mem_cons.mpr ⟨mem_g (i := 830) rfl rfl, List.forall_mem_cons.mpr ⟨mem_g (i := 831) rfl rfl, List.forall_mem_cons.mpr ⟨mem_g (i := 832) rfl rfl, List.forall_mem_cons.mpr ⟨mem_g (i := 833) rfl rfl, List.forall_mem_cons.mpr ⟨mem_g (i := 834) rfl rfl, List.forall_mem_cons.mpr ⟨mem_g (i := 835) rfl rfl, List.forall_mem_cons.mpr ⟨mem_g (i := 836) rfl rfl, List.forall_mem_cons.mpr ⟨mem_g (i := 837) rfl rfl, List.forall_mem_cons.mpr ⟨mem_g (i := 838) rfl rfl, List.forall_mem_cons.mpr ⟨mem_g (i := 839) rfl rfl, List.forall_mem_cons.mpr ⟨mem_g (i := 840) rfl rfl, List.forall_mem_cons.mpr ⟨mem_g (i := 841) rfl rfl, List.forall_mem_cons.mpr ⟨mem_g (i := 842) rfl rfl, List.forall_mem_cons.mpr ⟨mem_g (i := 843) rfl rfl, List.forall_mem_cons.mpr ⟨mem_g (i := 844) rfl rfl, List.forall_mem_cons.mpr ⟨mem_g (i := 845) rfl rfl, List.forall_mem_cons.mpr ⟨mem_g (i := 846) rfl rfl, List.forall_mem_cons.mpr ⟨mem_g (i := 847) rfl rfl, List.forall_mem_cons.mpr ⟨mem_g (i := 848) rfl rfl, List.forall_mem_cons.mpr ⟨mem_g (i := 849) rfl rfl, List.forall_mem_cons.mpr ⟨mem_g (i := 850) rfl rfl, List.forall_mem_cons.mpr ⟨mem_g (i := 851) rfl rfl, List.forall_mem_cons.mpr ⟨mem_g (i := 852) rfl rfl, List.forall_mem_cons.mpr ⟨mem_g (i := 853) rfl rfl, List.forall_mem_cons.mpr ⟨mem_g (i := 922) rfl rfl, List.forall_mem_cons.mpr ⟨mem_g (i := 923) rfl rfl, List.forall_mem_cons.mpr ⟨mem_g (i := 934) rfl rfl, List.forall_mem_cons.mpr ⟨mem_g (i := 938) rfl rfl, List.forall_mem_cons.mpr ⟨mem_g (i := 942) rfl rfl, List.forall_mem_cons.mpr ⟨mem_g (i := 946) rfl rfl, List.forall_mem_cons.mpr ⟨mem_g (i := 947) rfl rfl, List.forall_mem_cons.mpr ⟨mem_g (i := 948) rfl rfl, List.forall_mem_cons.mpr ⟨mem_g (i := 952) rfl rfl, List.forall_mem_cons.mpr ⟨mem_g (i := 953) rfl rfl, List.forall_mem_cons.mpr ⟨mem_g (i := 954) rfl rfl, List.forall_mem_cons.mpr ⟨mem_g (i := 955) rfl rfl, List.forall_mem_cons.mpr ⟨mem_g (i := 956) rfl rfl, List.forall_mem_cons.mpr ⟨mem_g (i := 959) rfl rfl, List.forall_mem_cons.mpr ⟨mem_g (i := 960) rfl rfl, List.forall_mem_cons.mpr ⟨mem_g (i := 961) rfl rfl, List.forall_mem_cons.mpr ⟨mem_g (i := 962) rfl rfl, List.forall_mem_cons.mpr ⟨mem_g (i := 963) rfl rfl, List.forall_mem_cons.mpr ⟨mem_g (i := 964) rfl rfl, List.forall_mem_cons.mpr ⟨mem_g (i := 965) rfl rfl, List.forall_mem_cons.mpr ⟨mem_g (i := 966) rfl rfl, List.forall_mem_cons.mpr ⟨mem_g (i := 967) rfl rfl, List.forall_mem_cons.mpr ⟨mem_g (i := 968) rfl rfl, List.forall_mem_cons.mpr ⟨mem_g (i := 969) rfl rfl, List.forall_mem_cons.mpr ⟨mem_g (i := 970) rfl rfl, List.forall_mem_cons.mpr ⟨mem_g (i := 971) rfl rfl, List.forall_mem_cons.mpr ⟨mem_g (i := 972) rfl rfl, List.forall_mem_cons.mpr ⟨mem_g (i := 976) rfl rfl, List.forall_mem_cons.mpr ⟨mem_g (i := 980) rfl rfl, List.forall_mem_cons.mpr ⟨mem_g (i := 992) rfl rfl, List.forall_mem_cons.mpr ⟨mem_g (i := 996) rfl rfl, List.forall_mem_cons.mpr ⟨mem_g (i := 999) rfl rfl, List.forall_mem_cons.mpr ⟨mem_g (i := 1002) rfl rfl, List.forall_mem_cons.mpr ⟨mem_g (i := 1009) rfl rfl, List.forall_mem_cons.mpr ⟨mem_g (i := 1014) rfl rfl, List.forall_mem_cons.mpr ⟨mem_g (i := 1018) rfl rfl, List.forall_mem_cons.mpr ⟨mem_g (i := 1022) rfl rfl, List.forall_mem_cons.mpr ⟨mem_g (i := 1026) rfl rfl, List.forall_mem_cons.mpr ⟨mem_g (i := 1030) rfl rfl, List.forall_mem_cons.mpr ⟨mem_g (i := 1034) rfl rfl, List.forall_mem_cons.mpr ⟨mem_g (i := 1038) rfl rfl, List.forall_mem_cons.mpr ⟨mem_g (i := 1042) rfl rfl, List.forall_mem_cons.mpr ⟨mem_g (i := 1050) rfl rfl, List.forall_mem_cons.mpr ⟨mem_g (i := 1071) rfl rfl, List.forall_mem_cons.mpr ⟨mem_g (i := 1079) rfl rfl, List.forall_mem_cons.mpr ⟨mem_g (i := 1080) rfl rfl, List.forall_mem_cons.mpr ⟨mem_g (i := 1081) rfl rfl, List.forall_mem_cons.mpr ⟨mem_g (i := 1085) rfl rfl, List.forall_mem_cons.mpr ⟨mem_g (i := 1089) rfl rfl, List.forall_mem_cons.mpr ⟨mem_g (i := 1093) rfl rfl, List.forall_mem_cons.mpr ⟨mem_g (i := 1097) rfl rfl, List.forall_mem_cons.mpr ⟨mem_g (i := 1101) rfl rfl, List.forall_mem_cons.mpr ⟨mem_g (i := 1109) rfl rfl, List.forall_mem_cons.mpr ⟨mem_g (i := 1110) rfl rfl, List.forall_mem_cons.mpr ⟨mem_g (i := 1114) rfl rfl, List.forall_mem_cons.mpr ⟨mem_g (i := 1118) rfl rfl, List.forall_mem_cons.mpr ⟨mem_g (i := 1122) rfl rfl, List.forall_mem_cons.mpr ⟨mem_g (i := 1138) rfl rfl, List.forall_mem_cons.mpr ⟨mem_g (i := 1139) rfl rfl, List.forall_mem_cons.mpr ⟨mem_g (i := 1140) rfl rfl, List.forall_mem_cons.mpr ⟨mem_g (i := 1144) rfl rfl, List.forall_mem_cons.mpr ⟨mem_g (i := 1151) rfl rfl, List.forall_mem_cons.mpr ⟨mem_g (i := 1160) rfl rfl, List.forall_mem_cons.mpr ⟨mem_g (i := 1167) rfl rfl, List.forall_mem_cons.mpr ⟨mem_g (i := 1172) rfl rfl, List.forall_mem_cons.mpr ⟨mem_g (i := 1175) rfl rfl, List.forall_mem_cons.mpr ⟨mem_g (i := 1183) rfl rfl, List.forall_mem_cons.mpr ⟨mem_g (i := 1184) rfl rfl, List.forall_mem_cons.mpr ⟨mem_g (i := 1185) rfl rfl, List.forall_mem_cons.mpr ⟨mem_g (i := 1186) rfl rfl, List.forall_mem_cons.mpr ⟨mem_g (i := 1190) rfl rfl, List.forall_mem_cons.mpr ⟨mem_g (i := 1198) rfl rfl, List.forall_mem_cons.mpr ⟨mem_g (i := 1202) rfl rfl, List.forall_mem_cons.mpr ⟨mem_g (i := 1211) rfl rfl, List.forall_mem_cons.mpr ⟨mem_g (i := 1215) rfl rfl, List.forall_mem_cons.mpr ⟨mem_g (i := 1231) rfl rfl, List.forall_mem_cons.mpr ⟨mem_g (i := 1235) rfl rfl, List.forall_mem_cons.mpr ⟨mem_g (i := 1239) rfl rfl, fun _ h => absurd h List.not_mem_nil⟩⟩⟩⟩⟩⟩⟩⟩⟩⟩⟩⟩⟩⟩⟩⟩⟩⟩⟩⟩⟩⟩⟩⟩⟩⟩⟩⟩⟩⟩⟩⟩⟩⟩⟩⟩⟩⟩⟩⟩⟩⟩⟩⟩⟩⟩⟩⟩⟩⟩⟩⟩⟩⟩⟩⟩⟩⟩⟩⟩⟩⟩⟩⟩⟩⟩⟩⟩⟩⟩⟩⟩⟩⟩⟩⟩⟩⟩⟩⟩⟩⟩⟩⟩⟩⟩⟩⟩⟩⟩⟩⟩⟩⟩⟩⟩⟩⟩⟩⟩⟩⟩⟩⟩⟩⟩⟩⟩⟩⟩⟩⟩
set_option maxRecDepth 100000 in
theorem lkT_8_ok : ∀ e ∈ lkT_8, lnkOK 8 e := List.forall_mem_cons.mpr ⟨mem_l (i := 4) rfl, List.forall_mem_cons.mpr ⟨mem_g (i := 480) rfl rfl, fun _ h => absurd h List.not_mem_nil⟩⟩
set_option maxRecDepth 100000 in
theorem lkT_9_ok : ∀ e ∈ lkT_9, lnkOK 9 e := List.forall_mem_cons.mpr ⟨mem_g (i := 637) rfl rfl, List.forall_mem_cons.mpr ⟨mem_g (i := 638) rfl rfl, List.forall_mem_cons.mpr ⟨mem_g (i := 639) rfl rfl, fun _ h => absurd h List.not_mem_nil⟩⟩⟩
set_option maxRecDepth 100000 in
theorem lkT_10_ok : ∀ e ∈ lkT_10, lnkOK 10 e := List.forall_mem_cons.mpr ⟨mem_g (i := 75) rfl rfl, List.forall_mem_cons.mpr ⟨mem_g (i := 77) rfl rfl, List.forall_mem_cons.mpr ⟨mem_g (i := 257) rfl rfl, List.forall_mem_cons.mpr ⟨mem_g (i := 272) rfl rfl, List.forall_mem_cons.mpr ⟨mem_g (i := 280) rfl rfl, List.forall_mem_cons.mpr ⟨mem_g (i := 410) rfl rfl, List.forall_mem_cons.mpr ⟨mem_g (i := 434) rfl rfl, List.forall_mem_cons.mpr ⟨mem_g (i := 472) rfl rfl, List.forall_mem_cons.mpr ⟨mem_g (i := 483) rfl rfl, List.forall_mem_cons.mpr ⟨mem_g (i := 521) rfl rfl, List.forall_mem_cons.mpr ⟨mem_g (i := 529) rfl rfl, List.forall_mem_cons.mpr ⟨mem_g (i := 537) rfl rfl, List.forall_mem_cons.mpr ⟨mem_g (i := 541) rfl rfl, List.forall_mem_cons.mpr ⟨mem_g (i := 545) rfl rfl, List.forall_mem_cons.mpr ⟨mem_g (i := 549) rfl rfl, List.forall_mem_cons.mpr ⟨mem_g (i := 559) rfl rfl, List.forall_mem_cons.mpr ⟨mem_g (i := 588) rfl rfl, List.forall_mem_cons.mpr ⟨mem_g (i := 601) rfl rfl, List.forall_mem_cons.mpr ⟨mem_g (i := 610) rfl rfl, List.forall_mem_cons.mpr ⟨mem_g (i := 620) rfl rfl, List.forall_mem_cons.mpr ⟨mem_g (i := 643) rfl rfl, List.forall_mem_cons.mpr ⟨mem_g (i := 655) rfl rfl, List.forall_mem_cons.mpr ⟨mem_g (i := 659) rfl rfl, List.forall_mem_cons.mpr ⟨mem_g (i := 674) rfl rfl, List.forall_mem_cons.mpr ⟨mem_g (i := 691) rfl rfl, List.forall_mem_cons.mpr ⟨mem_g (i := 703) rfl rfl, List.forall_mem_cons.mpr ⟨mem_g (i := 724) rfl rfl, List.forall_mem_cons.mpr ⟨mem_g (i := 737) rfl rfl, List.forall_mem_cons.mpr ⟨mem_g (i := 745) rfl rfl, List.forall_mem_cons.mpr ⟨mem_g (i := 771) rfl rfl, List.forall_mem_cons.mpr ⟨mem_g (i := 787) rfl rfl, List.forall_mem_cons.mpr ⟨mem_g (i := 792) rfl rfl, List.forall_mem_cons.mpr ⟨mem_g (i := 810) rfl rfl, List.forall_mem_cons.mpr ⟨mem_g (i := 812) rfl rfl, List.forall_mem_cons.mpr ⟨mem_g (i := 918) rfl rfl, List.forall_mem_cons.mpr ⟨mem_g (i := 926) rfl rfl, List.forall_mem_cons.mpr ⟨mem_g (i := 930) rfl rfl, List.forall_mem_cons.mpr ⟨mem_g (i := 984) rfl rfl, List.forall_mem_cons.mpr ⟨mem_g (i := 988) rfl rfl, List.forall_mem_cons.mpr ⟨mem_g (i := 1005) rfl rfl, List.forall_mem_cons.mpr ⟨mem_g (i := 1010) rfl rfl, List.forall_mem_cons.mpr ⟨mem_g (i := 1046) rfl rfl, List.forall_mem_cons.mpr ⟨mem_g (i := 1051) rfl rfl, List.forall_mem_cons.mpr ⟨mem_g (i := 1055) rfl rfl, List.forall_mem_cons.mpr ⟨mem_g (i := 1059) rfl rfl, List.forall_mem_cons.mpr ⟨mem_g (i := 1063) rfl rfl, List.forall_mem_cons.mpr ⟨mem_g (i := 1067) rfl rfl, List.forall_mem_cons.mpr ⟨mem_g (i := 1075) rfl rfl, List.forall_mem_cons.mpr ⟨mem_g (i := 1105) rfl rfl, List.forall_mem_cons.mpr ⟨mem_g (i := 1126) rfl rfl, List.forall_mem_cons.mpr ⟨mem_g (i := 1130) rfl rfl, List.forall_mem_cons.mpr ⟨mem_g (i := 1134) rfl rfl, List.forall_mem_cons.mpr ⟨mem_g (i := 1147) rfl rfl, List.forall_mem_cons.mpr ⟨mem_g (i := 1152) rfl rfl, List.forall_mem_cons.mpr ⟨mem_g (i := 1156) rfl rfl, List.forall_mem_cons.mpr ⟨mem_g (i := 1163) rfl rfl, List.forall_mem_cons.mpr ⟨mem_g (i := 1168) rfl rfl, List.forall_mem_cons.mpr ⟨mem_g (i := 1179) rfl rfl, List.forall_mem_cons.mpr ⟨mem_g (i := 1194) rfl rfl, List.forall_mem_cons.mpr ⟨mem_g (i := 1203) rfl rfl, List.forall_mem_cons.mpr ⟨mem_g (i := 1207) rfl rfl, List.forall_mem_cons.mpr ⟨mem_g (i := 1219) rfl rfl, List.forall_mem_cons.mpr ⟨mem_g (i := 1223) rfl rfl, List.forall_mem_cons.mpr ⟨mem_g (i := 1227) rfl rfl, fun _ h => absurd h List.not_mem_nil⟩⟩⟩⟩⟩⟩⟩⟩⟩⟩⟩⟩⟩⟩⟩⟩⟩⟩⟩⟩⟩⟩⟩⟩⟩⟩⟩⟩⟩⟩⟩⟩⟩⟩⟩⟩⟩⟩⟩⟩⟩⟩⟩⟩⟩⟩⟩⟩⟩⟩⟩⟩⟩⟩⟩⟩⟩⟩⟩⟩⟩⟩⟩⟩
set_option maxRecDepth 100000 in
theorem infOK_0 : ∀ q ∈ am_inf_0, infOK q := List.forall_mem_cons.mpr ⟨⟨rfl, rfl, by decide +kernel, by decide +kernel, fun _ => ⟨mem_g (i := 87) rfl rfl, mem_g (i := 60) rfl rfl, ⟨mem_g (i := 86) rfl rfl, rfl, rfl⟩⟩⟩, List.forall_mem_cons.mpr ⟨⟨rfl, rfl, by decide +kernel, by decide +kernel, fun _ => ⟨mem_g (i := 92) rfl rfl, mem_g (i := 60) rfl rfl, ⟨mem_g (i := 90) rfl rfl, mem_g (i := 91) rfl rfl, rfl⟩⟩⟩, List.forall_mem_cons.mpr ⟨⟨rfl, rfl, by decide +kernel, by decide +kernel, fun _ => ⟨mem_g (i := 287) rfl rfl, mem_g (i := 60) rfl rfl, ⟨mem_g (i := 285) rfl rfl, mem_g (i := 286) rfl rfl, rfl⟩⟩⟩, List.forall_mem_cons.mpr ⟨⟨rfl, rfl, by decide +kernel, by decide +kernel, fun _ => ⟨mem_g (i := 375) rfl rfl, mem_g (i := 60) rfl rfl, ⟨mem_g (i := 373) rfl rfl, mem_g (i := 374) rfl rfl, rfl⟩⟩⟩, List.forall_mem_cons.mpr ⟨⟨rfl, rfl, by decide +kernel, by decide +kernel, fun _ => ⟨mem_g (i := 441) rfl rfl, mem_g (i := 60) rfl rfl, ⟨mem_g (i := 439) rfl rfl, mem_g (i := 440) rfl rfl, rfl⟩⟩⟩, List.forall_mem_cons.mpr ⟨⟨rfl, rfl, by decide +kernel, by decide +kernel, fun _ => ⟨mem_g (i := 494) rfl rfl, mem_g (i := 60) rfl rfl, ⟨mem_g (i := 492) rfl rfl, mem_g (i := 493) rfl rfl, rfl⟩⟩⟩, List.forall_mem_cons.mpr ⟨⟨rfl, rfl, by decide +kernel, by decide +kernel, fun _ => ⟨mem_g (i := 499) rfl rfl, mem_g (i := 60) rfl rfl, ⟨mem_g (i := 497) rfl rfl, mem_g (i := 498) rfl rfl, rfl⟩⟩⟩, List.forall_mem_cons.mpr ⟨⟨rfl, rfl, by decide +kernel, by decide +kernel, fun _ => ⟨mem_g (i := 579) rfl rfl, mem_g (i := 60) rfl rfl, ⟨mem_g (i := 577) rfl rfl, mem_g (i := 578) rfl rfl, rfl⟩⟩⟩, List.forall_mem_cons.mpr ⟨⟨rfl, rfl, by decide +kernel, by decide +kernel, fun _ => ⟨mem_g (i := 801) rfl rfl, mem_g (i := 60) rfl rfl, ⟨mem_g (i := 799) rfl rfl, mem_g (i := 800) rfl rfl, rfl⟩⟩⟩, List.forall_mem_cons.mpr ⟨⟨rfl, rfl, by decide +kernel, by decide +kernel, fun _ => ⟨mem_g (i := 583) rfl rfl, mem_g (i := 60) rfl rfl, ⟨mem_g (i := 581) rfl rfl, mem_g (i := 582) rfl rfl, rfl⟩⟩⟩, List.forall_mem_cons.mpr ⟨⟨rfl, rfl, by decide +kernel, by decide +kernel, fun _ => ⟨mem_g (i := 446) rfl rfl, mem_g (i := 60) rfl rfl, ⟨mem_g (i := 444) rfl rfl, mem_g (i := 445) rfl rfl, rfl⟩⟩⟩, List.forall_mem_cons.mpr ⟨⟨rfl, rfl, by decide +kernel, by decide +kernel, fun _ => ⟨mem_g (i := 450) rfl rfl, mem_g (i := 60) rfl rfl, ⟨mem_g (i := 448) rfl rfl, mem_g (i := 449) rfl rfl, rfl⟩⟩⟩, List.forall_mem_cons.mpr ⟨⟨rfl, rfl, by decide +kernel, by decide +kernel, fun _ => ⟨mem_g (i := 454) rfl rfl, mem_g (i := 60) rfl rfl, ⟨mem_g (i := 452) rfl rfl, mem_g (i := 453) rfl rfl, rfl⟩⟩⟩, List.forall_mem_cons.mpr ⟨⟨rfl, rfl, by decide +kernel, by decide +kernel, fun _ => ⟨mem_g (i := 461) rfl rfl, mem_g (i := 60) rfl rfl, ⟨mem_g (i := 459) rfl rfl, mem_g (i := 460) rfl rfl, rfl⟩⟩⟩, List.forall_mem_cons.mpr ⟨⟨rfl, rfl, by decide +kernel, by decide +kernel, fun _ => ⟨mem_g (i := 468) rfl rfl, mem_g (i := 60) rfl rfl, ⟨mem_g (i := 466) rfl rfl, mem_g (i := 467) rfl rfl, rfl⟩⟩⟩, List.forall_mem_cons.mpr ⟨⟨rfl, rfl, by decide +kernel, by decide +kernel, fun _ => ⟨mem_g (i := 490) rfl rfl, mem_g (i := 60) rfl rfl, ⟨mem_g (i := 488) rfl rfl, mem_g (i := 489) rfl rfl, rfl⟩⟩⟩, List.forall_mem_cons.mpr ⟨⟨rfl, rfl, by decide +kernel, by decide +kernel, fun _ => ⟨mem_g (i := 608) rfl rfl, mem_g (i := 60) rfl rfl, ⟨mem_g (i := 606) rfl rfl, mem_g (i := 607) rfl rfl, rfl⟩⟩⟩, List.forall_mem_cons.mpr ⟨⟨rfl, rfl, by decide +kernel, by decide +kernel, fun _ => ⟨mem_g (i := 805) rfl rfl, mem_g (i := 60) rfl rfl, ⟨mem_g (i := 803) rfl rfl, mem_g (i := 804) rfl rfl, rfl⟩⟩⟩, List.forall_mem_cons.mpr ⟨⟨rfl, rfl, by decide +kernel, by decide +kernel, fun _ => ⟨mem_g (i := 408) rfl rfl, mem_g (i := 60) rfl rfl, ⟨mem_g (i := 406) rfl rfl, mem_g (i := 407) rfl rfl, rfl⟩⟩⟩, List.forall_mem_cons.mpr ⟨⟨rfl, rfl, by decide +kernel, by decide +kernel, fun _ => ⟨mem_g (i := 396) rfl rfl, mem_g (i := 60) rfl rfl, ⟨mem_g (i := 394) rfl rfl, mem_g (i := 395) rfl rfl, rfl⟩⟩⟩, List.forall_mem_cons.mpr ⟨⟨rfl, rfl, by decide +kernel, by decide +kernel, fun _ => ⟨mem_g (i := 400) rfl rfl, mem_g (i := 60) rfl rfl, ⟨mem_g (i := 398) rfl rfl, mem_g (i := 399) rfl rfl, rfl⟩⟩⟩, List.forall_mem_cons.mpr ⟨⟨rfl, rfl, by decide +kernel, by decide +kernel, fun _ => ⟨mem_g (i := 404) rfl rfl, mem_g (i := 60) rfl rfl, ⟨mem_g (i := 402) rfl rfl, mem_g (i := 403) rfl rfl, rfl⟩⟩⟩, List.forall_mem_cons.mpr ⟨⟨rfl, rfl, by decide +kernel, by decide +kernel, fun _ => ⟨mem_g (i := 528) rfl rfl, mem_g (i := 60) rfl rfl, ⟨mem_g (i := 526) rfl rfl, mem_g (i := 527) rfl rfl, rfl⟩⟩⟩, List.forall_mem_cons.mpr ⟨⟨rfl, rfl, by decide +kernel, by decide +kernel, fun _ => ⟨mem_g (i := 536) rfl rfl, mem_g (i := 60) rfl rfl, ⟨mem_g (i := 534) rfl rfl, mem_g (i := 535) rfl rfl, rfl⟩⟩⟩, List.forall_mem_cons.mpr ⟨⟨rfl, rfl, by decide +kernel, by decide +kernel, fun _ => ⟨mem_g (i := 507) rfl rfl, mem_g (i := 60) rfl rfl, ⟨mem_g (i := 505) rfl rfl, mem_g (i := 506) rfl rfl, rfl⟩⟩⟩, List.forall_mem_cons.mpr ⟨⟨rfl, rfl, by decide +kernel, by decide +kernel, fun _ => ⟨mem_g (i := 511) rfl rfl, mem_g (i := 60) rfl rfl, ⟨mem_g (i := 510) rfl rfl, mem_g (i := 9) rfl rfl, rfl⟩⟩⟩, List.forall_mem_cons.mpr ⟨⟨rfl, rfl, by decide +kernel, by decide +kernel, fun _ => ⟨mem_g (i := 515) rfl rfl, mem_g (i := 60) rfl rfl, ⟨mem_g (i := 514) rfl rfl, mem_g (i := 10) rfl rfl, rfl⟩⟩⟩, List.forall_mem_cons.mpr ⟨⟨rfl, rfl, by decide +kernel, by decide +kernel, fun _ => ⟨mem_g (i := 519) rfl rfl, mem_g (i := 60) rfl rfl, ⟨mem_g (i := 518) rfl rfl, mem_g (i := 11) rfl rfl, rfl⟩⟩⟩, List.forall_mem_cons.mpr ⟨⟨rfl, rfl, by decide +kernel, by decide +kernel, fun _ => ⟨mem_g (i := 192) rfl rfl, mem_g (i := 66) rfl rfl, ⟨mem_g (i := 191) rfl rfl, rfl, rfl⟩⟩⟩, List.forall_mem_cons.mpr ⟨⟨rfl, rfl, by decide +kernel, by decide +kernel, fun _ => ⟨mem_g (i := 723) rfl rfl, mem_g (i := 66) rfl rfl, ⟨mem_g (i := 721) rfl rfl, mem_g (i := 722) rfl rfl, rfl⟩⟩⟩, fun _ h => absurd h List.not_mem_nil⟩⟩⟩⟩⟩⟩⟩⟩⟩⟩⟩⟩⟩⟩⟩⟩⟩⟩⟩⟩⟩⟩⟩⟩⟩⟩⟩⟩⟩⟩
set_option maxRecDepth 100000 in
theorem infOK_1 : ∀ q ∈ am_inf_1, infOK q := List.forall_mem_cons.mpr ⟨⟨rfl, rfl, by decide +kernel, by decide +kernel, fun _ => ⟨mem_g (i := 735) rfl rfl, mem_g (i := 66) rfl rfl, ⟨mem_g (i := 733) rfl rfl, mem_g (i := 734) rfl rfl, rfl⟩⟩⟩, List.forall_mem_cons.mpr ⟨⟨rfl, rfl, by decide +kernel, by decide +kernel, fun _ => ⟨mem_g (i := 429) rfl rfl, mem_g (i := 66) rfl rfl, ⟨mem_g (i := 427) rfl rfl, mem_g (i := 428) rfl rfl, rfl⟩⟩⟩, List.forall_mem_cons.mpr ⟨⟨rfl, rfl, by decide +kernel, by decide +kernel, fun _ => ⟨mem_g (i := 761) rfl rfl, mem_g (i := 66) rfl rfl, ⟨mem_g (i := 759) rfl rfl, mem_g (i := 760) rfl rfl, rfl⟩⟩⟩, List.forall_mem_cons.mpr ⟨⟨rfl, rfl, by decide +kernel, by decide +kernel, fun _ => ⟨mem_g (i := 765) rfl rfl, mem_g (i := 66) rfl rfl, ⟨mem_g (i := 763) rfl rfl, mem_g (i := 764) rfl rfl, rfl⟩⟩⟩, List.forall_mem_cons.mpr ⟨⟨rfl, rfl, by decide +kernel, by decide +kernel, fun _ => ⟨mem_g (i := 769) rfl rfl, mem_g (i := 66) rfl rfl, ⟨mem_g (i := 767) rfl rfl, mem_g (i := 768) rfl rfl, rfl⟩⟩⟩, List.forall_mem_cons.mpr ⟨⟨rfl, rfl, by decide +kernel, by decide +kernel, fun _ => ⟨mem_g (i := 185) rfl rfl, mem_g (i := 65) rfl rfl, ⟨mem_g (i := 184) rfl rfl, rfl, rfl⟩⟩⟩, List.forall_mem_cons.mpr ⟨⟨rfl, rfl, by decide +kernel, by decide +kernel, fun _ => ⟨mem_g (i := 698) rfl rfl, mem_g (i := 65) rfl rfl, ⟨mem_g (i := 696) rfl rfl, mem_g (i := 697) rfl rfl, rfl⟩⟩⟩, List.forall_mem_cons.mpr ⟨⟨rfl, rfl, by decide +kernel, by decide +kernel, fun _ => ⟨mem_g (i := 715) rfl rfl, mem_g (i := 65) rfl rfl, ⟨mem_g (i := 713) rfl rfl, mem_g (i := 714) rfl rfl, rfl⟩⟩⟩, List.forall_mem_cons.mpr ⟨⟨rfl, rfl, by decide +kernel, by decide +kernel, fun _ => ⟨mem_g (i := 809) rfl rfl, mem_g (i := 65) rfl rfl, ⟨mem_g (i := 807) rfl rfl, mem_g (i := 808) rfl rfl, rfl⟩⟩⟩, List.forall_mem_cons.mpr ⟨⟨rfl, rfl, by decide +kernel, by decide +kernel, fun _ => ⟨mem_g (i := 421) rfl rfl, mem_g (i := 65) rfl rfl, ⟨mem_g (i := 419) rfl rfl, mem_g (i := 420) rfl rfl, rfl⟩⟩⟩, List.forall_mem_cons.mpr ⟨⟨rfl, rfl, by decide +kernel, by decide +kernel, fun _ => ⟨mem_g (i := 702) rfl rfl, mem_g (i := 65) rfl rfl, ⟨mem_g (i := 700) rfl rfl, mem_g (i := 701) rfl rfl, rfl⟩⟩⟩, List.forall_mem_cons.mpr ⟨⟨rfl, rfl, by decide +kernel, by decide +kernel, fun _ => ⟨mem_g (i := 425) rfl rfl, mem_g (i := 65) rfl rfl, ⟨mem_g (i := 423) rfl rfl, mem_g (i := 424) rfl rfl, rfl⟩⟩⟩, List.forall_mem_cons.mpr ⟨⟨rfl, rfl, by decide +kernel, by decide +kernel, fun _ => ⟨mem_g (i := 710) rfl rfl, mem_g (i := 65) rfl rfl, ⟨mem_g (i := 708) rfl rfl, mem_g (i := 709) rfl rfl, rfl⟩⟩⟩, List.forall_mem_cons.mpr ⟨⟨rfl, rfl, by decide +kernel, by decide +kernel, fun _ => ⟨mem_g (i := 731) rfl rfl, mem_g (i := 65) rfl rfl, ⟨mem_g (i := 729) rfl rfl, mem_g (i := 730) rfl rfl, rfl⟩⟩⟩, List.forall_mem_cons.mpr ⟨⟨rfl, rfl, by decide +kernel, by decide +kernel, fun _ => ⟨mem_g (i := 744) rfl rfl, mem_g (i := 65) rfl rfl, ⟨mem_g (i := 742) rfl rfl, mem_g (i := 743) rfl rfl, rfl⟩⟩⟩, List.forall_mem_cons.mpr ⟨⟨rfl, rfl, by decide +kernel, by decide +kernel, fun _ => ⟨mem_g (i := 753) rfl rfl, mem_g (i := 65) rfl rfl, ⟨mem_g (i := 751) rfl rfl, mem_g (i := 752) rfl rfl, rfl⟩⟩⟩, List.forall_mem_cons.mpr ⟨⟨rfl, rfl, by decide +kernel, by decide +kernel, fun _ => ⟨mem_g (i := 757) rfl rfl, mem_g (i := 65) rfl rfl, ⟨mem_g (i := 756) rfl rfl, mem_g (i := 17) rfl rfl, rfl⟩⟩⟩, List.forall_mem_cons.mpr ⟨⟨rfl, rfl, by decide +kernel, by decide +kernel, fun _ => ⟨mem_g (i := 719) rfl rfl, mem_g (i := 65) rfl rfl, ⟨mem_g (i := 718) rfl rfl, mem_g (i := 16) rfl rfl, rfl⟩⟩⟩, List.forall_mem_cons.mpr ⟨⟨rfl, rfl, by decide +kernel, by decide +kernel, fun _ => ⟨mem_g (i := 778) rfl rfl, mem_g (i := 65) rfl rfl, ⟨mem_g (i := 776) rfl rfl, mem_g (i := 777) rfl rfl, rfl⟩⟩⟩, List.forall_mem_cons.mpr ⟨⟨rfl, rfl, by decide +kernel, by decide +kernel, fun _ => ⟨mem_g (i := 782) rfl rfl, mem_g (i := 65) rfl rfl, ⟨mem_g (i := 781) rfl rfl, mem_g (i := 18) rfl rfl, rfl⟩⟩⟩, List.forall_mem_cons.mpr ⟨⟨rfl, rfl, by decide +kernel, by decide +kernel, fun _ => ⟨mem_g (i := 786) rfl rfl, mem_g (i := 65) rfl rfl, ⟨mem_g (i := 785) rfl rfl, mem_g (i := 19) rfl rfl, rfl⟩⟩⟩, List.forall_mem_cons.mpr ⟨⟨rfl, rfl, by decide +kernel, by decide +kernel, fun _ => ⟨mem_g (i := 148) rfl rfl, mem_g (i := 63) rfl rfl, ⟨mem_g (i := 147) rfl rfl, rfl, rfl⟩⟩⟩, List.forall_mem_cons.mpr ⟨⟨rfl, rfl, by decide +kernel, by decide +kernel, fun _ => ⟨mem_g (i := 556) rfl rfl, mem_g (i := 63) rfl rfl, ⟨mem_g (i := 554) rfl rfl, mem_g (i := 555) rfl rfl, rfl⟩⟩⟩, List.forall_mem_cons.mpr ⟨⟨rfl, rfl, by decide +kernel, by decide +kernel, fun _ => ⟨mem_g (i := 566) rfl rfl, mem_g (i := 63) rfl rfl, ⟨mem_g (i := 564) rfl rfl, mem_g (i := 565) rfl rfl, rfl⟩⟩⟩, List.forall_mem_cons.mpr ⟨⟨rfl, rfl, by decide +kernel, by decide +kernel, fun _ => ⟨mem_g (i := 587) rfl rfl, mem_g (i := 63) rfl rfl, ⟨mem_g (i := 585) rfl rfl, mem_g (i := 586) rfl rfl, rfl⟩⟩⟩, List.forall_mem_cons.mpr ⟨⟨rfl, rfl, by decide +kernel, by decide +kernel, fun _ => ⟨mem_g (i := 572) rfl rfl, mem_g (i := 63) rfl rfl, ⟨mem_g (i := 571) rfl rfl, mem_g (i := 12) rfl rfl, rfl⟩⟩⟩, List.forall_mem_cons.mpr ⟨⟨rfl, rfl, by decide +kernel, by decide +kernel, fun _ => ⟨mem_g (i := 595) rfl rfl, mem_g (i := 63) rfl rfl, ⟨mem_g (i := 593) rfl rfl, mem_g (i := 594) rfl rfl, rfl⟩⟩⟩, List.forall_mem_cons.mpr ⟨⟨rfl, rfl, by decide +kernel, by decide +kernel, fun _ => ⟨mem_g (i := 599) rfl rfl, mem_g (i := 63) rfl rfl, ⟨mem_g (i := 598) rfl rfl, mem_g (i := 13) rfl rfl, rfl⟩⟩⟩, List.forall_mem_cons.mpr ⟨⟨rfl, rfl, by decide +kernel, by decide +kernel, fun _ => ⟨mem_g (i := 617) rfl rfl, mem_g (i := 63) rfl rfl, ⟨mem_g (i := 615) rfl rfl, mem_g (i := 616) rfl rfl, rfl⟩⟩⟩, List.forall_mem_cons.mpr ⟨⟨rfl, rfl, by decide +kernel, by decide +kernel, fun _ => ⟨mem_g (i := 627) rfl rfl, mem_g (i := 63) rfl rfl, ⟨mem_g (i := 625) rfl rfl, mem_g (i := 626) rfl rfl, rfl⟩⟩⟩, fun _ h => absurd h List.not_mem_nil⟩⟩⟩⟩⟩⟩⟩⟩⟩⟩⟩⟩⟩⟩⟩⟩⟩⟩⟩⟩⟩⟩⟩⟩⟩⟩⟩⟩⟩⟩
set_option maxRecDepth 100000 in
theorem infOK_2 : ∀ q ∈ am_inf_2, infOK q := List.forall_mem_cons.mpr ⟨⟨rfl, rfl, by decide +kernel, by decide +kernel, fun _ => ⟨mem_g (i := 632) rfl rfl, mem_g (i := 63) rfl rfl, ⟨mem_g (i := 631) rfl rfl, mem_g (i := 14) rfl rfl, rfl⟩⟩⟩, List.forall_mem_cons.mpr ⟨⟨rfl, rfl, by decide +kernel, by decide +kernel, fun _ => ⟨mem_g (i := 642) rfl rfl, mem_g (i := 63) rfl rfl, mem_g (i := 641) rfl rfl⟩⟩, List.forall_mem_cons.mpr ⟨⟨rfl, rfl, by decide +kernel, by decide +kernel, fun _ => ⟨mem_g (i := 478) rfl rfl, mem_g (i := 73) rfl rfl, mem_g (i := 477) rfl rfl⟩⟩, List.forall_mem_cons.mpr ⟨⟨rfl, rfl, by decide +kernel, by decide +kernel, fun _ => ⟨mem_g (i := 457) rfl rfl, mem_g (i := 73) rfl rfl, mem_g (i := 456) rfl rfl⟩⟩, List.forall_mem_cons.mpr ⟨⟨rfl, rfl, by decide +kernel, by decide +kernel, fun _ => ⟨mem_g (i := 464) rfl rfl, mem_g (i := 73) rfl rfl, mem_g (i := 463) rfl rfl⟩⟩, List.forall_mem_cons.mpr ⟨⟨rfl, rfl, by decide +kernel, by decide +kernel, fun _ => ⟨mem_g (i := 471) rfl rfl, mem_g (i := 73) rfl rfl, mem_g (i := 470) rfl rfl⟩⟩, List.forall_mem_cons.mpr ⟨⟨rfl, rfl, by decide +kernel, by decide +kernel, fun _ => ⟨mem_g (i := 163) rfl rfl, mem_g (i := 64) rfl rfl, ⟨mem_g (i := 162) rfl rfl, rfl, rfl⟩⟩⟩, List.forall_mem_cons.mpr ⟨⟨rfl, rfl, by decide +kernel, by decide +kernel, fun _ => ⟨mem_g (i := 650) rfl rfl, mem_g (i := 64) rfl rfl, ⟨mem_g (i := 648) rfl rfl, mem_g (i := 649) rfl rfl, rfl⟩⟩⟩, List.forall_mem_cons.mpr ⟨⟨rfl, rfl, by decide +kernel, by decide +kernel, fun _ => ⟨mem_g (i := 417) rfl rfl, mem_g (i := 64) rfl rfl, ⟨mem_g (i := 415) rfl rfl, mem_g (i := 416) rfl rfl, rfl⟩⟩⟩, List.forall_mem_cons.mpr ⟨⟨rfl, rfl, by decide +kernel, by decide +kernel, fun _ => ⟨mem_g (i := 654) rfl rfl, mem_g (i := 64) rfl rfl, ⟨mem_g (i := 652) rfl rfl, mem_g (i := 653) rfl rfl, rfl⟩⟩⟩, List.forall_mem_cons.mpr ⟨⟨rfl, rfl, by decide +kernel, by decide +kernel, fun _ => ⟨mem_g (i := 666) rfl rfl, mem_g (i := 64) rfl rfl, ⟨mem_g (i := 664) rfl rfl, mem_g (i := 665) rfl rfl, rfl⟩⟩⟩, List.forall_mem_cons.mpr ⟨⟨rfl, rfl, by decide +kernel, by decide +kernel, fun _ => ⟨mem_g (i := 670) rfl rfl, mem_g (i := 64) rfl rfl, ⟨mem_g (i := 669) rfl rfl, mem_g (i := 15) rfl rfl, rfl⟩⟩⟩, List.forall_mem_cons.mpr ⟨⟨rfl, rfl, by decide +kernel, by decide +kernel, fun _ => ⟨mem_g (i := 681) rfl rfl, mem_g (i := 64) rfl rfl, ⟨mem_g (i := 679) rfl rfl, mem_g (i := 680) rfl rfl, rfl⟩⟩⟩, List.forall_mem_cons.mpr ⟨⟨rfl, rfl, by decide +kernel, by decide +kernel, fun _ => ⟨mem_g (i := 686) rfl rfl, mem_g (i := 64) rfl rfl, mem_g (i := 685) rfl rfl⟩⟩, List.forall_mem_cons.mpr ⟨⟨rfl, rfl, by decide +kernel, by decide +kernel, fun _ => ⟨mem_g (i := 689) rfl rfl, mem_g (i := 64) rfl rfl, mem_g (i := 688) rfl rfl⟩⟩, List.forall_mem_cons.mpr ⟨⟨rfl, rfl, by decide +kernel, by decide +kernel, fun _ => ⟨mem_g (i := 124) rfl rfl, mem_g (i := 62) rfl rfl, ⟨mem_g (i := 123) rfl rfl, rfl, rfl⟩⟩⟩, List.forall_mem_cons.mpr ⟨⟨rfl, rfl, by decide +kernel, by decide +kernel, fun _ => ⟨mem_g (i := 267) rfl rfl, mem_g (i := 62) rfl rfl, ⟨mem_g (i := 265) rfl rfl, mem_g (i := 266) rfl rfl, rfl⟩⟩⟩, List.forall_mem_cons.mpr ⟨⟨rfl, rfl, by decide +kernel, by decide +kernel, fun _ => ⟨mem_g (i := 279) rfl rfl, mem_g (i := 62) rfl rfl, ⟨mem_g (i := 277) rfl rfl, mem_g (i := 278) rfl rfl, rfl⟩⟩⟩, List.forall_mem_cons.mpr ⟨⟨rfl, rfl, by decide +kernel, by decide +kernel, fun _ => ⟨mem_g (i := 271) rfl rfl, mem_g (i := 62) rfl rfl, ⟨mem_g (i := 269) rfl rfl, mem_g (i := 270) rfl rfl, rfl⟩⟩⟩, List.forall_mem_cons.mpr ⟨⟨rfl, rfl, by decide +kernel, by decide +kernel, fun _ => ⟨mem_g (i := 433) rfl rfl, mem_g (i := 62) rfl rfl, ⟨mem_g (i := 431) rfl rfl, mem_g (i := 432) rfl rfl, rfl⟩⟩⟩, List.forall_mem_cons.mpr ⟨⟨rfl, rfl, by decide +kernel, by decide +kernel, fun _ => ⟨mem_g (i := 294) rfl rfl, mem_g (i := 62) rfl rfl, ⟨mem_g (i := 292) rfl rfl, mem_g (i := 293) rfl rfl, rfl⟩⟩⟩, List.forall_mem_cons.mpr ⟨⟨rfl, rfl, by decide +kernel, by decide +kernel, fun _ => ⟨mem_g (i := 298) rfl rfl, mem_g (i := 62) rfl rfl, ⟨mem_g (i := 297) rfl rfl, mem_g (i := 0) rfl rfl, rfl⟩⟩⟩, List.forall_mem_cons.mpr ⟨⟨rfl, rfl, by decide +kernel, by decide +kernel, fun _ => ⟨mem_g (i := 379) rfl rfl, mem_g (i := 62) rfl rfl, ⟨mem_g (i := 378) rfl rfl, mem_g (i := 5) rfl rfl, rfl⟩⟩⟩, List.forall_mem_cons.mpr ⟨⟨rfl, rfl, by decide +kernel, by decide +kernel, fun _ => ⟨mem_g (i := 388) rfl rfl, mem_g (i := 62) rfl rfl, ⟨mem_g (i := 387) rfl rfl, mem_g (i := 7) rfl rfl, rfl⟩⟩⟩, List.forall_mem_cons.mpr ⟨⟨rfl, rfl, by decide +kernel, by decide +kernel, fun _ => ⟨mem_g (i := 391) rfl rfl, mem_g (i := 62) rfl rfl, mem_g (i := 390) rfl rfl⟩⟩, List.forall_mem_cons.mpr ⟨⟨rfl, rfl, by decide +kernel, by decide +kernel, fun _ => ⟨mem_g (i := 383) rfl rfl, mem_g (i := 62) rfl rfl, ⟨mem_g (i := 382) rfl rfl, mem_g (i := 6) rfl rfl, rfl⟩⟩⟩, List.forall_mem_cons.mpr ⟨⟨rfl, rfl, by decide +kernel, by decide +kernel, fun _ => ⟨mem_g (i := 310) rfl rfl, mem_g (i := 62) rfl rfl, ⟨mem_g (i := 309) rfl rfl, mem_g (i := 3) rfl rfl, rfl⟩⟩⟩, List.forall_mem_cons.mpr ⟨⟨rfl, rfl, by decide +kernel, by decide +kernel, fun _ => ⟨mem_g (i := 315) rfl rfl, mem_g (i := 62) rfl rfl, ⟨mem_g (i := 314) rfl rfl, mem_g (i := 4) rfl rfl, rfl⟩⟩⟩, List.forall_mem_cons.mpr ⟨⟨rfl, rfl, by decide +kernel, by decide +kernel, fun _ => ⟨mem_g (i := 302) rfl rfl, mem_g (i := 62) rfl rfl, ⟨mem_g (i := 301) rfl rfl, mem_g (i := 1) rfl rfl, rfl⟩⟩⟩, List.forall_mem_cons.mpr ⟨⟨rfl, rfl, by decide +kernel, by decide +kernel, fun _ => ⟨mem_g (i := 306) rfl rfl, mem_g (i := 62) rfl rfl, ⟨mem_g (i := 305) rfl rfl, mem_g (i := 2) rfl rfl, rfl⟩⟩⟩, fun _ h => absurd h List.not_mem_nil⟩⟩⟩⟩⟩⟩⟩⟩⟩⟩⟩⟩⟩⟩⟩⟩⟩⟩⟩⟩⟩⟩⟩⟩⟩⟩⟩⟩⟩⟩
set_option maxRecDepth 100000 in
theorem infOK_3 : ∀ q ∈ am_inf_3, infOK q := List.forall_mem_cons.mpr ⟨⟨rfl, rfl, by decide +kernel, by decide +kernel, fun _ => ⟨mem_g (i := 79) rfl rfl, mem_g (i := 59) rfl rfl, ⟨mem_g (i := 78) rfl rfl, rfl, rfl⟩⟩⟩, List.forall_mem_cons.mpr ⟨⟨rfl, rfl, by decide +kernel, by decide +kernel, fun _ => ⟨mem_g (i := 260) rfl rfl, mem_g (i := 59) rfl rfl, ⟨mem_g (i := 258) rfl rfl, mem_g (i := 259) rfl rfl, rfl⟩⟩⟩, List.forall_mem_cons.mpr ⟨⟨rfl, rfl, by decide +kernel, by decide +kernel, fun _ => ⟨mem_g (i := 275) rfl rfl, mem_g (i := 59) rfl rfl, ⟨mem_g (i := 273) rfl rfl, mem_g (i := 274) rfl rfl, rfl⟩⟩⟩, List.forall_mem_cons.mpr ⟨⟨rfl, rfl, by decide +kernel, by decide +kernel, fun _ => ⟨mem_g (i := 283) rfl rfl, mem_g (i := 59) rfl rfl, ⟨mem_g (i := 281) rfl rfl, mem_g (i := 282) rfl rfl, rfl⟩⟩⟩, List.forall_mem_cons.mpr ⟨⟨rfl, rfl, by decide +kernel, by decide +kernel, fun _ => ⟨mem_g (i := 413) rfl rfl, mem_g (i := 59) rfl rfl, ⟨mem_g (i := 411) rfl rfl, mem_g (i := 412) rfl rfl, rfl⟩⟩⟩, List.forall_mem_cons.mpr ⟨⟨rfl, rfl, by decide +kernel, by decide +kernel, fun _ => ⟨mem_g (i := 437) rfl rfl, mem_g (i := 59) rfl rfl, ⟨mem_g (i := 435) rfl rfl, mem_g (i := 436) rfl rfl, rfl⟩⟩⟩, List.forall_mem_cons.mpr ⟨⟨rfl, rfl, by decide +kernel, by decide +kernel, fun _ => ⟨mem_g (i := 475) rfl rfl, mem_g (i := 59) rfl rfl, ⟨mem_g (i := 473) rfl rfl, mem_g (i := 474) rfl rfl, rfl⟩⟩⟩, List.forall_mem_cons.mpr ⟨⟨rfl, rfl, by decide +kernel, by decide +kernel, fun _ => ⟨mem_g (i := 486) rfl rfl, mem_g (i := 59) rfl rfl, ⟨mem_g (i := 484) rfl rfl, mem_g (i := 485) rfl rfl, rfl⟩⟩⟩, List.forall_mem_cons.mpr ⟨⟨rfl, rfl, by decide +kernel, by decide +kernel, fun _ => ⟨mem_g (i := 524) rfl rfl, mem_g (i := 59) rfl rfl, ⟨mem_g (i := 522) rfl rfl, mem_g (i := 523) rfl rfl, rfl⟩⟩⟩, List.forall_mem_cons.mpr ⟨⟨rfl, rfl, by decide +kernel, by decide +kernel, fun _ => ⟨mem_g (i := 532) rfl rfl, mem_g (i := 59) rfl rfl, ⟨mem_g (i := 530) rfl rfl, mem_g (i := 531) rfl rfl, rfl⟩⟩⟩, List.forall_mem_cons.mpr ⟨⟨rfl, rfl, by decide +kernel, by decide +kernel, fun _ => ⟨mem_g (i := 540) rfl rfl, mem_g (i := 59) rfl rfl, ⟨mem_g (i := 538) rfl rfl, mem_g (i := 539) rfl rfl, rfl⟩⟩⟩, List.forall_mem_cons.mpr ⟨⟨rfl, rfl, by decide +kernel, by decide +kernel, fun _ => ⟨mem_g (i := 544) rfl rfl, mem_g (i := 59) rfl rfl, ⟨mem_g (i := 542) rfl rfl, mem_g (i := 543) rfl rfl, rfl⟩⟩⟩, List.forall_mem_cons.mpr ⟨⟨rfl, rfl, by decide +kernel, by decide +kernel, fun _ => ⟨mem_g (i := 548) rfl rfl, mem_g (i := 59) rfl rfl, ⟨mem_g (i := 546) rfl rfl, mem_g (i := 547) rfl rfl, rfl⟩⟩⟩, List.forall_mem_cons.mpr ⟨⟨rfl, rfl, by decide +kernel, by decide +kernel, fun _ => ⟨mem_g (i := 552) rfl rfl, mem_g (i := 59) rfl rfl, ⟨mem_g (i := 550) rfl rfl, mem_g (i := 551) rfl rfl, rfl⟩⟩⟩, List.forall_mem_cons.mpr ⟨⟨rfl, rfl, by decide +kernel, by decide +kernel, fun _ => ⟨mem_g (i := 562) rfl rfl, mem_g (i := 59) rfl rfl, ⟨mem_g (i := 560) rfl rfl, mem_g (i := 561) rfl rfl, rfl⟩⟩⟩, List.forall_mem_cons.mpr ⟨⟨rfl, rfl, by decide +kernel, by decide +kernel, fun _ => ⟨mem_g (i := 591) rfl rfl, mem_g (i := 59) rfl rfl, ⟨mem_g (i := 589) rfl rfl, mem_g (i := 590) rfl rfl, rfl⟩⟩⟩, List.forall_mem_cons.mpr ⟨⟨rfl, rfl, by decide +kernel, by decide +kernel, fun _ => ⟨mem_g (i := 604) rfl rfl, mem_g (i := 59) rfl rfl, ⟨mem_g (i := 602) rfl rfl, mem_g (i := 603) rfl rfl, rfl⟩⟩⟩, List.forall_mem_cons.mpr ⟨⟨rfl, rfl, by decide +kernel, by decide +kernel, fun _ => ⟨mem_g (i := 613) rfl rfl, mem_g (i := 59) rfl rfl, ⟨mem_g (i := 611) rfl rfl, mem_g (i := 612) rfl rfl, rfl⟩⟩⟩, List.forall_mem_cons.mpr ⟨⟨rfl, rfl, by decide +kernel, by decide +kernel, fun _ => ⟨mem_g (i := 623) rfl rfl, mem_g (i := 59) rfl rfl, ⟨mem_g (i := 621) rfl rfl, mem_g (i := 622) rfl rfl, rfl⟩⟩⟩, List.forall_mem_cons.mpr ⟨⟨rfl, rfl, by decide +kernel, by decide +kernel, fun _ => ⟨mem_g (i := 646) rfl rfl, mem_g (i := 59) rfl rfl, ⟨mem_g (i := 644) rfl rfl, mem_g (i := 645) rfl rfl, rfl⟩⟩⟩, List.forall_mem_cons.mpr ⟨⟨rfl, rfl, by decide +kernel, by decide +kernel, fun _ => ⟨mem_g (i := 658) rfl rfl, mem_g (i := 59) rfl rfl, ⟨mem_g (i := 656) rfl rfl, mem_g (i := 657) rfl rfl, rfl⟩⟩⟩, List.forall_mem_cons.mpr ⟨⟨rfl, rfl, by decide +kernel, by decide +kernel, fun _ => ⟨mem_g (i := 662) rfl rfl, mem_g (i := 59) rfl rfl, ⟨mem_g (i := 660) rfl rfl, mem_g (i := 661) rfl rfl, rfl⟩⟩⟩, List.forall_mem_cons.mpr ⟨⟨rfl, rfl, by decide +kernel, by decide +kernel, fun _ => ⟨mem_g (i := 677) rfl rfl, mem_g (i := 59) rfl rfl, ⟨mem_g (i := 675) rfl rfl, mem_g (i := 676) rfl rfl, rfl⟩⟩⟩, List.forall_mem_cons.mpr ⟨⟨rfl, rfl, by decide +kernel, by decide +kernel, fun _ => ⟨mem_g (i := 694) rfl rfl, mem_g (i := 59) rfl rfl, ⟨mem_g (i := 692) rfl rfl, mem_g (i := 693) rfl rfl, rfl⟩⟩⟩, List.forall_mem_cons.mpr ⟨⟨rfl, rfl, by decide +kernel, by decide +kernel, fun _ => ⟨mem_g (i := 706) rfl rfl, mem_g (i := 59) rfl rfl, ⟨mem_g (i := 704) rfl rfl, mem_g (i := 705) rfl rfl, rfl⟩⟩⟩, List.forall_mem_cons.mpr ⟨⟨rfl, rfl, by decide +kernel, by decide +kernel, fun _ => ⟨mem_g (i := 727) rfl rfl, mem_g (i := 59) rfl rfl, ⟨mem_g (i := 725) rfl rfl, mem_g (i := 726) rfl rfl, rfl⟩⟩⟩, List.forall_mem_cons.mpr ⟨⟨rfl, rfl, by decide +kernel, by decide +kernel, fun _ => ⟨mem_g (i := 740) rfl rfl, mem_g (i := 59) rfl rfl, ⟨mem_g (i := 738) rfl rfl, mem_g (i := 739) rfl rfl, rfl⟩⟩⟩, List.forall_mem_cons.mpr ⟨⟨rfl, rfl, by decide +kernel, by decide +kernel, fun _ => ⟨mem_g (i := 748) rfl rfl, mem_g (i := 59) rfl rfl, ⟨mem_g (i := 746) rfl rfl, mem_g (i := 747) rfl rfl, rfl⟩⟩⟩, List.forall_mem_cons.mpr ⟨⟨rfl, rfl, by decide +kernel, by decide +kernel, fun _ => ⟨mem_g (i := 774) rfl rfl, mem_g (i := 59) rfl rfl, ⟨mem_g (i := 772) rfl rfl, mem_g (i := 773) rfl rfl, rfl⟩⟩⟩, List.forall_mem_cons.mpr ⟨⟨rfl, rfl, by decide +kernel, by decide +kernel, fun _ => ⟨mem_g (i := 790) rfl rfl, mem_g (i := 59) rfl rfl, ⟨mem_g (i := 788) rfl rfl, mem_g (i := 789) rfl rfl, rfl⟩⟩⟩, fun _ h => absurd h List.not_mem_nil⟩⟩⟩⟩⟩⟩⟩⟩⟩⟩⟩⟩⟩⟩⟩⟩⟩⟩⟩⟩⟩⟩⟩⟩⟩⟩⟩⟩⟩⟩
set_option maxRecDepth 100000 in
theorem infOK_4 : ∀ q ∈ am_inf_4, infOK q := List.forall_mem_cons.mpr ⟨⟨rfl, rfl, by decide +kernel, by decide +kernel, fun _ => ⟨mem_g (i := 795) rfl rfl, mem_g (i := 59) rfl rfl, ⟨mem_g (i := 793) rfl rfl, mem_g (i := 794) rfl rfl, rfl⟩⟩⟩, List.forall_mem_cons.mpr ⟨⟨rfl, rfl, by decide +kernel, by decide +kernel, fun _ => ⟨mem_g (i := 263) rfl rfl, mem_g (i := 59) rfl rfl, mem_g (i := 262) rfl rfl⟩⟩, List.forall_mem_cons.mpr ⟨⟨rfl, rfl, by decide +kernel, by decide +kernel, fun _ => ⟨mem_g (i := 503) rfl rfl, mem_g (i := 59) rfl rfl, ⟨mem_g (i := 502) rfl rfl, mem_g (i := 8) rfl rfl, rfl⟩⟩⟩, List.forall_mem_cons.mpr ⟨⟨rfl, rfl, by decide +kernel, by decide +kernel, fun _ => ⟨mem_g (i := 925) rfl rfl, mem_g (i := 67) rfl rfl, mem_g (i := 924) rfl rfl⟩⟩, List.forall_mem_cons.mpr ⟨⟨rfl, rfl, by decide +kernel, by decide +kernel, fun _ => ⟨mem_g (i := 814) rfl rfl, mem_g (i := 67) rfl rfl, ⟨mem_g (i := 813) rfl rfl, rfl, rfl⟩⟩⟩, List.forall_mem_cons.mpr ⟨⟨rfl, rfl, by decide +kernel, by decide +kernel, fun _ => ⟨mem_g (i := 818) rfl rfl, mem_g (i := 67) rfl rfl, mem_g (i := 817) rfl rfl⟩⟩, List.forall_mem_cons.mpr ⟨⟨rfl, rfl, by decide +kernel, by decide +kernel, fun _ => ⟨mem_g (i := 921) rfl rfl, mem_g (i := 67) rfl rfl, ⟨mem_g (i := 919) rfl rfl, mem_g (i := 920) rfl rfl, rfl⟩⟩⟩, List.forall_mem_cons.mpr ⟨⟨rfl, rfl, by decide +kernel, by decide +kernel, fun _ => ⟨mem_g (i := 929) rfl rfl, mem_g (i := 67) rfl rfl, ⟨mem_g (i := 927) rfl rfl, mem_g (i := 928) rfl rfl, rfl⟩⟩⟩, List.forall_mem_cons.mpr ⟨⟨rfl, rfl, by decide +kernel, by decide +kernel, fun _ => ⟨mem_g (i := 945) rfl rfl, mem_g (i := 67) rfl rfl, ⟨mem_g (i := 944) rfl rfl, mem_g (i := 23) rfl rfl, rfl⟩⟩⟩, List.forall_mem_cons.mpr ⟨⟨rfl, rfl, by decide +kernel, by decide +kernel, fun _ => ⟨mem_g (i := 958) rfl rfl, mem_g (i := 67) rfl rfl, mem_g (i := 957) rfl rfl⟩⟩, List.forall_mem_cons.mpr ⟨⟨rfl, rfl, by decide +kernel, by decide +kernel, fun _ => ⟨mem_g (i := 951) rfl rfl, mem_g (i := 67) rfl rfl, ⟨mem_g (i := 950) rfl rfl, mem_g (i := 24) rfl rfl, rfl⟩⟩⟩, List.forall_mem_cons.mpr ⟨⟨rfl, rfl, by decide +kernel, by decide +kernel, fun _ => ⟨mem_g (i := 941) rfl rfl, mem_g (i := 67) rfl rfl, ⟨mem_g (i := 940) rfl rfl, mem_g (i := 22) rfl rfl, rfl⟩⟩⟩, List.forall_mem_cons.mpr ⟨⟨rfl, rfl, by decide +kernel, by decide +kernel, fun _ => ⟨mem_g (i := 979) rfl rfl, mem_g (i := 67) rfl rfl, ⟨mem_g (i := 978) rfl rfl, mem_g (i := 26) rfl rfl, rfl⟩⟩⟩, List.forall_mem_cons.mpr ⟨⟨rfl, rfl, by decide +kernel, by decide +kernel, fun _ => ⟨mem_g (i := 983) rfl rfl, mem_g (i := 67) rfl rfl, ⟨mem_g (i := 982) rfl rfl, mem_g (i := 27) rfl rfl, rfl⟩⟩⟩, List.forall_mem_cons.mpr ⟨⟨rfl, rfl, by decide +kernel, by decide +kernel, fun _ => ⟨mem_g (i := 975) rfl rfl, mem_g (i := 67) rfl rfl, ⟨mem_g (i := 974) rfl rfl, mem_g (i := 25) rfl rfl, rfl⟩⟩⟩, List.forall_mem_cons.mpr ⟨⟨rfl, rfl, by decide +kernel, by decide +kernel, fun _ => ⟨mem_g (i := 937) rfl rfl, mem_g (i := 67) rfl rfl, ⟨mem_g (i := 936) rfl rfl, mem_g (i := 21) rfl rfl, rfl⟩⟩⟩, List.forall_mem_cons.mpr ⟨⟨rfl, rfl, by decide +kernel, by decide +kernel, fun _ => ⟨mem_g (i := 933) rfl rfl, mem_g (i := 67) rfl rfl, ⟨mem_g (i := 931) rfl rfl, mem_g (i := 932) rfl rfl, rfl⟩⟩⟩, List.forall_mem_cons.mpr ⟨⟨rfl, rfl, by decide +kernel, by decide +kernel, fun _ => ⟨mem_g (i := 987) rfl rfl, mem_g (i := 67) rfl rfl, ⟨mem_g (i := 985) rfl rfl, mem_g (i := 986) rfl rfl, rfl⟩⟩⟩, List.forall_mem_cons.mpr ⟨⟨rfl, rfl, by decide +kernel, by decide +kernel, fun _ => ⟨mem_g (i := 995) rfl rfl, mem_g (i := 67) rfl rfl, ⟨mem_g (i := 994) rfl rfl, mem_g (i := 28) rfl rfl, rfl⟩⟩⟩, List.forall_mem_cons.mpr ⟨⟨rfl, rfl, by decide +kernel, by decide +kernel, fun _ => ⟨mem_g (i := 998) rfl rfl, mem_g (i := 67) rfl rfl, mem_g (i := 997) rfl rfl⟩⟩, List.forall_mem_cons.mpr ⟨⟨rfl, rfl, by decide +kernel, by decide +kernel, fun _ => ⟨mem_g (i := 1001) rfl rfl, mem_g (i := 67) rfl rfl, mem_g (i := 1000) rfl rfl⟩⟩, List.forall_mem_cons.mpr ⟨⟨rfl, rfl, by decide +kernel, by decide +kernel, fun _ => ⟨mem_g (i := 1004) rfl rfl, mem_g (i := 67) rfl rfl, mem_g (i := 1003) rfl rfl⟩⟩, List.forall_mem_cons.mpr ⟨⟨rfl, rfl, by decide +kernel, by decide +kernel, fun _ => ⟨mem_g (i := 1025) rfl rfl, mem_g (i := 67) rfl rfl, ⟨mem_g (i := 1024) rfl rfl, mem_g (i := 31) rfl rfl, rfl⟩⟩⟩, List.forall_mem_cons.mpr ⟨⟨rfl, rfl, by decide +kernel, by decide +kernel, fun _ => ⟨mem_g (i := 1021) rfl rfl, mem_g (i := 67) rfl rfl, ⟨mem_g (i := 1020) rfl rfl, mem_g (i := 30) rfl rfl, rfl⟩⟩⟩, List.forall_mem_cons.mpr ⟨⟨rfl, rfl, by decide +kernel, by decide +kernel, fun _ => ⟨mem_g (i := 1017) rfl rfl, mem_g (i := 67) rfl rfl, ⟨mem_g (i := 1016) rfl rfl, mem_g (i := 29) rfl rfl, rfl⟩⟩⟩, List.forall_mem_cons.mpr ⟨⟨rfl, rfl, by decide +kernel, by decide +kernel, fun _ => ⟨mem_g (i := 991) rfl rfl, mem_g (i := 67) rfl rfl, ⟨mem_g (i := 989) rfl rfl, mem_g (i := 990) rfl rfl, rfl⟩⟩⟩, List.forall_mem_cons.mpr ⟨⟨rfl, rfl, by decide +kernel, by decide +kernel, fun _ => ⟨mem_g (i := 1008) rfl rfl, mem_g (i := 67) rfl rfl, ⟨mem_g (i := 1006) rfl rfl, mem_g (i := 1007) rfl rfl, rfl⟩⟩⟩, List.forall_mem_cons.mpr ⟨⟨rfl, rfl, by decide +kernel, by decide +kernel, fun _ => ⟨mem_g (i := 1041) rfl rfl, mem_g (i := 67) rfl rfl, ⟨mem_g (i := 1040) rfl rfl, mem_g (i := 35) rfl rfl, rfl⟩⟩⟩, List.forall_mem_cons.mpr ⟨⟨rfl, rfl, by decide +kernel, by decide +kernel, fun _ => ⟨mem_g (i := 1045) rfl rfl, mem_g (i := 67) rfl rfl, ⟨mem_g (i := 1044) rfl rfl, mem_g (i := 36) rfl rfl, rfl⟩⟩⟩, List.forall_mem_cons.mpr ⟨⟨rfl, rfl, by decide +kernel, by decide +kernel, fun _ => ⟨mem_g (i := 1037) rfl rfl, mem_g (i := 67) rfl rfl, ⟨mem_g (i := 1036) rfl rfl, mem_g (i := 34) rfl rfl, rfl⟩⟩⟩, fun _ h => absurd h List.not_mem_nil⟩⟩⟩⟩⟩⟩⟩⟩⟩⟩⟩⟩⟩⟩⟩⟩⟩⟩⟩⟩⟩⟩⟩⟩⟩⟩⟩⟩⟩⟩
set_option maxRecDepth 100000 in
theorem infOK_5 : ∀ q ∈ am_inf_5, infOK q := List.forall_mem_cons.mpr ⟨⟨rfl, rfl, by decide +kernel, by decide +kernel, fun _ => ⟨mem_g (i := 1033) rfl rfl, mem_g (i := 67) rfl rfl, ⟨mem_g (i := 1032) rfl rfl, mem_g (i := 33) rfl rfl, rfl⟩⟩⟩, List.forall_mem_cons.mpr ⟨⟨rfl, rfl, by decide +kernel, by decide +kernel, fun _ => ⟨mem_g (i := 1029) rfl rfl, mem_g (i := 67) rfl rfl, ⟨mem_g (i := 1028) rfl rfl, mem_g (i := 32) rfl rfl, rfl⟩⟩⟩, List.forall_mem_cons.mpr ⟨⟨rfl, rfl, by decide +kernel, by decide +kernel, fun _ => ⟨mem_g (i := 1013) rfl rfl, mem_g (i := 67) rfl rfl, ⟨mem_g (i := 1011) rfl rfl, mem_g (i := 1012) rfl rfl, rfl⟩⟩⟩, List.forall_mem_cons.mpr ⟨⟨rfl, rfl, by decide +kernel, by decide +kernel, fun _ => ⟨mem_g (i := 1049) rfl rfl, mem_g (i := 67) rfl rfl, ⟨mem_g (i := 1047) rfl rfl, mem_g (i := 1048) rfl rfl, rfl⟩⟩⟩, List.forall_mem_cons.mpr ⟨⟨rfl, rfl, by decide +kernel, by decide +kernel, fun _ => ⟨mem_g (i := 1054) rfl rfl, mem_g (i := 67) rfl rfl, ⟨mem_g (i := 1052) rfl rfl, mem_g (i := 1053) rfl rfl, rfl⟩⟩⟩, List.forall_mem_cons.mpr ⟨⟨rfl, rfl, by decide +kernel, by decide +kernel, fun _ => ⟨mem_g (i := 1058) rfl rfl, mem_g (i := 67) rfl rfl, ⟨mem_g (i := 1056) rfl rfl, mem_g (i := 1057) rfl rfl, rfl⟩⟩⟩, List.forall_mem_cons.mpr ⟨⟨rfl, rfl, by decide +kernel, by decide +kernel, fun _ => ⟨mem_g (i := 1062) rfl rfl, mem_g (i := 67) rfl rfl, ⟨mem_g (i := 1060) rfl rfl, mem_g (i := 1061) rfl rfl, rfl⟩⟩⟩, List.forall_mem_cons.mpr ⟨⟨rfl, rfl, by decide +kernel, by decide +kernel, fun _ => ⟨mem_g (i := 1066) rfl rfl, mem_g (i := 67) rfl rfl, ⟨mem_g (i := 1064) rfl rfl, mem_g (i := 1065) rfl rfl, rfl⟩⟩⟩, List.forall_mem_cons.mpr ⟨⟨rfl, rfl, by decide +kernel, by decide +kernel, fun _ => ⟨mem_g (i := 1113) rfl rfl, mem_g (i := 67) rfl rfl, ⟨mem_g (i := 1112) rfl rfl, mem_g (i := 44) rfl rfl, rfl⟩⟩⟩, List.forall_mem_cons.mpr ⟨⟨rfl, rfl, by decide +kernel, by decide +kernel, fun _ => ⟨mem_g (i := 1125) rfl rfl, mem_g (i := 67) rfl rfl, ⟨mem_g (i := 1124) rfl rfl, mem_g (i := 47) rfl rfl, rfl⟩⟩⟩, List.forall_mem_cons.mpr ⟨⟨rfl, rfl, by decide +kernel, by decide +kernel, fun _ => ⟨mem_g (i := 1096) rfl rfl, mem_g (i := 67) rfl rfl, ⟨mem_g (i := 1095) rfl rfl, mem_g (i := 41) rfl rfl, rfl⟩⟩⟩, List.forall_mem_cons.mpr ⟨⟨rfl, rfl, by decide +kernel, by decide +kernel, fun _ => ⟨mem_g (i := 1074) rfl rfl, mem_g (i := 67) rfl rfl, ⟨mem_g (i := 1073) rfl rfl, mem_g (i := 37) rfl rfl, rfl⟩⟩⟩, List.forall_mem_cons.mpr ⟨⟨rfl, rfl, by decide +kernel, by decide +kernel, fun _ => ⟨mem_g (i := 1070) rfl rfl, mem_g (i := 67) rfl rfl, ⟨mem_g (i := 1068) rfl rfl, mem_g (i := 1069) rfl rfl, rfl⟩⟩⟩, List.forall_mem_cons.mpr ⟨⟨rfl, rfl, by decide +kernel, by decide +kernel, fun _ => ⟨mem_g (i := 1104) rfl rfl, mem_g (i := 67) rfl rfl, ⟨mem_g (i := 1103) rfl rfl, mem_g (i := 43) rfl rfl, rfl⟩⟩⟩, List.forall_mem_cons.mpr ⟨⟨rfl, rfl, by decide +kernel, by decide +kernel, fun _ => ⟨mem_g (i := 1088) rfl rfl, mem_g (i := 67) rfl rfl, ⟨mem_g (i := 1087) rfl rfl, mem_g (i := 39) rfl rfl, rfl⟩⟩⟩, List.forall_mem_cons.mpr ⟨⟨rfl, rfl, by decide +kernel, by decide +kernel, fun _ => ⟨mem_g (i := 1092) rfl rfl, mem_g (i := 67) rfl rfl, ⟨mem_g (i := 1091) rfl rfl, mem_g (i := 40) rfl rfl, rfl⟩⟩⟩, List.forall_mem_cons.mpr ⟨⟨rfl, rfl, by decide +kernel, by decide +kernel, fun _ => ⟨mem_g (i := 1100) rfl rfl, mem_g (i := 67) rfl rfl, ⟨mem_g (i := 1099) rfl rfl, mem_g (i := 42) rfl rfl, rfl⟩⟩⟩, List.forall_mem_cons.mpr ⟨⟨rfl, rfl, by decide +kernel, by decide +kernel, fun _ => ⟨mem_g (i := 1084) rfl rfl, mem_g (i := 67) rfl rfl, ⟨mem_g (i := 1083) rfl rfl, mem_g (i := 38) rfl rfl, rfl⟩⟩⟩, List.forall_mem_cons.mpr ⟨⟨rfl, rfl, by decide +kernel, by decide +kernel, fun _ => ⟨mem_g (i := 1078) rfl rfl, mem_g (i := 67) rfl rfl, ⟨mem_g (i := 1076) rfl rfl, mem_g (i := 1077) rfl rfl, rfl⟩⟩⟩, List.forall_mem_cons.mpr ⟨⟨rfl, rfl, by decide +kernel, by decide +kernel, fun _ => ⟨mem_g (i := 1121) rfl rfl, mem_g (i := 67) rfl rfl, ⟨mem_g (i := 1120) rfl rfl, mem_g (i := 46) rfl rfl, rfl⟩⟩⟩, List.forall_mem_cons.mpr ⟨⟨rfl, rfl, by decide +kernel, by decide +kernel, fun _ => ⟨mem_g (i := 1117) rfl rfl, mem_g (i := 67) rfl rfl, ⟨mem_g (i := 1116) rfl rfl, mem_g (i := 45) rfl rfl, rfl⟩⟩⟩, List.forall_mem_cons.mpr ⟨⟨rfl, rfl, by decide +kernel, by decide +kernel, fun _ => ⟨mem_g (i := 1108) rfl rfl, mem_g (i := 67) rfl rfl, ⟨mem_g (i := 1106) rfl rfl, mem_g (i := 1107) rfl rfl, rfl⟩⟩⟩, List.forall_mem_cons.mpr ⟨⟨rfl, rfl, by decide +kernel, by decide +kernel, fun _ => ⟨mem_g (i := 1129) rfl rfl, mem_g (i := 67) rfl rfl, ⟨mem_g (i := 1127) rfl rfl, mem_g (i := 1128) rfl rfl, rfl⟩⟩⟩, List.forall_mem_cons.mpr ⟨⟨rfl, rfl, by decide +kernel, by decide +kernel, fun _ => ⟨mem_g (i := 1133) rfl rfl, mem_g (i := 67) rfl rfl, ⟨mem_g (i := 1131) rfl rfl, mem_g (i := 1132) rfl rfl, rfl⟩⟩⟩, List.forall_mem_cons.mpr ⟨⟨rfl, rfl, by decide +kernel, by decide +kernel, fun _ => ⟨mem_g (i := 1143) rfl rfl, mem_g (i := 67) rfl rfl, ⟨mem_g (i := 1142) rfl rfl, mem_g (i := 48) rfl rfl, rfl⟩⟩⟩, List.forall_mem_cons.mpr ⟨⟨rfl, rfl, by decide +kernel, by decide +kernel, fun _ => ⟨mem_g (i := 1137) rfl rfl, mem_g (i := 67) rfl rfl, ⟨mem_g (i := 1135) rfl rfl, mem_g (i := 1136) rfl rfl, rfl⟩⟩⟩, List.forall_mem_cons.mpr ⟨⟨rfl, rfl, by decide +kernel, by decide +kernel, fun _ => ⟨mem_g (i := 1146) rfl rfl, mem_g (i := 67) rfl rfl, mem_g (i := 1145) rfl rfl⟩⟩, List.forall_mem_cons.mpr ⟨⟨rfl, rfl, by decide +kernel, by decide +kernel, fun _ => ⟨mem_g (i := 1150) rfl rfl, mem_g (i := 67) rfl rfl, ⟨mem_g (i := 1148) rfl rfl, mem_g (i := 1149) rfl rfl, rfl⟩⟩⟩, List.forall_mem_cons.mpr ⟨⟨rfl, rfl, by decide +kernel, by decide +kernel, fun _ => ⟨mem_g (i := 1155) rfl rfl, mem_g (i := 67) rfl rfl, ⟨mem_g (i := 1153) rfl rfl, mem_g (i := 1154) rfl rfl, rfl⟩⟩⟩, List.forall_mem_cons.mpr ⟨⟨rfl, rfl, by decide +kernel, by decide +kernel, fun _ => ⟨mem_g (i := 1162) rfl rfl, mem_g (i := 67) rfl rfl, mem_g (i := 1161) rfl rfl⟩⟩, fun _ h => absurd h List.not_mem_nil⟩⟩⟩⟩⟩⟩⟩⟩⟩⟩⟩⟩⟩⟩⟩⟩⟩⟩⟩⟩⟩⟩⟩⟩⟩⟩⟩⟩⟩⟩
set_option maxRecDepth 100000 in
theorem infOK_6 : ∀ q ∈ am_inf_6, infOK q := List.forall_mem_cons.mpr ⟨⟨rfl, rfl, by decide +kernel, by decide +kernel, fun _ => ⟨mem_g (i := 1159) rfl rfl, mem_g (i := 67) rfl rfl, ⟨mem_g (i := 1157) rfl rfl, mem_g (i := 1158) rfl rfl, rfl⟩⟩⟩, List.forall_mem_cons.mpr ⟨⟨rfl, rfl, by decide +kernel, by decide +kernel, fun _ => ⟨mem_g (i := 1166) rfl rfl, mem_g (i := 67) rfl rfl, ⟨mem_g (i := 1164) rfl rfl, mem_g (i := 1165) rfl rfl, rfl⟩⟩⟩, List.forall_mem_cons.mpr ⟨⟨rfl, rfl, by decide +kernel, by decide +kernel, fun _ => ⟨mem_g (i := 822) rfl rfl, mem_g (i := 67) rfl rfl, ⟨mem_g (i := 821) rfl rfl, mem_g (i := 20) rfl rfl, rfl⟩⟩⟩, List.forall_mem_cons.mpr ⟨⟨rfl, rfl, by decide +kernel, by decide +kernel, fun _ => ⟨mem_g (i := 1174) rfl rfl, mem_g (i := 67) rfl rfl, mem_g (i := 1173) rfl rfl⟩⟩, List.forall_mem_cons.mpr ⟨⟨rfl, rfl, by decide +kernel, by decide +kernel, fun _ => ⟨mem_g (i := 1178) rfl rfl, mem_g (i := 67) rfl rfl, ⟨mem_g (i := 1177) rfl rfl, mem_g (i := 49) rfl rfl, rfl⟩⟩⟩, List.forall_mem_cons.mpr ⟨⟨rfl, rfl, by decide +kernel, by decide +kernel, fun _ => ⟨mem_g (i := 1171) rfl rfl, mem_g (i := 67) rfl rfl, ⟨mem_g (i := 1169) rfl rfl, mem_g (i := 1170) rfl rfl, rfl⟩⟩⟩, List.forall_mem_cons.mpr ⟨⟨rfl, rfl, by decide +kernel, by decide +kernel, fun _ => ⟨mem_g (i := 1193) rfl rfl, mem_g (i := 67) rfl rfl, ⟨mem_g (i := 1192) rfl rfl, mem_g (i := 51) rfl rfl, rfl⟩⟩⟩, List.forall_mem_cons.mpr ⟨⟨rfl, rfl, by decide +kernel, by decide +kernel, fun _ => ⟨mem_g (i := 1189) rfl rfl, mem_g (i := 67) rfl rfl, ⟨mem_g (i := 1188) rfl rfl, mem_g (i := 50) rfl rfl, rfl⟩⟩⟩, List.forall_mem_cons.mpr ⟨⟨rfl, rfl, by decide +kernel, by decide +kernel, fun _ => ⟨mem_g (i := 1182) rfl rfl, mem_g (i := 67) rfl rfl, ⟨mem_g (i := 1180) rfl rfl, mem_g (i := 1181) rfl rfl, rfl⟩⟩⟩, List.forall_mem_cons.mpr ⟨⟨rfl, rfl, by decide +kernel, by decide +kernel, fun _ => ⟨mem_g (i := 1201) rfl rfl, mem_g (i := 67) rfl rfl, ⟨mem_g (i := 1200) rfl rfl, mem_g (i := 52) rfl rfl, rfl⟩⟩⟩, List.forall_mem_cons.mpr ⟨⟨rfl, rfl, by decide +kernel, by decide +kernel, fun _ => ⟨mem_g (i := 1197) rfl rfl, mem_g (i := 67) rfl rfl, ⟨mem_g (i := 1195) rfl rfl, mem_g (i := 1196) rfl rfl, rfl⟩⟩⟩, List.forall_mem_cons.mpr ⟨⟨rfl, rfl, by decide +kernel, by decide +kernel, fun _ => ⟨mem_g (i := 1206) rfl rfl, mem_g (i := 67) rfl rfl, ⟨mem_g (i := 1204) rfl rfl, mem_g (i := 1205) rfl rfl, rfl⟩⟩⟩, List.forall_mem_cons.mpr ⟨⟨rfl, rfl, by decide +kernel, by decide +kernel, fun _ => ⟨mem_g (i := 1214) rfl rfl, mem_g (i := 67) rfl rfl, ⟨mem_g (i := 1213) rfl rfl, mem_g (i := 53) rfl rfl, rfl⟩⟩⟩, List.forall_mem_cons.mpr ⟨⟨rfl, rfl, by decide +kernel, by decide +kernel, fun _ => ⟨mem_g (i := 1218) rfl rfl, mem_g (i := 67) rfl rfl, ⟨mem_g (i := 1217) rfl rfl, mem_g (i := 54) rfl rfl, rfl⟩⟩⟩, List.forall_mem_cons.mpr ⟨⟨rfl, rfl, by decide +kernel, by decide +kernel, fun _ => ⟨mem_g (i := 1210) rfl rfl, mem_g (i := 67) rfl rfl, ⟨mem_g (i := 1208) rfl rfl, mem_g (i := 1209) rfl rfl, rfl⟩⟩⟩, List.forall_mem_cons.mpr ⟨⟨rfl, rfl, by decide +kernel, by decide +kernel, fun _ => ⟨mem_g (i := 1222) rfl rfl, mem_g (i := 67) rfl rfl, ⟨mem_g (i := 1220) rfl rfl, mem_g (i := 1221) rfl rfl, rfl⟩⟩⟩, List.forall_mem_cons.mpr ⟨⟨rfl, rfl, by decide +kernel, by decide +kernel, fun _ => ⟨mem_g (i := 1226) rfl rfl, mem_g (i := 67) rfl rfl, ⟨mem_g (i := 1224) rfl rfl, mem_g (i := 1225) rfl rfl, rfl⟩⟩⟩, List.forall_mem_cons.mpr ⟨⟨rfl, rfl, by decide +kernel, by decide +kernel, fun _ => ⟨mem_g (i := 1234) rfl rfl, mem_g (i := 67) rfl rfl, ⟨mem_g (i := 1233) rfl rfl, mem_g (i := 55) rfl rfl, rfl⟩⟩⟩, List.forall_mem_cons.mpr ⟨⟨rfl, rfl, by decide +kernel, by decide +kernel, fun _ => ⟨mem_g (i := 1238) rfl rfl, mem_g (i := 67) rfl rfl, ⟨mem_g (i := 1237) rfl rfl, mem_g (i := 56) rfl rfl, rfl⟩⟩⟩, List.forall_mem_cons.mpr ⟨⟨rfl, rfl, by decide +kernel, by decide +kernel, fun _ => ⟨mem_g (i := 1242) rfl rfl, mem_g (i := 67) rfl rfl, ⟨mem_g (i := 1241) rfl rfl, mem_g (i := 57) rfl rfl, rfl⟩⟩⟩, List.forall_mem_cons.mpr ⟨⟨rfl, rfl, by decide +kernel, by decide +kernel, fun _ => ⟨mem_g (i := 1230) rfl rfl, mem_g (i := 67) rfl rfl, ⟨mem_g (i := 1228) rfl rfl, mem_g (i := 1229) rfl rfl, rfl⟩⟩⟩, List.forall_mem_cons.mpr ⟨⟨rfl, rfl, by decide +kernel, by decide +kernel, fun _ => ⟨mem_g (i := 636) rfl rfl, mem_g (i := 74) rfl rfl, mem_g (i := 635) rfl rfl⟩⟩, List.forall_mem_cons.mpr ⟨⟨rfl, rfl, by decide +kernel, by decide +kernel, fun h => absurd rfl h⟩, fun _ h => absurd h List.not_mem_nil⟩⟩⟩⟩⟩⟩⟩⟩⟩⟩⟩⟩⟩⟩⟩⟩⟩⟩⟩⟩⟩⟩⟩
set_option maxRecDepth 100000 in
theorem ck_Bd_init : (pg_Bd_init).all (am_chk 0 cX0_init) = true := by decide +kernel
set_option maxRecDepth 100000 in
theorem ck_Bd_setUp : (pg_Bd_setUp).all (am_chk 0 cX0_setUp) = true := by decide +kernel
set_option maxRecDepth 100000 in
theorem ck_Bd_copy : (pg_Bd_copy).all (am_chk 0 cX0_copy) = true := by decide +kernel
set_option maxRecDepth 100000 in
theorem ck_Bd_houses : (pg_Bd_houses).all (am_chk 0 cX0_houses) = true := by decide +kernel
set_option maxRecDepth 100000 in
theorem ck_Bd_has : (pg_Bd_has).all (am_chk 0 cX0_has) = true := by decide +kernel
set_option maxRecDepth 100000 in
theorem ck_Bd_sideOf : (pg_Bd_sideOf).all (am_chk 0 cX0_sideOf) = true := by decide +kernel
set_option maxRecDepth 100000 in
theorem ck_Bd_moves : (pg_Bd_moves).all (am_chk 0 cX0_moves) = true := by decide +kernel
set_option maxRecDepth 100000 in
theorem ck_Bd_turn : (pg_Bd_turn).all (am_chk 0 cX0_turn) = true := by decide +kernel
set_option maxRecDepth 100000 in
theorem ck_Bd_barn : (pg_Bd_barn).all (am_chk 0 cX0_barn) = true := by decide +kernel
set_option maxRecDepth 100000 in
theorem ck_Bd_lead : (pg_Bd_lead).all (am_chk 0 cX0_lead) = true := by decide +kernel
set_option maxRecDepth 100000 in
theorem ck_Bd_kind : (pg_Bd_kind).all (am_chk 0 cX0_kind) = true := by decide +kernel
set_option maxRecDepth 100000 in
theorem ck_Bd_seeds : (pg_Bd_seeds).all (am_chk 0 cX0_seeds) = true := by decide +kernel
set_option maxRecDepth 100000 in
theorem ck_Bd_lifted : (pg_Bd_lifted).all (am_chk 0 cX0_lifted) = true := by decide +kernel
set_option maxRecDepth 100000 in
theorem ck_Bd_takes : (pg_Bd_takes).all (am_chk 0 cX0_takes) = true := by decide +kernel
set_option maxRecDepth 100000 in
theorem ck_Bd_yields : (pg_Bd_yields).all (am_chk 0 cX0_yields) = true := by decide +kernel
set_option maxRecDepth 100000 in
theorem ck_Bd_goes : (pg_Bd_goes).all (am_chk 0 cX0_goes) = true := by decide +kernel
set_option maxRecDepth 100000 in
theorem ck_Bd_goingBits : (pg_Bd_goingBits).all (am_chk 0 cX0_goingBits) = true := by decide +kernel
set_option maxRecDepth 100000 in
theorem ck_Bd_allSeeds : (pg_Bd_allSeeds).all (am_chk 0 cX0_allSeeds) = true := by decide +kernel
set_option maxRecDepth 100000 in
theorem ck_Bd_setKind : (pg_Bd_setKind).all (am_chk 0 cX0_setKind) = true := by decide +kernel
set_option maxRecDepth 100000 in
theorem ck_Bd_setSeeds : (pg_Bd_setSeeds).all (am_chk 0 cX0_setSeeds) = true := by decide +kernel
set_option maxRecDepth 100000 in
theorem ck_Bd_setBarn : (pg_Bd_setBarn).all (am_chk 0 cX0_setBarn) = true := by decide +kernel
set_option maxRecDepth 100000 in
theorem ck_Bd_setTurn : (pg_Bd_setTurn).all (am_chk 0 cX0_setTurn) = true := by decide +kernel
set_option maxRecDepth 100000 in
theorem ck_Bd_give : (pg_Bd_give).all (am_chk 0 cX0_give) = true := by decide +kernel
set_option maxRecDepth 100000 in
theorem ck_Bd_exchangeKinds : (pg_Bd_exchangeKinds).all (am_chk 0 cX0_exchangeKinds) = true := by decide +kernel
set_option maxRecDepth 100000 in
theorem ck_Bd_sow : (pg_Bd_sow).all (am_chk 0 cX0_sow) = true := by decide +kernel
set_option maxRecDepth 100000 in
theorem ck_Bd_spread : (pg_Bd_spread).all (am_chk 0 cX0_spread) = true := by decide +kernel
set_option maxRecDepth 100000 in
theorem ck_Bd_nextTaker : (pg_Bd_nextTaker).all (am_chk 0 cX0_nextTaker) = true := by decide +kernel
set_option maxRecDepth 100000 in
theorem ck_Bd_reap : (pg_Bd_reap).all (am_chk 0 cX0_reap) = true := by decide +kernel
set_option maxRecDepth 100000 in
theorem ck_Bx_init : (pg_Bx_init).all (am_chk 1 cX1_init) = true := by decide +kernel
set_option maxRecDepth 100000 in
theorem ck_Bx_push : (pg_Bx_push).all (am_chk 1 cX1_push) = true := by decide +kernel
set_option maxRecDepth 100000 in
theorem ck_Bx_hasOnTop : (pg_Bx_hasOnTop).all (am_chk 1 cX1_hasOnTop) = true := by decide +kernel
set_option maxRecDepth 100000 in
theorem ck_Bx_pullBox : (pg_Bx_pullBox).all (am_chk 1 cX1_pullBox) = true := by decide +kernel
set_option maxRecDepth 100000 in
theorem ck_Bx_numbers : (pg_Bx_numbers).all (am_chk 1 cX1_numbers) = true := by decide +kernel
set_option maxRecDepth 100000 in
theorem ck_Bx_sum : (pg_Bx_sum).all (am_chk 1 cX1_sum) = true := by decide +kernel
set_option maxRecDepth 100000 in
theorem ck_Bx_houseBits : (pg_Bx_houseBits).all (am_chk 1 cX1_houseBits) = true := by decide +kernel
set_option maxRecDepth 100000 in
theorem ck_Bs_init : (pg_Bs_init).all (am_chk 2 cX2_init) = true := by decide +kernel
set_option maxRecDepth 100000 in
theorem ck_Bs_has : (pg_Bs_has).all (am_chk 2 cX2_has) = true := by decide +kernel
set_option maxRecDepth 100000 in
theorem ck_Bs_isThere : (pg_Bs_isThere).all (am_chk 2 cX2_isThere) = true := by decide +kernel
set_option maxRecDepth 100000 in
theorem ck_Bs_thereBits : (pg_Bs_thereBits).all (am_chk 2 cX2_thereBits) = true := by decide +kernel
set_option maxRecDepth 100000 in
theorem ck_Bs_clear : (pg_Bs_clear).all (am_chk 2 cX2_clear) = true := by decide +kernel
set_option maxRecDepth 100000 in
theorem ck_Bs_make : (pg_Bs_make).all (am_chk 2 cX2_make) = true := by decide +kernel
set_option maxRecDepth 100000 in
theorem ck_Bs_remove : (pg_Bs_remove).all (am_chk 2 cX2_remove) = true := by decide +kernel
set_option maxRecDepth 100000 in
theorem ck_Bs_lay_0 : (pg_Bs_lay_0).all (am_chk 2 cX2_lay) = true := by decide +kernel
set_option maxRecDepth 100000 in
theorem ck_Bs_lay_1 : (pg_Bs_lay_1).all (am_chk 2 cX2_lay) = true := by decide +kernel
theorem ck_Bs_lay : (pg_Bs_lay).all (am_chk 2 cX2_lay) = true := by
  unfold pg_Bs_lay
  simp only [List.all_append, Bool.and_eq_true]
  exact ⟨ck_Bs_lay_0, ck_Bs_lay_1⟩
set_option maxRecDepth 100000 in
theorem ck_Bs_lift : (pg_Bs_lift).all (am_chk 2 cX2_lift) = true := by decide +kernel
set_option maxRecDepth 100000 in
theorem ck_Bs_pour_0 : (pg_Bs_pour_0).all (am_chk 2 cX2_pour) = true := by decide +kernel
set_option maxRecDepth 100000 in
theorem ck_Bs_pour_1 : (pg_Bs_pour_1).all (am_chk 2 cX2_pour) = true := by decide +kernel
theorem ck_Bs_pour : (pg_Bs_pour).all (am_chk 2 cX2_pour) = true := by
  unfold pg_Bs_pour
  simp only [List.all_append, Bool.and_eq_true]
  exact ⟨ck_Bs_pour_0, ck_Bs_pour_1⟩
set_option maxRecDepth 100000 in
theorem ck_Bs_throughout : (pg_Bs_throughout).all (am_chk 2 cX2_throughout) = true := by decide +kernel
set_option maxRecDepth 100000 in
theorem ck_Bs_withInner : (pg_Bs_withInner).all (am_chk 2 cX2_withInner) = true := by decide +kernel
set_option maxRecDepth 100000 in
theorem ck_Bs_stepsUp : (pg_Bs_stepsUp).all (am_chk 2 cX2_stepsUp) = true := by decide +kernel
set_option maxRecDepth 100000 in
theorem ck_Bs_holdSame : (pg_Bs_holdSame).all (am_chk 2 cX2_holdSame) = true := by decide +kernel
set_option maxRecDepth 100000 in
theorem ck_Bs_holdSameFrom : (pg_Bs_holdSameFrom).all (am_chk 2 cX2_holdSameFrom) = true := by decide +kernel
set_option maxRecDepth 100000 in
theorem ck_Bs_isSame : (pg_Bs_isSame).all (am_chk 2 cX2_isSame) = true := by decide +kernel
set_option maxRecDepth 100000 in
theorem ck_Fo_init : (pg_Fo_init).all (am_chk 3 cX3_init) = true := by decide +kernel
set_option maxRecDepth 100000 in
theorem ck_Fo_broughtBy : (pg_Fo_broughtBy).all (am_chk 3 cX3_broughtBy) = true := by decide +kernel
set_option maxRecDepth 100000 in
theorem ck_Fo_bestLead : (pg_Fo_bestLead).all (am_chk 3 cX3_bestLead) = true := by decide +kernel
set_option maxRecDepth 100000 in
theorem ck_Fo_lineMove : (pg_Fo_lineMove).all (am_chk 3 cX3_lineMove) = true := by decide +kernel
set_option maxRecDepth 100000 in
theorem ck_Fo_search_0 : (pg_Fo_search_0).all (am_chk 3 cX3_search) = true := by decide +kernel
set_option maxRecDepth 100000 in
theorem ck_Fo_search_1 : (pg_Fo_search_1).all (am_chk 3 cX3_search) = true := by decide +kernel
theorem ck_Fo_search : (pg_Fo_search).all (am_chk 3 cX3_search) = true := by
  unfold pg_Fo_search
  simp only [List.all_append, Bool.and_eq_true]
  exact ⟨ck_Fo_search_0, ck_Fo_search_1⟩
set_option maxRecDepth 100000 in
theorem ck_Fo_rashBoard : (pg_Fo_rashBoard).all (am_chk 3 cX3_rashBoard) = true := by decide +kernel
set_option maxRecDepth 100000 in
theorem ck_Fo_rashHouse : (pg_Fo_rashHouse).all (am_chk 3 cX3_rashHouse) = true := by decide +kernel
set_option maxRecDepth 100000 in
theorem ck_Fo_bestGift : (pg_Fo_bestGift).all (am_chk 3 cX3_bestGift) = true := by decide +kernel
set_option maxRecDepth 100000 in
theorem ck_Fo_odds : (pg_Fo_odds).all (am_chk 3 cX3_odds) = true := by decide +kernel
set_option maxRecDepth 100000 in
theorem ck_Fo_leading_0 : (pg_Fo_leading_0).all (am_chk 3 cX3_leading) = true := by decide +kernel
set_option maxRecDepth 100000 in
theorem ck_Fo_leading_1 : (pg_Fo_leading_1).all (am_chk 3 cX3_leading) = true := by decide +kernel
theorem ck_Fo_leading : (pg_Fo_leading).all (am_chk 3 cX3_leading) = true := by
  unfold pg_Fo_leading
  simp only [List.all_append, Bool.and_eq_true]
  exact ⟨ck_Fo_leading_0, ck_Fo_leading_1⟩
set_option maxRecDepth 100000 in
theorem ck_Fo_commonDivisor : (pg_Fo_commonDivisor).all (am_chk 3 cX3_commonDivisor) = true := by decide +kernel
set_option maxRecDepth 100000 in
theorem ck_Ki_isUnder : (pg_Ki_isUnder).all (am_chk 8 cX4_isUnder) = true := by decide +kernel
set_option maxRecDepth 100000 in
theorem ck_Ki_lifted : (pg_Ki_lifted).all (am_chk 8 cX4_lifted) = true := by decide +kernel
set_option maxRecDepth 100000 in
theorem ck_Ki_takes : (pg_Ki_takes).all (am_chk 8 cX4_takes) = true := by decide +kernel
set_option maxRecDepth 100000 in
theorem ck_Ki_yields : (pg_Ki_yields).all (am_chk 8 cX4_yields) = true := by decide +kernel
set_option maxRecDepth 100000 in
theorem ck_Si_init : (pg_Si_init).all (am_chk 4 cX5_init) = true := by decide +kernel
set_option maxRecDepth 100000 in
theorem ck_Si_add : (pg_Si_add).all (am_chk 4 cX5_add) = true := by decide +kernel
set_option maxRecDepth 100000 in
theorem ck_Si_clear : (pg_Si_clear).all (am_chk 4 cX5_clear) = true := by decide +kernel
set_option maxRecDepth 100000 in
theorem ck_Si_size : (pg_Si_size).all (am_chk 4 cX5_size) = true := by decide +kernel
set_option maxRecDepth 100000 in
theorem ck_Si_possible : (pg_Si_possible).all (am_chk 4 cX5_possible) = true := by decide +kernel
set_option maxRecDepth 100000 in
theorem ck_Si_fits : (pg_Si_fits).all (am_chk 4 cX5_fits) = true := by decide +kernel
set_option maxRecDepth 100000 in
theorem ck_Si_question : (pg_Si_question).all (am_chk 4 cX5_question) = true := by decide +kernel
set_option maxRecDepth 100000 in
theorem ck_Si_greatestPart : (pg_Si_greatestPart).all (am_chk 4 cX5_greatestPart) = true := by decide +kernel
set_option maxRecDepth 100000 in
theorem ck_Si_doAlike : (pg_Si_doAlike).all (am_chk 4 cX5_doAlike) = true := by decide +kernel
set_option maxRecDepth 100000 in
theorem ck_Te_init : (pg_Te_init).all (am_chk 5 cX6_init) = true := by decide +kernel
set_option maxRecDepth 100000 in
theorem ck_Te_add : (pg_Te_add).all (am_chk 5 cX6_add) = true := by decide +kernel
set_option maxRecDepth 100000 in
theorem ck_Te_clear : (pg_Te_clear).all (am_chk 5 cX6_clear) = true := by decide +kernel
set_option maxRecDepth 100000 in
theorem ck_Te_length : (pg_Te_length).all (am_chk 5 cX6_length) = true := by decide +kernel
set_option maxRecDepth 100000 in
theorem ck_Te_clauses : (pg_Te_clauses).all (am_chk 5 cX6_clauses) = true := by decide +kernel
set_option maxRecDepth 100000 in
theorem ck_Te_read : (pg_Te_read).all (am_chk 5 cX6_read) = true := by decide +kernel
set_option maxRecDepth 100000 in
theorem ck_Te_readClause : (pg_Te_readClause).all (am_chk 5 cX6_readClause) = true := by decide +kernel
set_option maxRecDepth 100000 in
theorem ck_Te_readFirst : (pg_Te_readFirst).all (am_chk 5 cX6_readFirst) = true := by decide +kernel
set_option maxRecDepth 100000 in
theorem ck_Te_readSecond : (pg_Te_readSecond).all (am_chk 5 cX6_readSecond) = true := by decide +kernel
set_option maxRecDepth 100000 in
theorem ck_Te_perform : (pg_Te_perform).all (am_chk 5 cX6_perform) = true := by decide +kernel
set_option maxRecDepth 100000 in
theorem ck_Te_readNumber : (pg_Te_readNumber).all (am_chk 5 cX6_readNumber) = true := by decide +kernel
set_option maxRecDepth 100000 in
theorem ck_Te_word : (pg_Te_word).all (am_chk 5 cX6_word) = true := by decide +kernel
set_option maxRecDepth 100000 in
theorem ck_Te_isWord : (pg_Te_isWord).all (am_chk 5 cX6_isWord) = true := by decide +kernel
set_option maxRecDepth 100000 in
theorem ck_Te_advance_0 : (pg_Te_advance_0).all (am_chk 5 cX6_advance) = true := by decide +kernel
set_option maxRecDepth 100000 in
theorem ck_Te_advance_1 : (pg_Te_advance_1).all (am_chk 5 cX6_advance) = true := by decide +kernel
theorem ck_Te_advance : (pg_Te_advance).all (am_chk 5 cX6_advance) = true := by
  unfold pg_Te_advance
  simp only [List.all_append, Bool.and_eq_true]
  exact ⟨ck_Te_advance_0, ck_Te_advance_1⟩
set_option maxRecDepth 100000 in
theorem ck_Te_isAt : (pg_Te_isAt).all (am_chk 5 cX6_isAt) = true := by decide +kernel
set_option maxRecDepth 100000 in
theorem ck_Ss_init_0 : (pg_Ss_init_0).all (am_chk 6 cX7_init) = true := by decide +kernel
set_option maxRecDepth 100000 in
theorem ck_Ss_init_1 : (pg_Ss_init_1).all (am_chk 6 cX7_init) = true := by decide +kernel
theorem ck_Ss_init : (pg_Ss_init).all (am_chk 6 cX7_init) = true := by
  unfold pg_Ss_init
  simp only [List.all_append, Bool.and_eq_true]
  exact ⟨ck_Ss_init_0, ck_Ss_init_1⟩
set_option maxRecDepth 100000 in
theorem ck_Ss_write : (pg_Ss_write).all (am_chk 6 cX7_write) = true := by decide +kernel
set_option maxRecDepth 100000 in
theorem ck_Ss_erase : (pg_Ss_erase).all (am_chk 6 cX7_erase) = true := by decide +kernel
set_option maxRecDepth 100000 in
theorem ck_Ss_fault : (pg_Ss_fault).all (am_chk 6 cX7_fault) = true := by decide +kernel
set_option maxRecDepth 100000 in
theorem ck_Ss_board : (pg_Ss_board).all (am_chk 6 cX7_board) = true := by decide +kernel
set_option maxRecDepth 100000 in
theorem ck_Ss_house : (pg_Ss_house).all (am_chk 6 cX7_house) = true := by decide +kernel
set_option maxRecDepth 100000 in
theorem ck_Ss_as : (pg_Ss_as).all (am_chk 6 cX7_as) = true := by decide +kernel
set_option maxRecDepth 100000 in
theorem ck_Ss_move : (pg_Ss_move).all (am_chk 6 cX7_move) = true := by decide +kernel
set_option maxRecDepth 100000 in
theorem ck_Ss_drop : (pg_Ss_drop).all (am_chk 6 cX7_drop) = true := by decide +kernel
set_option maxRecDepth 100000 in
theorem ck_Ss_swap : (pg_Ss_swap).all (am_chk 6 cX7_swap) = true := by decide +kernel
set_option maxRecDepth 100000 in
theorem ck_Ss_undo : (pg_Ss_undo).all (am_chk 6 cX7_undo) = true := by decide +kernel
set_option maxRecDepth 100000 in
theorem ck_Ss_keep : (pg_Ss_keep).all (am_chk 6 cX7_keep) = true := by decide +kernel
set_option maxRecDepth 100000 in
theorem ck_Ss_back : (pg_Ss_back).all (am_chk 6 cX7_back) = true := by decide +kernel
set_option maxRecDepth 100000 in
theorem ck_Ss_brings : (pg_Ss_brings).all (am_chk 6 cX7_brings) = true := by decide +kernel
set_option maxRecDepth 100000 in
theorem ck_Ss_best : (pg_Ss_best).all (am_chk 6 cX7_best) = true := by decide +kernel
set_option maxRecDepth 100000 in
theorem ck_Ss_rash : (pg_Ss_rash).all (am_chk 6 cX7_rash) = true := by decide +kernel
set_option maxRecDepth 100000 in
theorem ck_Ss_over : (pg_Ss_over).all (am_chk 6 cX7_over) = true := by decide +kernel
set_option maxRecDepth 100000 in
theorem ck_Ss_gift : (pg_Ss_gift).all (am_chk 6 cX7_gift) = true := by decide +kernel
set_option maxRecDepth 100000 in
theorem ck_Ss_luck : (pg_Ss_luck).all (am_chk 6 cX7_luck) = true := by decide +kernel
set_option maxRecDepth 100000 in
theorem ck_Ss_seen : (pg_Ss_seen).all (am_chk 6 cX7_seen) = true := by decide +kernel
set_option maxRecDepth 100000 in
theorem ck_Ss_forget : (pg_Ss_forget).all (am_chk 6 cX7_forget) = true := by decide +kernel
set_option maxRecDepth 100000 in
theorem ck_Ss_kinds : (pg_Ss_kinds).all (am_chk 6 cX7_kinds) = true := by decide +kernel
set_option maxRecDepth 100000 in
theorem ck_Ss_ask : (pg_Ss_ask).all (am_chk 6 cX7_ask) = true := by decide +kernel
set_option maxRecDepth 100000 in
theorem ck_Ss_box : (pg_Ss_box).all (am_chk 6 cX7_box) = true := by decide +kernel
set_option maxRecDepth 100000 in
theorem ck_Ss_put_0 : (pg_Ss_put_0).all (am_chk 6 cX7_put) = true := by decide +kernel
set_option maxRecDepth 100000 in
theorem ck_Ss_put_1 : (pg_Ss_put_1).all (am_chk 6 cX7_put) = true := by decide +kernel
theorem ck_Ss_put : (pg_Ss_put).all (am_chk 6 cX7_put) = true := by
  unfold pg_Ss_put
  simp only [List.all_append, Bool.and_eq_true]
  exact ⟨ck_Ss_put_0, ck_Ss_put_1⟩
set_option maxRecDepth 100000 in
theorem ck_Ss_take : (pg_Ss_take).all (am_chk 6 cX7_take) = true := by decide +kernel
set_option maxRecDepth 100000 in
theorem ck_Ss_spill : (pg_Ss_spill).all (am_chk 6 cX7_spill) = true := by decide +kernel
set_option maxRecDepth 100000 in
theorem ck_Ss_deep : (pg_Ss_deep).all (am_chk 6 cX7_deep) = true := by decide +kernel
set_option maxRecDepth 100000 in
theorem ck_Ss_alike : (pg_Ss_alike).all (am_chk 6 cX7_alike) = true := by decide +kernel
set_option maxRecDepth 100000 in
theorem ck_Ss_lose : (pg_Ss_lose).all (am_chk 6 cX7_lose) = true := by decide +kernel
set_option maxRecDepth 100000 in
theorem ck_Ss_count : (pg_Ss_count).all (am_chk 6 cX7_count) = true := by decide +kernel
set_option maxRecDepth 100000 in
theorem ck_Ss_isWithin : (pg_Ss_isWithin).all (am_chk 6 cX7_isWithin) = true := by decide +kernel
set_option maxRecDepth 100000 in
theorem ck_Ss_remember : (pg_Ss_remember).all (am_chk 6 cX7_remember) = true := by decide +kernel
set_option maxRecDepth 100000 in
theorem ck_Mo_in : (pg_Mo_in).all (am_chk 7 cX8_in) = true := by decide +kernel
set_option maxRecDepth 100000 in
theorem ck_Mo_init_0 : (pg_Mo_init_0).all (am_chk 7 cX8_init) = true := by decide +kernel
set_option maxRecDepth 100000 in
theorem ck_Mo_init_1 : (pg_Mo_init_1).all (am_chk 7 cX8_init) = true := by decide +kernel
theorem ck_Mo_init : (pg_Mo_init).all (am_chk 7 cX8_init) = true := by
  unfold pg_Mo_init
  simp only [List.all_append, Bool.and_eq_true]
  exact ⟨ck_Mo_init_0, ck_Mo_init_1⟩
set_option maxRecDepth 100000 in
theorem ck_Mo_atFirst : (pg_Mo_atFirst).all (am_chk 7 cX8_atFirst) = true := by decide +kernel
set_option maxRecDepth 100000 in
theorem ck_Mo_write : (pg_Mo_write).all (am_chk 7 cX8_write) = true := by decide +kernel
set_option maxRecDepth 100000 in
theorem ck_Mo_erase : (pg_Mo_erase).all (am_chk 7 cX8_erase) = true := by decide +kernel
set_option maxRecDepth 100000 in
theorem ck_Mo_letterAt : (pg_Mo_letterAt).all (am_chk 7 cX8_letterAt) = true := by decide +kernel
set_option maxRecDepth 100000 in
theorem ck_Mo_word : (pg_Mo_word).all (am_chk 7 cX8_word) = true := by decide +kernel
set_option maxRecDepth 100000 in
theorem ck_Mo_said_0 : (pg_Mo_said_0).all (am_chk 7 cX8_said) = true := by decide +kernel
set_option maxRecDepth 100000 in
theorem ck_Mo_said_1 : (pg_Mo_said_1).all (am_chk 7 cX8_said) = true := by decide +kernel
set_option maxRecDepth 100000 in
theorem ck_Mo_said_2 : (pg_Mo_said_2).all (am_chk 7 cX8_said) = true := by decide +kernel
theorem ck_Mo_said : (pg_Mo_said).all (am_chk 7 cX8_said) = true := by
  unfold pg_Mo_said
  simp only [List.all_append, Bool.and_eq_true]
  exact ⟨ck_Mo_said_0, ck_Mo_said_1, ck_Mo_said_2⟩
set_option maxRecDepth 100000 in
theorem ck_Mo_looksOn_0 : (pg_Mo_looksOn_0).all (am_chk 7 cX8_looksOn) = true := by decide +kernel
set_option maxRecDepth 100000 in
theorem ck_Mo_looksOn_1 : (pg_Mo_looksOn_1).all (am_chk 7 cX8_looksOn) = true := by decide +kernel
set_option maxRecDepth 100000 in
theorem ck_Mo_looksOn_2 : (pg_Mo_looksOn_2).all (am_chk 7 cX8_looksOn) = true := by decide +kernel
theorem ck_Mo_looksOn : (pg_Mo_looksOn).all (am_chk 7 cX8_looksOn) = true := by
  unfold pg_Mo_looksOn
  simp only [List.all_append, Bool.and_eq_true]
  exact ⟨ck_Mo_looksOn_0, ck_Mo_looksOn_1, ck_Mo_looksOn_2⟩
set_option maxRecDepth 100000 in
theorem ck_Mo_must : (pg_Mo_must).all (am_chk 7 cX8_must) = true := by decide +kernel
set_option maxRecDepth 100000 in
theorem ck_Mo_number : (pg_Mo_number).all (am_chk 7 cX8_number) = true := by decide +kernel
set_option maxRecDepth 100000 in
theorem ck_Mo_reads_0 : (pg_Mo_reads_0).all (am_chk 7 cX8_reads) = true := by decide +kernel
set_option maxRecDepth 100000 in
theorem ck_Mo_reads_1 : (pg_Mo_reads_1).all (am_chk 7 cX8_reads) = true := by decide +kernel
theorem ck_Mo_reads : (pg_Mo_reads).all (am_chk 7 cX8_reads) = true := by
  unfold pg_Mo_reads
  simp only [List.all_append, Bool.and_eq_true]
  exact ⟨ck_Mo_reads_0, ck_Mo_reads_1⟩
set_option maxRecDepth 100000 in
theorem ck_Mo_clauses_0 : (pg_Mo_clauses_0).all (am_chk 7 cX8_clauses) = true := by decide +kernel
set_option maxRecDepth 100000 in
theorem ck_Mo_clauses_1 : (pg_Mo_clauses_1).all (am_chk 7 cX8_clauses) = true := by decide +kernel
theorem ck_Mo_clauses : (pg_Mo_clauses).all (am_chk 7 cX8_clauses) = true := by
  unfold pg_Mo_clauses
  simp only [List.all_append, Bool.and_eq_true]
  exact ⟨ck_Mo_clauses_0, ck_Mo_clauses_1⟩
set_option maxRecDepth 100000 in
theorem ck_Mo_fault : (pg_Mo_fault).all (am_chk 7 cX8_fault) = true := by decide +kernel
set_option maxRecDepth 100000 in
theorem ck_Mo_board : (pg_Mo_board).all (am_chk 7 cX8_board) = true := by decide +kernel
set_option maxRecDepth 100000 in
theorem ck_Mo_isHouse : (pg_Mo_isHouse).all (am_chk 7 cX8_isHouse) = true := by decide +kernel
set_option maxRecDepth 100000 in
theorem ck_Mo_liftsOf : (pg_Mo_liftsOf).all (am_chk 7 cX8_liftsOf) = true := by decide +kernel
set_option maxRecDepth 100000 in
theorem ck_Mo_takesOne : (pg_Mo_takesOne).all (am_chk 7 cX8_takesOne) = true := by decide +kernel
set_option maxRecDepth 100000 in
theorem ck_Mo_yieldsAll : (pg_Mo_yieldsAll).all (am_chk 7 cX8_yieldsAll) = true := by decide +kernel
set_option maxRecDepth 100000 in
theorem ck_Mo_lifts : (pg_Mo_lifts).all (am_chk 7 cX8_lifts) = true := by decide +kernel
set_option maxRecDepth 100000 in
theorem ck_Mo_sideOf : (pg_Mo_sideOf).all (am_chk 7 cX8_sideOf) = true := by decide +kernel
set_option maxRecDepth 100000 in
theorem ck_Mo_canGo : (pg_Mo_canGo).all (am_chk 7 cX8_canGo) = true := by decide +kernel
set_option maxRecDepth 100000 in
theorem ck_Mo_house : (pg_Mo_house).all (am_chk 7 cX8_house) = true := by decide +kernel
set_option maxRecDepth 100000 in
theorem ck_Mo_as : (pg_Mo_as).all (am_chk 7 cX8_as) = true := by decide +kernel
set_option maxRecDepth 100000 in
theorem ck_Mo_next : (pg_Mo_next).all (am_chk 7 cX8_next) = true := by decide +kernel
set_option maxRecDepth 100000 in
theorem ck_Mo_ahead : (pg_Mo_ahead).all (am_chk 7 cX8_ahead) = true := by decide +kernel
set_option maxRecDepth 100000 in
theorem ck_Mo_anyTakes : (pg_Mo_anyTakes).all (am_chk 7 cX8_anyTakes) = true := by decide +kernel
set_option maxRecDepth 100000 in
theorem ck_Mo_goes_0 : (pg_Mo_goes_0).all (am_chk 7 cX8_goes) = true := by decide +kernel
set_option maxRecDepth 100000 in
theorem ck_Mo_goes_1 : (pg_Mo_goes_1).all (am_chk 7 cX8_goes) = true := by decide +kernel
set_option maxRecDepth 100000 in
theorem ck_Mo_goes_2 : (pg_Mo_goes_2).all (am_chk 7 cX8_goes) = true := by decide +kernel
theorem ck_Mo_goes : (pg_Mo_goes).all (am_chk 7 cX8_goes) = true := by
  unfold pg_Mo_goes
  simp only [List.all_append, Bool.and_eq_true]
  exact ⟨ck_Mo_goes_0, ck_Mo_goes_1, ck_Mo_goes_2⟩
set_option maxRecDepth 100000 in
theorem ck_Mo_notes : (pg_Mo_notes).all (am_chk 7 cX8_notes) = true := by decide +kernel
set_option maxRecDepth 100000 in
theorem ck_Mo_move : (pg_Mo_move).all (am_chk 7 cX8_move) = true := by decide +kernel
set_option maxRecDepth 100000 in
theorem ck_Mo_drop : (pg_Mo_drop).all (am_chk 7 cX8_drop) = true := by decide +kernel
set_option maxRecDepth 100000 in
theorem ck_Mo_swap : (pg_Mo_swap).all (am_chk 7 cX8_swap) = true := by decide +kernel
set_option maxRecDepth 100000 in
theorem ck_Mo_undo : (pg_Mo_undo).all (am_chk 7 cX8_undo) = true := by decide +kernel
set_option maxRecDepth 100000 in
theorem ck_Mo_keep : (pg_Mo_keep).all (am_chk 7 cX8_keep) = true := by decide +kernel
set_option maxRecDepth 100000 in
theorem ck_Mo_back : (pg_Mo_back).all (am_chk 7 cX8_back) = true := by decide +kernel
set_option maxRecDepth 100000 in
theorem ck_Mo_asides : (pg_Mo_asides).all (am_chk 7 cX8_asides) = true := by decide +kernel
set_option maxRecDepth 100000 in
theorem ck_Mo_backs : (pg_Mo_backs).all (am_chk 7 cX8_backs) = true := by decide +kernel
set_option maxRecDepth 100000 in
theorem ck_Mo_lead : (pg_Mo_lead).all (am_chk 7 cX8_lead) = true := by decide +kernel
set_option maxRecDepth 100000 in
theorem ck_Mo_wouldBring : (pg_Mo_wouldBring).all (am_chk 7 cX8_wouldBring) = true := by decide +kernel
set_option maxRecDepth 100000 in
theorem ck_Mo_brings : (pg_Mo_brings).all (am_chk 7 cX8_brings) = true := by decide +kernel
set_option maxRecDepth 100000 in
theorem ck_Mo_noted : (pg_Mo_noted).all (am_chk 7 cX8_noted) = true := by decide +kernel
set_option maxRecDepth 100000 in
theorem ck_Mo_begins : (pg_Mo_begins).all (am_chk 7 cX8_begins) = true := by decide +kernel
set_option maxRecDepth 100000 in
theorem ck_Mo_laysBack : (pg_Mo_laysBack).all (am_chk 7 cX8_laysBack) = true := by decide +kernel
set_option maxRecDepth 100000 in
theorem ck_Mo_ends_0 : (pg_Mo_ends_0).all (am_chk 7 cX8_ends) = true := by decide +kernel
set_option maxRecDepth 100000 in
theorem ck_Mo_ends_1 : (pg_Mo_ends_1).all (am_chk 7 cX8_ends) = true := by decide +kernel
theorem ck_Mo_ends : (pg_Mo_ends).all (am_chk 7 cX8_ends) = true := by
  unfold pg_Mo_ends
  simp only [List.all_append, Bool.and_eq_true]
  exact ⟨ck_Mo_ends_0, ck_Mo_ends_1⟩
set_option maxRecDepth 100000 in
theorem ck_Mo_looksAhead_0 : (pg_Mo_looksAhead_0).all (am_chk 7 cX8_looksAhead) = true := by decide +kernel
set_option maxRecDepth 100000 in
theorem ck_Mo_looksAhead_1 : (pg_Mo_looksAhead_1).all (am_chk 7 cX8_looksAhead) = true := by decide +kernel
theorem ck_Mo_looksAhead : (pg_Mo_looksAhead).all (am_chk 7 cX8_looksAhead) = true := by
  unfold pg_Mo_looksAhead
  simp only [List.all_append, Bool.and_eq_true]
  exact ⟨ck_Mo_looksAhead_0, ck_Mo_looksAhead_1⟩
set_option maxRecDepth 100000 in
theorem ck_Mo_best : (pg_Mo_best).all (am_chk 7 cX8_best) = true := by decide +kernel
set_option maxRecDepth 100000 in
theorem ck_Mo_rashOne : (pg_Mo_rashOne).all (am_chk 7 cX8_rashOne) = true := by decide +kernel
set_option maxRecDepth 100000 in
theorem ck_Mo_rashOnes : (pg_Mo_rashOnes).all (am_chk 7 cX8_rashOnes) = true := by decide +kernel
set_option maxRecDepth 100000 in
theorem ck_Mo_rash : (pg_Mo_rash).all (am_chk 7 cX8_rash) = true := by decide +kernel
set_option maxRecDepth 100000 in
theorem ck_Mo_over : (pg_Mo_over).all (am_chk 7 cX8_over) = true := by decide +kernel
set_option maxRecDepth 100000 in
theorem ck_Mo_gift_0 : (pg_Mo_gift_0).all (am_chk 7 cX8_gift) = true := by decide +kernel
set_option maxRecDepth 100000 in
theorem ck_Mo_gift_1 : (pg_Mo_gift_1).all (am_chk 7 cX8_gift) = true := by decide +kernel
theorem ck_Mo_gift : (pg_Mo_gift).all (am_chk 7 cX8_gift) = true := by
  unfold pg_Mo_gift
  simp only [List.all_append, Bool.and_eq_true]
  exact ⟨ck_Mo_gift_0, ck_Mo_gift_1⟩
set_option maxRecDepth 100000 in
theorem ck_Mo_movesThere : (pg_Mo_movesThere).all (am_chk 7 cX8_movesThere) = true := by decide +kernel
set_option maxRecDepth 100000 in
theorem ck_Mo_luck_0 : (pg_Mo_luck_0).all (am_chk 7 cX8_luck) = true := by decide +kernel
set_option maxRecDepth 100000 in
theorem ck_Mo_luck_1 : (pg_Mo_luck_1).all (am_chk 7 cX8_luck) = true := by decide +kernel
set_option maxRecDepth 100000 in
theorem ck_Mo_luck_2 : (pg_Mo_luck_2).all (am_chk 7 cX8_luck) = true := by decide +kernel
theorem ck_Mo_luck : (pg_Mo_luck).all (am_chk 7 cX8_luck) = true := by
  unfold pg_Mo_luck
  simp only [List.all_append, Bool.and_eq_true]
  exact ⟨ck_Mo_luck_0, ck_Mo_luck_1, ck_Mo_luck_2⟩
set_option maxRecDepth 100000 in
theorem ck_Mo_part : (pg_Mo_part).all (am_chk 7 cX8_part) = true := by decide +kernel
set_option maxRecDepth 100000 in
theorem ck_Mo_seen_0 : (pg_Mo_seen_0).all (am_chk 7 cX8_seen) = true := by decide +kernel
set_option maxRecDepth 100000 in
theorem ck_Mo_seen_1 : (pg_Mo_seen_1).all (am_chk 7 cX8_seen) = true := by decide +kernel
theorem ck_Mo_seen : (pg_Mo_seen).all (am_chk 7 cX8_seen) = true := by
  unfold pg_Mo_seen
  simp only [List.all_append, Bool.and_eq_true]
  exact ⟨ck_Mo_seen_0, ck_Mo_seen_1⟩
set_option maxRecDepth 100000 in
theorem ck_Mo_forget : (pg_Mo_forget).all (am_chk 7 cX8_forget) = true := by decide +kernel
set_option maxRecDepth 100000 in
theorem ck_Mo_isOf : (pg_Mo_isOf).all (am_chk 7 cX8_isOf) = true := by decide +kernel
set_option maxRecDepth 100000 in
theorem ck_Mo_kinds_0 : (pg_Mo_kinds_0).all (am_chk 7 cX8_kinds) = true := by decide +kernel
set_option maxRecDepth 100000 in
theorem ck_Mo_kinds_1 : (pg_Mo_kinds_1).all (am_chk 7 cX8_kinds) = true := by decide +kernel
theorem ck_Mo_kinds : (pg_Mo_kinds).all (am_chk 7 cX8_kinds) = true := by
  unfold pg_Mo_kinds
  simp only [List.all_append, Bool.and_eq_true]
  exact ⟨ck_Mo_kinds_0, ck_Mo_kinds_1⟩
set_option maxRecDepth 100000 in
theorem ck_Mo_ask_0 : (pg_Mo_ask_0).all (am_chk 7 cX8_ask) = true := by decide +kernel
set_option maxRecDepth 100000 in
theorem ck_Mo_ask_1 : (pg_Mo_ask_1).all (am_chk 7 cX8_ask) = true := by decide +kernel
theorem ck_Mo_ask : (pg_Mo_ask).all (am_chk 7 cX8_ask) = true := by
  unfold pg_Mo_ask
  simp only [List.all_append, Bool.and_eq_true]
  exact ⟨ck_Mo_ask_0, ck_Mo_ask_1⟩
set_option maxRecDepth 100000 in
theorem ck_Mo_noBoxes : (pg_Mo_noBoxes).all (am_chk 7 cX8_noBoxes) = true := by decide +kernel
set_option maxRecDepth 100000 in
theorem ck_Mo_isBox : (pg_Mo_isBox).all (am_chk 7 cX8_isBox) = true := by decide +kernel
set_option maxRecDepth 100000 in
theorem ck_Mo_loses_0 : (pg_Mo_loses_0).all (am_chk 7 cX8_loses) = true := by decide +kernel
set_option maxRecDepth 100000 in
theorem ck_Mo_loses_1 : (pg_Mo_loses_1).all (am_chk 7 cX8_loses) = true := by decide +kernel
set_option maxRecDepth 100000 in
theorem ck_Mo_loses_2 : (pg_Mo_loses_2).all (am_chk 7 cX8_loses) = true := by decide +kernel
theorem ck_Mo_loses : (pg_Mo_loses).all (am_chk 7 cX8_loses) = true := by
  unfold pg_Mo_loses
  simp only [List.all_append, Bool.and_eq_true]
  exact ⟨ck_Mo_loses_0, ck_Mo_loses_1, ck_Mo_loses_2⟩
set_option maxRecDepth 100000 in
theorem ck_Mo_box : (pg_Mo_box).all (am_chk 7 cX8_box) = true := by decide +kernel
set_option maxRecDepth 100000 in
theorem ck_Mo_isWithin : (pg_Mo_isWithin).all (am_chk 7 cX8_isWithin) = true := by decide +kernel
set_option maxRecDepth 100000 in
theorem ck_Mo_whyNotPut : (pg_Mo_whyNotPut).all (am_chk 7 cX8_whyNotPut) = true := by decide +kernel
set_option maxRecDepth 100000 in
theorem ck_Mo_put_0 : (pg_Mo_put_0).all (am_chk 7 cX8_put) = true := by decide +kernel
set_option maxRecDepth 100000 in
theorem ck_Mo_put_1 : (pg_Mo_put_1).all (am_chk 7 cX8_put) = true := by decide +kernel
theorem ck_Mo_put : (pg_Mo_put).all (am_chk 7 cX8_put) = true := by
  unfold pg_Mo_put
  simp only [List.all_append, Bool.and_eq_true]
  exact ⟨ck_Mo_put_0, ck_Mo_put_1⟩
set_option maxRecDepth 100000 in
theorem ck_Mo_whyNotOut : (pg_Mo_whyNotOut).all (am_chk 7 cX8_whyNotOut) = true := by decide +kernel
set_option maxRecDepth 100000 in
theorem ck_Mo_take : (pg_Mo_take).all (am_chk 7 cX8_take) = true := by decide +kernel
set_option maxRecDepth 100000 in
theorem ck_Mo_spill_0 : (pg_Mo_spill_0).all (am_chk 7 cX8_spill) = true := by decide +kernel
set_option maxRecDepth 100000 in
theorem ck_Mo_spill_1 : (pg_Mo_spill_1).all (am_chk 7 cX8_spill) = true := by decide +kernel
set_option maxRecDepth 100000 in
theorem ck_Mo_spill_2 : (pg_Mo_spill_2).all (am_chk 7 cX8_spill) = true := by decide +kernel
theorem ck_Mo_spill : (pg_Mo_spill).all (am_chk 7 cX8_spill) = true := by
  unfold pg_Mo_spill
  simp only [List.all_append, Bool.and_eq_true]
  exact ⟨ck_Mo_spill_0, ck_Mo_spill_1, ck_Mo_spill_2⟩
set_option maxRecDepth 100000 in
theorem ck_Mo_boxesIn : (pg_Mo_boxesIn).all (am_chk 7 cX8_boxesIn) = true := by decide +kernel
set_option maxRecDepth 100000 in
theorem ck_Mo_depth : (pg_Mo_depth).all (am_chk 7 cX8_depth) = true := by decide +kernel
set_option maxRecDepth 100000 in
theorem ck_Mo_deep_0 : (pg_Mo_deep_0).all (am_chk 7 cX8_deep) = true := by decide +kernel
set_option maxRecDepth 100000 in
theorem ck_Mo_deep_1 : (pg_Mo_deep_1).all (am_chk 7 cX8_deep) = true := by decide +kernel
set_option maxRecDepth 100000 in
theorem ck_Mo_deep_2 : (pg_Mo_deep_2).all (am_chk 7 cX8_deep) = true := by decide +kernel
theorem ck_Mo_deep : (pg_Mo_deep).all (am_chk 7 cX8_deep) = true := by
  unfold pg_Mo_deep
  simp only [List.all_append, Bool.and_eq_true]
  exact ⟨ck_Mo_deep_0, ck_Mo_deep_1, ck_Mo_deep_2⟩
set_option maxRecDepth 100000 in
theorem ck_Mo_alike_0 : (pg_Mo_alike_0).all (am_chk 7 cX8_alike) = true := by decide +kernel
set_option maxRecDepth 100000 in
theorem ck_Mo_alike_1 : (pg_Mo_alike_1).all (am_chk 7 cX8_alike) = true := by decide +kernel
set_option maxRecDepth 100000 in
theorem ck_Mo_alike_2 : (pg_Mo_alike_2).all (am_chk 7 cX8_alike) = true := by decide +kernel
theorem ck_Mo_alike : (pg_Mo_alike).all (am_chk 7 cX8_alike) = true := by
  unfold pg_Mo_alike
  simp only [List.all_append, Bool.and_eq_true]
  exact ⟨ck_Mo_alike_0, ck_Mo_alike_1, ck_Mo_alike_2⟩
set_option maxRecDepth 100000 in
theorem ck_Mo_lose : (pg_Mo_lose).all (am_chk 7 cX8_lose) = true := by decide +kernel
set_option maxRecDepth 100000 in
theorem ck_Mo_seedsOfAll : (pg_Mo_seedsOfAll).all (am_chk 7 cX8_seedsOfAll) = true := by decide +kernel
set_option maxRecDepth 100000 in
theorem ck_Mo_goers : (pg_Mo_goers).all (am_chk 7 cX8_goers) = true := by decide +kernel
set_option maxRecDepth 100000 in
theorem ck_Mo_boxesThere : (pg_Mo_boxesThere).all (am_chk 7 cX8_boxesThere) = true := by decide +kernel
set_option maxRecDepth 100000 in
theorem ck_Mo_count : (pg_Mo_count).all (am_chk 7 cX8_count) = true := by decide +kernel
set_option maxRecDepth 100000 in
theorem ck_Jd_bitCount : (pg_Jd_bitCount).all (am_chk 9 cJ6_bitCount_0f7a4) = true := by decide +kernel
set_option maxRecDepth 100000 in
theorem ck_La_law_0 : (pg_La_law_0).all (am_chk 10 cL_law) = true := by decide +kernel
set_option maxRecDepth 100000 in
theorem ck_La_law_1 : (pg_La_law_1).all (am_chk 10 cL_law) = true := by decide +kernel
set_option maxRecDepth 100000 in
theorem ck_La_law_2 : (pg_La_law_2).all (am_chk 10 cL_law) = true := by decide +kernel
set_option maxRecDepth 100000 in
theorem ck_La_law_3 : (pg_La_law_3).all (am_chk 10 cL_law) = true := by decide +kernel
set_option maxRecDepth 100000 in
theorem ck_La_law_4 : (pg_La_law_4).all (am_chk 10 cL_law) = true := by decide +kernel
set_option maxRecDepth 100000 in
theorem ck_La_law_5 : (pg_La_law_5).all (am_chk 10 cL_law) = true := by decide +kernel
set_option maxRecDepth 100000 in
theorem ck_La_law_6 : (pg_La_law_6).all (am_chk 10 cL_law) = true := by decide +kernel
set_option maxRecDepth 100000 in
theorem ck_La_law_7 : (pg_La_law_7).all (am_chk 10 cL_law) = true := by decide +kernel
set_option maxRecDepth 100000 in
theorem ck_La_law_8 : (pg_La_law_8).all (am_chk 10 cL_law) = true := by decide +kernel
set_option maxRecDepth 100000 in
theorem ck_La_law_9 : (pg_La_law_9).all (am_chk 10 cL_law) = true := by decide +kernel
set_option maxRecDepth 100000 in
theorem ck_La_law_10 : (pg_La_law_10).all (am_chk 10 cL_law) = true := by decide +kernel
theorem ck_La_law : (pg_La_law).all (am_chk 10 cL_law) = true := by
  unfold pg_La_law
  simp only [List.all_append, Bool.and_eq_true]
  exact ⟨ck_La_law_0, ck_La_law_1, ck_La_law_2, ck_La_law_3, ck_La_law_4, ck_La_law_5, ck_La_law_6, ck_La_law_7, ck_La_law_8, ck_La_law_9, ck_La_law_10⟩
