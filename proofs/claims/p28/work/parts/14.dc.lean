/-! THE CODE, DECODED -/
theorem zall_app {α : Type} {f : α → Bool} {a b : List α} (ha : a.all f = true) (hb : b.all f = true) : (a ++ b).all f = true := by rw [List.all_append, ha, hb]; rfl
theorem zdc0 : zK0.all (zdecB (zby 0)) = true := by decide +kernel
theorem zdc1 : zK1.all (zdecB (zby 1)) = true := by decide +kernel
theorem zdc2 : zK2.all (zdecB (zby 2)) = true := by decide +kernel
theorem zdc3 : zK3.all (zdecB (zby 3)) = true := by decide +kernel
theorem zdc4 : zK4.all (zdecB (zby 4)) = true := by decide +kernel
theorem zdc5 : zK5.all (zdecB (zby 5)) = true := by decide +kernel
theorem zdc6 : zK6.all (zdecB (zby 6)) = true := by decide +kernel
theorem zdc7 : zK7.all (zdecB (zby 7)) = true := by decide +kernel
theorem zdc8 : zK8.all (zdecB (zby 8)) = true := by decide +kernel
theorem zdc9 : zK9.all (zdecB (zby 9)) = true := by decide +kernel
theorem zdc10 : zK10.all (zdecB (zby 10)) = true := by decide +kernel
theorem zdc11 : zK11.all (zdecB (zby 11)) = true := by decide +kernel
theorem zdc12 : zK12.all (zdecB (zby 12)) = true := by decide +kernel
theorem zdc13 : zK13.all (zdecB (zby 13)) = true := by decide +kernel
theorem zdc14 : zK14.all (zdecB (zby 14)) = true := by decide +kernel
theorem zdc15 : zK15.all (zdecB (zby 15)) = true := by decide +kernel
theorem zdc16 : zK16.all (zdecB (zby 16)) = true := by decide +kernel
theorem zdc17 : zK17.all (zdecB (zby 17)) = true := by decide +kernel
theorem zdc18 : zK18.all (zdecB (zby 18)) = true := by decide +kernel
theorem zdc19 : zK19.all (zdecB (zby 19)) = true := by decide +kernel
theorem zdc20 : zK20.all (zdecB (zby 20)) = true := by decide +kernel
theorem zdc21 : zK21.all (zdecB (zby 21)) = true := by decide +kernel
theorem zdc22 : zK22.all (zdecB (zby 22)) = true := by decide +kernel
theorem zdc23 : zK23.all (zdecB (zby 23)) = true := by decide +kernel
theorem zdc24 : zK24.all (zdecB (zby 24)) = true := by decide +kernel
theorem zdc25 : zK25.all (zdecB (zby 25)) = true := by decide +kernel
theorem zdc26 : zK26.all (zdecB (zby 26)) = true := by decide +kernel
theorem zdc27 : zK27.all (zdecB (zby 27)) = true := by decide +kernel
theorem zdc28 : zK28.all (zdecB (zby 28)) = true := by decide +kernel
theorem zdc29 : zK29.all (zdecB (zby 29)) = true := by decide +kernel
theorem zdc30 : zK30.all (zdecB (zby 30)) = true := by decide +kernel
theorem zdc31 : zK31.all (zdecB (zby 31)) = true := by decide +kernel
theorem zdc32 : zK32.all (zdecB (zby 32)) = true := by decide +kernel
theorem zdc33 : zK33.all (zdecB (zby 33)) = true := by decide +kernel
theorem zdc34 : zK34.all (zdecB (zby 34)) = true := by decide +kernel
theorem zdc35 : zK35.all (zdecB (zby 35)) = true := by decide +kernel
theorem zdc36 : zK36.all (zdecB (zby 36)) = true := by decide +kernel
theorem zdc37 : zK37.all (zdecB (zby 37)) = true := by decide +kernel
theorem zdc38 : zK38.all (zdecB (zby 38)) = true := by decide +kernel
theorem zdc39 : zK39.all (zdecB (zby 39)) = true := by decide +kernel
theorem zdc40 : zK40.all (zdecB (zby 40)) = true := by decide +kernel
theorem zdc41 : zK41.all (zdecB (zby 41)) = true := by decide +kernel
theorem zdc42_0 : zK42_0.all (zdecB (zby 42)) = true := by decide +kernel
theorem zdc42_1 : zK42_1.all (zdecB (zby 42)) = true := by decide +kernel
theorem zdc42 : zK42.all (zdecB (zby 42)) = true := (zall_app zdc42_0 zdc42_1)
theorem zdc43 : zK43.all (zdecB (zby 43)) = true := by decide +kernel
theorem zdc44 : zK44.all (zdecB (zby 44)) = true := by decide +kernel
theorem zdc45 : zK45.all (zdecB (zby 45)) = true := by decide +kernel
theorem zdc46 : zK46.all (zdecB (zby 46)) = true := by decide +kernel
theorem zdc47 : zK47.all (zdecB (zby 47)) = true := by decide +kernel
theorem zdc48_0 : zK48_0.all (zdecB (zby 48)) = true := by decide +kernel
theorem zdc48_1 : zK48_1.all (zdecB (zby 48)) = true := by decide +kernel
theorem zdc48 : zK48.all (zdecB (zby 48)) = true := (zall_app zdc48_0 zdc48_1)
theorem zdc49 : zK49.all (zdecB (zby 49)) = true := by decide +kernel
theorem zdc50 : zK50.all (zdecB (zby 50)) = true := by decide +kernel
theorem zdc51 : zK51.all (zdecB (zby 51)) = true := by decide +kernel
theorem zdc52 : zK52.all (zdecB (zby 52)) = true := by decide +kernel
theorem zdc53 : zK53.all (zdecB (zby 53)) = true := by decide +kernel
theorem zdc54 : zK54.all (zdecB (zby 54)) = true := by decide +kernel
theorem zdc55 : zK55.all (zdecB (zby 55)) = true := by decide +kernel
theorem zdc56 : zK56.all (zdecB (zby 56)) = true := by decide +kernel
theorem zdc57 : zK57.all (zdecB (zby 57)) = true := by decide +kernel
theorem zdc58 : zK58.all (zdecB (zby 58)) = true := by decide +kernel
theorem zdc59 : zK59.all (zdecB (zby 59)) = true := by decide +kernel
theorem zdc60 : zK60.all (zdecB (zby 60)) = true := by decide +kernel
theorem zdc61 : zK61.all (zdecB (zby 61)) = true := by decide +kernel
theorem zdc62 : zK62.all (zdecB (zby 62)) = true := by decide +kernel
theorem zdc63 : zK63.all (zdecB (zby 63)) = true := by decide +kernel
theorem zdc64 : zK64.all (zdecB (zby 64)) = true := by decide +kernel
theorem zdc65 : zK65.all (zdecB (zby 65)) = true := by decide +kernel
theorem zdc66 : zK66.all (zdecB (zby 66)) = true := by decide +kernel
theorem zdc67 : zK67.all (zdecB (zby 67)) = true := by decide +kernel
theorem zdc68 : zK68.all (zdecB (zby 68)) = true := by decide +kernel
theorem zdc69 : zK69.all (zdecB (zby 69)) = true := by decide +kernel
theorem zdc70_0 : zK70_0.all (zdecB (zby 70)) = true := by decide +kernel
theorem zdc70_1 : zK70_1.all (zdecB (zby 70)) = true := by decide +kernel
theorem zdc70 : zK70.all (zdecB (zby 70)) = true := (zall_app zdc70_0 zdc70_1)
theorem zdc71 : zK71.all (zdecB (zby 71)) = true := by decide +kernel
theorem zdc72 : zK72.all (zdecB (zby 72)) = true := by decide +kernel
theorem zdc73 : zK73.all (zdecB (zby 73)) = true := by decide +kernel
theorem zdc74 : zK74.all (zdecB (zby 74)) = true := by decide +kernel
theorem zdc75 : zK75.all (zdecB (zby 75)) = true := by decide +kernel
theorem zdc76 : zK76.all (zdecB (zby 76)) = true := by decide +kernel
theorem zdc77 : zK77.all (zdecB (zby 77)) = true := by decide +kernel
theorem zdc78 : zK78.all (zdecB (zby 78)) = true := by decide +kernel
theorem zdc79 : zK79.all (zdecB (zby 79)) = true := by decide +kernel
theorem zdc80 : zK80.all (zdecB (zby 80)) = true := by decide +kernel
theorem zdc81 : zK81.all (zdecB (zby 81)) = true := by decide +kernel
theorem zdc82 : zK82.all (zdecB (zby 82)) = true := by decide +kernel
theorem zdc83 : zK83.all (zdecB (zby 83)) = true := by decide +kernel
theorem zdc84 : zK84.all (zdecB (zby 84)) = true := by decide +kernel
theorem zdc85 : zK85.all (zdecB (zby 85)) = true := by decide +kernel
theorem zdc86 : zK86.all (zdecB (zby 86)) = true := by decide +kernel
theorem zdc87 : zK87.all (zdecB (zby 87)) = true := by decide +kernel
theorem zdc88 : zK88.all (zdecB (zby 88)) = true := by decide +kernel
theorem zdc89 : zK89.all (zdecB (zby 89)) = true := by decide +kernel
theorem zdc90_0 : zK90_0.all (zdecB (zby 90)) = true := by decide +kernel
theorem zdc90_1 : zK90_1.all (zdecB (zby 90)) = true := by decide +kernel
theorem zdc90 : zK90.all (zdecB (zby 90)) = true := (zall_app zdc90_0 zdc90_1)
theorem zdc91 : zK91.all (zdecB (zby 91)) = true := by decide +kernel
theorem zdc92 : zK92.all (zdecB (zby 92)) = true := by decide +kernel
theorem zdc93 : zK93.all (zdecB (zby 93)) = true := by decide +kernel
theorem zdc94 : zK94.all (zdecB (zby 94)) = true := by decide +kernel
theorem zdc95 : zK95.all (zdecB (zby 95)) = true := by decide +kernel
theorem zdc96 : zK96.all (zdecB (zby 96)) = true := by decide +kernel
theorem zdc97 : zK97.all (zdecB (zby 97)) = true := by decide +kernel
theorem zdc98 : zK98.all (zdecB (zby 98)) = true := by decide +kernel
theorem zdc99 : zK99.all (zdecB (zby 99)) = true := by decide +kernel
theorem zdc100_0 : zK100_0.all (zdecB (zby 100)) = true := by decide +kernel
theorem zdc100_1 : zK100_1.all (zdecB (zby 100)) = true := by decide +kernel
theorem zdc100 : zK100.all (zdecB (zby 100)) = true := (zall_app zdc100_0 zdc100_1)
theorem zdc101 : zK101.all (zdecB (zby 101)) = true := by decide +kernel
theorem zdc102 : zK102.all (zdecB (zby 102)) = true := by decide +kernel
theorem zdc103 : zK103.all (zdecB (zby 103)) = true := by decide +kernel
theorem zdc104 : zK104.all (zdecB (zby 104)) = true := by decide +kernel
theorem zdc105_0 : zK105_0.all (zdecB (zby 105)) = true := by decide +kernel
theorem zdc105_1 : zK105_1.all (zdecB (zby 105)) = true := by decide +kernel
theorem zdc105 : zK105.all (zdecB (zby 105)) = true := (zall_app zdc105_0 zdc105_1)
theorem zdc106 : zK106.all (zdecB (zby 106)) = true := by decide +kernel
theorem zdc107 : zK107.all (zdecB (zby 107)) = true := by decide +kernel
theorem zdc108 : zK108.all (zdecB (zby 108)) = true := by decide +kernel
theorem zdc109 : zK109.all (zdecB (zby 109)) = true := by decide +kernel
theorem zdc110 : zK110.all (zdecB (zby 110)) = true := by decide +kernel
theorem zdc111 : zK111.all (zdecB (zby 111)) = true := by decide +kernel
theorem zdc112 : zK112.all (zdecB (zby 112)) = true := by decide +kernel
theorem zdc113 : zK113.all (zdecB (zby 113)) = true := by decide +kernel
theorem zdc114 : zK114.all (zdecB (zby 114)) = true := by decide +kernel
theorem zdc115 : zK115.all (zdecB (zby 115)) = true := by decide +kernel
theorem zdc116 : zK116.all (zdecB (zby 116)) = true := by decide +kernel
theorem zdc117 : zK117.all (zdecB (zby 117)) = true := by decide +kernel
theorem zdc118 : zK118.all (zdecB (zby 118)) = true := by decide +kernel
theorem zdc119 : zK119.all (zdecB (zby 119)) = true := by decide +kernel
theorem zdc120 : zK120.all (zdecB (zby 120)) = true := by decide +kernel
theorem zdc121 : zK121.all (zdecB (zby 121)) = true := by decide +kernel
theorem zdc122 : zK122.all (zdecB (zby 122)) = true := by decide +kernel
theorem zdc123 : zK123.all (zdecB (zby 123)) = true := by decide +kernel
theorem zdc124 : zK124.all (zdecB (zby 124)) = true := by decide +kernel
theorem zdc125 : zK125.all (zdecB (zby 125)) = true := by decide +kernel
theorem zdc126_0 : zK126_0.all (zdecB (zby 126)) = true := by decide +kernel
theorem zdc126_1 : zK126_1.all (zdecB (zby 126)) = true := by decide +kernel
theorem zdc126_2 : zK126_2.all (zdecB (zby 126)) = true := by decide +kernel
theorem zdc126_3 : zK126_3.all (zdecB (zby 126)) = true := by decide +kernel
theorem zdc126_4 : zK126_4.all (zdecB (zby 126)) = true := by decide +kernel
theorem zdc126_5 : zK126_5.all (zdecB (zby 126)) = true := by decide +kernel
theorem zdc126_6 : zK126_6.all (zdecB (zby 126)) = true := by decide +kernel
theorem zdc126_7 : zK126_7.all (zdecB (zby 126)) = true := by decide +kernel
theorem zdc126_8 : zK126_8.all (zdecB (zby 126)) = true := by decide +kernel
theorem zdc126_9 : zK126_9.all (zdecB (zby 126)) = true := by decide +kernel
theorem zdc126_10 : zK126_10.all (zdecB (zby 126)) = true := by decide +kernel
theorem zdc126_11 : zK126_11.all (zdecB (zby 126)) = true := by decide +kernel
theorem zdc126_12 : zK126_12.all (zdecB (zby 126)) = true := by decide +kernel
theorem zdc126_13 : zK126_13.all (zdecB (zby 126)) = true := by decide +kernel
theorem zdc126 : zK126.all (zdecB (zby 126)) = true := (zall_app zdc126_0 (zall_app zdc126_1 (zall_app zdc126_2 (zall_app zdc126_3 (zall_app zdc126_4 (zall_app zdc126_5 (zall_app zdc126_6 (zall_app zdc126_7 (zall_app zdc126_8 (zall_app zdc126_9 (zall_app zdc126_10 (zall_app zdc126_11 (zall_app zdc126_12 zdc126_13)))))))))))))
theorem zdc127 : zK127.all (zdecB (zby 127)) = true := by decide +kernel
theorem zdc128 : zK128.all (zdecB (zby 128)) = true := by decide +kernel
theorem zdc129 : zK129.all (zdecB (zby 129)) = true := by decide +kernel
theorem zdc130 : zK130.all (zdecB (zby 130)) = true := by decide +kernel
theorem zdc131 : zK131.all (zdecB (zby 131)) = true := by decide +kernel
theorem zdc132 : zK132.all (zdecB (zby 132)) = true := by decide +kernel
theorem zdc133 : zK133.all (zdecB (zby 133)) = true := by decide +kernel
theorem zdc134 : zK134.all (zdecB (zby 134)) = true := by decide +kernel
theorem zdc135 : zK135.all (zdecB (zby 135)) = true := by decide +kernel
theorem zdc136 : zK136.all (zdecB (zby 136)) = true := by decide +kernel
theorem zdc137 : zK137.all (zdecB (zby 137)) = true := by decide +kernel
theorem zdc138 : zK138.all (zdecB (zby 138)) = true := by decide +kernel
theorem zdc139 : zK139.all (zdecB (zby 139)) = true := by decide +kernel
theorem zdc140 : zK140.all (zdecB (zby 140)) = true := by decide +kernel
theorem zdc141 : zK141.all (zdecB (zby 141)) = true := by decide +kernel
theorem zdc142 : zK142.all (zdecB (zby 142)) = true := by decide +kernel
theorem zdc143 : zK143.all (zdecB (zby 143)) = true := by decide +kernel
theorem zdc144 : zK144.all (zdecB (zby 144)) = true := by decide +kernel
theorem zdc145 : zK145.all (zdecB (zby 145)) = true := by decide +kernel
theorem zdc146 : zK146.all (zdecB (zby 146)) = true := by decide +kernel
theorem zdc147 : zK147.all (zdecB (zby 147)) = true := by decide +kernel
theorem zdc148 : zK148.all (zdecB (zby 148)) = true := by decide +kernel
theorem zdc149 : zK149.all (zdecB (zby 149)) = true := by decide +kernel
theorem zdc150 : zK150.all (zdecB (zby 150)) = true := by decide +kernel
theorem zdc151 : zK151.all (zdecB (zby 151)) = true := by decide +kernel
theorem zdc152 : zK152.all (zdecB (zby 152)) = true := by decide +kernel
theorem zdc153 : zK153.all (zdecB (zby 153)) = true := by decide +kernel
theorem zdc154 : zK154.all (zdecB (zby 154)) = true := by decide +kernel
theorem zdc155 : zK155.all (zdecB (zby 155)) = true := by decide +kernel
theorem zdc156 : zK156.all (zdecB (zby 156)) = true := by decide +kernel
theorem zdc157 : zK157.all (zdecB (zby 157)) = true := by decide +kernel
theorem zdc158 : zK158.all (zdecB (zby 158)) = true := by decide +kernel
theorem zdc159 : zK159.all (zdecB (zby 159)) = true := by decide +kernel
theorem zdc160 : zK160.all (zdecB (zby 160)) = true := by decide +kernel
theorem zdc161 : zK161.all (zdecB (zby 161)) = true := by decide +kernel
theorem zdc162 : zK162.all (zdecB (zby 162)) = true := by decide +kernel
theorem zdc163 : zK163.all (zdecB (zby 163)) = true := by decide +kernel
theorem zdc164 : zK164.all (zdecB (zby 164)) = true := by decide +kernel
theorem zdc165 : zK165.all (zdecB (zby 165)) = true := by decide +kernel
theorem zdc166 : zK166.all (zdecB (zby 166)) = true := by decide +kernel
theorem zdc167 : zK167.all (zdecB (zby 167)) = true := by decide +kernel
theorem zdc168 : zK168.all (zdecB (zby 168)) = true := by decide +kernel
theorem zdc169 : zK169.all (zdecB (zby 169)) = true := by decide +kernel
theorem zdc170 : zK170.all (zdecB (zby 170)) = true := by decide +kernel
theorem zdc171 : zK171.all (zdecB (zby 171)) = true := by decide +kernel
theorem zdc172 : zK172.all (zdecB (zby 172)) = true := by decide +kernel
theorem zdc173 : zK173.all (zdecB (zby 173)) = true := by decide +kernel
theorem zdc174 : zK174.all (zdecB (zby 174)) = true := by decide +kernel
theorem zdc175 : zK175.all (zdecB (zby 175)) = true := by decide +kernel
theorem zdc176 : zK176.all (zdecB (zby 176)) = true := by decide +kernel
theorem zdc177 : zK177.all (zdecB (zby 177)) = true := by decide +kernel
theorem zdc178 : zK178.all (zdecB (zby 178)) = true := by decide +kernel
theorem zdc179 : zK179.all (zdecB (zby 179)) = true := by decide +kernel
theorem zdc180 : zK180.all (zdecB (zby 180)) = true := by decide +kernel
theorem zdc181 : zK181.all (zdecB (zby 181)) = true := by decide +kernel
theorem zdc182 : zK182.all (zdecB (zby 182)) = true := by decide +kernel
theorem zdc183 : zK183.all (zdecB (zby 183)) = true := by decide +kernel
theorem zdc184 : zK184.all (zdecB (zby 184)) = true := by decide +kernel
theorem zdc185 : zK185.all (zdecB (zby 185)) = true := by decide +kernel
theorem zdc186 : zK186.all (zdecB (zby 186)) = true := by decide +kernel
theorem zdc187 : zK187.all (zdecB (zby 187)) = true := by decide +kernel
theorem zdc188 : zK188.all (zdecB (zby 188)) = true := by decide +kernel
theorem zdc189 : zK189.all (zdecB (zby 189)) = true := by decide +kernel
theorem zdc190 : zK190.all (zdecB (zby 190)) = true := by decide +kernel
theorem zdc191 : zK191.all (zdecB (zby 191)) = true := by decide +kernel
theorem zdc192 : zK192.all (zdecB (zby 192)) = true := by decide +kernel
theorem zdc193 : zK193.all (zdecB (zby 193)) = true := by decide +kernel
theorem zdc194 : zK194.all (zdecB (zby 194)) = true := by decide +kernel
theorem zdc195 : zK195.all (zdecB (zby 195)) = true := by decide +kernel
theorem zdc196 : zK196.all (zdecB (zby 196)) = true := by decide +kernel
theorem zdc197 : zK197.all (zdecB (zby 197)) = true := by decide +kernel
theorem zdc198 : zK198.all (zdecB (zby 198)) = true := by decide +kernel
theorem zdc199 : zK199.all (zdecB (zby 199)) = true := by decide +kernel
theorem zdc200 : zK200.all (zdecB (zby 200)) = true := by decide +kernel
theorem zdc201 : zK201.all (zdecB (zby 201)) = true := by decide +kernel
theorem zdc202 : zK202.all (zdecB (zby 202)) = true := by decide +kernel
theorem zdc203 : zK203.all (zdecB (zby 203)) = true := by decide +kernel
theorem zdc204 : zK204.all (zdecB (zby 204)) = true := by decide +kernel
theorem zdc205 : zK205.all (zdecB (zby 205)) = true := by decide +kernel
theorem zdc206 : zK206.all (zdecB (zby 206)) = true := by decide +kernel
theorem zdc207 : zK207.all (zdecB (zby 207)) = true := by decide +kernel
theorem zdc208 : zK208.all (zdecB (zby 208)) = true := by decide +kernel
theorem zdc209 : zK209.all (zdecB (zby 209)) = true := by decide +kernel
theorem zdc210_0 : zK210_0.all (zdecB (zby 210)) = true := by decide +kernel
theorem zdc210_1 : zK210_1.all (zdecB (zby 210)) = true := by decide +kernel
theorem zdc210_2 : zK210_2.all (zdecB (zby 210)) = true := by decide +kernel
theorem zdc210_3 : zK210_3.all (zdecB (zby 210)) = true := by decide +kernel
theorem zdc210_4 : zK210_4.all (zdecB (zby 210)) = true := by decide +kernel
theorem zdc210_5 : zK210_5.all (zdecB (zby 210)) = true := by decide +kernel
theorem zdc210_6 : zK210_6.all (zdecB (zby 210)) = true := by decide +kernel
theorem zdc210_7 : zK210_7.all (zdecB (zby 210)) = true := by decide +kernel
theorem zdc210_8 : zK210_8.all (zdecB (zby 210)) = true := by decide +kernel
theorem zdc210_9 : zK210_9.all (zdecB (zby 210)) = true := by decide +kernel
theorem zdc210_10 : zK210_10.all (zdecB (zby 210)) = true := by decide +kernel
theorem zdc210_11 : zK210_11.all (zdecB (zby 210)) = true := by decide +kernel
theorem zdc210_12 : zK210_12.all (zdecB (zby 210)) = true := by decide +kernel
theorem zdc210_13 : zK210_13.all (zdecB (zby 210)) = true := by decide +kernel
theorem zdc210_14 : zK210_14.all (zdecB (zby 210)) = true := by decide +kernel
theorem zdc210_15 : zK210_15.all (zdecB (zby 210)) = true := by decide +kernel
theorem zdc210_16 : zK210_16.all (zdecB (zby 210)) = true := by decide +kernel
theorem zdc210_17 : zK210_17.all (zdecB (zby 210)) = true := by decide +kernel
theorem zdc210_18 : zK210_18.all (zdecB (zby 210)) = true := by decide +kernel
theorem zdc210_19 : zK210_19.all (zdecB (zby 210)) = true := by decide +kernel
theorem zdc210_20 : zK210_20.all (zdecB (zby 210)) = true := by decide +kernel
theorem zdc210_21 : zK210_21.all (zdecB (zby 210)) = true := by decide +kernel
theorem zdc210_22 : zK210_22.all (zdecB (zby 210)) = true := by decide +kernel
theorem zdc210_23 : zK210_23.all (zdecB (zby 210)) = true := by decide +kernel
theorem zdc210_24 : zK210_24.all (zdecB (zby 210)) = true := by decide +kernel
theorem zdc210 : zK210.all (zdecB (zby 210)) = true := (zall_app zdc210_0 (zall_app zdc210_1 (zall_app zdc210_2 (zall_app zdc210_3 (zall_app zdc210_4 (zall_app zdc210_5 (zall_app zdc210_6 (zall_app zdc210_7 (zall_app zdc210_8 (zall_app zdc210_9 (zall_app zdc210_10 (zall_app zdc210_11 (zall_app zdc210_12 (zall_app zdc210_13 (zall_app zdc210_14 (zall_app zdc210_15 (zall_app zdc210_16 (zall_app zdc210_17 (zall_app zdc210_18 (zall_app zdc210_19 (zall_app zdc210_20 (zall_app zdc210_21 (zall_app zdc210_22 (zall_app zdc210_23 zdc210_24))))))))))))))))))))))))
theorem zdcA0 : ∀ m, m < 1 → ((zKs[m]?).getD []).all (zdecB (zby m)) = true := fun m h => by have e : m = 0 := (by omega); rw [e]; exact zdc0
theorem zdcA1 : ∀ m, m < 2 → ((zKs[m]?).getD []).all (zdecB (zby m)) = true := fun m h => (Nat.lt_succ_iff_lt_or_eq.mp h).elim (zdcA0 m) (fun e => by rw [e]; exact zdc1)
theorem zdcA2 : ∀ m, m < 3 → ((zKs[m]?).getD []).all (zdecB (zby m)) = true := fun m h => (Nat.lt_succ_iff_lt_or_eq.mp h).elim (zdcA1 m) (fun e => by rw [e]; exact zdc2)
theorem zdcA3 : ∀ m, m < 4 → ((zKs[m]?).getD []).all (zdecB (zby m)) = true := fun m h => (Nat.lt_succ_iff_lt_or_eq.mp h).elim (zdcA2 m) (fun e => by rw [e]; exact zdc3)
theorem zdcA4 : ∀ m, m < 5 → ((zKs[m]?).getD []).all (zdecB (zby m)) = true := fun m h => (Nat.lt_succ_iff_lt_or_eq.mp h).elim (zdcA3 m) (fun e => by rw [e]; exact zdc4)
theorem zdcA5 : ∀ m, m < 6 → ((zKs[m]?).getD []).all (zdecB (zby m)) = true := fun m h => (Nat.lt_succ_iff_lt_or_eq.mp h).elim (zdcA4 m) (fun e => by rw [e]; exact zdc5)
theorem zdcA6 : ∀ m, m < 7 → ((zKs[m]?).getD []).all (zdecB (zby m)) = true := fun m h => (Nat.lt_succ_iff_lt_or_eq.mp h).elim (zdcA5 m) (fun e => by rw [e]; exact zdc6)
theorem zdcA7 : ∀ m, m < 8 → ((zKs[m]?).getD []).all (zdecB (zby m)) = true := fun m h => (Nat.lt_succ_iff_lt_or_eq.mp h).elim (zdcA6 m) (fun e => by rw [e]; exact zdc7)
theorem zdcA8 : ∀ m, m < 9 → ((zKs[m]?).getD []).all (zdecB (zby m)) = true := fun m h => (Nat.lt_succ_iff_lt_or_eq.mp h).elim (zdcA7 m) (fun e => by rw [e]; exact zdc8)
theorem zdcA9 : ∀ m, m < 10 → ((zKs[m]?).getD []).all (zdecB (zby m)) = true := fun m h => (Nat.lt_succ_iff_lt_or_eq.mp h).elim (zdcA8 m) (fun e => by rw [e]; exact zdc9)
theorem zdcA10 : ∀ m, m < 11 → ((zKs[m]?).getD []).all (zdecB (zby m)) = true := fun m h => (Nat.lt_succ_iff_lt_or_eq.mp h).elim (zdcA9 m) (fun e => by rw [e]; exact zdc10)
theorem zdcA11 : ∀ m, m < 12 → ((zKs[m]?).getD []).all (zdecB (zby m)) = true := fun m h => (Nat.lt_succ_iff_lt_or_eq.mp h).elim (zdcA10 m) (fun e => by rw [e]; exact zdc11)
theorem zdcA12 : ∀ m, m < 13 → ((zKs[m]?).getD []).all (zdecB (zby m)) = true := fun m h => (Nat.lt_succ_iff_lt_or_eq.mp h).elim (zdcA11 m) (fun e => by rw [e]; exact zdc12)
theorem zdcA13 : ∀ m, m < 14 → ((zKs[m]?).getD []).all (zdecB (zby m)) = true := fun m h => (Nat.lt_succ_iff_lt_or_eq.mp h).elim (zdcA12 m) (fun e => by rw [e]; exact zdc13)
theorem zdcA14 : ∀ m, m < 15 → ((zKs[m]?).getD []).all (zdecB (zby m)) = true := fun m h => (Nat.lt_succ_iff_lt_or_eq.mp h).elim (zdcA13 m) (fun e => by rw [e]; exact zdc14)
theorem zdcA15 : ∀ m, m < 16 → ((zKs[m]?).getD []).all (zdecB (zby m)) = true := fun m h => (Nat.lt_succ_iff_lt_or_eq.mp h).elim (zdcA14 m) (fun e => by rw [e]; exact zdc15)
theorem zdcA16 : ∀ m, m < 17 → ((zKs[m]?).getD []).all (zdecB (zby m)) = true := fun m h => (Nat.lt_succ_iff_lt_or_eq.mp h).elim (zdcA15 m) (fun e => by rw [e]; exact zdc16)
theorem zdcA17 : ∀ m, m < 18 → ((zKs[m]?).getD []).all (zdecB (zby m)) = true := fun m h => (Nat.lt_succ_iff_lt_or_eq.mp h).elim (zdcA16 m) (fun e => by rw [e]; exact zdc17)
theorem zdcA18 : ∀ m, m < 19 → ((zKs[m]?).getD []).all (zdecB (zby m)) = true := fun m h => (Nat.lt_succ_iff_lt_or_eq.mp h).elim (zdcA17 m) (fun e => by rw [e]; exact zdc18)
theorem zdcA19 : ∀ m, m < 20 → ((zKs[m]?).getD []).all (zdecB (zby m)) = true := fun m h => (Nat.lt_succ_iff_lt_or_eq.mp h).elim (zdcA18 m) (fun e => by rw [e]; exact zdc19)
theorem zdcA20 : ∀ m, m < 21 → ((zKs[m]?).getD []).all (zdecB (zby m)) = true := fun m h => (Nat.lt_succ_iff_lt_or_eq.mp h).elim (zdcA19 m) (fun e => by rw [e]; exact zdc20)
theorem zdcA21 : ∀ m, m < 22 → ((zKs[m]?).getD []).all (zdecB (zby m)) = true := fun m h => (Nat.lt_succ_iff_lt_or_eq.mp h).elim (zdcA20 m) (fun e => by rw [e]; exact zdc21)
theorem zdcA22 : ∀ m, m < 23 → ((zKs[m]?).getD []).all (zdecB (zby m)) = true := fun m h => (Nat.lt_succ_iff_lt_or_eq.mp h).elim (zdcA21 m) (fun e => by rw [e]; exact zdc22)
theorem zdcA23 : ∀ m, m < 24 → ((zKs[m]?).getD []).all (zdecB (zby m)) = true := fun m h => (Nat.lt_succ_iff_lt_or_eq.mp h).elim (zdcA22 m) (fun e => by rw [e]; exact zdc23)
theorem zdcA24 : ∀ m, m < 25 → ((zKs[m]?).getD []).all (zdecB (zby m)) = true := fun m h => (Nat.lt_succ_iff_lt_or_eq.mp h).elim (zdcA23 m) (fun e => by rw [e]; exact zdc24)
theorem zdcA25 : ∀ m, m < 26 → ((zKs[m]?).getD []).all (zdecB (zby m)) = true := fun m h => (Nat.lt_succ_iff_lt_or_eq.mp h).elim (zdcA24 m) (fun e => by rw [e]; exact zdc25)
theorem zdcA26 : ∀ m, m < 27 → ((zKs[m]?).getD []).all (zdecB (zby m)) = true := fun m h => (Nat.lt_succ_iff_lt_or_eq.mp h).elim (zdcA25 m) (fun e => by rw [e]; exact zdc26)
theorem zdcA27 : ∀ m, m < 28 → ((zKs[m]?).getD []).all (zdecB (zby m)) = true := fun m h => (Nat.lt_succ_iff_lt_or_eq.mp h).elim (zdcA26 m) (fun e => by rw [e]; exact zdc27)
theorem zdcA28 : ∀ m, m < 29 → ((zKs[m]?).getD []).all (zdecB (zby m)) = true := fun m h => (Nat.lt_succ_iff_lt_or_eq.mp h).elim (zdcA27 m) (fun e => by rw [e]; exact zdc28)
theorem zdcA29 : ∀ m, m < 30 → ((zKs[m]?).getD []).all (zdecB (zby m)) = true := fun m h => (Nat.lt_succ_iff_lt_or_eq.mp h).elim (zdcA28 m) (fun e => by rw [e]; exact zdc29)
theorem zdcA30 : ∀ m, m < 31 → ((zKs[m]?).getD []).all (zdecB (zby m)) = true := fun m h => (Nat.lt_succ_iff_lt_or_eq.mp h).elim (zdcA29 m) (fun e => by rw [e]; exact zdc30)
theorem zdcA31 : ∀ m, m < 32 → ((zKs[m]?).getD []).all (zdecB (zby m)) = true := fun m h => (Nat.lt_succ_iff_lt_or_eq.mp h).elim (zdcA30 m) (fun e => by rw [e]; exact zdc31)
theorem zdcA32 : ∀ m, m < 33 → ((zKs[m]?).getD []).all (zdecB (zby m)) = true := fun m h => (Nat.lt_succ_iff_lt_or_eq.mp h).elim (zdcA31 m) (fun e => by rw [e]; exact zdc32)
theorem zdcA33 : ∀ m, m < 34 → ((zKs[m]?).getD []).all (zdecB (zby m)) = true := fun m h => (Nat.lt_succ_iff_lt_or_eq.mp h).elim (zdcA32 m) (fun e => by rw [e]; exact zdc33)
theorem zdcA34 : ∀ m, m < 35 → ((zKs[m]?).getD []).all (zdecB (zby m)) = true := fun m h => (Nat.lt_succ_iff_lt_or_eq.mp h).elim (zdcA33 m) (fun e => by rw [e]; exact zdc34)
theorem zdcA35 : ∀ m, m < 36 → ((zKs[m]?).getD []).all (zdecB (zby m)) = true := fun m h => (Nat.lt_succ_iff_lt_or_eq.mp h).elim (zdcA34 m) (fun e => by rw [e]; exact zdc35)
theorem zdcA36 : ∀ m, m < 37 → ((zKs[m]?).getD []).all (zdecB (zby m)) = true := fun m h => (Nat.lt_succ_iff_lt_or_eq.mp h).elim (zdcA35 m) (fun e => by rw [e]; exact zdc36)
theorem zdcA37 : ∀ m, m < 38 → ((zKs[m]?).getD []).all (zdecB (zby m)) = true := fun m h => (Nat.lt_succ_iff_lt_or_eq.mp h).elim (zdcA36 m) (fun e => by rw [e]; exact zdc37)
theorem zdcA38 : ∀ m, m < 39 → ((zKs[m]?).getD []).all (zdecB (zby m)) = true := fun m h => (Nat.lt_succ_iff_lt_or_eq.mp h).elim (zdcA37 m) (fun e => by rw [e]; exact zdc38)
theorem zdcA39 : ∀ m, m < 40 → ((zKs[m]?).getD []).all (zdecB (zby m)) = true := fun m h => (Nat.lt_succ_iff_lt_or_eq.mp h).elim (zdcA38 m) (fun e => by rw [e]; exact zdc39)
theorem zdcA40 : ∀ m, m < 41 → ((zKs[m]?).getD []).all (zdecB (zby m)) = true := fun m h => (Nat.lt_succ_iff_lt_or_eq.mp h).elim (zdcA39 m) (fun e => by rw [e]; exact zdc40)
theorem zdcA41 : ∀ m, m < 42 → ((zKs[m]?).getD []).all (zdecB (zby m)) = true := fun m h => (Nat.lt_succ_iff_lt_or_eq.mp h).elim (zdcA40 m) (fun e => by rw [e]; exact zdc41)
theorem zdcA42 : ∀ m, m < 43 → ((zKs[m]?).getD []).all (zdecB (zby m)) = true := fun m h => (Nat.lt_succ_iff_lt_or_eq.mp h).elim (zdcA41 m) (fun e => by rw [e]; exact zdc42)
theorem zdcA43 : ∀ m, m < 44 → ((zKs[m]?).getD []).all (zdecB (zby m)) = true := fun m h => (Nat.lt_succ_iff_lt_or_eq.mp h).elim (zdcA42 m) (fun e => by rw [e]; exact zdc43)
theorem zdcA44 : ∀ m, m < 45 → ((zKs[m]?).getD []).all (zdecB (zby m)) = true := fun m h => (Nat.lt_succ_iff_lt_or_eq.mp h).elim (zdcA43 m) (fun e => by rw [e]; exact zdc44)
theorem zdcA45 : ∀ m, m < 46 → ((zKs[m]?).getD []).all (zdecB (zby m)) = true := fun m h => (Nat.lt_succ_iff_lt_or_eq.mp h).elim (zdcA44 m) (fun e => by rw [e]; exact zdc45)
theorem zdcA46 : ∀ m, m < 47 → ((zKs[m]?).getD []).all (zdecB (zby m)) = true := fun m h => (Nat.lt_succ_iff_lt_or_eq.mp h).elim (zdcA45 m) (fun e => by rw [e]; exact zdc46)
theorem zdcA47 : ∀ m, m < 48 → ((zKs[m]?).getD []).all (zdecB (zby m)) = true := fun m h => (Nat.lt_succ_iff_lt_or_eq.mp h).elim (zdcA46 m) (fun e => by rw [e]; exact zdc47)
theorem zdcA48 : ∀ m, m < 49 → ((zKs[m]?).getD []).all (zdecB (zby m)) = true := fun m h => (Nat.lt_succ_iff_lt_or_eq.mp h).elim (zdcA47 m) (fun e => by rw [e]; exact zdc48)
theorem zdcA49 : ∀ m, m < 50 → ((zKs[m]?).getD []).all (zdecB (zby m)) = true := fun m h => (Nat.lt_succ_iff_lt_or_eq.mp h).elim (zdcA48 m) (fun e => by rw [e]; exact zdc49)
theorem zdcA50 : ∀ m, m < 51 → ((zKs[m]?).getD []).all (zdecB (zby m)) = true := fun m h => (Nat.lt_succ_iff_lt_or_eq.mp h).elim (zdcA49 m) (fun e => by rw [e]; exact zdc50)
theorem zdcA51 : ∀ m, m < 52 → ((zKs[m]?).getD []).all (zdecB (zby m)) = true := fun m h => (Nat.lt_succ_iff_lt_or_eq.mp h).elim (zdcA50 m) (fun e => by rw [e]; exact zdc51)
theorem zdcA52 : ∀ m, m < 53 → ((zKs[m]?).getD []).all (zdecB (zby m)) = true := fun m h => (Nat.lt_succ_iff_lt_or_eq.mp h).elim (zdcA51 m) (fun e => by rw [e]; exact zdc52)
theorem zdcA53 : ∀ m, m < 54 → ((zKs[m]?).getD []).all (zdecB (zby m)) = true := fun m h => (Nat.lt_succ_iff_lt_or_eq.mp h).elim (zdcA52 m) (fun e => by rw [e]; exact zdc53)
theorem zdcA54 : ∀ m, m < 55 → ((zKs[m]?).getD []).all (zdecB (zby m)) = true := fun m h => (Nat.lt_succ_iff_lt_or_eq.mp h).elim (zdcA53 m) (fun e => by rw [e]; exact zdc54)
theorem zdcA55 : ∀ m, m < 56 → ((zKs[m]?).getD []).all (zdecB (zby m)) = true := fun m h => (Nat.lt_succ_iff_lt_or_eq.mp h).elim (zdcA54 m) (fun e => by rw [e]; exact zdc55)
theorem zdcA56 : ∀ m, m < 57 → ((zKs[m]?).getD []).all (zdecB (zby m)) = true := fun m h => (Nat.lt_succ_iff_lt_or_eq.mp h).elim (zdcA55 m) (fun e => by rw [e]; exact zdc56)
theorem zdcA57 : ∀ m, m < 58 → ((zKs[m]?).getD []).all (zdecB (zby m)) = true := fun m h => (Nat.lt_succ_iff_lt_or_eq.mp h).elim (zdcA56 m) (fun e => by rw [e]; exact zdc57)
theorem zdcA58 : ∀ m, m < 59 → ((zKs[m]?).getD []).all (zdecB (zby m)) = true := fun m h => (Nat.lt_succ_iff_lt_or_eq.mp h).elim (zdcA57 m) (fun e => by rw [e]; exact zdc58)
theorem zdcA59 : ∀ m, m < 60 → ((zKs[m]?).getD []).all (zdecB (zby m)) = true := fun m h => (Nat.lt_succ_iff_lt_or_eq.mp h).elim (zdcA58 m) (fun e => by rw [e]; exact zdc59)
theorem zdcA60 : ∀ m, m < 61 → ((zKs[m]?).getD []).all (zdecB (zby m)) = true := fun m h => (Nat.lt_succ_iff_lt_or_eq.mp h).elim (zdcA59 m) (fun e => by rw [e]; exact zdc60)
theorem zdcA61 : ∀ m, m < 62 → ((zKs[m]?).getD []).all (zdecB (zby m)) = true := fun m h => (Nat.lt_succ_iff_lt_or_eq.mp h).elim (zdcA60 m) (fun e => by rw [e]; exact zdc61)
theorem zdcA62 : ∀ m, m < 63 → ((zKs[m]?).getD []).all (zdecB (zby m)) = true := fun m h => (Nat.lt_succ_iff_lt_or_eq.mp h).elim (zdcA61 m) (fun e => by rw [e]; exact zdc62)
theorem zdcA63 : ∀ m, m < 64 → ((zKs[m]?).getD []).all (zdecB (zby m)) = true := fun m h => (Nat.lt_succ_iff_lt_or_eq.mp h).elim (zdcA62 m) (fun e => by rw [e]; exact zdc63)
theorem zdcA64 : ∀ m, m < 65 → ((zKs[m]?).getD []).all (zdecB (zby m)) = true := fun m h => (Nat.lt_succ_iff_lt_or_eq.mp h).elim (zdcA63 m) (fun e => by rw [e]; exact zdc64)
theorem zdcA65 : ∀ m, m < 66 → ((zKs[m]?).getD []).all (zdecB (zby m)) = true := fun m h => (Nat.lt_succ_iff_lt_or_eq.mp h).elim (zdcA64 m) (fun e => by rw [e]; exact zdc65)
theorem zdcA66 : ∀ m, m < 67 → ((zKs[m]?).getD []).all (zdecB (zby m)) = true := fun m h => (Nat.lt_succ_iff_lt_or_eq.mp h).elim (zdcA65 m) (fun e => by rw [e]; exact zdc66)
theorem zdcA67 : ∀ m, m < 68 → ((zKs[m]?).getD []).all (zdecB (zby m)) = true := fun m h => (Nat.lt_succ_iff_lt_or_eq.mp h).elim (zdcA66 m) (fun e => by rw [e]; exact zdc67)
theorem zdcA68 : ∀ m, m < 69 → ((zKs[m]?).getD []).all (zdecB (zby m)) = true := fun m h => (Nat.lt_succ_iff_lt_or_eq.mp h).elim (zdcA67 m) (fun e => by rw [e]; exact zdc68)
theorem zdcA69 : ∀ m, m < 70 → ((zKs[m]?).getD []).all (zdecB (zby m)) = true := fun m h => (Nat.lt_succ_iff_lt_or_eq.mp h).elim (zdcA68 m) (fun e => by rw [e]; exact zdc69)
theorem zdcA70 : ∀ m, m < 71 → ((zKs[m]?).getD []).all (zdecB (zby m)) = true := fun m h => (Nat.lt_succ_iff_lt_or_eq.mp h).elim (zdcA69 m) (fun e => by rw [e]; exact zdc70)
theorem zdcA71 : ∀ m, m < 72 → ((zKs[m]?).getD []).all (zdecB (zby m)) = true := fun m h => (Nat.lt_succ_iff_lt_or_eq.mp h).elim (zdcA70 m) (fun e => by rw [e]; exact zdc71)
theorem zdcA72 : ∀ m, m < 73 → ((zKs[m]?).getD []).all (zdecB (zby m)) = true := fun m h => (Nat.lt_succ_iff_lt_or_eq.mp h).elim (zdcA71 m) (fun e => by rw [e]; exact zdc72)
theorem zdcA73 : ∀ m, m < 74 → ((zKs[m]?).getD []).all (zdecB (zby m)) = true := fun m h => (Nat.lt_succ_iff_lt_or_eq.mp h).elim (zdcA72 m) (fun e => by rw [e]; exact zdc73)
theorem zdcA74 : ∀ m, m < 75 → ((zKs[m]?).getD []).all (zdecB (zby m)) = true := fun m h => (Nat.lt_succ_iff_lt_or_eq.mp h).elim (zdcA73 m) (fun e => by rw [e]; exact zdc74)
theorem zdcA75 : ∀ m, m < 76 → ((zKs[m]?).getD []).all (zdecB (zby m)) = true := fun m h => (Nat.lt_succ_iff_lt_or_eq.mp h).elim (zdcA74 m) (fun e => by rw [e]; exact zdc75)
theorem zdcA76 : ∀ m, m < 77 → ((zKs[m]?).getD []).all (zdecB (zby m)) = true := fun m h => (Nat.lt_succ_iff_lt_or_eq.mp h).elim (zdcA75 m) (fun e => by rw [e]; exact zdc76)
theorem zdcA77 : ∀ m, m < 78 → ((zKs[m]?).getD []).all (zdecB (zby m)) = true := fun m h => (Nat.lt_succ_iff_lt_or_eq.mp h).elim (zdcA76 m) (fun e => by rw [e]; exact zdc77)
theorem zdcA78 : ∀ m, m < 79 → ((zKs[m]?).getD []).all (zdecB (zby m)) = true := fun m h => (Nat.lt_succ_iff_lt_or_eq.mp h).elim (zdcA77 m) (fun e => by rw [e]; exact zdc78)
theorem zdcA79 : ∀ m, m < 80 → ((zKs[m]?).getD []).all (zdecB (zby m)) = true := fun m h => (Nat.lt_succ_iff_lt_or_eq.mp h).elim (zdcA78 m) (fun e => by rw [e]; exact zdc79)
theorem zdcA80 : ∀ m, m < 81 → ((zKs[m]?).getD []).all (zdecB (zby m)) = true := fun m h => (Nat.lt_succ_iff_lt_or_eq.mp h).elim (zdcA79 m) (fun e => by rw [e]; exact zdc80)
theorem zdcA81 : ∀ m, m < 82 → ((zKs[m]?).getD []).all (zdecB (zby m)) = true := fun m h => (Nat.lt_succ_iff_lt_or_eq.mp h).elim (zdcA80 m) (fun e => by rw [e]; exact zdc81)
theorem zdcA82 : ∀ m, m < 83 → ((zKs[m]?).getD []).all (zdecB (zby m)) = true := fun m h => (Nat.lt_succ_iff_lt_or_eq.mp h).elim (zdcA81 m) (fun e => by rw [e]; exact zdc82)
theorem zdcA83 : ∀ m, m < 84 → ((zKs[m]?).getD []).all (zdecB (zby m)) = true := fun m h => (Nat.lt_succ_iff_lt_or_eq.mp h).elim (zdcA82 m) (fun e => by rw [e]; exact zdc83)
theorem zdcA84 : ∀ m, m < 85 → ((zKs[m]?).getD []).all (zdecB (zby m)) = true := fun m h => (Nat.lt_succ_iff_lt_or_eq.mp h).elim (zdcA83 m) (fun e => by rw [e]; exact zdc84)
theorem zdcA85 : ∀ m, m < 86 → ((zKs[m]?).getD []).all (zdecB (zby m)) = true := fun m h => (Nat.lt_succ_iff_lt_or_eq.mp h).elim (zdcA84 m) (fun e => by rw [e]; exact zdc85)
theorem zdcA86 : ∀ m, m < 87 → ((zKs[m]?).getD []).all (zdecB (zby m)) = true := fun m h => (Nat.lt_succ_iff_lt_or_eq.mp h).elim (zdcA85 m) (fun e => by rw [e]; exact zdc86)
theorem zdcA87 : ∀ m, m < 88 → ((zKs[m]?).getD []).all (zdecB (zby m)) = true := fun m h => (Nat.lt_succ_iff_lt_or_eq.mp h).elim (zdcA86 m) (fun e => by rw [e]; exact zdc87)
theorem zdcA88 : ∀ m, m < 89 → ((zKs[m]?).getD []).all (zdecB (zby m)) = true := fun m h => (Nat.lt_succ_iff_lt_or_eq.mp h).elim (zdcA87 m) (fun e => by rw [e]; exact zdc88)
theorem zdcA89 : ∀ m, m < 90 → ((zKs[m]?).getD []).all (zdecB (zby m)) = true := fun m h => (Nat.lt_succ_iff_lt_or_eq.mp h).elim (zdcA88 m) (fun e => by rw [e]; exact zdc89)
theorem zdcA90 : ∀ m, m < 91 → ((zKs[m]?).getD []).all (zdecB (zby m)) = true := fun m h => (Nat.lt_succ_iff_lt_or_eq.mp h).elim (zdcA89 m) (fun e => by rw [e]; exact zdc90)
theorem zdcA91 : ∀ m, m < 92 → ((zKs[m]?).getD []).all (zdecB (zby m)) = true := fun m h => (Nat.lt_succ_iff_lt_or_eq.mp h).elim (zdcA90 m) (fun e => by rw [e]; exact zdc91)
theorem zdcA92 : ∀ m, m < 93 → ((zKs[m]?).getD []).all (zdecB (zby m)) = true := fun m h => (Nat.lt_succ_iff_lt_or_eq.mp h).elim (zdcA91 m) (fun e => by rw [e]; exact zdc92)
theorem zdcA93 : ∀ m, m < 94 → ((zKs[m]?).getD []).all (zdecB (zby m)) = true := fun m h => (Nat.lt_succ_iff_lt_or_eq.mp h).elim (zdcA92 m) (fun e => by rw [e]; exact zdc93)
theorem zdcA94 : ∀ m, m < 95 → ((zKs[m]?).getD []).all (zdecB (zby m)) = true := fun m h => (Nat.lt_succ_iff_lt_or_eq.mp h).elim (zdcA93 m) (fun e => by rw [e]; exact zdc94)
theorem zdcA95 : ∀ m, m < 96 → ((zKs[m]?).getD []).all (zdecB (zby m)) = true := fun m h => (Nat.lt_succ_iff_lt_or_eq.mp h).elim (zdcA94 m) (fun e => by rw [e]; exact zdc95)
theorem zdcA96 : ∀ m, m < 97 → ((zKs[m]?).getD []).all (zdecB (zby m)) = true := fun m h => (Nat.lt_succ_iff_lt_or_eq.mp h).elim (zdcA95 m) (fun e => by rw [e]; exact zdc96)
theorem zdcA97 : ∀ m, m < 98 → ((zKs[m]?).getD []).all (zdecB (zby m)) = true := fun m h => (Nat.lt_succ_iff_lt_or_eq.mp h).elim (zdcA96 m) (fun e => by rw [e]; exact zdc97)
theorem zdcA98 : ∀ m, m < 99 → ((zKs[m]?).getD []).all (zdecB (zby m)) = true := fun m h => (Nat.lt_succ_iff_lt_or_eq.mp h).elim (zdcA97 m) (fun e => by rw [e]; exact zdc98)
theorem zdcA99 : ∀ m, m < 100 → ((zKs[m]?).getD []).all (zdecB (zby m)) = true := fun m h => (Nat.lt_succ_iff_lt_or_eq.mp h).elim (zdcA98 m) (fun e => by rw [e]; exact zdc99)
theorem zdcA100 : ∀ m, m < 101 → ((zKs[m]?).getD []).all (zdecB (zby m)) = true := fun m h => (Nat.lt_succ_iff_lt_or_eq.mp h).elim (zdcA99 m) (fun e => by rw [e]; exact zdc100)
theorem zdcA101 : ∀ m, m < 102 → ((zKs[m]?).getD []).all (zdecB (zby m)) = true := fun m h => (Nat.lt_succ_iff_lt_or_eq.mp h).elim (zdcA100 m) (fun e => by rw [e]; exact zdc101)
theorem zdcA102 : ∀ m, m < 103 → ((zKs[m]?).getD []).all (zdecB (zby m)) = true := fun m h => (Nat.lt_succ_iff_lt_or_eq.mp h).elim (zdcA101 m) (fun e => by rw [e]; exact zdc102)
theorem zdcA103 : ∀ m, m < 104 → ((zKs[m]?).getD []).all (zdecB (zby m)) = true := fun m h => (Nat.lt_succ_iff_lt_or_eq.mp h).elim (zdcA102 m) (fun e => by rw [e]; exact zdc103)
theorem zdcA104 : ∀ m, m < 105 → ((zKs[m]?).getD []).all (zdecB (zby m)) = true := fun m h => (Nat.lt_succ_iff_lt_or_eq.mp h).elim (zdcA103 m) (fun e => by rw [e]; exact zdc104)
theorem zdcA105 : ∀ m, m < 106 → ((zKs[m]?).getD []).all (zdecB (zby m)) = true := fun m h => (Nat.lt_succ_iff_lt_or_eq.mp h).elim (zdcA104 m) (fun e => by rw [e]; exact zdc105)
theorem zdcA106 : ∀ m, m < 107 → ((zKs[m]?).getD []).all (zdecB (zby m)) = true := fun m h => (Nat.lt_succ_iff_lt_or_eq.mp h).elim (zdcA105 m) (fun e => by rw [e]; exact zdc106)
theorem zdcA107 : ∀ m, m < 108 → ((zKs[m]?).getD []).all (zdecB (zby m)) = true := fun m h => (Nat.lt_succ_iff_lt_or_eq.mp h).elim (zdcA106 m) (fun e => by rw [e]; exact zdc107)
theorem zdcA108 : ∀ m, m < 109 → ((zKs[m]?).getD []).all (zdecB (zby m)) = true := fun m h => (Nat.lt_succ_iff_lt_or_eq.mp h).elim (zdcA107 m) (fun e => by rw [e]; exact zdc108)
theorem zdcA109 : ∀ m, m < 110 → ((zKs[m]?).getD []).all (zdecB (zby m)) = true := fun m h => (Nat.lt_succ_iff_lt_or_eq.mp h).elim (zdcA108 m) (fun e => by rw [e]; exact zdc109)
theorem zdcA110 : ∀ m, m < 111 → ((zKs[m]?).getD []).all (zdecB (zby m)) = true := fun m h => (Nat.lt_succ_iff_lt_or_eq.mp h).elim (zdcA109 m) (fun e => by rw [e]; exact zdc110)
theorem zdcA111 : ∀ m, m < 112 → ((zKs[m]?).getD []).all (zdecB (zby m)) = true := fun m h => (Nat.lt_succ_iff_lt_or_eq.mp h).elim (zdcA110 m) (fun e => by rw [e]; exact zdc111)
theorem zdcA112 : ∀ m, m < 113 → ((zKs[m]?).getD []).all (zdecB (zby m)) = true := fun m h => (Nat.lt_succ_iff_lt_or_eq.mp h).elim (zdcA111 m) (fun e => by rw [e]; exact zdc112)
theorem zdcA113 : ∀ m, m < 114 → ((zKs[m]?).getD []).all (zdecB (zby m)) = true := fun m h => (Nat.lt_succ_iff_lt_or_eq.mp h).elim (zdcA112 m) (fun e => by rw [e]; exact zdc113)
theorem zdcA114 : ∀ m, m < 115 → ((zKs[m]?).getD []).all (zdecB (zby m)) = true := fun m h => (Nat.lt_succ_iff_lt_or_eq.mp h).elim (zdcA113 m) (fun e => by rw [e]; exact zdc114)
theorem zdcA115 : ∀ m, m < 116 → ((zKs[m]?).getD []).all (zdecB (zby m)) = true := fun m h => (Nat.lt_succ_iff_lt_or_eq.mp h).elim (zdcA114 m) (fun e => by rw [e]; exact zdc115)
theorem zdcA116 : ∀ m, m < 117 → ((zKs[m]?).getD []).all (zdecB (zby m)) = true := fun m h => (Nat.lt_succ_iff_lt_or_eq.mp h).elim (zdcA115 m) (fun e => by rw [e]; exact zdc116)
theorem zdcA117 : ∀ m, m < 118 → ((zKs[m]?).getD []).all (zdecB (zby m)) = true := fun m h => (Nat.lt_succ_iff_lt_or_eq.mp h).elim (zdcA116 m) (fun e => by rw [e]; exact zdc117)
theorem zdcA118 : ∀ m, m < 119 → ((zKs[m]?).getD []).all (zdecB (zby m)) = true := fun m h => (Nat.lt_succ_iff_lt_or_eq.mp h).elim (zdcA117 m) (fun e => by rw [e]; exact zdc118)
theorem zdcA119 : ∀ m, m < 120 → ((zKs[m]?).getD []).all (zdecB (zby m)) = true := fun m h => (Nat.lt_succ_iff_lt_or_eq.mp h).elim (zdcA118 m) (fun e => by rw [e]; exact zdc119)
theorem zdcA120 : ∀ m, m < 121 → ((zKs[m]?).getD []).all (zdecB (zby m)) = true := fun m h => (Nat.lt_succ_iff_lt_or_eq.mp h).elim (zdcA119 m) (fun e => by rw [e]; exact zdc120)
theorem zdcA121 : ∀ m, m < 122 → ((zKs[m]?).getD []).all (zdecB (zby m)) = true := fun m h => (Nat.lt_succ_iff_lt_or_eq.mp h).elim (zdcA120 m) (fun e => by rw [e]; exact zdc121)
theorem zdcA122 : ∀ m, m < 123 → ((zKs[m]?).getD []).all (zdecB (zby m)) = true := fun m h => (Nat.lt_succ_iff_lt_or_eq.mp h).elim (zdcA121 m) (fun e => by rw [e]; exact zdc122)
theorem zdcA123 : ∀ m, m < 124 → ((zKs[m]?).getD []).all (zdecB (zby m)) = true := fun m h => (Nat.lt_succ_iff_lt_or_eq.mp h).elim (zdcA122 m) (fun e => by rw [e]; exact zdc123)
theorem zdcA124 : ∀ m, m < 125 → ((zKs[m]?).getD []).all (zdecB (zby m)) = true := fun m h => (Nat.lt_succ_iff_lt_or_eq.mp h).elim (zdcA123 m) (fun e => by rw [e]; exact zdc124)
theorem zdcA125 : ∀ m, m < 126 → ((zKs[m]?).getD []).all (zdecB (zby m)) = true := fun m h => (Nat.lt_succ_iff_lt_or_eq.mp h).elim (zdcA124 m) (fun e => by rw [e]; exact zdc125)
theorem zdcA126 : ∀ m, m < 127 → ((zKs[m]?).getD []).all (zdecB (zby m)) = true := fun m h => (Nat.lt_succ_iff_lt_or_eq.mp h).elim (zdcA125 m) (fun e => by rw [e]; exact zdc126)
theorem zdcA127 : ∀ m, m < 128 → ((zKs[m]?).getD []).all (zdecB (zby m)) = true := fun m h => (Nat.lt_succ_iff_lt_or_eq.mp h).elim (zdcA126 m) (fun e => by rw [e]; exact zdc127)
theorem zdcA128 : ∀ m, m < 129 → ((zKs[m]?).getD []).all (zdecB (zby m)) = true := fun m h => (Nat.lt_succ_iff_lt_or_eq.mp h).elim (zdcA127 m) (fun e => by rw [e]; exact zdc128)
theorem zdcA129 : ∀ m, m < 130 → ((zKs[m]?).getD []).all (zdecB (zby m)) = true := fun m h => (Nat.lt_succ_iff_lt_or_eq.mp h).elim (zdcA128 m) (fun e => by rw [e]; exact zdc129)
theorem zdcA130 : ∀ m, m < 131 → ((zKs[m]?).getD []).all (zdecB (zby m)) = true := fun m h => (Nat.lt_succ_iff_lt_or_eq.mp h).elim (zdcA129 m) (fun e => by rw [e]; exact zdc130)
theorem zdcA131 : ∀ m, m < 132 → ((zKs[m]?).getD []).all (zdecB (zby m)) = true := fun m h => (Nat.lt_succ_iff_lt_or_eq.mp h).elim (zdcA130 m) (fun e => by rw [e]; exact zdc131)
theorem zdcA132 : ∀ m, m < 133 → ((zKs[m]?).getD []).all (zdecB (zby m)) = true := fun m h => (Nat.lt_succ_iff_lt_or_eq.mp h).elim (zdcA131 m) (fun e => by rw [e]; exact zdc132)
theorem zdcA133 : ∀ m, m < 134 → ((zKs[m]?).getD []).all (zdecB (zby m)) = true := fun m h => (Nat.lt_succ_iff_lt_or_eq.mp h).elim (zdcA132 m) (fun e => by rw [e]; exact zdc133)
theorem zdcA134 : ∀ m, m < 135 → ((zKs[m]?).getD []).all (zdecB (zby m)) = true := fun m h => (Nat.lt_succ_iff_lt_or_eq.mp h).elim (zdcA133 m) (fun e => by rw [e]; exact zdc134)
theorem zdcA135 : ∀ m, m < 136 → ((zKs[m]?).getD []).all (zdecB (zby m)) = true := fun m h => (Nat.lt_succ_iff_lt_or_eq.mp h).elim (zdcA134 m) (fun e => by rw [e]; exact zdc135)
theorem zdcA136 : ∀ m, m < 137 → ((zKs[m]?).getD []).all (zdecB (zby m)) = true := fun m h => (Nat.lt_succ_iff_lt_or_eq.mp h).elim (zdcA135 m) (fun e => by rw [e]; exact zdc136)
theorem zdcA137 : ∀ m, m < 138 → ((zKs[m]?).getD []).all (zdecB (zby m)) = true := fun m h => (Nat.lt_succ_iff_lt_or_eq.mp h).elim (zdcA136 m) (fun e => by rw [e]; exact zdc137)
theorem zdcA138 : ∀ m, m < 139 → ((zKs[m]?).getD []).all (zdecB (zby m)) = true := fun m h => (Nat.lt_succ_iff_lt_or_eq.mp h).elim (zdcA137 m) (fun e => by rw [e]; exact zdc138)
theorem zdcA139 : ∀ m, m < 140 → ((zKs[m]?).getD []).all (zdecB (zby m)) = true := fun m h => (Nat.lt_succ_iff_lt_or_eq.mp h).elim (zdcA138 m) (fun e => by rw [e]; exact zdc139)
theorem zdcA140 : ∀ m, m < 141 → ((zKs[m]?).getD []).all (zdecB (zby m)) = true := fun m h => (Nat.lt_succ_iff_lt_or_eq.mp h).elim (zdcA139 m) (fun e => by rw [e]; exact zdc140)
theorem zdcA141 : ∀ m, m < 142 → ((zKs[m]?).getD []).all (zdecB (zby m)) = true := fun m h => (Nat.lt_succ_iff_lt_or_eq.mp h).elim (zdcA140 m) (fun e => by rw [e]; exact zdc141)
theorem zdcA142 : ∀ m, m < 143 → ((zKs[m]?).getD []).all (zdecB (zby m)) = true := fun m h => (Nat.lt_succ_iff_lt_or_eq.mp h).elim (zdcA141 m) (fun e => by rw [e]; exact zdc142)
theorem zdcA143 : ∀ m, m < 144 → ((zKs[m]?).getD []).all (zdecB (zby m)) = true := fun m h => (Nat.lt_succ_iff_lt_or_eq.mp h).elim (zdcA142 m) (fun e => by rw [e]; exact zdc143)
theorem zdcA144 : ∀ m, m < 145 → ((zKs[m]?).getD []).all (zdecB (zby m)) = true := fun m h => (Nat.lt_succ_iff_lt_or_eq.mp h).elim (zdcA143 m) (fun e => by rw [e]; exact zdc144)
theorem zdcA145 : ∀ m, m < 146 → ((zKs[m]?).getD []).all (zdecB (zby m)) = true := fun m h => (Nat.lt_succ_iff_lt_or_eq.mp h).elim (zdcA144 m) (fun e => by rw [e]; exact zdc145)
theorem zdcA146 : ∀ m, m < 147 → ((zKs[m]?).getD []).all (zdecB (zby m)) = true := fun m h => (Nat.lt_succ_iff_lt_or_eq.mp h).elim (zdcA145 m) (fun e => by rw [e]; exact zdc146)
theorem zdcA147 : ∀ m, m < 148 → ((zKs[m]?).getD []).all (zdecB (zby m)) = true := fun m h => (Nat.lt_succ_iff_lt_or_eq.mp h).elim (zdcA146 m) (fun e => by rw [e]; exact zdc147)
theorem zdcA148 : ∀ m, m < 149 → ((zKs[m]?).getD []).all (zdecB (zby m)) = true := fun m h => (Nat.lt_succ_iff_lt_or_eq.mp h).elim (zdcA147 m) (fun e => by rw [e]; exact zdc148)
theorem zdcA149 : ∀ m, m < 150 → ((zKs[m]?).getD []).all (zdecB (zby m)) = true := fun m h => (Nat.lt_succ_iff_lt_or_eq.mp h).elim (zdcA148 m) (fun e => by rw [e]; exact zdc149)
theorem zdcA150 : ∀ m, m < 151 → ((zKs[m]?).getD []).all (zdecB (zby m)) = true := fun m h => (Nat.lt_succ_iff_lt_or_eq.mp h).elim (zdcA149 m) (fun e => by rw [e]; exact zdc150)
theorem zdcA151 : ∀ m, m < 152 → ((zKs[m]?).getD []).all (zdecB (zby m)) = true := fun m h => (Nat.lt_succ_iff_lt_or_eq.mp h).elim (zdcA150 m) (fun e => by rw [e]; exact zdc151)
theorem zdcA152 : ∀ m, m < 153 → ((zKs[m]?).getD []).all (zdecB (zby m)) = true := fun m h => (Nat.lt_succ_iff_lt_or_eq.mp h).elim (zdcA151 m) (fun e => by rw [e]; exact zdc152)
theorem zdcA153 : ∀ m, m < 154 → ((zKs[m]?).getD []).all (zdecB (zby m)) = true := fun m h => (Nat.lt_succ_iff_lt_or_eq.mp h).elim (zdcA152 m) (fun e => by rw [e]; exact zdc153)
theorem zdcA154 : ∀ m, m < 155 → ((zKs[m]?).getD []).all (zdecB (zby m)) = true := fun m h => (Nat.lt_succ_iff_lt_or_eq.mp h).elim (zdcA153 m) (fun e => by rw [e]; exact zdc154)
theorem zdcA155 : ∀ m, m < 156 → ((zKs[m]?).getD []).all (zdecB (zby m)) = true := fun m h => (Nat.lt_succ_iff_lt_or_eq.mp h).elim (zdcA154 m) (fun e => by rw [e]; exact zdc155)
theorem zdcA156 : ∀ m, m < 157 → ((zKs[m]?).getD []).all (zdecB (zby m)) = true := fun m h => (Nat.lt_succ_iff_lt_or_eq.mp h).elim (zdcA155 m) (fun e => by rw [e]; exact zdc156)
theorem zdcA157 : ∀ m, m < 158 → ((zKs[m]?).getD []).all (zdecB (zby m)) = true := fun m h => (Nat.lt_succ_iff_lt_or_eq.mp h).elim (zdcA156 m) (fun e => by rw [e]; exact zdc157)
theorem zdcA158 : ∀ m, m < 159 → ((zKs[m]?).getD []).all (zdecB (zby m)) = true := fun m h => (Nat.lt_succ_iff_lt_or_eq.mp h).elim (zdcA157 m) (fun e => by rw [e]; exact zdc158)
theorem zdcA159 : ∀ m, m < 160 → ((zKs[m]?).getD []).all (zdecB (zby m)) = true := fun m h => (Nat.lt_succ_iff_lt_or_eq.mp h).elim (zdcA158 m) (fun e => by rw [e]; exact zdc159)
theorem zdcA160 : ∀ m, m < 161 → ((zKs[m]?).getD []).all (zdecB (zby m)) = true := fun m h => (Nat.lt_succ_iff_lt_or_eq.mp h).elim (zdcA159 m) (fun e => by rw [e]; exact zdc160)
theorem zdcA161 : ∀ m, m < 162 → ((zKs[m]?).getD []).all (zdecB (zby m)) = true := fun m h => (Nat.lt_succ_iff_lt_or_eq.mp h).elim (zdcA160 m) (fun e => by rw [e]; exact zdc161)
theorem zdcA162 : ∀ m, m < 163 → ((zKs[m]?).getD []).all (zdecB (zby m)) = true := fun m h => (Nat.lt_succ_iff_lt_or_eq.mp h).elim (zdcA161 m) (fun e => by rw [e]; exact zdc162)
theorem zdcA163 : ∀ m, m < 164 → ((zKs[m]?).getD []).all (zdecB (zby m)) = true := fun m h => (Nat.lt_succ_iff_lt_or_eq.mp h).elim (zdcA162 m) (fun e => by rw [e]; exact zdc163)
theorem zdcA164 : ∀ m, m < 165 → ((zKs[m]?).getD []).all (zdecB (zby m)) = true := fun m h => (Nat.lt_succ_iff_lt_or_eq.mp h).elim (zdcA163 m) (fun e => by rw [e]; exact zdc164)
theorem zdcA165 : ∀ m, m < 166 → ((zKs[m]?).getD []).all (zdecB (zby m)) = true := fun m h => (Nat.lt_succ_iff_lt_or_eq.mp h).elim (zdcA164 m) (fun e => by rw [e]; exact zdc165)
theorem zdcA166 : ∀ m, m < 167 → ((zKs[m]?).getD []).all (zdecB (zby m)) = true := fun m h => (Nat.lt_succ_iff_lt_or_eq.mp h).elim (zdcA165 m) (fun e => by rw [e]; exact zdc166)
theorem zdcA167 : ∀ m, m < 168 → ((zKs[m]?).getD []).all (zdecB (zby m)) = true := fun m h => (Nat.lt_succ_iff_lt_or_eq.mp h).elim (zdcA166 m) (fun e => by rw [e]; exact zdc167)
theorem zdcA168 : ∀ m, m < 169 → ((zKs[m]?).getD []).all (zdecB (zby m)) = true := fun m h => (Nat.lt_succ_iff_lt_or_eq.mp h).elim (zdcA167 m) (fun e => by rw [e]; exact zdc168)
theorem zdcA169 : ∀ m, m < 170 → ((zKs[m]?).getD []).all (zdecB (zby m)) = true := fun m h => (Nat.lt_succ_iff_lt_or_eq.mp h).elim (zdcA168 m) (fun e => by rw [e]; exact zdc169)
theorem zdcA170 : ∀ m, m < 171 → ((zKs[m]?).getD []).all (zdecB (zby m)) = true := fun m h => (Nat.lt_succ_iff_lt_or_eq.mp h).elim (zdcA169 m) (fun e => by rw [e]; exact zdc170)
theorem zdcA171 : ∀ m, m < 172 → ((zKs[m]?).getD []).all (zdecB (zby m)) = true := fun m h => (Nat.lt_succ_iff_lt_or_eq.mp h).elim (zdcA170 m) (fun e => by rw [e]; exact zdc171)
theorem zdcA172 : ∀ m, m < 173 → ((zKs[m]?).getD []).all (zdecB (zby m)) = true := fun m h => (Nat.lt_succ_iff_lt_or_eq.mp h).elim (zdcA171 m) (fun e => by rw [e]; exact zdc172)
theorem zdcA173 : ∀ m, m < 174 → ((zKs[m]?).getD []).all (zdecB (zby m)) = true := fun m h => (Nat.lt_succ_iff_lt_or_eq.mp h).elim (zdcA172 m) (fun e => by rw [e]; exact zdc173)
theorem zdcA174 : ∀ m, m < 175 → ((zKs[m]?).getD []).all (zdecB (zby m)) = true := fun m h => (Nat.lt_succ_iff_lt_or_eq.mp h).elim (zdcA173 m) (fun e => by rw [e]; exact zdc174)
theorem zdcA175 : ∀ m, m < 176 → ((zKs[m]?).getD []).all (zdecB (zby m)) = true := fun m h => (Nat.lt_succ_iff_lt_or_eq.mp h).elim (zdcA174 m) (fun e => by rw [e]; exact zdc175)
theorem zdcA176 : ∀ m, m < 177 → ((zKs[m]?).getD []).all (zdecB (zby m)) = true := fun m h => (Nat.lt_succ_iff_lt_or_eq.mp h).elim (zdcA175 m) (fun e => by rw [e]; exact zdc176)
theorem zdcA177 : ∀ m, m < 178 → ((zKs[m]?).getD []).all (zdecB (zby m)) = true := fun m h => (Nat.lt_succ_iff_lt_or_eq.mp h).elim (zdcA176 m) (fun e => by rw [e]; exact zdc177)
theorem zdcA178 : ∀ m, m < 179 → ((zKs[m]?).getD []).all (zdecB (zby m)) = true := fun m h => (Nat.lt_succ_iff_lt_or_eq.mp h).elim (zdcA177 m) (fun e => by rw [e]; exact zdc178)
theorem zdcA179 : ∀ m, m < 180 → ((zKs[m]?).getD []).all (zdecB (zby m)) = true := fun m h => (Nat.lt_succ_iff_lt_or_eq.mp h).elim (zdcA178 m) (fun e => by rw [e]; exact zdc179)
theorem zdcA180 : ∀ m, m < 181 → ((zKs[m]?).getD []).all (zdecB (zby m)) = true := fun m h => (Nat.lt_succ_iff_lt_or_eq.mp h).elim (zdcA179 m) (fun e => by rw [e]; exact zdc180)
theorem zdcA181 : ∀ m, m < 182 → ((zKs[m]?).getD []).all (zdecB (zby m)) = true := fun m h => (Nat.lt_succ_iff_lt_or_eq.mp h).elim (zdcA180 m) (fun e => by rw [e]; exact zdc181)
theorem zdcA182 : ∀ m, m < 183 → ((zKs[m]?).getD []).all (zdecB (zby m)) = true := fun m h => (Nat.lt_succ_iff_lt_or_eq.mp h).elim (zdcA181 m) (fun e => by rw [e]; exact zdc182)
theorem zdcA183 : ∀ m, m < 184 → ((zKs[m]?).getD []).all (zdecB (zby m)) = true := fun m h => (Nat.lt_succ_iff_lt_or_eq.mp h).elim (zdcA182 m) (fun e => by rw [e]; exact zdc183)
theorem zdcA184 : ∀ m, m < 185 → ((zKs[m]?).getD []).all (zdecB (zby m)) = true := fun m h => (Nat.lt_succ_iff_lt_or_eq.mp h).elim (zdcA183 m) (fun e => by rw [e]; exact zdc184)
theorem zdcA185 : ∀ m, m < 186 → ((zKs[m]?).getD []).all (zdecB (zby m)) = true := fun m h => (Nat.lt_succ_iff_lt_or_eq.mp h).elim (zdcA184 m) (fun e => by rw [e]; exact zdc185)
theorem zdcA186 : ∀ m, m < 187 → ((zKs[m]?).getD []).all (zdecB (zby m)) = true := fun m h => (Nat.lt_succ_iff_lt_or_eq.mp h).elim (zdcA185 m) (fun e => by rw [e]; exact zdc186)
theorem zdcA187 : ∀ m, m < 188 → ((zKs[m]?).getD []).all (zdecB (zby m)) = true := fun m h => (Nat.lt_succ_iff_lt_or_eq.mp h).elim (zdcA186 m) (fun e => by rw [e]; exact zdc187)
theorem zdcA188 : ∀ m, m < 189 → ((zKs[m]?).getD []).all (zdecB (zby m)) = true := fun m h => (Nat.lt_succ_iff_lt_or_eq.mp h).elim (zdcA187 m) (fun e => by rw [e]; exact zdc188)
theorem zdcA189 : ∀ m, m < 190 → ((zKs[m]?).getD []).all (zdecB (zby m)) = true := fun m h => (Nat.lt_succ_iff_lt_or_eq.mp h).elim (zdcA188 m) (fun e => by rw [e]; exact zdc189)
theorem zdcA190 : ∀ m, m < 191 → ((zKs[m]?).getD []).all (zdecB (zby m)) = true := fun m h => (Nat.lt_succ_iff_lt_or_eq.mp h).elim (zdcA189 m) (fun e => by rw [e]; exact zdc190)
theorem zdcA191 : ∀ m, m < 192 → ((zKs[m]?).getD []).all (zdecB (zby m)) = true := fun m h => (Nat.lt_succ_iff_lt_or_eq.mp h).elim (zdcA190 m) (fun e => by rw [e]; exact zdc191)
theorem zdcA192 : ∀ m, m < 193 → ((zKs[m]?).getD []).all (zdecB (zby m)) = true := fun m h => (Nat.lt_succ_iff_lt_or_eq.mp h).elim (zdcA191 m) (fun e => by rw [e]; exact zdc192)
theorem zdcA193 : ∀ m, m < 194 → ((zKs[m]?).getD []).all (zdecB (zby m)) = true := fun m h => (Nat.lt_succ_iff_lt_or_eq.mp h).elim (zdcA192 m) (fun e => by rw [e]; exact zdc193)
theorem zdcA194 : ∀ m, m < 195 → ((zKs[m]?).getD []).all (zdecB (zby m)) = true := fun m h => (Nat.lt_succ_iff_lt_or_eq.mp h).elim (zdcA193 m) (fun e => by rw [e]; exact zdc194)
theorem zdcA195 : ∀ m, m < 196 → ((zKs[m]?).getD []).all (zdecB (zby m)) = true := fun m h => (Nat.lt_succ_iff_lt_or_eq.mp h).elim (zdcA194 m) (fun e => by rw [e]; exact zdc195)
theorem zdcA196 : ∀ m, m < 197 → ((zKs[m]?).getD []).all (zdecB (zby m)) = true := fun m h => (Nat.lt_succ_iff_lt_or_eq.mp h).elim (zdcA195 m) (fun e => by rw [e]; exact zdc196)
theorem zdcA197 : ∀ m, m < 198 → ((zKs[m]?).getD []).all (zdecB (zby m)) = true := fun m h => (Nat.lt_succ_iff_lt_or_eq.mp h).elim (zdcA196 m) (fun e => by rw [e]; exact zdc197)
theorem zdcA198 : ∀ m, m < 199 → ((zKs[m]?).getD []).all (zdecB (zby m)) = true := fun m h => (Nat.lt_succ_iff_lt_or_eq.mp h).elim (zdcA197 m) (fun e => by rw [e]; exact zdc198)
theorem zdcA199 : ∀ m, m < 200 → ((zKs[m]?).getD []).all (zdecB (zby m)) = true := fun m h => (Nat.lt_succ_iff_lt_or_eq.mp h).elim (zdcA198 m) (fun e => by rw [e]; exact zdc199)
theorem zdcA200 : ∀ m, m < 201 → ((zKs[m]?).getD []).all (zdecB (zby m)) = true := fun m h => (Nat.lt_succ_iff_lt_or_eq.mp h).elim (zdcA199 m) (fun e => by rw [e]; exact zdc200)
theorem zdcA201 : ∀ m, m < 202 → ((zKs[m]?).getD []).all (zdecB (zby m)) = true := fun m h => (Nat.lt_succ_iff_lt_or_eq.mp h).elim (zdcA200 m) (fun e => by rw [e]; exact zdc201)
theorem zdcA202 : ∀ m, m < 203 → ((zKs[m]?).getD []).all (zdecB (zby m)) = true := fun m h => (Nat.lt_succ_iff_lt_or_eq.mp h).elim (zdcA201 m) (fun e => by rw [e]; exact zdc202)
theorem zdcA203 : ∀ m, m < 204 → ((zKs[m]?).getD []).all (zdecB (zby m)) = true := fun m h => (Nat.lt_succ_iff_lt_or_eq.mp h).elim (zdcA202 m) (fun e => by rw [e]; exact zdc203)
theorem zdcA204 : ∀ m, m < 205 → ((zKs[m]?).getD []).all (zdecB (zby m)) = true := fun m h => (Nat.lt_succ_iff_lt_or_eq.mp h).elim (zdcA203 m) (fun e => by rw [e]; exact zdc204)
theorem zdcA205 : ∀ m, m < 206 → ((zKs[m]?).getD []).all (zdecB (zby m)) = true := fun m h => (Nat.lt_succ_iff_lt_or_eq.mp h).elim (zdcA204 m) (fun e => by rw [e]; exact zdc205)
theorem zdcA206 : ∀ m, m < 207 → ((zKs[m]?).getD []).all (zdecB (zby m)) = true := fun m h => (Nat.lt_succ_iff_lt_or_eq.mp h).elim (zdcA205 m) (fun e => by rw [e]; exact zdc206)
theorem zdcA207 : ∀ m, m < 208 → ((zKs[m]?).getD []).all (zdecB (zby m)) = true := fun m h => (Nat.lt_succ_iff_lt_or_eq.mp h).elim (zdcA206 m) (fun e => by rw [e]; exact zdc207)
theorem zdcA208 : ∀ m, m < 209 → ((zKs[m]?).getD []).all (zdecB (zby m)) = true := fun m h => (Nat.lt_succ_iff_lt_or_eq.mp h).elim (zdcA207 m) (fun e => by rw [e]; exact zdc208)
theorem zdcA209 : ∀ m, m < 210 → ((zKs[m]?).getD []).all (zdecB (zby m)) = true := fun m h => (Nat.lt_succ_iff_lt_or_eq.mp h).elim (zdcA208 m) (fun e => by rw [e]; exact zdc209)
theorem zdcA210 : ∀ m, m < 211 → ((zKs[m]?).getD []).all (zdecB (zby m)) = true := fun m h => (Nat.lt_succ_iff_lt_or_eq.mp h).elim (zdcA209 m) (fun e => by rw [e]; exact zdc210)
