set_option maxRecDepth 100000 in
theorem ok0 : mc0.all (fun q => chkI 0 q.1 q.2) = true := by decide +kernel
set_option maxRecDepth 100000 in
theorem okM0 : chkM 0 = true := by decide +kernel
set_option maxRecDepth 100000 in
theorem ok1 : mc1.all (fun q => chkI 1 q.1 q.2) = true := by decide +kernel
set_option maxRecDepth 100000 in
theorem okM1 : chkM 1 = true := by decide +kernel
set_option maxRecDepth 100000 in
theorem ok2 : mc2.all (fun q => chkI 2 q.1 q.2) = true := by decide +kernel
set_option maxRecDepth 100000 in
theorem okM2 : chkM 2 = true := by decide +kernel
set_option maxRecDepth 100000 in
theorem ok3 : mc3.all (fun q => chkI 3 q.1 q.2) = true := by decide +kernel
set_option maxRecDepth 100000 in
theorem okM3 : chkM 3 = true := by decide +kernel
set_option maxRecDepth 100000 in
theorem ok4 : mc4.all (fun q => chkI 4 q.1 q.2) = true := by decide +kernel
set_option maxRecDepth 100000 in
theorem okM4 : chkM 4 = true := by decide +kernel
set_option maxRecDepth 100000 in
theorem ok5 : mc5.all (fun q => chkI 5 q.1 q.2) = true := by decide +kernel
set_option maxRecDepth 100000 in
theorem okM5 : chkM 5 = true := by decide +kernel
set_option maxRecDepth 100000 in
theorem ok6 : mc6.all (fun q => chkI 6 q.1 q.2) = true := by decide +kernel
set_option maxRecDepth 100000 in
theorem okM6 : chkM 6 = true := by decide +kernel
set_option maxRecDepth 100000 in
theorem ok7 : mc7.all (fun q => chkI 7 q.1 q.2) = true := by decide +kernel
set_option maxRecDepth 100000 in
theorem okM7 : chkM 7 = true := by decide +kernel
set_option maxRecDepth 100000 in
theorem ok8 : mc8.all (fun q => chkI 8 q.1 q.2) = true := by decide +kernel
set_option maxRecDepth 100000 in
theorem okM8 : chkM 8 = true := by decide +kernel
set_option maxRecDepth 100000 in
theorem ok9 : mc9.all (fun q => chkI 9 q.1 q.2) = true := by decide +kernel
set_option maxRecDepth 100000 in
theorem okM9 : chkM 9 = true := by decide +kernel
set_option maxRecDepth 100000 in
theorem ok10 : mc10.all (fun q => chkI 10 q.1 q.2) = true := by decide +kernel
set_option maxRecDepth 100000 in
theorem okM10 : chkM 10 = true := by decide +kernel
set_option maxRecDepth 100000 in
theorem ok11 : mc11.all (fun q => chkI 11 q.1 q.2) = true := by decide +kernel
set_option maxRecDepth 100000 in
theorem okM11 : chkM 11 = true := by decide +kernel
set_option maxRecDepth 100000 in
theorem ok12 : mc12.all (fun q => chkI 12 q.1 q.2) = true := by decide +kernel
set_option maxRecDepth 100000 in
theorem okM12 : chkM 12 = true := by decide +kernel
set_option maxRecDepth 100000 in
theorem ok13 : mc13.all (fun q => chkI 13 q.1 q.2) = true := by decide +kernel
set_option maxRecDepth 100000 in
theorem okM13 : chkM 13 = true := by decide +kernel
set_option maxRecDepth 100000 in
theorem ok14 : mc14.all (fun q => chkI 14 q.1 q.2) = true := by decide +kernel
set_option maxRecDepth 100000 in
theorem okM14 : chkM 14 = true := by decide +kernel
set_option maxRecDepth 100000 in
theorem ok15 : mc15.all (fun q => chkI 15 q.1 q.2) = true := by decide +kernel
set_option maxRecDepth 100000 in
theorem okM15 : chkM 15 = true := by decide +kernel
set_option maxRecDepth 100000 in
theorem ok16 : mc16.all (fun q => chkI 16 q.1 q.2) = true := by decide +kernel
set_option maxRecDepth 100000 in
theorem okM16 : chkM 16 = true := by decide +kernel
set_option maxRecDepth 100000 in
theorem ok17 : mc17.all (fun q => chkI 17 q.1 q.2) = true := by decide +kernel
set_option maxRecDepth 100000 in
theorem okM17 : chkM 17 = true := by decide +kernel
set_option maxRecDepth 100000 in
theorem ok18 : mc18.all (fun q => chkI 18 q.1 q.2) = true := by decide +kernel
set_option maxRecDepth 100000 in
theorem okM18 : chkM 18 = true := by decide +kernel
set_option maxRecDepth 100000 in
theorem ok19 : mc19.all (fun q => chkI 19 q.1 q.2) = true := by decide +kernel
set_option maxRecDepth 100000 in
theorem okM19 : chkM 19 = true := by decide +kernel
set_option maxRecDepth 100000 in
theorem ok20 : mc20.all (fun q => chkI 20 q.1 q.2) = true := by decide +kernel
set_option maxRecDepth 100000 in
theorem okM20 : chkM 20 = true := by decide +kernel
set_option maxRecDepth 100000 in
theorem ok21 : mc21.all (fun q => chkI 21 q.1 q.2) = true := by decide +kernel
set_option maxRecDepth 100000 in
theorem okM21 : chkM 21 = true := by decide +kernel
set_option maxRecDepth 100000 in
theorem ok22 : mc22.all (fun q => chkI 22 q.1 q.2) = true := by decide +kernel
set_option maxRecDepth 100000 in
theorem okM22 : chkM 22 = true := by decide +kernel
set_option maxRecDepth 100000 in
theorem ok23 : mc23.all (fun q => chkI 23 q.1 q.2) = true := by decide +kernel
set_option maxRecDepth 100000 in
theorem okM23 : chkM 23 = true := by decide +kernel
set_option maxRecDepth 100000 in
theorem ok24 : mc24.all (fun q => chkI 24 q.1 q.2) = true := by decide +kernel
set_option maxRecDepth 100000 in
theorem okM24 : chkM 24 = true := by decide +kernel
set_option maxRecDepth 100000 in
theorem ok25 : mc25.all (fun q => chkI 25 q.1 q.2) = true := by decide +kernel
set_option maxRecDepth 100000 in
theorem okM25 : chkM 25 = true := by decide +kernel
set_option maxRecDepth 100000 in
theorem ok26 : mc26.all (fun q => chkI 26 q.1 q.2) = true := by decide +kernel
set_option maxRecDepth 100000 in
theorem okM26 : chkM 26 = true := by decide +kernel
set_option maxRecDepth 100000 in
theorem ok27 : mc27.all (fun q => chkI 27 q.1 q.2) = true := by decide +kernel
set_option maxRecDepth 100000 in
theorem okM27 : chkM 27 = true := by decide +kernel
set_option maxRecDepth 100000 in
theorem ok28 : mc28.all (fun q => chkI 28 q.1 q.2) = true := by decide +kernel
set_option maxRecDepth 100000 in
theorem okM28 : chkM 28 = true := by decide +kernel
set_option maxRecDepth 100000 in
theorem ok29 : mc29.all (fun q => chkI 29 q.1 q.2) = true := by decide +kernel
set_option maxRecDepth 100000 in
theorem okM29 : chkM 29 = true := by decide +kernel
set_option maxRecDepth 100000 in
theorem ok30 : mc30.all (fun q => chkI 30 q.1 q.2) = true := by decide +kernel
set_option maxRecDepth 100000 in
theorem okM30 : chkM 30 = true := by decide +kernel
set_option maxRecDepth 100000 in
theorem ok31 : mc31.all (fun q => chkI 31 q.1 q.2) = true := by decide +kernel
set_option maxRecDepth 100000 in
theorem okM31 : chkM 31 = true := by decide +kernel
set_option maxRecDepth 100000 in
theorem ok32 : mc32.all (fun q => chkI 32 q.1 q.2) = true := by decide +kernel
set_option maxRecDepth 100000 in
theorem okM32 : chkM 32 = true := by decide +kernel
set_option maxRecDepth 100000 in
theorem ok33 : mc33.all (fun q => chkI 33 q.1 q.2) = true := by decide +kernel
set_option maxRecDepth 100000 in
theorem okM33 : chkM 33 = true := by decide +kernel
set_option maxRecDepth 100000 in
theorem ok34 : mc34.all (fun q => chkI 34 q.1 q.2) = true := by decide +kernel
set_option maxRecDepth 100000 in
theorem okM34 : chkM 34 = true := by decide +kernel
set_option maxRecDepth 100000 in
theorem ok35 : mc35.all (fun q => chkI 35 q.1 q.2) = true := by decide +kernel
set_option maxRecDepth 100000 in
theorem okM35 : chkM 35 = true := by decide +kernel
set_option maxRecDepth 100000 in
theorem ok36 : mc36.all (fun q => chkI 36 q.1 q.2) = true := by decide +kernel
set_option maxRecDepth 100000 in
theorem okM36 : chkM 36 = true := by decide +kernel
set_option maxRecDepth 100000 in
theorem ok37 : mc37.all (fun q => chkI 37 q.1 q.2) = true := by decide +kernel
set_option maxRecDepth 100000 in
theorem okM37 : chkM 37 = true := by decide +kernel
set_option maxRecDepth 100000 in
theorem ok38 : mc38.all (fun q => chkI 38 q.1 q.2) = true := by decide +kernel
set_option maxRecDepth 100000 in
theorem okM38 : chkM 38 = true := by decide +kernel
set_option maxRecDepth 100000 in
theorem ok39 : mc39.all (fun q => chkI 39 q.1 q.2) = true := by decide +kernel
set_option maxRecDepth 100000 in
theorem okM39 : chkM 39 = true := by decide +kernel
set_option maxRecDepth 100000 in
theorem ok40 : mc40.all (fun q => chkI 40 q.1 q.2) = true := by decide +kernel
set_option maxRecDepth 100000 in
theorem okM40 : chkM 40 = true := by decide +kernel
set_option maxRecDepth 100000 in
theorem ok41 : mc41.all (fun q => chkI 41 q.1 q.2) = true := by decide +kernel
set_option maxRecDepth 100000 in
theorem okM41 : chkM 41 = true := by decide +kernel
set_option maxRecDepth 100000 in
theorem ok43 : mc43.all (fun q => chkI 43 q.1 q.2) = true := by decide +kernel
set_option maxRecDepth 100000 in
theorem okM43 : chkM 43 = true := by decide +kernel
set_option maxRecDepth 100000 in
theorem ok44 : mc44.all (fun q => chkI 44 q.1 q.2) = true := by decide +kernel
set_option maxRecDepth 100000 in
theorem okM44 : chkM 44 = true := by decide +kernel
set_option maxRecDepth 100000 in
theorem ok45 : mc45.all (fun q => chkI 45 q.1 q.2) = true := by decide +kernel
set_option maxRecDepth 100000 in
theorem okM45 : chkM 45 = true := by decide +kernel
set_option maxRecDepth 100000 in
theorem ok46 : mc46.all (fun q => chkI 46 q.1 q.2) = true := by decide +kernel
set_option maxRecDepth 100000 in
theorem okM46 : chkM 46 = true := by decide +kernel
set_option maxRecDepth 100000 in
theorem ok47 : mc47.all (fun q => chkI 47 q.1 q.2) = true := by decide +kernel
set_option maxRecDepth 100000 in
theorem okM47 : chkM 47 = true := by decide +kernel
set_option maxRecDepth 100000 in
theorem ok48 : mc48.all (fun q => chkI 48 q.1 q.2) = true := by decide +kernel
set_option maxRecDepth 100000 in
theorem okM48 : chkM 48 = true := by decide +kernel
set_option maxRecDepth 100000 in
theorem ok49 : mc49.all (fun q => chkI 49 q.1 q.2) = true := by decide +kernel
set_option maxRecDepth 100000 in
theorem okM49 : chkM 49 = true := by decide +kernel
set_option maxRecDepth 100000 in
theorem ok50 : mc50.all (fun q => chkI 50 q.1 q.2) = true := by decide +kernel
set_option maxRecDepth 100000 in
theorem okM50 : chkM 50 = true := by decide +kernel
set_option maxRecDepth 100000 in
theorem ok51 : mc51.all (fun q => chkI 51 q.1 q.2) = true := by decide +kernel
set_option maxRecDepth 100000 in
theorem okM51 : chkM 51 = true := by decide +kernel
set_option maxRecDepth 100000 in
theorem ok52 : mc52.all (fun q => chkI 52 q.1 q.2) = true := by decide +kernel
set_option maxRecDepth 100000 in
theorem okM52 : chkM 52 = true := by decide +kernel
set_option maxRecDepth 100000 in
theorem ok53 : mc53.all (fun q => chkI 53 q.1 q.2) = true := by decide +kernel
set_option maxRecDepth 100000 in
theorem okM53 : chkM 53 = true := by decide +kernel
set_option maxRecDepth 100000 in
theorem ok54 : mc54.all (fun q => chkI 54 q.1 q.2) = true := by decide +kernel
set_option maxRecDepth 100000 in
theorem okM54 : chkM 54 = true := by decide +kernel
set_option maxRecDepth 100000 in
theorem ok55 : mc55.all (fun q => chkI 55 q.1 q.2) = true := by decide +kernel
set_option maxRecDepth 100000 in
theorem okM55 : chkM 55 = true := by decide +kernel
set_option maxRecDepth 100000 in
theorem ok56 : mc56.all (fun q => chkI 56 q.1 q.2) = true := by decide +kernel
set_option maxRecDepth 100000 in
theorem okM56 : chkM 56 = true := by decide +kernel
set_option maxRecDepth 100000 in
theorem ok57 : mc57.all (fun q => chkI 57 q.1 q.2) = true := by decide +kernel
set_option maxRecDepth 100000 in
theorem okM57 : chkM 57 = true := by decide +kernel
set_option maxRecDepth 100000 in
theorem ok58 : mc58.all (fun q => chkI 58 q.1 q.2) = true := by decide +kernel
set_option maxRecDepth 100000 in
theorem okM58 : chkM 58 = true := by decide +kernel
set_option maxRecDepth 100000 in
theorem ok59 : mc59.all (fun q => chkI 59 q.1 q.2) = true := by decide +kernel
set_option maxRecDepth 100000 in
theorem okM59 : chkM 59 = true := by decide +kernel
set_option maxRecDepth 100000 in
theorem ok60 : mc60.all (fun q => chkI 60 q.1 q.2) = true := by decide +kernel
set_option maxRecDepth 100000 in
theorem okM60 : chkM 60 = true := by decide +kernel
set_option maxRecDepth 100000 in
theorem ok61 : mc61.all (fun q => chkI 61 q.1 q.2) = true := by decide +kernel
set_option maxRecDepth 100000 in
theorem okM61 : chkM 61 = true := by decide +kernel
set_option maxRecDepth 100000 in
theorem ok62 : mc62.all (fun q => chkI 62 q.1 q.2) = true := by decide +kernel
set_option maxRecDepth 100000 in
theorem okM62 : chkM 62 = true := by decide +kernel
set_option maxRecDepth 100000 in
theorem ok63 : mc63.all (fun q => chkI 63 q.1 q.2) = true := by decide +kernel
set_option maxRecDepth 100000 in
theorem okM63 : chkM 63 = true := by decide +kernel
set_option maxRecDepth 100000 in
theorem ok64 : mc64.all (fun q => chkI 64 q.1 q.2) = true := by decide +kernel
set_option maxRecDepth 100000 in
theorem okM64 : chkM 64 = true := by decide +kernel
set_option maxRecDepth 100000 in
theorem ok65 : mc65.all (fun q => chkI 65 q.1 q.2) = true := by decide +kernel
set_option maxRecDepth 100000 in
theorem okM65 : chkM 65 = true := by decide +kernel
set_option maxRecDepth 100000 in
theorem ok66 : mc66.all (fun q => chkI 66 q.1 q.2) = true := by decide +kernel
set_option maxRecDepth 100000 in
theorem okM66 : chkM 66 = true := by decide +kernel
set_option maxRecDepth 100000 in
theorem ok67 : mc67.all (fun q => chkI 67 q.1 q.2) = true := by decide +kernel
set_option maxRecDepth 100000 in
theorem okM67 : chkM 67 = true := by decide +kernel
set_option maxRecDepth 100000 in
theorem ok68 : mc68.all (fun q => chkI 68 q.1 q.2) = true := by decide +kernel
set_option maxRecDepth 100000 in
theorem okM68 : chkM 68 = true := by decide +kernel
set_option maxRecDepth 100000 in
theorem ok69 : mc69.all (fun q => chkI 69 q.1 q.2) = true := by decide +kernel
set_option maxRecDepth 100000 in
theorem okM69 : chkM 69 = true := by decide +kernel
set_option maxRecDepth 100000 in
theorem ok70 : mc70.all (fun q => chkI 70 q.1 q.2) = true := by decide +kernel
set_option maxRecDepth 100000 in
theorem okM70 : chkM 70 = true := by decide +kernel
set_option maxRecDepth 100000 in
theorem ok71 : mc71.all (fun q => chkI 71 q.1 q.2) = true := by decide +kernel
set_option maxRecDepth 100000 in
theorem okM71 : chkM 71 = true := by decide +kernel
set_option maxRecDepth 100000 in
theorem ok72 : mc72.all (fun q => chkI 72 q.1 q.2) = true := by decide +kernel
set_option maxRecDepth 100000 in
theorem okM72 : chkM 72 = true := by decide +kernel
set_option maxRecDepth 100000 in
theorem ok73 : mc73.all (fun q => chkI 73 q.1 q.2) = true := by decide +kernel
set_option maxRecDepth 100000 in
theorem okM73 : chkM 73 = true := by decide +kernel
set_option maxRecDepth 100000 in
theorem ok74 : mc74.all (fun q => chkI 74 q.1 q.2) = true := by decide +kernel
set_option maxRecDepth 100000 in
theorem okM74 : chkM 74 = true := by decide +kernel
set_option maxRecDepth 100000 in
theorem ok75 : mc75.all (fun q => chkI 75 q.1 q.2) = true := by decide +kernel
set_option maxRecDepth 100000 in
theorem okM75 : chkM 75 = true := by decide +kernel
set_option maxRecDepth 100000 in
theorem ok76 : mc76.all (fun q => chkI 76 q.1 q.2) = true := by decide +kernel
set_option maxRecDepth 100000 in
theorem okM76 : chkM 76 = true := by decide +kernel
set_option maxRecDepth 100000 in
theorem ok77 : mc77.all (fun q => chkI 77 q.1 q.2) = true := by decide +kernel
set_option maxRecDepth 100000 in
theorem okM77 : chkM 77 = true := by decide +kernel
