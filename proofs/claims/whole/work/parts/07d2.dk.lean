theorem zdk_2 : (List.range' 125 33).all zdk = true := by decide +kernel
