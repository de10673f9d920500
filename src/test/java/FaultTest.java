/** FAULTS and their places: a text has ^ ahead of the place (it is taken out). Promises 3 and 4, Terms 1. */
public final class FaultTest {
    private static final Check CHECK = new Check();
    private static final Texts TEXTS = new Texts(CHECK);

    private FaultTest() {
    }

    public static void main(String[] args) {
        notTokens();
        notThere();
        blocks();
        names();
        tooMuch();
        toldAlready();
        leastOfOnePlace();
        good();
        CHECK.end("FaultTest");
    }

    private static void fault(String marked, int kind) {
        TEXTS.fault(marked, kind);
    }

    private static void fine(String text, int lines) {
        TEXTS.fine(text, lines);
    }

    private static void notTokens() {
        fault("out 1 ^# 2;", 1);
        fault("out 1;^\tout 2;", 1);
        fault("out 1;^\rout 2;", 1);
        fault("^X = 1;", 1);
        fault("out ^" + (char) 200 + ";", 1);
        fault("out ^" + (char) 0 + ";", 1);
        fault("^abcde = 1;", 1);
        fault("out ^abcde;", 1);
        fault("in ^abcdefghijklmnop;", 1);
        fault("in ^" + "a".repeat(64) + "in;", 1);
        fault("^inrow x;", 1);
        fault("^loopi 3;", 1);
        fault("out 1 ^> 2;", 1);
        fault("out 1^.5;", 1);
        fault("^_ = 1;", 1);
    }

    private static void notThere() {
        fault("^;", 1);
        fault("out 1;^;", 1);
        fault("^7 = 1;", 1);
        fault("^= 1;", 1);
        fault("^(x) = 1;", 1);
        fault("in ^;", 1);
        fault("in ^3;", 1);
        fault("in x ^y;", 1);
        fault("in x^", 1);
        fault("in ^", 1);
        fault("in x  ^", 1);
        fault("out ^;", 1);
        fault("out^", 1);
        fault("out ^-1;", 1);
        fault("out 1+^;", 1);
        fault("out 1+^*2;", 1);
        fault("out 1 ^1;", 1);
        fault("out (1^;", 1);
        fault("out (1^];", 1);
        fault("out 1^);", 1);
        fault("out (^);", 1);
        fault("out 1 ^= 1;", 1);
        fault("out 1 ^< 1;", 1);
        fault("x ^1;", 1);
        fault("x ^< 1;", 1);
        fault("x = 1 ^= 1;", 1);
        fault("x = ^;", 1);
        fault("x = 1^", 1);
        fault("x^", 1);
        fault("row a^;", 1);
        fault("row a ^b;", 1);
        fault("row ^2 a;", 1);
        fault("row a 2 ^3;", 1);
        fault("row a 2;alias b a^;", 1);
        fault("row a 2;alias b ^0;", 1);
        fault("alias ^= 1;", 1);
        fault("x=1;x=^alias;", 1);
        fault("out ^out;", 1);
        fault("out ^row;", 1);
        fault("if 1^;", 1);
        fault("if 1 < ^;", 1);
        fault("if 1 < 2 ^< 3;", 1);
        fault("if ^< 2;", 1);
        fault("if 1 + ^< 2;", 1);
        fault("loop ^;", 1);
        fault("loop ^3 3;", 1);
        fault("loop i^;", 1);
        fault("loop i ^i;", 1);
        fault("loop i 3 ^4;", 1);
        fault("x = 1;^in y;", 1);
        fault("out 1;^row a 2;", 1);
        fault("row a 2;out 1;^alias b a 0;", 1);
        fault("loop i 2;^in y;", 1);
        fault("if 1<2;end;^in y;", 1);
    }

    private static void blocks() {
        fault("^else;", 1);
        fault("^end;", 1);
        fault("loop i 3;^else;", 1);
        fault("loop i 3;^", 1);
        fault("loop i 3; \n^", 1);
        fault("if 1<2;^", 1);
        fault("if 1<2;else;^", 1);
        fault("if 1<2;else;^else;end;", 1);
        fault("if 1<2;loop i 2;^else;end;end;", 1);
        fault("if 1<2;end;^else;", 1);
        fault("loop i 2;end;^end;", 1);
        fault("loop i 2;end ^3;", 1);
        fault("if 1<2;else ^x;", 1);
        fault("if 1<2;else^", 1);
    }

    private static void names() {
        fault("out ^x;", 1);
        fault("x = ^y;", 1);
        fault("y = 1;x = y + ^z;", 1);
        fault("row a 2;out a^;", 1);
        fault("row a 2;out a ^+ 1;", 1);
        fault("row a 2;out a ^(1);", 1);
        fault("row a 2;out a[^];", 1);
        fault("row a 2;out a[1^;", 1);
        fault("row a 2;out a[1^);", 1);
        fault("row a 2;out a[0]^[0];", 1);
        fault("row a 2;out a^", 1);
        fault("row a 2;a ^= 1;", 1);
        fault("row a 2;a^", 1);
        fault("row a 2;a[0^;", 1);
        fault("row a 2;a[0] ^+ 1;", 1);
        fault("row a 2;a[^] = 1;", 1);
        fault("row a 2;a[0 ^= 1;", 1);
        fault("in x;out x^[0];", 1);
        fault("out 3^[0];", 1);
        fault("x^[0] = 1;", 1);
        fault("in x;x^[0] = 1;", 1);
        fault("row a 2;loop ^a 3;", 1);
        fault("loop ^end 3;", 1);
        fault("in ^in;", 1);
        fault("in ^alias;", 1);
        fault("row ^loop 2;", 1);
        fault("in x;alias b ^x 0;", 1);
        fault("alias b ^b 0;", 1);
        fault("row a 2;alias b ^c 0;", 1);
        fault("row a 2;alias ^if a 0;", 1);
        fault("row a 2;alias b ^out 0;", 1);
    }

    private static void tooMuch() {
        fault("row a ^0;", 2);
        fault("row a ^9;", 2);
        fault("row a ^10000;", 2);
        fault("loop i ^0;", 2);
        fault("loop i ^21;", 2);
        fault("loop i ^10000;", 2);
        fault("row a 2;alias b a ^2;", 2);
        fault("row a 4;alias b a 2;alias c b ^2;", 2);
        fault("out ^10000;", 2);
        fault("out 1+^10000;", 2);
        fault("out ^99999999999999999999;", 2);
        fault("out ^4294967296;", 2);
        fault("in a;in b;in c;in d;^in e;", 2);
        fault("row a 1;row b 1;row c 1;row d 1;row e 1;row f 1;^row g 1;", 2);
        fault("row a 1;row b 1;row c 1;row d 1;row e 1;alias f a 0;^alias g a 0;", 2);
        fault("row a 1;row b 1;row c 1;row d 1;alias e a 0;alias f a 0;^row g 1;", 2);
        String eight = "in a;a=1;b=1;c=1;d=1;e=1;f=1;g=1;h=1;";
        fault(eight + "^i=1;", 2);
        fault(eight + "loop ^i 3;", 2);
        fault("in a;in b;loop c 1;loop d 1;e=1;f=1;g=1;h=1;^i=i;", 2);
        fault("loop i 1;loop i 1;loop i 1;loop i 1;^loop i 1;", 2);
        fault("if 1<2;if 1<2;if 1<2;if 1<2;^if 1<2;", 2);
        fault("if 1<2;else;loop i 1;if 1<2;else;loop i 1;^if 1<2;", 2);
        fault("if 1<2;loop i 1;if 1<2;else;loop i 1;^loop i 1;", 2);
        fault("out ((((((((^(1)))))))));", 2);
        fault("row a 2;out a[a[a[a[a[a[a[a[a^[0]]]]]]]]];", 2);
        fault("row a 2;out (a[(a[(a[(a[^(0)])])])]);", 2);
        fault("row a 2;a[((((((((^(0)))))))))] = 1;", 2);
        fault("row a 2;a[0] = ((((((((^(0)))))))));", 2);
        fault("if ((((((((1)))))))) < ((((((((^(1)))))))));", 2);
        fault("out ((((((((1))))))))+((((((((^(1)))))))));", 2);
    }

    private static void toldAlready() {
        fault("in x;in ^x;", 3);
        fault("in x;row ^x 2;", 3);
        fault("row a 2;in ^a;", 3);
        fault("row a 2;row ^a 3;", 3);
        fault("row a 2;alias ^a a 0;", 3);
        fault("in x;alias ^x y 0;", 3);
        fault("row a 2;alias b a 1;in ^b;", 3);
        fault("row a 2;alias b a 1;alias ^b a 0;", 3);
    }

    private static void leastOfOnePlace() {
        fault("in a;in b;in c;in d;out 1;^in e;", 1);
        fault("row a 1;row b 1;row c 1;row d 1;row e 1;row f 1;out 1;^row g 1;", 1);
        fault("in ^10000;", 1);
        fault("in a;in b;in c;in d;^in a;", 2);
        fault("row a ^a;", 1);
        fault("out ((((((((1 ^(2))))))))));", 1);
        fault("in x;out ((((((((x^[0]))))))));", 1);
        fault("row a 1;row b 1;row c 1;row d 1;row e 1;row f 1;^row a 1;", 2);
    }

    private static void good() {
        fine("", 0);
        fine(" \n \n", 0);
        fine("in x;", 1);
        fine("\nin\nx\n;\n", 1);
        fine("row a 1;row b 8;alias c b 7;in x;", 4);
        fine("row a 1;row b 1;row c 1;row d 1;row e 1;row f 1;in x;", 7);
        fine("in a;in b;in c;in d;e=1;f=1;g=1;h=1;a=h;", 9);
        fine("x=x+1;", 1);
        fine("loop i 1;end;loop j 20;end;", 4);
        fine("loop i 1;loop j 1;if 1<2;if 1=2;else;end;end;end;end;", 9);
        fine("loop i 1;loop i 1;end;end;loop i 1;loop i 1;loop i 1;loop i 1;end;end;end;end;", 12);
        fine("out ((((((((1))))))))+((((((((1))))))));", 1);
        fine("row a 2;out a[a[a[a[a[a[a[a[0]]]]]]]];", 2);
        fine("row a 2;a[((((((((0))))))))] = ((((((((0))))))));", 2);
        fine("row a 2;a[a[a[a[a[a[a[a[a[0]]]]]]]]] = 1;", 2);
        fine("if ((((((((1)))))))) < ((((((((1))))))));end;", 2);
        fine("out 9999;out 0;out 00009999;out " + "0".repeat(100) + ";", 4);
        fine("abcd=1;inn=2;ou=3;ali=4;els=abcd*inn;", 5);
        fine("x=1;x=2;", 2);
        fine("loop i20;out i*2/3-(i);end;", 3);
    }
}
