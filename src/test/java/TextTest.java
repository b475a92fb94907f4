/** The language of a TEXT: what is read, what it is worth, and each FAULT with its place. */
public final class TextTest {
    private static final Checks C = new Checks();

    public static void main(String[] args) {
        tokens();
        lines();
        expressions();
        conditions();
        rows();
        tooMuch();
        knots();
        toldAlready();
        noGear();
        values();
        errors();
        firstLineThatHolds();
        C.end("TextTest");
    }

    private static void tokens() {
        C.good("wheel\n1;", 1);
        C.good("\n \nwheel 1 ; ", 1);
        C.good("wheel(1);", 1);
        C.good("wheel 1and 2;", 1);
        C.good("wheel 1<=2;wheel 1>=2;wheel 1<>2;wheel 1=2;wheel 1<2;wheel 1>2;", 6);
        C.good("wheel 00000000000000000009999;", 1);
        C.bad("wheel 1< =2;", 1, 9);
        C.bad("wheel 1=<2;", 1, 8);
        C.bad("wheel 1><2;", 1, 8);
        C.bad("wheel 1<==2;", 1, 9);
        C.bad("wheel 1>>2;", 1, 8);
        C.bad("wheel 1<", 1, 8);
        C.bad("wheel 1<>", 1, 9);
        C.bad("\twheel 1;", 1, 0);
        C.bad("wheel 1\r;", 1, 7);
        C.bad("wheel 1;#", 1, 8);
        C.bad("Wheel 1;", 1, 0);
        C.bad("wheel off_;", 1, 9);
        C.bad("wheel \u00e9;", 1, 6);
        C.bad("wheel \u0000;", 1, 6);
        C.bad("wheelo 1;", 1, 0);
        C.bad("wheel1wheel;", 1, 6);
        C.bad("rudders", 1, 0);
        C.bad("wheel rudders;", 1, 6);
        C.bad("gear abcdefg;", 1, 5);
        C.good("gear abcdef;", 1);
    }

    private static void lines() {
        C.good("", 0);
        C.good("  ", 0);
        C.bad(";", 1, 0);
        C.bad("wheel 1;;", 1, 8);
        C.bad("wheel 1", 1, 7);
        C.bad("wheel 1  ", 1, 9);
        C.bad("wheel", 1, 5);
        C.bad("wheel;", 1, 5);
        C.bad("if 1;", 1, 4);
        C.bad("if wheel;", 1, 8);
        C.good("if wheel wheel wheel;", 1);
        C.bad("if 1 gear a;", 1, 5);
        C.bad("if 1 if 1 wheel 1;", 1, 5);
        C.bad("wheel 1 if 1;", 1, 8);
        C.bad("gear;", 1, 4);
        C.bad("gear 1;", 1, 5);
        C.bad("gear a b;", 1, 7);
        C.bad("gear a if;", 1, 9);
        C.bad("gear a if a", 1, 11);
        C.bad("safe;", 1, 4);
        C.bad("off;", 1, 0);
        C.bad("a;", 1, 0);
        C.bad("1;", 1, 0);
        for (String word : new String[] {"if", "wheel", "gear", "safe", "row", "or", "and", "not", "off", "turn", "ram", "rudder"}) {
            C.bad("gear " + word + ";", 1, 5);
        }
        C.good("gear i;gear whee;gear ifs;gear o;", 4);
    }

    private static void expressions() {
        C.good("wheel not not 1;", 1);
        C.good("wheel not 1<2 and not (3) or 4;", 1);
        C.good("wheel (1<2)<3;", 1);
        C.good("wheel 1<(2<3);", 1);
        C.good("wheel 1<2 and 2<3 or not 3<4;", 1);
        C.bad("wheel -1;", 1, 6);
        C.bad("wheel +1;", 1, 6);
        C.bad("wheel 1+;", 1, 8);
        C.bad("wheel 1+not 2;", 1, 8);
        C.bad("wheel 1<not 2;", 1, 8);
        C.bad("wheel 1*not 2;", 1, 8);
        C.bad("wheel 1 not 2;", 1, 8);
        C.bad("wheel 1<2=3;", 1, 9);
        C.bad("wheel 1+2<3*4>5;", 1, 13);
        C.bad("wheel not 1<2<3;", 1, 13);
        C.bad("wheel 0 or 1<2<3;", 1, 14);
        C.bad("wheel (1<2<3);", 1, 10);
        C.bad("wheel ();", 1, 7);
        C.bad("wheel (1;", 1, 8);
        C.bad("wheel (1", 1, 8);
        C.bad("wheel 1);", 1, 7);
        C.bad("wheel (1));", 1, 9);
        C.bad("wheel 1 2;", 1, 8);
        C.bad("wheel 1(2);", 1, 7);
        C.bad("wheel and 1;", 1, 6);
        C.bad("wheel 1 or;", 1, 10);
        C.bad("wheel not;", 1, 9);
        C.bad("wheel a;", 1, 6);
        C.bad("wheel row;", 1, 6);
        C.bad("if (1 wheel 2;", 1, 6);
    }

    private static void conditions() {
        C.good("gear a if not not (a or b) and a;gear b;", 2);
        C.bad("gear a if 1;", 1, 10);
        C.bad("gear a if off;", 1, 10);
        C.bad("gear a if a=a;", 1, 11);
        C.bad("gear a if a+a;", 1, 11);
        C.bad("gear a if a a;", 1, 12);
        C.bad("gear a if (a;", 1, 12);
        C.bad("gear a if a);", 1, 11);
        C.bad("gear a if a and;", 1, 15);
        C.bad("gear a if not;", 1, 13);
        C.bad("gear a if a not a;", 1, 12);
        C.bad("safe abcdefg;", 1, 5);
    }

    private static void rows() {
        C.good("row 1 0;", 1);
        C.good("row 9-30 30-0;", 1);
        C.bad("row;", 1, 3);
        C.bad("row", 1, 3);
        C.bad("row - 1;", 1, 4);
        C.bad("row 1;", 1, 5);
        C.bad("row 1 -;", 1, 7);
        C.bad("row 1 - - 1;", 1, 8);
        C.bad("row 1 1 -;", 1, 9);
        C.bad("row 1 1 +1;", 1, 8);
        C.bad("row 1 off;", 1, 6);
        C.bad("row 1 (1);", 1, 6);
        C.bad("row 1 1", 1, 7);
        C.bad("row 1 1 wheel 1;", 1, 8);
    }

    private static void tooMuch() {
        C.good("wheel 9999;", 1);
        C.bad("wheel 10000;", 2, 6);
        C.bad("wheel 99999999999999999999999;", 2, 6);
        C.bad("wheel 1 10000;", 1, 8);
        C.bad("row 0 1;", 2, 4);
        C.bad("row 10 1;", 2, 4);
        C.bad("row 4294967297 1;", 2, 4);
        C.bad("row 1 31;", 2, 6);
        C.bad("row 1 -31;", 2, 7);
        C.good("row 1 1 2 3 4 5 6 7 8 9 1 2 3;", 1);
        C.bad("row 1 1 2 3 4 5 6 7 8 9 1 2 3 4;", 2, 30);
        C.bad("row 1 1 2 3 4 5 6 7 8 9 1 2 3 -4;", 2, 31);
        C.bad("row 1 1 2 3 4 5 6 7 8 9 1 2 3 -;", 1, 31);
        String twelve = "wheel 1;".repeat(12);
        C.good(twelve, 12);
        C.bad(twelve + "wheel 1;", 2, 96);
        C.bad(twelve + " if 1 wheel 1;", 2, 97);
        C.bad(twelve + "if", 2, 96);
        String six = "gear a;gear b;gear c;gear d;gear e;gear f;";
        C.good(six, 6);
        C.bad(six + "gear g;", 2, 42);
        C.bad(six + "gear", 2, 42);
        C.bad(six + "gear a;", 2, 42);
        C.good("row 1 1;".repeat(6), 6);
        C.bad("row 1 1;".repeat(6) + "row", 2, 48);
        C.good("wheel " + "(".repeat(8) + "1" + ")".repeat(8) + ";", 1);
        C.bad("wheel " + "(".repeat(9) + "1" + ")".repeat(9) + ";", 2, 14);
        C.good("wheel " + "(".repeat(8) + "1" + ")".repeat(8) + "+" + "(".repeat(8) + "1" + ")".repeat(8) + ";", 1);
        C.good("gear a if " + "(".repeat(8) + "a" + ")".repeat(8) + ";", 1);
        C.bad("gear a if " + "(".repeat(9) + "a" + ")".repeat(9) + ";", 2, 18);
        C.good("if ((((((((1)))))))) wheel ((((((((1))))))));", 1);
    }

    private static void knots() {
        String ones = "wheel 1" + "+1".repeat(31) + ";";
        HuntingRudder x = new HuntingRudder();
        C.due("63 KNOTS and one more", Checks.read(x, ones + "wheel 1;"), 2);
        C.due("64 of E", x.count(3), 64);
        C.bad(ones + "wheel 1+1;", 2, ones.length() + 7);
        C.bad(ones + "wheel 1;wheel 1;", 2, ones.length() + 14);
        C.bad(ones + "wheel 1;wheel off;", 2, ones.length() + 14);
        C.bad(ones + "wheel 1;if not 1 wheel 1;", 2, ones.length() + 11);
        C.bad(ones + "wheel 1 and 1;", 2, ones.length() + 8);
        C.bad(ones + "wheel 1 or 1;", 2, ones.length() + 8);
        C.bad(ones + "wheel 1<1;", 2, ones.length() + 7);
        C.bad(ones + "wheel 1 not;", 1, ones.length() + 8);
        C.good(ones + "wheel (1);row 1 1 -2;gear a if not a;", 4);
        String nots = "gear a if " + "not ".repeat(61) + "a;";
        HuntingRudder y = new HuntingRudder();
        C.due("62 KNOTS and two more", Checks.read(y, nots + "gear b if not(a);"), 2);
        C.due("64 of B", y.count(4), 64);
        C.due("none of E", y.count(3), 0);
        C.bad(nots + "gear b if not a or b;", 2, nots.length() + 16);
        C.bad(nots + "gear b if a;safe a and b;", 2, nots.length() + 19);
        C.bad(nots + "gear b if a;safe a;gear c if c;", 2, nots.length() + 29);
        C.bad(nots + "gear b if a;safe a;gear c if x;", 2, nots.length() + 29);
        C.good("wheel " + "not ".repeat(63) + "1;", 1);
        C.order("wheel " + "not ".repeat(63) + "7;", 0, 0);
        C.order("wheel " + "not ".repeat(62) + "7;", 0, 1);
    }

    private static void toldAlready() {
        C.bad("gear a;gear a;", 3, 12);
        C.bad("gear a;gear a", 3, 12);
        C.good("gear a;gear aa;gear ab;", 3);
        C.bad("safe a;gear a;safe a;", 3, 14);
        C.bad("safe a;safe a;gear a;", 3, 7);
        C.bad("gear a;safe a;safe", 3, 14);
    }

    private static void noGear() {
        C.good("safe b;gear a if b;gear b if a;", 3);
        C.bad("safe b;gear a;", 4, 5);
        C.bad("gear a if a or b and c;", 4, 15);
        C.bad("gear a if c and a;safe d;", 4, 10);
        C.bad("safe not (a or b);gear b;", 4, 10);
        C.bad("safe b;wheel 1", 1, 14);
        C.bad("safe b;;", 1, 7);
        C.bad("safe b;gear a;gear a;", 3, 19);
        C.bad("safe b;row 1 31;", 2, 13);
    }

    private static void values() {
        C.order("wheel 2+3*4;", 0, 14);
        C.order("wheel (2+3)*4;", 0, 20);
        C.order("wheel 20-5-3;", 0, 12);
        C.order("wheel 20/3/2;", 0, 3);
        C.order("wheel 20/3*2;", 0, 12);
        C.order("wheel off/4;", -7, -1);
        C.order("wheel off/(0-4);", -7, 1);
        C.order("wheel 7/(0-2);", 0, -3);
        C.order("wheel 1<2;", 0, 1);
        C.order("wheel 2<=1;", 0, 0);
        C.order("wheel 2<=2;", 0, 1);
        C.order("wheel 2=2;", 0, 1);
        C.order("wheel 2<>2;", 0, 0);
        C.order("wheel 2>=3;", 0, 0);
        C.order("wheel 3>2;", 0, 1);
        C.order("wheel 5 and 7;", 0, 1);
        C.order("wheel 5 and 0;", 0, 0);
        C.order("wheel 0 or 7;", 0, 1);
        C.order("wheel 0 or 0;", 0, 0);
        C.order("wheel not 5;", 0, 0);
        C.order("wheel not 0;", 0, 1);
        C.order("wheel 1 or 0 and 0;", 0, 1);
        C.order("wheel (1 or 0) and 0;", 0, 0);
        C.order("wheel not 0 and 0;", 0, 0);
        C.order("wheel not (0 and 0);", 0, 1);
        C.order("wheel not 1=2;", 0, 1);
        C.order("wheel (not 1)=0;", 0, 1);
        C.order("wheel 1+2<2+2;", 0, 1);
        C.order("wheel (1<2)+(2<3)+(3<4);", 0, 3);
    }

    private static void errors() {
        C.order("wheel 5/0;", 0, 0);
        C.order("wheel 5/off;", 0, 0);
        C.order("wheel 1 or 1/0;", 0, 0);
        C.order("wheel 0 and 1/0;", 0, 0);
        C.order("wheel not (1/0);", 0, 0);
        // 10 to the 12 is a VALUE still, one more is none.
        C.order("wheel 1000*1000*1000*1000/1000/1000/1000/100;", 0, 10);
        C.order("wheel (1000*1000*1000*1000+1)*0+5;", 0, 0);
        C.order("wheel (0-1000*1000*1000*1000)*0+5;", 0, 5);
        C.order("wheel (0-1000*1000*1000*1000-1)*0+5;", 0, 0);
        C.order("wheel (1000*1000*1000*1000)*(1000*1000*1000*1000)*0+5;", 0, 0);
        C.order("wheel (1000*1000*1000)*(1000*1000*1000)*0+5;", 0, 0);
        C.order("wheel (0-1000*1000*1000*1000)*(1000*1000*1000*1000)*0+5;", 0, 0);
        C.order("wheel (1000*1000*1000*1000)*0+5;", 0, 5);
        C.order("wheel 9999*9999*9999/9999/9999/1000;", 0, 9);
        C.order("wheel 9999*9999*9999*2;", 0, 0);
        // 4294967296 times itself is 0 in a long that goes round.
        C.order("wheel (256*256*256*256)*(256*256*256*256)+5;", 0, 0);
    }

    private static void firstLineThatHolds() {
        C.order("if off>5 wheel 1;if off>3 wheel 2;wheel 3;", 6, 1);
        C.order("if off>5 wheel 1;if off>3 wheel 2;wheel 3;", 4, 2);
        C.order("if off>5 wheel 1;if off>3 wheel 2;wheel 3;", 0, 3);
        C.order("if 0 wheel 1;", 0, 0);
        C.order("if 0-7 wheel 1;wheel 2;", 0, 1);
        C.order("if 1/0 wheel 1;wheel 2;", 0, 2);
        C.order("wheel 1/0;wheel 2;", 0, 0);
        C.order("if 1 wheel 1/0;wheel 2;", 0, 0);
        C.order("wheel 4;wheel 5;", 0, 4);
        C.order("if 0 wheel 1/0;wheel 5;", 0, 5);
        C.order("row 1 1;wheel 5;gear a;", 0, 5);
    }
}
