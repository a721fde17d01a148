/** Term I: each sentence about an edge of a TEST, or about a FAULT, by itself. */
public final class TestEdges {
    private static final String[] OWN = {"days", "person", "part", "from", "to", "kind", "weighs", "turn", "on", "never",
        "rest", "apart", "beside", "or", "and", "not", "all", "day", "week", "weekday"};
    private static final String TWO = Edges.people(2);
    private static final String ON = Edges.KIND + "turn k on ";

    private TestEdges() {
    }

    // ---- tests

    /** The test holds on these of the days 0 to 27, and on no other. */
    private static void holds(String test, int... days) {
        Edges.is("house on " + test, Edges.read(ON + test + ";"), days.length);
        for (int turn = 0; turn < days.length; turn++) {
            Edges.is(test + ", turn " + turn, Edges.x.turn(turn, 0), days[turn]);
        }
    }

    private static void always(String test) {
        Edges.is("house on " + test, Edges.read(ON + test + ";"), 28);
    }

    private static String told(long number) {
        if (number < 0) {
            return "0-" + told(-number).replace("+", "-");
        }
        if (number <= 9999) {
            return String.valueOf(number);
        }
        return number / 9999 <= 9999 ? number / 9999 + "*9999+" + number % 9999
            : number / 9999 / 9999 + "*9999*9999+" + number / 9999 % 9999 + "*9999+" + number % 9999;
    }

    /** The sum is this number, and none of its neighbours. */
    private static void gives(String sum, long number) {
        always(sum + "=" + told(number));
        if (number < 1000000000L) {
            always(sum + "<" + told(number + 1));
        }
        if (number > -1000000000L) {
            always(sum + ">" + told(number - 1));
        }
    }

    private static void facts() {
        Edges.sentence("I: TEST: BOTH { or BOTH }, BOTH: FACT { and FACT }");
        holds("day<3 or day<10 and day>7", 0, 1, 2, 8, 9);
        holds("day<10 and day>7 or day<3", 0, 1, 2, 8, 9);
        holds("day<2 and day>5 or day<3", 0, 1, 2);
        holds("day=1 or day=2 or day=3 and day=4", 1, 2);
        holds("day=4 and day<9 and day>2", 4);
        holds("day=1 and day=2 or day=3 and day=3 or day=5 and all", 3, 5);
        Edges.sentence("I: FACT: not FACT: of one FACT alone");
        holds("not day>2 and day<9", 0, 1, 2);
        holds("not day<26 or day=0", 0, 26, 27);
        holds("not not day=3", 3);
        holds("not all");
        holds("not [day<5 or day>6]", 5, 6);
        Edges.sentence("I: FACT: [ TEST ]");
        holds("[day<3 or day<10] and day>7", 8, 9);
        holds("day<10 and [day>7 or day<3]", 0, 1, 2, 8, 9);
        holds("[[[[[[day=3]]]]]]", 3);
        Edges.sentence("I: SIGN: < or > or =");
        holds("day<1", 0);
        holds("day<0");
        holds("day>26", 27);
        holds("day>27");
        holds("27<day+1", 27);
        holds("day=0", 0);
        holds("day=27", 27);
        holds("day=28");
        Edges.sentence("I: week (day / 7), weekday (day % 7)");
        holds("week=0 and day>5", 6);
        holds("week=1 and day<9", 7, 8);
        holds("week=3 and day>26", 27);
        holds("week>3");
        holds("weekday=0", 0, 7, 14, 21);
        holds("weekday=6", 6, 13, 20, 27);
        holds("weekday>6");
        Edges.is("day 199", Edges.read("days 200;" + ON + "week=28 and weekday=3 and day=199;"), 1);
        Edges.sentence("I: PART: N (1 to 4 digits)");
        gives("0", 0);
        gives("0000", 0);
        gives("0010", 10);
        gives("9999", 9999);
        Edges.fault(1, ON + "1234^5>0;");
        Edges.fault(1, ON + "0000^0=0;");
        Edges.fault(1, ON + "day<9999^9;");
        Edges.fault(1, ON + "day<(1+1000^01);");
    }

    private static void sums() {
        Edges.sentence("I: all from the left on");
        gives("9-3-2", 4);
        gives("9-(3-2)", 8);
        gives("9-3+2", 8);
        gives("100/7/2", 7);
        gives("100/(7/2)", 33);
        gives("17%7*2", 6);
        gives("2*17%7", 6);
        gives("9/2*2", 8);
        gives("100%30%7", 3);
        gives("0-9/2", -4);
        Edges.sentence("I: SUM: PRODUCT { + or - PRODUCT }: products ahead of sums");
        gives("2+3*4", 14);
        gives("2*3+4", 10);
        gives("(2+3)*4", 20);
        gives("20-6/4", 19);
        gives("20-7%4-1", 16);
        gives("1+2*3*4+5*6-7", 48);
        gives("((((((5))))))-((((((6))))))", -1);
        Edges.sentence("I: / gives the greatest whole number not above");
        gives("7/2", 3);
        gives("8/2", 4);
        gives("(0-7)/2", -4);
        gives("(0-8)/2", -4);
        gives("7/(0-2)", -4);
        gives("8/(0-2)", -4);
        gives("(0-7)/(0-2)", 3);
        gives("(0-1)/9999", -1);
        gives("1/(0-9999)", -1);
        gives("0/5", 0);
        gives("0/(0-5)", 0);
        Edges.sentence("I: % what then lacks");
        gives("7%2", 1);
        gives("8%2", 0);
        gives("(0-7)%2", 1);
        gives("(0-8)%2", 0);
        gives("7%(0-2)", -1);
        gives("8%(0-2)", 0);
        gives("(0-7)%(0-2)", -1);
        gives("(0-1)%9999", 9998);
        gives("1%(0-9999)", -9998);
        gives("5%9", 5);
        Edges.sentence("I: by 0 both give 0");
        gives("5/0", 0);
        gives("5%0", 0);
        gives("(0-5)/0", 0);
        gives("(0-5)%0", 0);
        gives("0/0", 0);
        gives("0%0", 0);
        gives("9/(3-3)+7", 7);
        gives("9%(0*9)+7", 7);
        holds("7/day=0 and day<9", 0, 8);
        holds("7%day=0 and day<9", 0, 1, 7);
    }

    private static void farSums() {
        String most = "9999*9999*11";
        long top = 1000000000L;
        Edges.sentence("I: each product above 10 to the 9 is that");
        gives("1000*1000*1000", top);
        gives("(3*9999+1625)*(3*9999+1625)", 999950884L);
        gives("(3*9999+1626)*(3*9999+1626)", top);
        gives("9999*9999*10", 999800010L);
        gives(most, top);
        gives("9999*9999*9999*9999*9999*9999*9999", top);
        gives(most + "*(" + most + ")", top);
        gives("(0-" + most + ")*(0-" + most + ")", top);
        gives("(0-9999*9999)*(0-9999*9999)", top);
        gives(most + "*0", 0);
        gives(most + "/1000/1000", 1000);
        Edges.sentence("I: each sum above 10 to the 9 is that");
        gives(most + "+1", top);
        gives(most + "+(" + most + ")", top);
        gives("999*1000*1000+999*1000+999", 999999999L);
        gives("999*1000*1000+999*1000+999+1", top);
        gives("999*1000*1000+999*1000+999+2", top);
        gives(most + "+9999-9999", top - 9999);
        gives("0-1+(" + most + ")", top - 1);
        Edges.sentence("I: each difference above 10 to the 9 is that");
        gives(most + "-(0-1)", top);
        gives(most + "-(0-" + most + ")", top);
        gives("999*1000*1000+999*1000+999-(0-1)", top);
        gives("999*1000*1000+999*1000+999-(0-2)", top);
        gives(most + "-1", top - 1);
        Edges.sentence("I: below -10 to the 9 likewise");
        gives("0-" + most, -top);
        gives("0-1000*1000*1000", -top);
        gives("0-" + most + "-1", -top);
        gives("0-" + most + "-(" + most + ")", -top);
        gives("0-" + most + "+(0-1)", -top);
        gives("(0-" + most + ")*2", -top);
        gives("(0-" + most + ")*(" + most + ")", -top);
        gives(most + "*(0-" + most + ")", -top);
        gives("0-" + most + "-9999+9999", -top + 9999);
        gives("0-999*1000*1000-999*1000-999", -999999999L);
        gives("0-999*1000*1000-999*1000-999-1", -top);
        gives("0-999*1000*1000-999*1000-999-2", -top);
        gives("(0-" + most + ")/(0-1)", top);
        gives("(0-" + most + ")%(1000*1000)", 0);
    }

    // ---- faults

    private static void wrongBytes() {
        Edges.sentence("I: 1 the first byte with which no HOUSE goes on: words and numbers whole, at their first byte");
        Edges.fault(1, "^x;");
        Edges.fault(1, "^daysx 3;");
        Edges.fault(1, "^day 3;");
        Edges.fault(1, "^turns k on all;");
        Edges.fault(1, "^3;");
        Edges.fault(1, "^99999;");
        Edges.fault(1, "^abcdefghi;");
        Edges.fault(1, "days ^abcdefghi;");
        Edges.fault(1, "days ^part;");
        Edges.fault(1, "days 3 ^4;");
        Edges.fault(1, "days 3 ^45678;");
        Edges.fault(1, "person a ^parts 1 from 0 to 0;");
        Edges.fault(1, "person a ^b part 1 from 0 to 0;");
        Edges.fault(1, "person a ^1 part 1 from 0 to 0;");
        Edges.fault(1, "person a part ^from 0 to 0;");
        Edges.fault(1, "person a part 1 ^to 0 from 0;");
        Edges.fault(1, "person a part 1 from 0 ^from 0;");
        Edges.fault(1, "person a part 1 from 0 to 0 ^to 0;");
        Edges.fault(1, "kind k ^weigh 1;");
        Edges.fault(1, "kind k ^1;");
        Edges.fault(1, Edges.KIND + "turn k ^all;");
        Edges.fault(1, ON + "^on;");
        Edges.fault(1, ON + "^alls;");
        Edges.fault(1, ON + "^k;");
        Edges.fault(1, ON + "all ^nor all;");
        Edges.fault(1, ON + "day ^1<2;");
        Edges.fault(1, ON + "day < ^all;");
        Edges.fault(1, ON + "day < ^not all;");
        Edges.fault(1, ON + "day < ^[ day ];");
        Edges.fault(1, ON + "( day ^< 1 );");
        Edges.fault(1, ON + "[ day ^];");
        Edges.fault(1, ON + "[ all ^);");
        Edges.fault(1, ON + "( day ^];");
        Edges.fault(1, ON + "all ^];");
        Edges.fault(1, ON + "day<1 ^);");
        Edges.fault(1, ON + "day<1^<2;");
        Edges.fault(1, ON + "day<^=1;");
        Edges.fault(1, ON + "day^;");
        Edges.fault(1, ON + "^-1<day;");
        Edges.fault(1, ON + "day+^+1=2;");
        Edges.fault(1, ON + "all^+1=2;");
        Edges.fault(1, ON + "all and ^and all;");
        Edges.fault(1, ON + "all or ^;");
        Edges.fault(1, ON + "not ^;");
        Edges.fault(1, ON + "^;");
        Edges.fault(1, ON + "[^];");
        Edges.fault(1, ON + "(^)=1;");
        Edges.fault(1, TWO + "apart a b ^a;");
        Edges.fault(1, TWO + "apart a ^1;");
        Edges.fault(1, Edges.KIND + "rest k k ^k;");
        Edges.fault(1, Edges.KIND + "rest k ^1;");
        Edges.fault(1, TWO + Edges.KIND + "never a ^on all;");
    }

    private static void wrongBytesInside() {
        Edges.sentence("I: 1 where a number is asked, a 5th digit at itself");
        Edges.fault(1, "days 1234^5;");
        Edges.fault(1, "days 0000^0;");
        Edges.fault(1, "days 0003^0123456789;");
        Edges.fault(1, "person a part 1234^5 from 0 to 0;");
        Edges.fault(1, "person a part 1 from 1234^5 to 0;");
        Edges.fault(1, "person a part 1 from 0 to 1234^56;");
        Edges.fault(1, "kind k weighs 0000^1;");
        Edges.fault(1, Edges.KIND + "rest k k 0000^1;");
        Edges.fault(1, ON + "0000^1=1;");
        Edges.fault(1, ON + "(1+2*0000^1)=1;");
        Edges.sentence("I: 1 where a NAME is asked, a 7th letter of what is no OWN WORD at itself");
        Edges.fault(1, "person abcdef^g part 1 from 0 to 0;");
        Edges.fault(1, "person weekda^ys part 1 from 0 to 0;");
        Edges.fault(1, "kind besidd^eeeeeeeeee weighs 1;");
        Edges.fault(1, Edges.KIND + "turn kkkkkk^k on all;");
        Edges.fault(1, TWO + Edges.KIND + "never aaaaaa^a k on all;");
        Edges.fault(1, TWO + Edges.KIND + "never a kkkkkk^k on all;");
        Edges.fault(1, Edges.KIND + "rest kkkkkk^k k 1;");
        Edges.fault(1, Edges.KIND + "rest k kkkkkk^k 1;");
        Edges.fault(1, TWO + "apart aaaaaa^a b;");
        Edges.fault(1, TWO + "apart a bbbbbb^b;");
        Edges.fault(1, TWO + "beside aaaaaa^a b;");
        Edges.fault(1, TWO + "beside a person^n;");
        Edges.sentence("I: 1 an OWN WORD where a NAME must be, at its first byte");
        for (String word : OWN) {
            Edges.fault(1, "person ^" + word);
            Edges.fault(1, "kind ^" + word + " weighs 1;");
            Edges.fault(1, Edges.KIND + "turn ^" + word + " on all;");
            Edges.fault(1, TWO + Edges.KIND + "never ^" + word + " k on all;");
            Edges.fault(1, TWO + Edges.KIND + "never a ^" + word + " on all;");
            Edges.fault(1, Edges.KIND + "rest ^" + word + " k 1;");
            Edges.fault(1, Edges.KIND + "rest k ^" + word + " 1;");
            Edges.fault(1, TWO + "apart ^" + word + " b;");
            Edges.fault(1, TWO + "beside a ^" + word + ";");
        }
        Edges.sentence("I: 1 at the text's length, if it ends too soon");
        String[] whole = {"days 3 ;", "person a part 1 from 0 to 0 ;", "kind k weighs 1 ;",
            "turn k on not [ day + 1 * ( week - 2 ) < 3 and all ] or day = 5 % 2 ;", "never a k on all ;", "rest k k 1 ;",
            "apart a b ;", "beside a b ;"};
        for (String one : whole) {
            String ahead = one.startsWith("person") ? "" : one.startsWith("kind") ? TWO : TWO + Edges.KIND;
            for (int at = one.indexOf(' '); at >= 0; at = one.indexOf(' ', at + 1)) {
                Edges.fault(1, ahead + one.substring(0, at) + "^");
                Edges.fault(1, ahead + one.substring(0, at) + " \n ^");
            }
            Edges.sound(ahead + one);
        }
        Edges.fault(1, "days 3" + Edges.times(894, " ") + "^");
        Edges.fault(1, ON + Edges.times(437, "1+") + "^");
        Edges.fault(1, ON + Edges.times(436, "1+") + "1<^");
        Edges.sound(ON + Edges.times(435, "1+") + "1<1;");
    }

    private static void wrongNumbersAndNames() {
        Edges.sentence("I: 2 a number (of 1 to 4 digits) that can't be, at it");
        Edges.fault(2, "days ^0;");
        Edges.fault(2, "days 3; days  ^0201;");
        Edges.fault(2, "person a part ^0 from 0 to 0;");
        Edges.fault(2, "person a part 1 from ^200 to 0;");
        Edges.fault(2, "person a part 1 from 9 to ^8;");
        Edges.fault(2, "kind k weighs ^10;");
        Edges.fault(2, Edges.KIND + "rest k k ^31;");
        Edges.fault(2, "days ^0x;");
        Edges.fault(2, "days ^201");
        Edges.sentence("I: 2 also a part with which all are above 16, at it");
        Edges.fault(2, Edges.person('a', 8) + "person b part ^9 from 0 to 0;");
        Edges.fault(2, Edges.person('a', 8) + "person b part ^0009 from 0 to 0;");
        Edges.fault(2, Edges.person('a', 8) + Edges.person('b', 8) + "person c part ^1");
        Edges.sentence("I: 3 a NAME to be given that is there already, at it");
        Edges.fault(3, TWO + "person  ^b part 1 from 0 to 0;");
        Edges.fault(3, TWO + "kind ^a");
        Edges.fault(3, Edges.KIND + "person ^k!");
        Edges.sentence("I: 3 one that is none of what is asked, at it");
        Edges.fault(3, TWO + Edges.KIND + "turn ^c on all;");
        Edges.fault(3, TWO + Edges.KIND + "turn ^b on all;");
        Edges.fault(3, TWO + Edges.KIND + "never ^k a on all;");
        Edges.fault(3, TWO + Edges.KIND + "never a ^a on all;");
        Edges.fault(3, TWO + Edges.KIND + "apart a ^c");
        Edges.sentence("I: 3 the same one again where unlike ones must be, at it");
        Edges.fault(3, TWO + "apart a ^a;");
        Edges.fault(3, TWO + "beside b \n ^b;");
        Edges.sentence("I: 5 a 17th PERSON, 7th KIND, 61st other STATEMENT, at its first byte");
        StringBuilder crowd = new StringBuilder();
        for (char name = 'a'; name <= 'p'; name++) {
            crowd.append(Edges.person(name, 1));
        }
        Edges.fault(5, crowd + " ^person q part 1 from 0 to 0;");
        StringBuilder kinds = new StringBuilder();
        for (char name = 'a'; name <= 'f'; name++) {
            kinds.append("kind ").append(name).append(" weighs 0;");
        }
        Edges.fault(5, kinds + "\n^kind g weighs 1;");
        Edges.fault(5, TWO + Edges.times(60, "apart a b;") + "  ^apart b a;");
    }

    private static void depths() {
        Edges.sentence("I: 4 the 7th ( that is open at once, at it");
        Edges.sound(ON + "((((((1))))))=1;");
        Edges.sound(ON + "1=((((((1))))));");
        Edges.sound(ON + "((((((1))))))+((((((1))))))=((((((2))))))*((((((1))))));");
        Edges.fault(4, ON + "((((((^(1)))))))=1;");
        Edges.fault(4, ON + "1=((((((^(1)))))));");
        Edges.fault(4, ON + "((((((^(");
        Edges.fault(4, ON + "1+2*(((3-((4)+(5)+(6)+((7*^(8)))))))=1;");
        Edges.sentence("I: 4 the 7th [ that is open at once, at it");
        Edges.sound(ON + "[[[[[[all]]]]]];");
        Edges.sound(ON + "[[[[[[all]]]]]] and [[[[[[all]]]]]] or [[[[[[all]]] and [[[all]]]]]];");
        Edges.fault(4, ON + "[[[[[[^[all]]]]]]];");
        Edges.fault(4, ON + "[all] and [[[[[[^[");
        Edges.sentence("I: 4 the 7th not that is open at once, at it");
        Edges.sound(ON + "not not not not not not all;");
        Edges.fault(4, ON + "not not not not not not ^not all;");
        Edges.fault(4, ON + "not not not not not not  ^not");
        Edges.sentence("I: 4 the 7th of ( [ not together");
        Edges.sound(ON + "not [not [((1))=1]];");
        Edges.sound(ON + "not not [[((1))<2]];");
        Edges.fault(4, ON + "not not [[((^(1)))<2]];");
        Edges.fault(4, ON + "not not [[not not ^[all]]];");
        Edges.fault(4, ON + "[[[[[not ^not all]]]]];");
        Edges.fault(4, ON + "[[[not not not day<^(1)]]];");
        Edges.fault(4, TWO + Edges.KIND + "never a k on [[[not not not ^(1)<day]]];");
        Edges.sentence("I: 4 those that are closed are not open");
        Edges.sound(ON + "[[[[[all]]]]] and [(1)=1] and [[(((1)))=1]] and [all] and [all] and [all] and [all] and [all];");
        Edges.sound(ON + "(1)+(1)+(1)+(1)+(1)+(1)+(1)+(1)+(1)=(9);");
        Edges.sound(ON + "[[[[[[all]]]]]];turn k on [[[[[[all]]]]]];");
        Edges.sentence("I: 4 a not is open until its FACT ends");
        Edges.sound(ON + "not not not not not not all and not not not not not not all;");
        Edges.sound(ON + "not not not not not not all or [[[[[[all]]]]]];");
        Edges.sound(ON + "not not not not not not all and ((((((1))))))=1;");
        Edges.sound(ON + "[not not not not not all and not not not not not all];");
        Edges.sound(ON + "[not not all and [[[[[all]]]]]];");
        Edges.sound(ON + "[not not [all] and [[[[[all]]]]]];");
        Edges.fault(4, ON + "not not not not not not 1<^(2);");
        Edges.fault(4, ON + "not not not not not not ^[all];");
        Edges.fault(4, ON + "not not not [all and not [all or ^[[all]]]];");
        Edges.sentence("I: 4 a [ or not that may not be there is no 7th");
        Edges.fault(1, ON + "[[[[[[1<^[all]]]]]]];");
        Edges.fault(1, ON + "[[[[[[1<^not all]]]]]];");
        Edges.fault(1, ON + "[[[[[[all^(1)]]]]]];");
    }

    private static void order() {
        Edges.sentence("I: FAULTS, the first along the text");
        Edges.fault(1, "days ^x;days 0;");
        Edges.fault(2, "days ^0;days x;");
        Edges.fault(2, "person a part ^10 from 200 to 0;person a");
        Edges.fault(2, "person a part 1 from ^200 to 0;");
        Edges.fault(3, TWO + "person ^a part 10 from 0 to 0;");
        Edges.fault(3, "turn ^k all;");
        Edges.fault(1, TWO + "apart a ^1 a;");
        Edges.fault(3, TWO + "apart ^c c;");
        Edges.fault(4, ON + "not not not not not not ^not not x;days 0;");
        Edges.fault(1, ON + "not not not not not not ^x and [[[[[[[all;");
        Edges.fault(5, TWO + Edges.times(60, "apart a b;") + "^apart a a;days 0;");
        Edges.fault(2, TWO + Edges.times(60, "apart a b;") + "days ^0;apart a a;");
        Edges.fault(1, "days 200;" + ON + "all;turn k on all;^?");
        Edges.fault(6, "days 200;" + ON + "all;turn k on all; ^");
    }

    public static void main(String[] args) {
        facts();
        sums();
        farSums();
        wrongBytes();
        wrongBytesInside();
        wrongNumbersAndNames();
        depths();
        order();
        Edges.finish("TestEdges");
    }
}
