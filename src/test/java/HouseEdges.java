/** Terms I and promises 1 to 7: each sentence about an edge of the tape or of a house by itself. */
public final class HouseEdges {
    private static final String[] OWN = {"days", "person", "part", "from", "to", "kind", "weighs", "turn", "on", "never",
        "rest", "apart", "beside", "or", "and", "not", "all", "day", "week", "weekday"};
    private static final int BLANKS = 0x20202020;
    private static final String TWO = Edges.people(2);
    private static final String ON = Edges.KIND + "turn k on ";

    private HouseEdges() {
    }

    // ---- the tape

    private static void newObject() {
        Edges.sentence("1: A HOUSE of 28 days, nothing else");
        int[] has = {28, 0, 0, 0, 0, 0};
        for (int what = 0; what < has.length; what++) {
            Edges.is("has " + what, Edges.x.has(what), has[what]);
        }
        Edges.is("nothing on the tape", Edges.x.end(1), false);
        Edges.is("no turn", Edges.x.turn(0, 0), -1);
        Edges.is("no person", Edges.x.letter(false, 0, 0), -1);
        Edges.is("no kind", Edges.x.letter(true, 0, 0), -1);
        Edges.is("no level", Edges.x.level(0, -1, 0), -1000000000000L);
        Edges.is("no image", Edges.x.octet(0), -1);
        Edges.is("no bars", Edges.x.bars(), 0);
        Edges.is("lawful", Edges.x.first(), -1);
        Edges.sentence("The constants: NONE = -1");
        Edges.is("NONE", EvenRota.NONE, -1);
    }

    private static int feedBlanks() {
        return Edges.x.feed(BLANKS, BLANKS, BLANKS, BLANKS, BLANKS);
    }

    private static void feed() {
        Edges.sentence("2: twenty bytes come, of each number the highest first");
        Edges.is("feed", Edges.x.feed(0x64617973, 0x20203120, 0x3b646179, 0x73202032, 0x2020203b), 20);
        Edges.is("house", Edges.x.house(), 0);
        Edges.is("days  1 ;days  2   ;", Edges.x.has(0), 2);
        Edges.sentence("2: also of numbers below 0, and bytes 0 and 255");
        Edges.is("feed", Edges.x.feed(0x00ffff00, 0xffff00ff, 0x20202020, 0, -1), 20);
        Edges.is("three bytes are an image", Edges.x.end(3), true);
        Edges.is("it is none", Edges.x.on(), false);
        Edges.is("feed", Edges.x.feed(0x00000000, -1, -1, -1, -1), 20);
        Edges.is("the first three bytes are 0", Edges.x.end(3) && Edges.x.on(), true);
        Edges.is("feed", Edges.x.feed(0x000000ff, 0, 0, 0, 0), 20);
        Edges.is("four bytes", Edges.x.end(4) && Edges.x.on(), false);
        Edges.sentence("2: they come behind those on the tape");
        feedBlanks();
        Edges.is("end 19", Edges.x.end(19), true);
        Edges.is("feed", Edges.x.feed(0x78202020, BLANKS, BLANKS, BLANKS, BLANKS), 39);
        Edges.is("house", Edges.x.house(), -1);
        Edges.is("the x", Edges.x.fault(1), 19);
        Edges.sentence("2: how many there are, up to 900");
        for (int n = 1; n <= 45; n++) {
            Edges.is("feed " + n, feedBlanks(), 20 * n);
        }
        Edges.is("all are there", Edges.x.end(900), true);
        Edges.is("house of 900 bytes", Edges.x.house(), 0);
        Edges.is("then from 0 on", feedBlanks(), 20);
        Edges.sentence("2: NONE, doing nothing, if there would be more than 900");
        for (int n = 1; n <= 45; n++) {
            feedBlanks();
        }
        for (int left = 900; left > 880; left--) {
            Edges.is("end " + left, Edges.x.end(left), true);
            Edges.is("feed to " + left, Edges.x.feed(-1, -1, -1, -1, -1), -1);
            Edges.is("no byte more", Edges.x.end(left + 1), false);
        }
        Edges.is("end 880", Edges.x.end(880), true);
        Edges.is("900 are not more", feedBlanks(), 900);
        Edges.is("none of those refused came", Edges.x.house(), 0);
    }

    private static void end() {
        Edges.sentence("3: the tape has its first n bytes alone");
        Edges.x.feed(0x64617973, 0x20313131, 0x31313131, 0x31313131, 0x31313131);
        Edges.is("end 6", Edges.x.end(6), true);
        Edges.is("six are left", Edges.x.end(7), false);
        Edges.is("the same again", Edges.x.end(6), true);
        Edges.is("behind them", Edges.x.feed(0x3b202020, BLANKS, BLANKS, BLANKS, BLANKS), 26);
        Edges.is("house", Edges.x.house(), 0);
        Edges.is("days 1;", Edges.x.has(0), 1);
        feedBlanks();
        Edges.is("end 0", Edges.x.end(0), true);
        Edges.is("none is left", Edges.x.end(1), false);
        Edges.is("end 0 of none", Edges.x.end(0), true);
        Edges.sentence("3: false, doing nothing, if it has not so many, or n is below 0");
        Edges.is("new", Edges.x.end(1), false);
        feedBlanks();
        int[] not = {21, 22, 40, 900, 901, -1, -20, Integer.MAX_VALUE, Integer.MIN_VALUE};
        for (int n : not) {
            Edges.is("end " + n, Edges.x.end(n), false);
            Edges.is("behind end " + n, Edges.x.end(20), true);
        }
    }

    // ---- blanks and statements

    private static void blanks() {
        Edges.sentence("I: blanks (10, 32) between where one likes");
        Edges.house("days 3;person a part 1 from 0 to 9;kind k weighs 1;turn k on[day+1<(3)]and not[all and day>5];", 2);
        Edges.house(" \n days\n3 ;\nperson\n\na part 1 from\n0 to 9\n;kind  k weighs 1 ;turn k on [ day + 1 < ( 3 ) ]  and"
            + " not [\nall and day > 5\n]\n; \n ", 2);
        Edges.house(" ", 0);
        Edges.house("\n", 0);
        Edges.house(Edges.times(900, "\n"), 0);
        Edges.house("days 7;" + Edges.times(893, " "), 0);
        Edges.is("days 7", Edges.x.has(0), 7);
        Edges.sentence("I: only 10 and 32 are blanks");
        for (int octet = 0; octet < 256; octet++) {
            if (octet != 10 && octet != 32) {
                Edges.fault(1, "days 3;^" + (char) octet);
                Edges.x.end(0);
            }
        }
        char[] near = {0, 9, 11, 12, 13, 31, 33, 160};
        for (char octet : near) {
            Edges.fault(1, "days^" + octet + "3;");
        }
        Edges.sentence("I: words and numbers side by side need one");
        Edges.fault(1, "days^3;");
        Edges.fault(1, "days 3^days 4;");
        Edges.fault(1, "person a part^1 from 0 to 0;");
        Edges.fault(1, "person a^1 part 1 from 0 to 0;");
        Edges.fault(1, "person a part 1^from 0 to 0;");
        Edges.fault(1, "person a part 1 from^0 to 0;");
        Edges.fault(1, "person a part 1 from 0^to 0;");
        Edges.fault(1, "person a part 1 from 0 to^0;");
        Edges.fault(1, "kind k weighs^1;");
        Edges.fault(1, Edges.KIND + "rest k k^1;");
        Edges.fault(1, ON + "day<1^and all;");
        Edges.fault(1, ON + "day<1^or all;");
        Edges.fault(1, ON + "day<1 and^1<day;");
        Edges.fault(1, Edges.KIND + "turn k on^1<day;");
        Edges.fault(1, ON + "not^1<day;");
        for (char letter = 'a'; letter <= 'z'; letter++) {
            Edges.fault(1, "person q" + letter + "^1 part 1 from 0 to 0;");
            Edges.fault(1, "person a part 1 from 1 to 9^" + letter + ";");
        }
        for (char digit = '0'; digit <= '9'; digit++) {
            Edges.fault(1, ON + "0<" + digit + "^and all;");
            Edges.fault(1, ON + "all and^" + digit + "<1;");
        }
        Edges.fault(1, "^personann part 1 from 0 to 0;");
        Edges.fault(1, "person ann part^1from 0 to 0;");
        Edges.house(ON + "1<day and day<9 and[day=3]or(day)=5;", 2);
        Edges.sentence("I: a HOUSE is any number of STATEMENTS, each with its ;");
        Edges.house("", 0);
        Edges.is("28 days", Edges.x.has(0), 28);
        Edges.fault(1, "^;");
        Edges.fault(1, "days 3;^;");
        Edges.fault(1, "days 3^");
        Edges.fault(1, "days 3 ^days 4;");
        Edges.fault(1, "days 3;days 4^");
        Edges.fault(1, "days 3^,");
    }

    private static void days() {
        Edges.sentence("I: days N (1 .. 200)");
        int[] can = {1, 2, 28, 199, 200};
        for (int days : can) {
            Edges.house("days " + days + ";", 0);
            Edges.is("has", Edges.x.has(0), days);
        }
        Edges.house("days 0200;", 0);
        Edges.is("0200", Edges.x.has(0), 200);
        String[] not = {"0", "00", "0000", "201", "0201", "256", "999", "1000", "9999"};
        for (String days : not) {
            Edges.fault(2, "days ^" + days + ";");
        }
        Edges.is("it stays", Edges.x.has(0), 200);
        Edges.sentence("I: days: the last one counts");
        Edges.house("days 9;" + Edges.KIND + "days 200;turn k on all;days 5;", 5);
        Edges.is("has", Edges.x.has(0), 5);
        Edges.house("days 5;days 9;", 0);
        Edges.is("has", Edges.x.has(0), 9);
        Edges.fault(2, "days ^0;days 5;");
        Edges.fault(2, "days 5;days ^201;");
        Edges.sentence("I: days: 28 at first");
        Edges.house(Edges.KIND + Edges.DAILY, 28);
        Edges.house("days 9;" + Edges.KIND + Edges.DAILY, 9);
        Edges.house(Edges.KIND + Edges.DAILY, 28);
        Edges.is("has", Edges.x.has(0), 28);
    }

    private static void persons() {
        Edges.sentence("I: part 1 .. 9");
        for (int part = 1; part <= 9; part++) {
            Edges.house("person a part " + part + " from 0 to 0;", 0);
            Edges.is("all parts", Edges.x.has(4), part);
        }
        String[] not = {"0", "0000", "10", "0010", "16", "9999"};
        for (String part : not) {
            Edges.fault(2, "person a part ^" + part + " from 0 to 0;");
        }
        Edges.sentence("I: person: days 0 .. 199");
        Edges.sound("person a part 1 from 0 to 0;");
        Edges.sound("person a part 1 from 0 to 199;");
        Edges.sound("person a part 1 from 199 to 199;");
        Edges.sound("person a part 1 from 0199 to 0199;");
        Edges.fault(2, "person a part 1 from ^200 to 200;");
        Edges.fault(2, "person a part 1 from ^9999 to 9999;");
        Edges.fault(2, "person a part 1 from 0 to ^200;");
        Edges.fault(2, "person a part 1 from 199 to ^200;");
        Edges.sentence("I: person: the second day not below the first");
        Edges.sound("person a part 1 from 5 to 5;");
        Edges.sound("person a part 1 from 5 to 6;");
        Edges.fault(2, "person a part 1 from 5 to ^4;");
        Edges.fault(2, "person a part 1 from 199 to ^198;");
        Edges.fault(2, "person a part 1 from 1 to ^0;");
        Edges.sentence("I: person: the days may lie behind those of the HOUSE");
        Edges.house("days 1;person a part 1 from 150 to 199;" + Edges.KIND + Edges.DAILY, 1);
        Edges.is("may not", Edges.x.may(0, 0), 0);
    }

    private static void otherNumbers() {
        Edges.sentence("I: weighs N (0 .. 9)");
        Edges.sound("kind k weighs 0;");
        Edges.sound("kind k weighs 9;");
        Edges.sound("kind k weighs 0009;");
        Edges.fault(2, "kind k weighs ^10;");
        Edges.fault(2, "kind k weighs ^9999;");
        Edges.sentence("I: rest N (1 .. 30)");
        Edges.sound(Edges.KIND + "rest k k 1;");
        Edges.sound(Edges.KIND + "rest k k 30;");
        Edges.sound(Edges.KIND + "rest k k 0030;");
        Edges.fault(2, Edges.KIND + "rest k k ^0;");
        Edges.fault(2, Edges.KIND + "rest k k ^31;");
        Edges.fault(2, Edges.KIND + "rest k k ^9999;");
        Edges.sentence("I: rest: two KINDS, perhaps one");
        Edges.sound(Edges.KIND + "kind m weighs 1;rest k m 1;rest m k 1;rest m m 1;");
        Edges.fault(3, TWO + Edges.KIND + "rest ^a k 1;");
        Edges.fault(3, TWO + Edges.KIND + "rest k ^a 1;");
        Edges.sentence("I: turn of a KIND");
        Edges.fault(3, TWO + Edges.KIND + "turn ^a on all;");
        Edges.sentence("I: never of a PERSON, a KIND");
        Edges.sound(TWO + Edges.KIND + "never b k on all;");
        Edges.fault(3, TWO + Edges.KIND + "never ^k k on all;");
        Edges.fault(3, TWO + Edges.KIND + "never a ^b on all;");
        Edges.fault(3, TWO + Edges.KIND + "never ^k a on all;");
        Edges.sentence("I: apart of unlike PERSONS");
        Edges.sound(TWO + "apart a b;apart b a;");
        Edges.fault(3, TWO + "apart a ^a;");
        Edges.fault(3, TWO + "apart b ^b;");
        Edges.fault(3, TWO + Edges.KIND + "apart ^k a;");
        Edges.fault(3, TWO + Edges.KIND + "apart a ^k;");
        Edges.sentence("I: beside of unlike PERSONS");
        Edges.sound(TWO + "beside a b;beside b a;");
        Edges.fault(3, TWO + "beside a ^a;");
        Edges.fault(3, TWO + "beside b ^b;");
        Edges.fault(3, TWO + Edges.KIND + "beside ^k a;");
        Edges.fault(3, TWO + Edges.KIND + "beside a ^k;");
    }

    // ---- names

    private static void names() {
        Edges.sentence("I: NAMES: 1 to 6 letters");
        for (char letter = 'a'; letter <= 'z'; letter++) {
            Edges.sound("kind " + letter + " weighs 1;");
            Edges.is("letter " + letter, Edges.x.letter(true, 0, 0), letter - 'a' + 1);
            Edges.sound("person zzzzz" + letter + " part 1 from 0 to 0;");
            Edges.is("sixth letter " + letter, Edges.x.letter(false, 0, 5), letter - 'a' + 1);
        }
        Edges.fault(1, "kind ^weighs 1;");
        Edges.fault(1, "kind abcdef^g weighs 1;");
        Edges.fault(1, "kind abcdef^ghijklmnopq weighs 1;");
        String near = "`{@[AZ_-";
        for (int n = 0; n < near.length(); n++) {
            Edges.fault(1, "kind ^" + near.charAt(n) + " weighs 1;");
            Edges.fault(1, "kind a^" + near.charAt(n) + " weighs 1;");
        }
        Edges.sentence("I: NAMES: no OWN WORD");
        for (String word : OWN) {
            Edges.fault(1, "person ^" + word + " part 1 from 0 to 0;");
            Edges.fault(1, "kind ^" + word + " weighs 1;");
            Edges.fault(1, TWO + "apart a ^" + word + ";");
        }
        String[] names = {"da", "dayss", "perso", "par", "fro", "t", "o", "kin", "weigh", "tur", "neve", "res", "apar",
            "besid", "an", "no", "al", "wee", "weekda", "weeks", "ons", "ora", "band", "xall", "nday", "onday", "tor"};
        for (String name : names) {
            Edges.sound("person " + name + " part 1 from 0 to 0;");
        }
        Edges.sentence("I: NAMES: unlike ones of PERSONS and KINDS all together");
        Edges.fault(3, TWO + "person ^a part 1 from 0 to 0;");
        Edges.fault(3, TWO + "person ^b part 1 from 0 to 0;");
        Edges.fault(3, TWO + "kind ^b weighs 1;");
        Edges.fault(3, "kind k weighs 1;kind ^k weighs 1;");
        Edges.fault(3, "kind k weighs 1;person ^k part 1 from 0 to 0;");
        Edges.sound("person abcdef part 1 from 0 to 0;person abcdeg part 1 from 0 to 0;person abcde part 1 from 0 to 0;"
            + "kind bbcdef weighs 1;kind bcdef weighs 1;");
        Edges.sentence("I: NAMES: told ahead of where they are asked");
        Edges.fault(3, "turn ^k on all;" + Edges.KIND);
        Edges.fault(3, TWO + "never a ^k on all;" + Edges.KIND);
        Edges.fault(3, Edges.KIND + "never ^a k on all;" + TWO);
        Edges.fault(3, Edges.KIND + "rest k ^m 1;kind m weighs 1;");
        Edges.fault(3, Edges.KIND + "rest ^m k 1;kind m weighs 1;");
        Edges.fault(3, "person a part 1 from 0 to 0;apart a ^b;person b part 1 from 0 to 0;");
        Edges.fault(3, "beside ^a b;" + TWO);
        Edges.sound("person a part 1 from 0 to 0;person b part 1 from 0 to 0;apart a b;person c part 1 from 0 to 0;apart c a;");
        Edges.sentence("I: NAMES of an earlier HOUSE are gone");
        Edges.sound(TWO + Edges.KIND);
        Edges.fault(3, "turn ^k on all;");
        Edges.fault(3, "apart ^a b;");
        Edges.sound(TWO + Edges.KIND);
    }

    // ---- how many

    private static String crowd(int many) {
        StringBuilder text = new StringBuilder();
        for (int n = 0; n < many; n++) {
            text.append("person ").append((char) ('a' + n)).append(" part 1 from 0 to 0;");
        }
        return text.toString();
    }

    private static String kinds(int many) {
        StringBuilder text = new StringBuilder();
        for (int n = 0; n < many; n++) {
            text.append("kind ").append((char) ('u' + n)).append(" weighs 1;");
        }
        return text.toString();
    }

    private static void manyPersons() {
        Edges.sentence("I: at most 16 PERSONS");
        Edges.house(crowd(16), 0);
        Edges.is("persons", Edges.x.has(1), 16);
        Edges.is("the last one's letter", Edges.x.letter(false, 15, 0), 16);
        Edges.is("no 17th", Edges.x.letter(false, 16, 0), -1);
        Edges.fault(5, crowd(16) + "^person q part 1 from 0 to 0;");
        Edges.fault(5, crowd(16) + " ^person a part 0 from 0 to 0;");
        Edges.fault(5, crowd(16) + kinds(6) + "\n^person q part 1 from 0 to 0;");
        Edges.sentence("I: all parts together 16 at most");
        Edges.house(Edges.person('a', 9) + Edges.person('b', 7), 0);
        Edges.is("all parts", Edges.x.has(4), 16);
        Edges.fault(2, "person a part 9 from 0 to 0;person b part ^8 from 0 to 0;");
        Edges.fault(2, "person a part 9 from 0 to 0;person b part ^9 from 0 to 0;");
        Edges.fault(2, Edges.person('a', 9) + Edges.person('b', 7) + "person c part ^1 from 0 to 0;");
        Edges.fault(2, Edges.person('a', 9) + Edges.person('b', 6) + "person c part ^2 from 0 to 0;");
        Edges.sound(Edges.person('a', 9) + Edges.person('b', 6) + Edges.person('c', 1));
        Edges.fault(2, crowd(14) + "person x part ^3 from 0 to 0;");
        Edges.sound(crowd(14) + "person x part 2 from 0 to 0;");
        Edges.is("15 persons", Edges.x.has(1), 15);
        Edges.is("also of persons who are never there at once", Edges.x.has(4), 16);
    }

    private static void manyStatements() {
        Edges.sentence("I: at most 6 KINDS");
        Edges.house(kinds(6), 0);
        Edges.is("kinds", Edges.x.has(2), 6);
        Edges.is("the last one's letter", Edges.x.letter(true, 5, 0), 26);
        Edges.fault(5, kinds(6) + "^kind t weighs 1;");
        Edges.fault(5, kinds(6) + TWO + " ^kind u weighs 10;");
        Edges.sentence("I: at most 60 other STATEMENTS");
        String pair = "person a part 1 from 0 to 9;person b part 1 from 0 to 9;kind k weighs 0;";
        String[] sorts = {"apart a b;", "beside a b;", "rest k k 1;", "turn k on 1=2;", "never a k on 1=2;"};
        String others = "";
        for (String sort : sorts) {
            others += Edges.times(12, sort);
        }
        Edges.sound(pair + others);
        for (String sort : sorts) {
            Edges.fault(5, pair + others + "^" + sort);
            Edges.sound(pair + Edges.times(59, sorts[2]) + sort);
            Edges.fault(5, pair + Edges.times(60, sorts[2]) + "^" + sort);
        }
        Edges.fault(5, pair + others + "\n^never x x;");
        Edges.sentence("I: 60 other STATEMENTS (days not counted)");
        Edges.sound(pair + Edges.times(60, sorts[0]) + "days 3;days 4;days 5;");
        Edges.is("the last one counts", Edges.x.has(0), 5);
        Edges.sound("days 1;" + pair + Edges.times(30, sorts[0]) + "days 2;" + Edges.times(30, sorts[0]) + "days 3;");
        Edges.fault(5, "days 1;" + pair + Edges.times(60, sorts[0]) + "days 3;^apart a b;");
        Edges.sentence("I: PERSONS and KINDS are not among the 60");
        Edges.sound("person a part 1 from 0 to 9;person b part 1 from 0 to 9;" + Edges.times(60, sorts[0]) + kinds(2)
            + "person c part 1 from 0 to 9;");
        Edges.sentence("I: all of 60 other STATEMENTS count, the first and the last, too");
        Edges.house("days 3;" + Edges.KIND + Edges.times(60, Edges.DAILY), 180);
        Edges.house("days 3;" + Edges.KIND + "turn k on day=1;" + Edges.times(58, "turn k on 1=2;") + "turn k on day=2;", 2);
        Edges.is("the first", Edges.x.turn(0, 0), 1);
        Edges.is("the last", Edges.x.turn(1, 0), 2);
        Edges.house("days 4;" + pair.replace("weighs 0", "weighs 1") + Edges.DAILY + "rest k k 2;" + Edges.times(57, "rest k k 1;")
            + "rest k k 3;", 4);
        Edges.lay(0, -1, 0, 1);
        Edges.bars("the first rest", 0, 1, 4, 0);
        Edges.lay(0, -1, -1, 0);
        Edges.bars("the last rest", 0, 1, 1, 4);
        Edges.sentence("I: the 60 begin anew with each HOUSE");
        Edges.sound(pair + Edges.times(60, sorts[0]));
        Edges.sound(pair + Edges.times(60, sorts[0]));
    }

    private static void turns() {
        Edges.sentence("I: more than 200 TURNS are a fault, 200 none");
        Edges.house("days 200;" + Edges.KIND + Edges.DAILY, 200);
        Edges.is("the last turn's day", Edges.x.turn(199, 0), 199);
        Edges.is("no turn 200", Edges.x.turn(200, 0), -1);
        Edges.house("days 100;" + Edges.dailyKinds(2), 200);
        Edges.house("days 4;" + Edges.KIND + Edges.times(50, Edges.DAILY), 200);
        Edges.is("50 a day", Edges.x.turn(149, 0), 2);
        Edges.house("days 199;" + Edges.KIND + Edges.DAILY + "turn k on day = 198;", 200);
        Edges.fault(6, "days 200;" + Edges.KIND + Edges.DAILY + "turn k on day = 199;^");
        Edges.fault(6, "days 200;" + Edges.KIND + Edges.DAILY + "turn k on day = 0; \n ^");
        Edges.fault(6, "days 200;" + Edges.KIND + Edges.times(50, Edges.DAILY) + "^");
        Edges.fault(6, Edges.dailyKinds(6) + "turn k on all;turn k on all;^");
        Edges.house(Edges.dailyKinds(6) + "turn k on all;turn k on day < 4;", 200);
        Edges.fault(6, Edges.dailyKinds(6) + "turn k on all;turn k on day < 5;^");
        Edges.sentence("I: no never lessens the TURNS, nor is one");
        Edges.house("days 100;" + TWO + Edges.dailyKinds(2) + "never a k on all;never b k on all;never a l on all;", 200);
        Edges.fault(6, "days 101;" + TWO + Edges.dailyKinds(2) + "never a k on all;never b k on all;never a l on all;^");
        Edges.fault(6, "days 200;" + TWO + Edges.KIND + "never a k on all;turn k on all;turn k on day=0;^");
        Edges.sentence("I: 6 only if there is no other");
        Edges.fault(1, "days 200;" + Edges.KIND + Edges.times(2, Edges.DAILY) + "^x");
        Edges.fault(1, "days 200;" + Edges.KIND + Edges.times(2, Edges.DAILY) + "days 3^");
        Edges.fault(2, "days 200;" + Edges.KIND + Edges.times(2, Edges.DAILY) + "days ^201;");
        Edges.fault(5, "days 200;" + kinds(6) + Edges.times(2, "turn u on all;") + "^kind k weighs 1;");
        Edges.sentence("I: TURNS are on the days of the last days alone");
        Edges.house("days 200;" + Edges.KIND + Edges.times(2, Edges.DAILY) + "days 100;", 200);
        Edges.sentence("I: on each DAY, KIND by KIND, one for each turn STATEMENT whose TEST holds");
        Edges.house("days 2;kind k weighs 1;kind m weighs 1;turn m on all;turn k on day=1;turn m on day=1;turn k on all;", 6);
        int[] day = {0, 0, 1, 1, 1, 1};
        int[] kind = {0, 1, 0, 0, 1, 1};
        int[] rank = {0, 0, 1, 2, 1, 2};
        for (int turn = 0; turn < 6; turn++) {
            Edges.is("day of " + turn, Edges.x.turn(turn, 0), day[turn]);
            Edges.is("kind of " + turn, Edges.x.turn(turn, 1), kind[turn]);
            Edges.is("which of its kind " + turn, Edges.x.turn(turn, 5), rank[turn]);
        }
        Edges.house("days 9;" + Edges.KIND, 0);
    }

    // ---- promises 4 to 7

    private static void houseCall() {
        String text = "days 3;" + TWO + Edges.KIND + Edges.DAILY;
        Edges.sentence("4: the tape goes, with a FAULT or without");
        Edges.house(text, 3);
        Edges.is("gone", Edges.x.end(1), false);
        Edges.fault(1, "days 3^");
        Edges.is("gone", Edges.x.end(1), false);
        Edges.is("of none", Edges.x.house(), 0);
        Edges.sentence("4: NONE with a FAULT: all stays");
        Edges.house(text, 3);
        Edges.lay(1, 0, 1);
        Edges.is("a cut", Edges.x.even(0, 0, 0), 0);
        Edges.is("an end", Edges.x.swaps(9), 0);
        Edges.is("an image", Edges.x.image(), 9);
        String[] faulty = {"days 9;kind m weighs 1;^x", "days 9" + Edges.times(60, " ") + "^", "person c part 1 from 0 to 5;^;"};
        for (String one : faulty) {
            Edges.fault(1, one);
            int[] has = {3, 2, 1, 3, 2, 0};
            for (int what = 0; what < has.length; what++) {
                Edges.is("has " + what, Edges.x.has(what), has[what]);
            }
            Edges.laid("as they were", 1, 0, 1);
            Edges.is("cut", Edges.x.cut(0), 0);
            Edges.is("ended", Edges.x.ended(), 1);
            Edges.is("octet", Edges.x.octet(8), 3 ^ 1 ^ 1 ^ 0 ^ 0 ^ 1 ^ 1);
            Edges.is("may", Edges.x.may(1, 2), 1);
            Edges.is("who is called", Edges.x.letter(false, 1, 0), 2);
        }
        Edges.fault(6, "days 200;" + Edges.dailyKinds(2) + "^");
        Edges.is("with the last fault, too", Edges.x.has(0), 3);
        Edges.laid("as they were", 1, 0, 1);
        Edges.sentence("4: without a FAULT all TURNS are OPEN");
        Edges.house(text, 3);
        Edges.lay(1, 0, 1);
        Edges.house(text, 3);
        Edges.laid("open", -1, -1, -1);
        Edges.is("has open", Edges.x.has(5), 3);
        Edges.house("days 9;" + TWO + Edges.KIND + Edges.DAILY, 9);
        Edges.laid("open, those that were not there, too", -1, -1, -1, -1, -1, -1, -1, -1, -1);
        Edges.sentence("4: without a FAULT there is no cut()");
        Edges.house(text, 3);
        Edges.is("cut", Edges.x.even(0, 0, 0) == 0 && Edges.x.cut(0) == 0 && Edges.x.cut(1) == 3, true);
        Edges.house("", 0);
        Edges.is("cut's turn", Edges.x.cut(0), -1);
        Edges.is("cut's persons", Edges.x.cut(1), -1);
        Edges.sentence("4: without a FAULT there is no ended()");
        Edges.house(text, 3);
        Edges.is("swaps", Edges.x.swaps(1), 0);
        Edges.is("ended", Edges.x.ended(), 1);
        Edges.house(text, 3);
        Edges.is("no ended", Edges.x.ended(), -1);
        Edges.sentence("4: nothing of the HOUSE that was is left");
        Edges.house("days 4;" + TWO + Edges.dailyKinds(2) + "rest k k 9;rest k l 9;apart a b;beside a b;never a k on all;", 8);
        Edges.house("days 4;" + TWO + Edges.dailyKinds(2), 8);
        Edges.lay(0, 1, 0, 1, 0, 1, 0, 1);
        Edges.is("no bars", Edges.x.bars(), 0);
        String fair = "days 4;" + TWO + Edges.dailyKinds(2);
        Edges.house(fair + "rest k k 9;apart a b;beside a b;never a l on all;", 8);
        Edges.house(fair + "rest l l 9;", 8);
        Edges.lay(0, 1, 0, -1, -1, -1, 1, 0);
        Edges.bars("of the rests one, of the pairs none", 0, 0, 0, 1, 1, 1, 0, 0);
        Edges.lay(0, 0, 0, -1, 0, -1, 1, 0);
        Edges.bars("of the rests one", 3, 3, 0, 1, 0, 1, 0, 4);
        Edges.is("nor of one with a FAULT", Edges.read(fair + "rest k k 9;apart a b;beside a b;never a l on all;turn k on all;x"), -1);
        Edges.house(fair + "rest l k 1;", 8);
        Edges.lay(0, 1, 0, -1, -1, -1, 1, 0);
        Edges.bars("none of it", 0, 0, 0, 1, 1, 1, 0, 0);
        Edges.house("", 0);
        int[] none = {28, 0, 0, 0, 0, 0};
        for (int what = 0; what < none.length; what++) {
            Edges.is("has " + what, Edges.x.has(what), none[what]);
        }
    }

    private static void faultCall() {
        Edges.sentence("5: of the latest house(): 0 and NONE ahead of any");
        Edges.is("fault", Edges.x.fault(0), 0);
        Edges.is("place", Edges.x.fault(1), -1);
        Edges.sentence("5: of the latest house(): 0 and NONE without");
        Edges.fault(2, "days ^0;");
        Edges.is("asked again", Edges.x.fault(0), 2);
        Edges.house("days 1;", 0);
        Edges.is("fault", Edges.x.fault(0), 0);
        Edges.is("place", Edges.x.fault(1), -1);
        Edges.fault(3, TWO + "apart a ^a;");
        Edges.house("", 0);
        Edges.is("fault of an empty one", Edges.x.fault(0), 0);
        Edges.sentence("5: rows and images that are none are no house()");
        Edges.fault(2, "days ^0;");
        Edges.is("round", Edges.round(0, "?"), -1);
        Edges.is("on", Edges.on("?"), false);
        Edges.is("fault", Edges.x.fault(0), 2);
        Edges.is("place", Edges.x.fault(1), 5);
        Edges.sentence("5: NONE for another what");
        Edges.fault(2, "days ^0;");
        Edges.is("2", Edges.x.fault(2), -1);
        Edges.is("-1", Edges.x.fault(-1), -1);
        for (int what : Edges.FAR) {
            Edges.is("what " + what, Edges.x.fault(what), -1);
        }
    }

    private static void hasAndLetter() {
        Edges.sentence("6: NONE for others");
        Edges.house("days 3;" + TWO + Edges.KIND + Edges.DAILY, 3);
        Edges.is("has 6", Edges.x.has(6), -1);
        Edges.is("has -1", Edges.x.has(-1), -1);
        for (int what : Edges.FAR) {
            Edges.is("has " + what, Edges.x.has(what), -1);
        }
        Edges.sentence("6: 5 OPEN TURNS, from all to none");
        Edges.house("days 3;" + TWO + Edges.KIND + Edges.DAILY, 3);
        for (int turn = 0; turn < 3; turn++) {
            Edges.is("open", Edges.x.has(5), 3 - turn);
            Edges.is("set", Edges.x.set(turn, 1), true);
            Edges.is("give", Edges.x.give(turn, 0), true);
        }
        Edges.is("none open", Edges.x.has(5), 0);
        Edges.sentence("7: letter 1 .. 26, 0 behind them");
        Edges.house("person az part 1 from 0 to 0;person zzzzzz part 1 from 0 to 0;kind zazaza weighs 1;kind b weighs 1;", 0);
        int[][] want = {{1, 26, 0, 0, 0, 0}, {26, 26, 26, 26, 26, 26}, {26, 1, 26, 1, 26, 1}, {2, 0, 0, 0, 0, 0}};
        for (int k = 0; k < 6; k++) {
            Edges.is("az " + k, Edges.x.letter(false, 0, k), want[0][k]);
            Edges.is("zzzzzz " + k, Edges.x.letter(false, 1, k), want[1][k]);
            Edges.is("zazaza " + k, Edges.x.letter(true, 0, k), want[2][k]);
            Edges.is("b " + k, Edges.x.letter(true, 1, k), want[3][k]);
        }
        Edges.sentence("7: NONE when there is none such");
        Edges.house("person az part 1 from 0 to 0;person zz part 1 from 0 to 0;kind zazaza weighs 1;", 0);
        Edges.is("letter 6", Edges.x.letter(true, 0, 6), -1);
        Edges.is("letter -1", Edges.x.letter(true, 0, -1), -1);
        Edges.is("person 2", Edges.x.letter(false, 2, 0), -1);
        Edges.is("kind 1, though there is a person 1", Edges.x.letter(true, 1, 0), -1);
        Edges.is("person -1", Edges.x.letter(false, -1, 0), -1);
        Edges.is("kind -1", Edges.x.letter(true, -1, 0), -1);
        for (int far : Edges.FAR) {
            Edges.is("letter " + far, Edges.x.letter(false, 0, far), -1);
            Edges.is("person " + far, Edges.x.letter(false, far, 0), -1);
            Edges.is("kind " + far, Edges.x.letter(true, far, 0), -1);
        }
    }

    public static void main(String[] args) {
        newObject();
        feed();
        end();
        blanks();
        days();
        persons();
        otherNumbers();
        names();
        manyPersons();
        manyStatements();
        turns();
        houseCall();
        faultCall();
        hasAndLetter();
        Edges.finish("HouseEdges");
    }
}
