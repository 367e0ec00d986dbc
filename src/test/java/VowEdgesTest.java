/** The sentences on noon, dusk, the tape and the vow that name a boundary case, one by one: promises 9 to 14. */
public final class VowEdgesTest extends Check {
    private static final int[] WILD = {Integer.MIN_VALUE, Integer.MIN_VALUE + 1, -100, -2, -1,
        Integer.MAX_VALUE - 1, Integer.MAX_VALUE};
    private static final String LINE = "noon 1=1;";

    private VowEdgesTest() {
    }

    public static void main(String[] args) {
        noons();
        noonTwice();
        fallPlaces();
        fallWears();
        newDay();
        manyDays();
        tapeFull();
        tapeBytes();
        tapeCut();
        emptyVow();
        textTaken();
        brokenLines();
        facts();
        holyTop();
        holyInYard();
        claims();
        words();
        numbers();
        blanks();
        wraps();
        cannotStand();
        atTheEnd();
        partByZero();
        seventeenLines();
        nineOpen();
        firstFault();
        faultAsked();
        finish("each edge of the vow holds");
    }

    private static void noons() {
        says("NOON (HEIGHT at noon; 0 ahead of it)");
        DuskTower x = withPlain(3);
        x.put(0, 2);
        due(0, x.look(6));
        x.put(1, 2);
        due(NONE, x.noon());
        due(2, x.look(6));
        x.put(2, 2);
        due(2, x.look(6));
        says("noon() once a day (NOON is told first, then judged)");
        DuskTower y = withPlain(1);
        vow(y, "noon seen=1;");
        y.put(0, 0);
        due(NONE, y.noon());
        due(0, y.look(7));
        // at an empty tower it is noon all the same
        DuskTower z = new DuskTower();
        due(NONE, z.noon());
        due(NONE - 1, z.noon());
    }

    private static void noonTwice() {
        says("NONE - 1, and nothing is done, if it was noon today.");
        DuskTower x = withPlain(2);
        vow(x, "noon height=0;");
        x.put(0, 0);
        due(0, x.noon());
        x.put(1, 0);
        String was = sight(x);
        due(NONE - 1, x.noon());
        dueSame(was, x);
        due(1, x.look(6));
        due(1, x.look(7));
        due(1, x.look(9));
        // the next day has a noon of its own, and so has all that is told anew
        due(NONE, x.dusk());
        due(NONE, x.noon());
        due(NONE - 1, x.noon());
        x.columns(5);
        due(NONE, x.noon());
        due(NONE - 1, x.noon());
    }

    private static void fallPlaces() {
        says("a BLOCK at column c and LEVEL l comes to PLACE 10 + c + 2 l (59 at most)");
        DuskTower x = new DuskTower();
        x.columns(8);
        for (int i = 0; i < 20; i++) {
            plain(x, 1);
        }
        for (int i = 0; i < 20; i++) {
            due(i, x.put(i, 7));
        }
        x.dusk();
        for (int i = 0; i < 20; i++) {
            due(17 + 2 * i, x.of(i, 4));
        }
        due(0, x.look(2));
        // by the left column of a long one; what lies in the yard stays there
        DuskTower y = withPlain(2);
        plain(y, 3);
        y.put(0, 3);
        due(1, y.put(2, 2));
        y.dusk();
        due(13, y.of(0, 4));
        due(10, y.of(1, 4));
        due(14, y.of(2, 4));
        says("at dusk all falls");
        due(0, y.height(NONE));
        due(0, y.height(2));
        due(NONE, y.down(0));
        due(0, y.put(2, 0));
    }

    private static void fallWears() {
        says("its STRENGTH is l less (0 at least)");
        DuskTower x = new DuskTower();
        int[] strengths = {9, 9, 9, 2, 0};
        for (int strength : strengths) {
            x.block(1, 1, strength, 0, 10);
        }
        x.block(1, 1, 9, 0, 10);
        for (int i = 0; i < 4; i++) {
            due(i, x.put(i, 0));
        }
        due(4, x.put(4, 0));
        x.dusk();
        int[] left = {9, 8, 7, 0, 0, 9};
        for (int i = 0; i < 6; i++) {
            due(left[i], x.of(i, 2));
            due(left[i], x.of(i, 8));
        }
    }

    private static void newDay() {
        says("A DAY (0 at first): CARRIES and COST of the day so far");
        due(0, new DuskTower().look(3));
        due(NONE, atNoon("noon day=0 and carries=0 and cost=0;"));
        says("CARRIES, COST, NOON are 0; DAY is one more");
        DuskTower x = withPlain(2);
        x.put(0, 1);
        x.put(1, 2);
        x.noon();
        dueLooks(x, 5, 2, 2, 0, 2, 3, 1, 0, 0, 0, 0);
        due(NONE, x.dusk());
        dueLooks(x, 5, 2, 0, 1, 0, 0, 0, 0, 0, 0, 0);
        says("At noon and at dusk (ahead of the fall)");
        DuskTower y = withPlain(1);
        vow(y, "dusk height=1 and blocks=1 and carries=1 and cost=3 and seen=1 and day=0;");
        y.put(0, 3);
        y.noon();
        due(NONE, y.dusk());
        due(0, y.dusk());
    }

    private static void manyDays() {
        says("how often so is counted");
        DuskTower x = new DuskTower();
        vow(x, "dusk day<0;");
        for (int i = 0; i < 250; i++) {
            due(0, x.dusk());
        }
        due(250, x.look(3));
        due(250, x.look(7));
        // a vow that stays as it was is counted on, and so is the next one
        vow(x, "dusk");
        due(0, x.dusk());
        vow(x, "noon 1=2;");
        due(NONE, x.dusk());
        due(0, x.noon());
        due(252, x.look(7));
    }

    private static void tapeFull() {
        says("NONE, and nothing comes, if there would be more than 400.");
        DuskTower x = new DuskTower();
        String text = LINE + " ".repeat(391);
        for (int i = 0; i < 400; i += 20) {
            due(i + 20, feed(x, text, i));
        }
        due(NONE, x.feed(-1, -1, -1, -1, -1));
        due(false, x.end(401));
        due(true, x.end(400));
        due(true, x.end(381));
        due(NONE, x.feed(-1, -1, -1, -1, -1));
        due(false, x.end(382));
        due(true, x.end(380));
        due(400, feed(x, " ".repeat(20), 0));
        due(NONE, x.feed(-1, -1, -1, -1, -1));
        due(1, x.text());
        // it is empty then, and takes four hundred again
        for (int i = 20; i <= 400; i += 20) {
            due(i, x.feed(0, 0, 0, 0, 0));
        }
        due(NONE, x.feed(0, 0, 0, 0, 0));
    }

    private static void tapeBytes() {
        says("Twenty bytes come behind the TAPE, of each number the highest first: how many it has.");
        DuskTower x = new DuskTower();
        due(20, x.feed(0x6e6f6f6e, 0x20313233, 0x343d3132, 0x33343b64, 0x75736b20));
        due(40, x.feed(0x313d313b, 0x20202020, 0x20202020, 0x20202020, 0x20202020));
        due(2, x.text());
        // bytes above 127 are what they are: no letters, digits or blanks
        for (int bad : new int[] {128, 160, 176, 223, 225, 233, 238, 255}) {
            dueFault(1, 2, "  " + (char) bad);
            dueFault(1, 4, "noon" + (char) bad + "1=1;");
            dueFault(1, 6, "noon 1" + (char) bad + "=1;");
        }
    }

    private static void tapeCut() {
        says("The TAPE has its first n bytes alone: true; false, changing nothing, if it has not so many, or n is below 0.");
        DuskTower x = new DuskTower();
        due(false, x.end(1));
        due(true, x.end(0));
        feed(x, "noon 1=1;dusk 1=1;??", 0);
        for (int bad : WILD) {
            due(false, x.end(bad));
        }
        due(false, x.end(21));
        due(true, x.end(20));
        due(true, x.end(18));
        due(false, x.end(19));
        due(false, x.end(-1));
        due(2, x.text());
        due(false, x.end(1));
        due(true, x.end(0));
        feed(x, "noon 1=1;dusk 1=1;??", 0);
        due(true, x.end(0));
        due(false, x.end(1));
        due(0, x.text());
    }

    private static void emptyVow() {
        says("THE VOW is a TEXT (empty at first) = {(noon | dusk) B ;}.");
        DuskTower x = new DuskTower();
        due(0, x.look(10));
        due(NONE, x.noon());
        due(NONE, x.dusk());
        due(0, x.text());
        due(0, x.fault(0));
        due(1, vow(x, "dusk 1=2;"));
        due(0, x.text());
        due(0, x.look(10));
        due(NONE, x.dusk());
        due(0, x.look(7));
        due(0, vow(x, " \n"));
        due(0, vow(x, " ".repeat(400)));
    }

    private static void textTaken() {
        says("The TAPE, empty then, is THE VOW: how many lines. NONE: a FAULT (it stays as it was).");
        DuskTower x = new DuskTower();
        due(1, vow(x, "dusk 1=2;"));
        due(false, x.end(1));
        due(20, feed(x, "noon 1=1;dusk 1=1;??", 0));
        due(NONE, x.text());
        due(1, x.look(10));
        due(0, x.dusk());
        due(false, x.end(1));
        due(2, vow(x, "noon 1=1;dusk 1=1;"));
        due(NONE, x.dusk());
        // a fault in the last of many lines leaves all of it
        due(NONE, vow(x, "dusk 1=2;dusk 1=2;noon 1=2;noon"));
        due(2, x.look(10));
        due(NONE, x.noon());
        due(NONE, x.dusk());
        // as long as the tape can be
        due(16, vow(x, LINE.repeat(16) + " ".repeat(256)));
        due(1, vow(x, "noon 1" + "+1".repeat(195) + ">9;"));
        due(1, vow(x, "noon 1<2" + " or 1<2".repeat(55) + ";"));
        due(1, vow(x, "noon " + "9".repeat(4) + "*1".repeat(191) + "=9999;"));
        due(NONE, vow(x, "n".repeat(400)));
        due(NONE, vow(x, "9".repeat(400)));
        due(NONE, vow(x, "(".repeat(400)));
        due(1, x.look(10));
    }

    private static void brokenLines() {
        says("the first line for it whose B is not so is BROKEN");
        DuskTower x = new DuskTower();
        due(16, vow(x, "noon 1=1;dusk 1=1;".repeat(7) + "noon 1=2;dusk 1=2;"));
        due(14, x.noon());
        due(15, x.dusk());
        due(2, x.look(7));
        due(4, vow(x, "dusk 1=2;noon 1=2;noon 1=2;dusk 1=2;"));
        due(1, x.noon());
        due(0, x.dusk());
        due(4, x.look(7));
        says("NOON: the number of the line that is BROKEN; NONE if none is");
        due(NONE, atNoon("dusk 1=2;"));
        due(NONE, atNoon(""));
        due(0, atNoon("noon 1=2;"));
        says("DUSK: the number of the line that is BROKEN; NONE if none is.");
        vow(x, "noon 1=2;");
        due(NONE, x.dusk());
        vow(x, "noon 1=2;dusk 1=2;");
        due(1, x.dusk());
    }

    private static void facts() {
        says("U = NUMBER | height | blocks | carries | cost | holy | seen | day.");
        DuskTower x = withPlain(5);
        String[] words = {"height", "blocks", "carries", "cost", "holy", "seen", "day"};
        for (String word : words) {
            due(NONE, atNoon("noon " + word + "=0;"));
        }
        x.dusk();
        x.dusk();
        for (int i = 0; i < 3; i++) {
            x.put(i, 1);
        }
        x.put(3, 2);
        x.noon();
        x.put(4, 1);
        x.take(4, 10);
        // 1 + 2 + 3, 2, then 4 and back 4
        int[] values = {3, 4, 6, 16, 0, 3, 2};
        x.image(true);
        for (int i = 0; i < 7; i++) {
            due(1, vow(x, "dusk " + words[i] + "=" + values[i] + ";"));
            due(NONE, x.dusk());
            x.image(false);
        }
        says("(blocks: in THE TOWER;");
        due(1, vow(x, "dusk blocks=5;"));
        due(0, x.dusk());
        says("seen: NOON.");
        due(1, vow(x, "dusk seen=0;"));
        due(NONE, x.dusk());
    }

    private static void holyTop() {
        says("holy: 1, if the BLOCK at the greatest LEVEL, of several that with the least number, is HOLY, else 0");
        DuskTower x = new DuskTower();
        plain(x, 1);
        x.block(1, 1, 9, 4, 10);
        x.block(1, 1, 9, 7, 10);
        x.block(1, 1, 9, 3, 10);
        vow(x, "dusk holy=1;");
        due(0, x.dusk());
        x.put(1, 0);
        due(NONE, x.dusk());
        x.put(2, 0);
        due(NONE, x.dusk());
        x.put(3, 0);
        due(0, x.dusk());
        // at one level the least number, wherever it is
        x.put(1, 0);
        x.put(0, 1);
        due(0, x.dusk());
        x.put(1, 1);
        x.put(3, 0);
        due(NONE, x.dusk());
        // the greatest level goes ahead of the least number
        x.put(0, 0);
        x.put(3, 1);
        x.put(1, 1);
        due(NONE, x.dusk());
        x.put(1, 0);
        x.put(0, 1);
        x.put(3, 1);
        due(0, x.dusk());
    }

    private static void holyInYard() {
        says("holy: 1, if the BLOCK at the greatest LEVEL, of several that with the least number, is HOLY, else 0");
        DuskTower x = new DuskTower();
        x.block(1, 1, 9, 4, 10);
        x.block(1, 1, 9, 0, 10);
        vow(x, "dusk holy=0;");
        // an empty tower, and one of others, with the holy one in the yard
        due(NONE, x.dusk());
        x.put(1, 0);
        due(NONE, x.dusk());
        x.put(0, 0);
        due(0, x.dusk());
        due(NONE, x.dusk());
    }

    private static void claims() {
        says("B = A {or A}.  A = C {and C}.  C = E (< | = | >) E | not C | ( B ).");
        String so = "1=1";
        String not = "1=2";
        for (int i = 0; i < 8; i++) {
            String a = (i & 1) != 0 ? so : not;
            String b = (i & 2) != 0 ? so : not;
            String c = (i & 4) != 0 ? so : not;
            boolean va = (i & 1) != 0;
            boolean vb = (i & 2) != 0;
            boolean vc = (i & 4) != 0;
            dueSo(va || vb && vc, a + " or " + b + " and " + c);
            dueSo(va && vb || vc, a + " and " + b + " or " + c);
            dueSo(va || vb || vc, a + " or " + b + " or " + c);
            dueSo(va && vb && vc, a + " and " + b + " and " + c);
            dueSo((va || vb) && vc, "(" + a + " or " + b + ")and " + c);
            dueSo(va && (vb || vc), a + " and(" + b + " or " + c + ")");
            dueSo(!va && vb || !vc, "not " + a + " and " + b + " or not " + c);
            dueSo(!(va && !(vb || vc)), "not(" + a + " and not(" + b + " or " + c + "))");
            dueSo(va, "not not " + a);
            dueSo(!va, "not not not((" + a + "))");
        }
        for (int i = 0; i < 3; i++) {
            dueSo(i < 1, i + "<1");
            dueSo(i == 1, i + "=1");
            dueSo(i > 1, i + ">1");
        }
        says("E = T {(+ | -) T}.  T = U {* U | / NUMBER}.");
        dueSo(true, "9-3-2=4");
        dueSo(true, "9-3+2=8");
        dueSo(true, "2*3+4*5=26");
        dueSo(true, "2+3*4-5=9");
        dueSo(true, "9/2*2=8");
        dueSo(true, "2*9/4=4");
        dueSo(true, "99/3/4=8");
        dueSo(true, "1+9/2=5");
        dueSo(true, "4>9/2-1");
        dueSo(false, "4=9/2-1");
    }

    private static void dueSo(boolean so, String claim) {
        due(so ? NONE : 0, atNoon("noon " + claim + ";"));
    }

    private static void words() {
        says("letters as many as stand together are KEYWORDS (those told here) or none");
        for (String bad : new String[] {"n", "noo", "noonn", "noona", "noonz", "noonA", "noonZ",
            "Anoon", "noondusk", "Noon", "NOON", "nOon", "heights", "x", "z", "A",
            "Z", "seen", "not", "or", "and"}) {
            dueFault(1, 0, bad + " 1=1;");
        }
        for (String bad : new String[] {"heigh", "heightt", "Height", "block", "carry", "costs", "hol", "days", "d", "noon",
            "dusk", "or", "and", "notheight", "HOLY"}) {
            dueFault(1, 5, "noon " + bad + "=1;");
        }
        dueFault(1, 9, "noon 1=1 nor 1=1;");
        dueFault(1, 8, "noon 1=1andnot 1=1;");
        dueFault(1, 5, "noon notnot 1=1;");
        dueFault(0, NONE, "noon1=1and2=2or3=3;dusk(1=1)and not(1=2);noon height=0and not day=1;");
    }

    private static void numbers() {
        says("digits as many as stand together NUMBERS of 1 to 4 digits or none");
        dueSo(true, "9999=9999");
        dueSo(true, "0007=7");
        dueSo(true, "0000=0");
        dueSo(true, "10*1000-1=9999");
        dueFault(1, 5, "noon 10000=1;");
        dueFault(1, 5, "noon 00001=1;");
        dueFault(1, 7, "noon 1=12345;");
        dueFault(1, 7, "noon 1=99999999999999999999;");
        dueFault(1, 7, "noon 1 2=12;");
        dueFault(1, 5, "noon /1=1;");
        dueFault(1, 5, "noon :1=1;");
    }

    private static void blanks() {
        says("Blanks (32, 10) between.");
        dueFault(0, NONE, "\n noon \n 1 = \n\n 1 and 2 > 1 ; \n ");
        for (char bad : new char[] {0, 1, 9, 11, 12, 13, 31, 33, 127, 160}) {
            dueFault(1, 4, "noon" + bad + "1=1;");
            dueFault(1, 0, bad + "noon 1=1;");
            dueFault(1, 9, "noon 1=1;" + bad);
        }
        // between: not inside
        dueFault(1, 0, "no on 1=1;");
        says("; + - * / ( ) < = > .");
        for (char bad : "!\"#$%&',.:?@[\\]^_`{|}~".toCharArray()) {
            dueFault(1, 6, "noon 1" + bad + "1;");
        }
    }

    private static void wraps() {
        says("Ints, which wrap; / goes towards 0.");
        String most = "9999*9999*21+9999*4790+8416";
        String least = "0-9999*9999*21-9999*4790-8417";
        dueSo(true, most + ">9999");
        dueSo(true, most + "+1<0");
        dueSo(true, most + "+1=" + least);
        dueSo(true, least + "<0");
        dueSo(true, least + "-1=" + most);
        // 2199560022 is -2095407274; then a part of it, and times it again
        dueSo(true, "9999*9999*22=0-9999*9999*20-9999*9581-6835");
        dueSo(true, "9999*9999*22/1000=0-2095*1000-407");
        dueSo(true, "9999*9999*22/9999=0-20*9999-9581");
        dueSo(true, "9999*9999*22*0=0");
        dueSo(true, "9999*9999*22/9999/9999=0-20");
        dueSo(true, "7/2=3");
        dueSo(true, "0/9999=0");
        dueSo(true, "9998/9999=0");
    }

    private static void cannotStand() {
        says("1 what can't stand there");
        String[] none = {"1", ";", "(", ")", "+", "=", "height", "or", "not"};
        for (String token : none) {
            dueFault(1, 0, token);
            dueFault(1, 9, LINE + token);
        }
        for (String token : new String[] {";", ")", "+", "-", "*", "/", "<", "or", "and", "noon", "dusk"}) {
            dueFault(1, 5, "noon " + token + " 1=1;");
            dueFault(1, 7, "noon 1=" + token + " 1;");
            dueFault(1, 7, "noon 1+" + token + " 1;");
            dueFault(1, 7, "noon 1*" + token + " 1;");
            dueFault(1, 6, "noon (" + token + " 1=1);");
            dueFault(1, 9, "noon not " + token + " 1=1;");
            dueFault(1, 12, "noon 1=1and " + token + " 1=1;");
        }
        for (String token : new String[] {"(", "not"}) {
            dueFault(1, 7, "noon 1=" + token + " 1;");
            dueFault(1, 7, "noon 1+" + token + " 1;");
            dueFault(1, 9, "noon 1=1 " + token + " 1=1;");
        }
        for (String token : new String[] {";", ")", "(", "or", "and", "not", "noon", "7", "day"}) {
            dueFault(1, 7, "noon 1 " + token + " 1;");
        }
        for (String token : new String[] {"<", "=", ">", ")", "(", "not", "noon", "7", "day"}) {
            dueFault(1, 9, "noon 1=1 " + token + " 1;");
        }
        for (String token : new String[] {"day", "height", "(", "-", "/", "*", "=", ";"}) {
            dueFault(1, 7, "noon 1/" + token + "=1;");
        }
        for (String token : new String[] {";", "<", "=", "(", "not", "noon"}) {
            dueFault(1, 10, "noon (1=1 " + token + " 1;");
        }
        // what is in brackets is a claim, not a number
        dueFault(1, 7, "noon (1)=1;");
        dueFault(1, 8, "noon 1= (1);");
    }

    private static void atTheEnd() {
        says("(the end: the text's length)");
        String whole = "noon not(1+day*2/3<4 and 5=6);";
        int[] tokenEnds = {4, 8, 9, 10, 11, 14, 15, 16, 17, 18, 19, 20, 24, 26, 27, 28, 29};
        for (int end : tokenEnds) {
            dueFault(1, end, whole.substring(0, end));
            dueFault(1, end + 3, whole.substring(0, end) + " \n ");
        }
        dueFault(0, NONE, whole);
        dueFault(0, NONE, whole + "  ");
        dueFault(1, 400, "noon" + " ".repeat(396));
        dueFault(1, 400, "noon 1=1" + " ".repeat(392));
    }

    private static void partByZero() {
        says("2 (at the NUMBER) a part by 0.");
        dueFault(2, 7, "noon 1/0=1;");
        dueFault(2, 9, "noon 1 / 0=1;");
        dueFault(2, 7, "noon 1/0000=1;");
        dueFault(2, 9, "noon 1=1/0;");
        dueFault(2, 9, "noon 1/2/0=1;");
        dueFault(2, 9, "noon 0*0/0=0;");
        dueFault(2, 14, "noon (not day/0=1);");
        dueFault(2, 16, "noon 1=1 or 1=1/0;");
        dueFault(2, 16, LINE + "dusk 1/0=1;");
        dueFault(0, NONE, "noon 0/1=0;");
        dueFault(0, NONE, "noon 1/0001=1;");
        dueFault(0, NONE, "noon 1*0=0;");
        dueFault(0, NONE, "noon 1/9999=0;");
    }

    private static void seventeenLines() {
        says("3 (at its KEYWORD) the 17th line");
        dueFault(0, NONE, LINE.repeat(16));
        dueFault(0, NONE, LINE.repeat(16) + " \n");
        dueFault(3, 144, LINE.repeat(17));
        dueFault(3, 146, LINE.repeat(16) + "  noon 1=1;");
        dueFault(3, 144, LINE.repeat(16) + "dusk");
        dueFault(3, 144, "dusk 1=1;".repeat(16) + LINE);
        dueFault(3, 144, LINE.repeat(20));
        dueFault(1, 144, LINE.repeat(16) + "height");
        dueFault(1, 144, LINE.repeat(16) + ";");
        DuskTower x = new DuskTower();
        due(16, vow(x, LINE.repeat(16)));
        due(NONE, vow(x, LINE.repeat(17)));
        due(16, x.look(10));
    }

    private static void nineOpen() {
        says("(at it) the 9th ( or not that is open.");
        String not = "not ";
        dueFault(0, NONE, "noon " + "(".repeat(8) + "1=1" + ")".repeat(8) + ";");
        dueFault(3, 13, "noon " + "(".repeat(9) + "1=1" + ")".repeat(9) + ";");
        dueFault(0, NONE, "noon " + not.repeat(8) + "1=1;");
        dueFault(3, 37, "noon " + not.repeat(9) + "1=1;");
        dueFault(0, NONE, "noon " + "not(".repeat(4) + "1=1" + ")".repeat(4) + ";");
        dueFault(3, 21, "noon " + "not(".repeat(4) + "not 1=1" + ")".repeat(4) + ";");
        dueFault(3, 21, "noon " + "not(".repeat(4) + "(1=1)" + ")".repeat(4) + ";");
        // what is closed is open no more
        dueFault(0, NONE, "noon " + "(1=1)and".repeat(20) + "(1=1);");
        dueFault(0, NONE, "noon " + "not 1=1 or ".repeat(20) + "not 1=1;");
        dueFault(0, NONE, "noon " + "(".repeat(8) + "1=1)and(1=1)and(1=1" + ")".repeat(8) + ";");
        dueFault(0, NONE, "noon " + "(".repeat(7) + "not 1=1 and not 1=1 or not 1=1" + ")".repeat(7) + ";");
        dueFault(3, 27, "noon " + "(".repeat(7) + "not 1=1 or not (1=1)" + ")".repeat(7) + ";");
        dueFault(0, NONE, "noon " + not.repeat(8) + "1=1 and " + not.repeat(8) + "1=1;");
        dueFault(0, NONE, ("noon " + "(".repeat(8) + "1=1" + ")".repeat(8) + ";").repeat(5));
        // it is evaluated as it is read
        due(NONE, atNoon("noon " + not.repeat(8) + "1=1;"));
        due(0, atNoon("noon " + not.repeat(7) + "1=1;"));
    }

    private static void firstFault() {
        says("FAULTS, the first by its place, at one place the least");
        dueFault(2, 7, "noon 1/0=? ;");
        dueFault(1, 5, "noon ?1/0=1;");
        dueFault(2, 7, "noon 1/0=" + "(".repeat(9));
        dueFault(3, 13, "noon " + "(".repeat(9) + "1/0=1;");
        dueFault(1, 6, "noon 1" + LINE.repeat(20));
        dueFault(2, 7, "noon 1/0=1;" + LINE.repeat(17));
        dueFault(3, 144, LINE.repeat(16) + "noon 1/0=1;");
        // a 9th ( where none can stand, a 17th line that is none, a part by what is no number
        dueFault(1, 16, "noon " + "(".repeat(8) + "1=1(");
        dueFault(1, 15, "noon " + "(".repeat(8) + "1=(1");
        dueFault(1, 144, LINE.repeat(16) + "noons 1=1;");
        dueFault(1, 7, "noon 1/00000=1;");
        dueFault(1, 7, "noon 1/zero=1;");
    }

    private static void faultAsked() {
        says("Of the latest text(): what 0 the FAULT (0 without one), 1 its place (NONE). NONE for another what.");
        DuskTower x = new DuskTower();
        due(0, x.fault(0));
        due(NONE, x.fault(1));
        vow(x, "noon");
        due(1, x.fault(0));
        due(4, x.fault(1));
        x.noon();
        x.dusk();
        fill(x, "?");
        x.image(true);
        x.image(false);
        x.columns(3);
        due(1, x.fault(0));
        due(4, x.fault(1));
        due(NONE, x.text());
        due(1, x.fault(0));
        due(0, x.fault(1));
        x.text();
        due(0, x.fault(0));
        due(NONE, x.fault(1));
        vow(x, "noon 1/0=1;");
        due(2, x.fault(0));
        due(NONE, x.fault(2));
        due(NONE, x.fault(3));
        for (int bad : WILD) {
            due(NONE, x.fault(bad));
        }
    }
}
