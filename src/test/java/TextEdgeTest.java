/**
 * Block 1 of the terms and promises 1 to 5: each sentence that names a boundary has a test of its
 * own here, which calls on both sides of it.
 */
public final class TextEdgeTest {
    private static final String FIRST = "r4,5;k2,2;k7,2;k8,1;k13,1;k15,3;f0,0,6;f1,3,9;f2,10,19;"
            + "i4;d23;d25;d18;d14;d24;l1;";
    /** 200 letters without fault: r2,2; then 48 times i40; and, at place 197, i9; */
    private static final String LONGEST = "r2,2;" + "i40;".repeat(48) + "i9;";
    private static final String[] OTHERS = {"k0,0;", "f0,0,0;", "i3;", "d20;", "l0;"};

    public static void main(String[] args) {
        aNewObjectIsAsTheFirstTextTells();
        theTextIsEmptyAtFirst();
        lettersAre32To126();
        aTextHas200LettersAtMost();
        aTextOf200LettersCanBeWithoutFault();
        anItemBeginsWithOneOfSixLetters();
        numbersHaveOneOrTwoFigures();
        numbersArePartedByCommas();
        aSemicolonStandsBehindTheLast();
        eachItemHasItsNumbers();
        rowsAndColumnsAre2To7();
        fourFiveWithoutR();
        noOtherItemAheadOfR();
        ofSeveralRTheLastCounts();
        cellsGoAlongRowByRow();
        kindsAreOfCellsThatThereAre();
        kindsAre0To3();
        theLastKindOfEach();
        mapFamiliesAre0To3();
        mapCellsAreSuchAsThereAre();
        theMapHasAllBetween();
        theLastOnTheMapOfEach();
        iceIs0To40AtFirst();
        ofSeveralITheLastCounts();
        coldIs0To40();
        tenColdsAtMost();
        coldsAreToldAgainFromTheFirst();
        coldIs0Without();
        lawsAre0To2();
        nothingStaysOfARiverBefore();
        ofSeveralLTheLastCounts();
        faultIsTheFirstLetterOfTheFirst();
        laidIsNotEmpty();
        laidIsWithoutFault();
        layBeginsAnew();
        theTextStaysBehindLay();
        wipeAnswersHowLongItWas();
        Due.end();
    }

    private static void dueFault(String text, int want) {
        IceInherited ice = Due.written(text);
        Due.due("fault of " + text, ice.fault(), want);
        Due.due("rows ahead of lay", ice.count(1), 4);
        if (want == Due.NONE) {
            Due.dueTrue(text + " is laid", ice.lay() > 0);
        } else {
            Due.due("lay of " + text, ice.lay(), Due.NO);
            Due.due("cells behind it", ice.count(0), 20);
            Due.due("inches behind it", ice.count(6), 80);
        }
    }

    private static void aNewObjectIsAsTheFirstTextTells() {
        Twins.dueLike("the first text", IceInherited::new, () -> {
            IceInherited ice = Due.laid(FIRST);
            ice.wipe();
            return ice;
        });
    }

    private static void theTextIsEmptyAtFirst() {
        IceInherited ice = new IceInherited();
        Due.due("letters", ice.count(10), 0);
        Due.due("wipe", ice.wipe(), 0);
        Due.due("fault", ice.fault(), Due.NONE);
        Due.due("the first letter", ice.write('i'), 1);
    }

    private static void lettersAre32To126() {
        IceInherited all = new IceInherited();
        for (int letter = 32; letter <= 126; letter++) {
            Due.due("write(" + letter + ")", all.write(letter), letter - 31);
        }
        int[] none = {31, 127, 0, -1, -32, 10, 128, 255, 256 + 'r', 65536 + 'r', 1 << 20,
            Integer.MIN_VALUE, Integer.MAX_VALUE};
        for (int letter : none) {
            Twins.dueRefused("write(" + letter + ") at first", IceInherited::new,
                    ice -> ice.write(letter), Due.BAD);
            Twins.dueRefused("write(" + letter + ") within an item",
                    () -> Due.written("r2,3;i"), ice -> ice.write(letter), Due.BAD);
        }
        IceInherited ice = new IceInherited();
        for (char letter : "i7;".toCharArray()) {
            ice.write(31);
            ice.write(letter);
            ice.write(127);
        }
        Due.due("no letter that is none", ice.count(10), 3);
        Due.due("laid", ice.lay(), 20);
        Due.due("as thick", ice.cell(0, 1), 7);
    }

    private static void aTextHas200LettersAtMost() {
        IceInherited ice = new IceInherited();
        for (int i = 0; i < 200; i++) {
            Due.due("letter " + (i + 1), ice.write(LONGEST.charAt(i)), i + 1);
        }
        for (int letter = 32; letter <= 126; letter++) {
            Due.due("the 201st", ice.write(letter), Due.FULL);
        }
        Due.due("letters", ice.count(10), 200);
        Due.due("fault", ice.fault(), Due.NONE);
        Due.due("a bad one first of all", ice.write(127), Due.BAD);
        Due.due("a bad one first of all", ice.write(31), Due.BAD);
        Due.due("wipe", ice.wipe(), 200);
        Due.due("the first again", ice.write('i'), 1);
        Due.due("letters", ice.count(10), 1);
        for (int letter : new int[] {'x', ';', '0', 'r'}) {
            Twins.dueRefused("a 201st letter", () -> Due.written(LONGEST),
                    full -> full.write(letter), Due.FULL);
        }
    }

    private static void aTextOf200LettersCanBeWithoutFault() {
        dueFault(LONGEST.substring(0, 199), 197);
        dueFault(LONGEST, Due.NONE);
        Due.due("laid with 200", Due.laid(LONGEST).cell(0, 1), 9);
        // The ; of the last item would be the 201st letter.
        String cut = "r2,2;" + "i40;".repeat(48) + "i09";
        Due.due("200 letters", cut.length(), 200);
        IceInherited ice = Due.written(cut);
        Due.due("no room for it", ice.write(';'), Due.FULL);
        Due.due("its fault", ice.fault(), 197);
        Due.due("not laid", ice.lay(), Due.NO);
    }

    private static void anItemBeginsWithOneOfSixLetters() {
        for (char letter = 32; letter <= 126; letter++) {
            boolean one = letter == 'i' || letter == 'd' || letter == 'l';
            boolean two = letter == 'r' || letter == 'k';
            dueFault(letter + "2;", one ? Due.NONE : 0);
            dueFault(letter + "2,2;", two ? Due.NONE : 0);
            dueFault(letter + "2,2,2;", letter == 'f' ? Due.NONE : 0);
            dueFault("i3;" + letter + "2;", one ? Due.NONE : 3);
        }
    }

    private static void numbersHaveOneOrTwoFigures() {
        String[][] shapes = {{"i", ";"}, {"d", ";"}, {"l", ";"}, {"r", ",3;"}, {"r3,", ";"},
            {"k", ",1;"}, {"k1,", ";"}, {"f", ",1,1;"}, {"f1,", ",1;"}, {"f1,1,", ";"}};
        for (String[] shape : shapes) {
            dueFault(shape[0] + shape[1], 0);
            dueFault(shape[0] + "2" + shape[1], Due.NONE);
            dueFault(shape[0] + "02" + shape[1], Due.NONE);
            dueFault(shape[0] + "002" + shape[1], 0);
            // The signs on both sides of the figures 0 to 9 are none.
            dueFault(shape[0] + "/" + shape[1], 0);
            dueFault(shape[0] + ":" + shape[1], 0);
            dueFault(shape[0] + "0/" + shape[1], 0);
            dueFault(shape[0] + "0:" + shape[1], 0);
            dueFault(shape[0] + "-2" + shape[1], 0);
            dueFault(shape[0] + "+2" + shape[1], 0);
            dueFault(shape[0] + " 2" + shape[1], 0);
            dueFault(shape[0] + "2 " + shape[1], 0);
        }
        dueFault("i0;", Due.NONE);
        dueFault("i9;", Due.NONE);
        dueFault("i10;", Due.NONE);
        dueFault("i00;", Due.NONE);
        dueFault("i000;", 0);
        dueFault("i030;", 0);
        dueFault("i300;", 0);
    }

    private static void numbersArePartedByCommas() {
        dueFault("k1,1;", Due.NONE);
        for (char sign : "; .:+-/".toCharArray()) {
            dueFault("k1" + sign + "1;", 0);
            dueFault("f1" + sign + "1,1;", 0);
            dueFault("f1,1" + sign + "1;", 0);
        }
        dueFault("k1,,1;", 0);
        dueFault("k,1,1;", 0);
        dueFault("k1,1,;", 0);
        dueFault("k1, 1;", 0);
        dueFault("k01,01;", Due.NONE);
        dueFault("k0101;", 0);
    }

    private static void aSemicolonStandsBehindTheLast() {
        for (String item : new String[] {"r4,5", "k0,0", "f0,0,0", "i3", "d20", "l0"}) {
            dueFault(item, 0);
            dueFault(item + ";", Due.NONE);
            dueFault(item + ",", 0);
            dueFault(item + ":", 0);
            dueFault(item + " ;", 0);
            dueFault(item + "; ", item.length() + 1);
            dueFault(item + ";;", item.length() + 1);
            dueFault("r4,5;" + item, 5);
        }
    }

    private static void eachItemHasItsNumbers() {
        String[] letters = {"r", "k", "f", "i", "d", "l"};
        int[] numbers = {2, 2, 3, 1, 1, 1};
        for (int i = 0; i < letters.length; i++) {
            dueFault(letters[i] + ";", 0);
            for (int n = 1; n <= 4; n++) {
                String item = letters[i] + "2" + ",2".repeat(n - 1) + ";";
                dueFault(item, n == numbers[i] ? Due.NONE : 0);
            }
        }
    }

    private static void rowsAndColumnsAre2To7() {
        for (int r = 0; r <= 10; r++) {
            for (int c = 0; c <= 10; c++) {
                boolean so = r >= 2 && r <= 7 && c >= 2 && c <= 7;
                String text = "r" + r + "," + c + ";";
                dueFault(text, so ? Due.NONE : 0);
                IceInherited ice = Due.written(text);
                Due.due("lay of " + text, ice.lay(), so ? r * c : Due.NO);
                Due.due("cells of " + text, ice.count(0), so ? r * c : 20);
                Due.due("rows of " + text, ice.count(1), so ? r : 4);
                int cells = so ? r * c : 20;
                Due.due("the last cell", ice.cell(cells - 1, 1), so ? 3 : 4);
                Due.due("none behind it", ice.cell(cells, 1), Due.BAD);
            }
        }
        dueFault("r12,2;", 0);
        dueFault("r2,12;", 0);
        dueFault("r99,99;", 0);
        dueFault("r20,7;", 0);
        dueFault("r07,02;", Due.NONE);
        Twins.dueRefused("lay of r8,7;", () -> Due.written("r8,7;"), IceInherited::lay, Due.NO);
        Twins.dueRefused("lay of r7,1;", () -> Due.written("r7,1;"), IceInherited::lay, Due.NO);
    }

    private static void fourFiveWithoutR() {
        IceInherited ice = Due.written("f1,4,4;f1,5,5;f2,0,0;f2,5,5;");
        Due.due("cells", ice.lay(), 20);
        Due.due("rows", ice.count(1), 4);
        // Of five columns 5 is below 0, and not beside 4.
        Due.due("below", ice.family(2, 1), 1);
        Due.due("none of four", ice.cell(20, 0), Due.BAD);
        ice = Due.laid("f1,4,4;f1,5,5;");
        Due.due("not beside", ice.family(1, 1), 2);
    }

    private static void noOtherItemAheadOfR() {
        for (String other : OTHERS) {
            dueFault(other + "r4,5;", other.length());
            dueFault(other + "r2,2;", other.length());
            dueFault("r4,5;" + other, Due.NONE);
            dueFault("r4,5;r4,5;" + other, Due.NONE);
            dueFault("r4,5;" + other + "r4,5;", 5 + other.length());
            dueFault(other + other + "r4,5;", 2 * other.length());
            Twins.dueRefused("lay of r behind " + other, () -> Due.written(other + "r2,3;"),
                    IceInherited::lay, Due.NO);
        }
    }

    private static void ofSeveralRTheLastCounts() {
        Due.due("the last one", Due.written("r7,7;r2,3;").lay(), 6);
        Due.due("the last one", Due.written("r2,3;r7,7;").lay(), 49);
        Due.due("the last one of three", Due.written("r2,3;r7,7;r3,2;").lay(), 6);
        Due.due("its rows", Due.laid("r2,3;r7,7;r3,2;").count(1), 3);
        dueFault("r7,7;r2,2;k3,0;", Due.NONE);
        dueFault("r7,7;r2,2;k4,0;", 10);
        dueFault("r2,2;r7,7;k48,0;", Due.NONE);
        dueFault("r2,2;r7,7;k49,0;", 10);
        // One that is not so is a fault, though another one would count.
        dueFault("r8,2;r2,2;", 0);
        dueFault("r2,2;r1,2;", 5);
    }

    private static void cellsGoAlongRowByRow() {
        for (int rows = 2; rows <= 7; rows++) {
            for (int columns = 2; columns <= 7; columns += rows > 3 ? 5 : 1) {
                for (int x = 0; x + 1 < rows * columns; x++) {
                    dueBeside(rows, columns, x, x + 1, x / columns == (x + 1) / columns);
                }
                for (int x = 0; x + columns < rows * columns; x++) {
                    dueBeside(rows, columns, x, x + columns, true);
                }
                dueBeside(rows, columns, 0, rows * columns - 1, false);
                dueBeside(rows, columns, 0, columns * (rows - 1), rows == 2);
                dueBeside(rows, columns, 0, columns - 1, columns == 2);
                dueBeside(rows, columns, 0, columns + 1, false);
            }
        }
    }

    private static void dueBeside(int rows, int columns, int x, int y, boolean beside) {
        String text = "r" + rows + "," + columns + ";f1," + x + "," + x + ";f1," + y + "," + y
                + ";";
        Due.due(text, Due.laid(text).family(1, 1), beside ? 1 : 2);
    }

    private static void kindsAreOfCellsThatThereAre() {
        dueFault("k0,1;", Due.NONE);
        dueFault("k19,1;", Due.NONE);
        dueFault("k20,1;", 0);
        dueFault("k99,1;", 0);
        dueFault("r2,2;k3,1;", Due.NONE);
        dueFault("r2,2;k4,1;", 5);
        dueFault("r7,7;k48,1;", Due.NONE);
        dueFault("r7,7;k49,1;", 5);
        IceInherited ice = Due.laid("k0,3;k19,2;");
        Due.dueCells("the first and the last", ice, 0,
                3, 0, 0, 0, 0, 0, 0, 0, 0, 0, 0, 0, 0, 0, 0, 0, 0, 0, 0, 2);
    }

    private static void kindsAre0To3() {
        for (int kind = 0; kind <= 99; kind++) {
            String text = "r2,2;k1," + kind + ";";
            dueFault(text, kind <= 3 ? Due.NONE : 5);
            if (kind <= 3) {
                Due.dueCells(text, Due.laid(text), 0, 0, kind, 0, 0);
            }
        }
        Twins.dueRefused("lay of a kind 4", () -> Due.written("r2,3;k0,4;"),
                IceInherited::lay, Due.NO);
    }

    private static void theLastKindOfEach() {
        Due.dueCells("0 without", Due.laid("r2,2;"), 0, 0, 0, 0, 0);
        Due.dueCells("the last", Due.laid("r2,2;k1,1;k1,2;k2,3;"), 0, 0, 2, 3, 0);
        Due.dueCells("the last", Due.laid("r2,2;k1,2;k2,3;k1,0;"), 0, 0, 0, 3, 0);
    }

    private static void mapFamiliesAre0To3() {
        for (int f = 0; f <= 99; f++) {
            String text = "r2,2;f" + f + ",0,1;";
            dueFault(text, f <= 3 ? Due.NONE : 5);
            if (f <= 3) {
                Due.dueCells(text, Due.laid(text), 3, f, f, Due.NONE, Due.NONE);
            }
        }
    }

    private static void mapCellsAreSuchAsThereAre() {
        dueFault("f0,0,19;", Due.NONE);
        dueFault("f0,19,0;", Due.NONE);
        dueFault("f0,20,0;", 0);
        dueFault("f0,0,20;", 0);
        dueFault("r2,2;f0,3,3;", Due.NONE);
        dueFault("r2,2;f0,4,3;", 5);
        dueFault("r2,2;f0,3,4;", 5);
        dueFault("r7,7;f3,48,48;", Due.NONE);
        dueFault("r7,7;f3,49,48;", 5);
        dueFault("r7,7;f3,48,49;", 5);
    }

    private static void theMapHasAllBetween() {
        for (int x = 0; x < 12; x++) {
            for (int y = 0; y < 12; y++) {
                IceInherited ice = Due.laid("r3,4;f2," + x + "," + y + ";");
                for (int z = 0; z < 12; z++) {
                    boolean row = between(x / 4, z / 4, y / 4);
                    boolean column = between(x % 4, z % 4, y % 4);
                    Due.due("f2," + x + "," + y + " has " + z, ice.cell(z, 3),
                            row && column ? 2 : Due.NONE);
                }
            }
        }
        Due.due("one cell alone", Due.laid("r3,4;f2,5,5;").family(2, 0), 1);
        Due.due("all of them", Due.laid("r7,7;f2,42,6;").family(2, 0), 49);
        Due.due("nobody without", Due.laid("r7,7;").count(5), 0);
    }

    private static boolean between(int end, int n, int other) {
        return end <= n && n <= other || other <= n && n <= end;
    }

    private static void theLastOnTheMapOfEach() {
        int n = Due.NONE;
        Due.dueCells("the last", Due.laid("r2,3;f0,0,4;f1,1,5;"), 3, 0, 1, 1, 0, 1, 1);
        Due.dueCells("the last", Due.laid("r2,3;f1,1,5;f0,0,4;"), 3, 0, 0, 1, 0, 0, 1);
        Due.dueCells("the last", Due.laid("r2,3;f3,1,1;f1,1,1;"), 3, n, 1, n, n, n, n);
    }

    private static void iceIs0To40AtFirst() {
        for (int i = 0; i <= 99; i++) {
            dueFault("i" + i + ";", i <= 40 ? Due.NONE : 0);
            if (i <= 40) {
                IceInherited ice = Due.laid("r2,2;k3,2;f1,0,3;i" + i + ";");
                int channel = i < 9 ? i : 9;
                Due.dueCells("i" + i, ice, 1, i, i, i, channel);
                int whose = i == 0 ? Due.NONE : 1;
                Due.dueCells("whose of i" + i, ice, 2, whose, whose, whose, Due.NONE);
                Due.due("with ice of i" + i, ice.count(4), i == 0 ? 0 : 4);
                Due.due("inches of i" + i, ice.count(6), 3 * i + channel);
            }
        }
        Due.dueCells("3 without", Due.laid("r2,2;k3,2;"), 1, 3, 3, 3, 3);
        Twins.dueRefused("lay of i41;", () -> Due.written("r2,3;i41;"), IceInherited::lay, Due.NO);
    }

    private static void ofSeveralITheLastCounts() {
        Due.due("the last", Due.laid("r2,2;i40;i0;").cell(0, 1), 0);
        Due.due("the last", Due.laid("r2,2;i0;d20;i40;").cell(0, 1), 40);
        dueFault("i40;i41;", 4);
        dueFault("i41;i40;", 0);
    }

    private static void coldIs0To40() {
        for (int c = 0; c <= 99; c++) {
            dueFault("d" + c + ";", c <= 40 ? Due.NONE : 0);
            if (c <= 40) {
                IceInherited ice = Due.laid("r2,2;i30;d" + c + ";");
                Due.due("cold of d" + c, ice.cold(0), c);
                Due.due("C less 20", ice.behind(1, 0, 0), 30 + c - 20);
            }
        }
    }

    private static void tenColdsAtMost() {
        for (int colds = 1; colds <= 12; colds++) {
            dueFault("d1;".repeat(colds), colds <= 10 ? Due.NONE : 30);
        }
        dueFault("d1;".repeat(5) + "i3;" + "d21;".repeat(5) + "l1;", Due.NONE);
        dueFault("d1;".repeat(5) + "i3;" + "d21;".repeat(5) + "l1;d0;", 41);
        dueFault("r2,2;" + "d40;".repeat(10) + "d40;", 45);
        // The eleventh is a fault ahead of what stands behind it.
        dueFault("d1;".repeat(11) + "x", 30);
        dueFault("d1;".repeat(10) + "x", 30);
        dueFault("d1;".repeat(10) + "i3;x", 33);
        Twins.dueRefused("lay of eleven", () -> Due.written("r2,3;" + "d9;".repeat(11)),
                IceInherited::lay, Due.NO);
    }

    private static void coldsAreToldAgainFromTheFirst() {
        for (int colds = 1; colds <= 10; colds++) {
            StringBuilder text = new StringBuilder("r2,2;");
            for (int i = 0; i < colds; i++) {
                text.append("d").append(i * 4).append(";");
            }
            IceInherited ice = Due.laid(text.toString());
            for (int t = 0; t <= 199; t++) {
                Due.due("cold(" + t + ") of " + colds, ice.cold(t), t % colds * 4);
            }
        }
    }

    private static void coldIs0Without() {
        IceInherited ice = Due.laid("r2,2;i3;");
        for (int t = 0; t <= 199; t++) {
            Due.due("cold(" + t + ") without", ice.cold(t), 20);
        }
        Due.due("0 always", ice.behind(60, 0, 0), 3);
    }

    private static void lawsAre0To2() {
        for (int law = 0; law <= 99; law++) {
            dueFault("l" + law + ";", law <= 2 ? Due.NONE : 0);
            if (law <= 2) {
                Due.due("l" + law, Due.laid("l" + law + ";").count(2), law);
            }
        }
        Due.due("0 without", Due.laid("i3;").count(2), 0);
    }

    private static void nothingStaysOfARiverBefore() {
        // What the second text does not tell is as without, as often as there was another one.
        for (int often = 1; often <= 3; often++) {
            int times = often;
            Twins.dueLike("laid " + often + " times before", () -> {
                IceInherited ice = new IceInherited();
                for (int i = 0; i < times; i++) {
                    ice.wipe();
                    Due.writeAll(ice, "r7,7;f3,0,48;k1,3;k8,2;k48,1;i40;d40;d0;l2;");
                    Due.due("the other one", ice.lay(), 49);
                }
                ice.wipe();
                Due.writeAll(ice, "f1,1,6;");
                Due.due("without", ice.lay(), 20);
                return ice;
            }, () -> Due.laid("f1,1,6;"));
        }
        IceInherited ice = new IceInherited();
        for (int law : new int[] {2, 2, 0, 1, 0, 0}) {
            ice.wipe();
            Due.writeAll(ice, law == 0 ? "i3;" : "l" + law + ";");
            ice.lay();
            Due.due("the law", ice.count(2), law);
        }
    }

    private static void ofSeveralLTheLastCounts() {
        Due.due("the last", Due.laid("l1;l2;").count(2), 2);
        Due.due("the last", Due.laid("l2;l0;").count(2), 0);
        Due.due("the last", Due.laid("l0;i3;l1;").count(2), 1);
        dueFault("l1;l3;", 3);
    }

    private static void faultIsTheFirstLetterOfTheFirst() {
        dueFault("x", 0);
        dueFault("i3;x", 3);
        dueFault("i3;i41;i42;", 3);
        dueFault("i3;k9,9;x;", 3);
        dueFault("i3;i4", 3);
        dueFault("i3;i4x", 3);
        // The first place and the last one that there is.
        String most = "i40;".repeat(49) + "i9;";
        Due.due("199 letters", most.length(), 199);
        dueFault(most, Due.NONE);
        dueFault(most + "i", 199);
        dueFault(most + ";", 199);
        dueFault("x" + most, 0);
        IceInherited ice = Due.written("i3;d2");
        for (int again = 0; again < 3; again++) {
            Due.due("as often as asked", ice.fault(), 3);
        }
        Due.due("and the text stays", ice.write(';'), 6);
        Due.due("no fault then", ice.fault(), Due.NONE);
        Twins.dueRefused("fault", () -> Due.written("r2,3;k1"), IceInherited::fault, 5);
        Twins.dueRefused("no fault", () -> Due.written("r2,3;k1,1;"), IceInherited::fault,
                Due.NONE);
    }

    private static void laidIsNotEmpty() {
        Twins.dueRefused("lay at first", IceInherited::new, IceInherited::lay, Due.NO);
        Twins.dueRefused("lay behind wipe", TextEdgeTest::inTheMidst, IceInherited::lay, Due.NO);
        Due.due("the shortest", Due.written("i3;").lay(), 20);
        Due.due("two letters", Due.written("i3").lay(), Due.NO);
        Due.due("one letter", Due.written("i").lay(), Due.NO);
        Due.due("a blank", Due.written(" ").lay(), Due.NO);
    }

    private static void laidIsWithoutFault() {
        for (String text : new String[] {"r2,2;i41;", "r2,2;x", "r2,2;k0,1;r2,2;", "r2,2;l1"}) {
            Twins.dueRefused("lay of " + text, () -> {
                IceInherited ice = inTheMidst();
                Due.writeAll(ice, text);
                return ice;
            }, IceInherited::lay, Due.NO);
        }
    }

    /** A river of days, with something undone, kept and drilled, and an empty text. */
    private static IceInherited inTheMidst() {
        IceInherited ice = Due.laid("r2,3;k1,1;k5,2;f0,0,4;f1,4,5;i6;d23;d15;l1;");
        ice.pass(1);
        ice.keep();
        ice.sell(0, 1);
        ice.saw(4);
        ice.drill(0, 9);
        ice.wipe();
        return ice;
    }

    private static void layBeginsAnew() {
        Twins.dueLike("laid again", () -> {
            IceInherited ice = Due.laid("r2,3;k1,1;f0,0,3;i6;d23;l2;");
            for (int i = 0; i < 9; i++) {
                ice.pass(1);
            }
            ice.saw(0);
            ice.sell(3, 2);
            ice.keep();
            ice.keep();
            for (int i = 0; i < 6; i++) {
                ice.drill(i, i);
            }
            Due.due("lay", ice.lay(), 6);
            return ice;
        }, () -> Due.laid("r2,3;k1,1;f0,0,3;i6;d23;l2;"));
        IceInherited ice = inTheMidst();
        Due.writeAll(ice, "i3;");
        Due.due("lay", ice.lay(), 20);
        Due.due("day 0", ice.count(3), 0);
        Due.due("nothing drilled", ice.forget(), 0);
        Due.due("nothing undone", ice.undo(), Due.NO);
        Due.due("nothing kept", ice.back(), Due.NO);
        Due.due("two can be kept", ice.keep(), 1);
        Due.due("two can be kept", ice.keep(), 2);
    }

    private static void theTextStaysBehindLay() {
        IceInherited ice = Due.laid("r2,2;i5;");
        Due.due("letters", ice.count(10), 8);
        Due.due("one more", ice.write('i'), 9);
        Due.due("fault", ice.fault(), 8);
        ice.write('6');
        ice.write(';');
        Due.due("the whole text", ice.lay(), 4);
        Due.due("the last i", ice.cell(0, 1), 6);
        Due.due("letters", ice.wipe(), 11);
        Due.due("the river stays behind wipe", ice.count(0), 4);
        Due.due("the river stays behind wipe", ice.cell(3, 1), 6);
    }

    private static void wipeAnswersHowLongItWas() {
        for (int length : new int[] {0, 1, 2, 199, 200}) {
            IceInherited ice = Due.written("~".repeat(length));
            Due.due("letters", ice.count(10), length);
            Due.due("wipe", ice.wipe(), length);
            Due.due("no letters", ice.count(10), 0);
            Due.due("wipe", ice.wipe(), 0);
            Due.due("fault", ice.fault(), Due.NONE);
        }
        Due.due("of 201", Due.written("~".repeat(201)).wipe(), 200);
    }
}
