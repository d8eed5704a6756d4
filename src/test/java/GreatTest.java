/**
 * Promises 17 to 19: books by which LEAST is GREAT because of one number alone (found by random
 * search: with that one left out, it would end otherwise), and some by which PROOF alone is.
 * PlainModel, by BigIntegers, ends so too.
 */
public final class GreatTest {
    private static final Checks CHECKS = new Checks("GreatTest");
    private static final String[][] GREAT_BOOKS = {
        {"the ROW that was the 0-th at first",
            "due 11 91; due 26 70; due 34 76; due 35 77; due 46 69; rate 40 3; rate 40 2; rate 28 3; "
                + "rate 48 0; rate 40 1; rate 60 2; limit 26 16; limit 11 54; limit 26 2; limit 35 56; "
                + "bond 2 16 9 5 32 27; bond 0 1 1 3 44 28; bond 5 3 4 4 39 53; bond 4 10 3 5 33 2; "
                + "bond 4 45 5 1 60 1"},
        {"the ROW that was the 1-th at first",
            "due 52 83; due 40 72; due 50 85; due 33 70; due 34 74; rate 23 3; rate 3 3; rate 41 2; "
                + "rate 27 1; rate 53 1; rate 41 1; limit 40 18; limit 52 73; limit 52 72; limit 34 36; "
                + "bond 0 19 2 3 59 14; bond 5 42 8 1 55 56; bond 3 69 0 1 36 60; bond 5 81 1 4 50 29; "
                + "bond 4 36 9 1 39 20"},
        {"the ROW that was the 2-th at first",
            "due 22 64; due 46 60; due 52 95; due 28 89; due 27 77; rate 34 2; rate 52 3; rate 35 2; "
                + "rate 51 2; rate 59 1; rate 13 1; limit 52 97; limit 22 68; bond 3 83 7 2 43 52; "
                + "bond 1 75 0 5 49 19; bond 4 98 8 1 33 37; bond 4 38 1 2 48 43; bond 0 39 0 2 51 16"},
        {"the ROW that was the 3-th at first",
            "due 25 69; due 54 95; due 50 86; due 50 77; due 41 70; rate 5 3; rate 28 2; rate 39 2; "
                + "rate 4 1; rate 8 3; rate 56 0; limit 25 89; limit 25 11; limit 41 14; bond 5 1 5 4 33 18; "
                + "bond 4 84 7 1 51 54; bond 3 50 6 1 54 39; bond 4 81 0 2 38 3; bond 2 28 1 3 51 46"},
        {"the ROW that was the 4-th at first",
            "due 10 66; due 37 67; due 27 96; due 30 68; due 47 93; rate 32 3; rate 47 1; rate 5 3; "
                + "rate 31 1; rate 48 2; rate 51 0; limit 10 83; limit 37 41; limit 30 65; bond 3 82 5 2 31 54; "
                + "bond 4 34 5 5 59 12; bond 1 49 8 5 54 25; bond 5 94 0 3 53 12; bond 4 14 2 1 31 38"},
        {"the ROW that was the 5-th at first",
            "due 48 69; due 13 79; due 57 65; due 43 71; due 24 89; rate 53 3; rate 34 1; rate 52 2; "
                + "rate 43 1; rate 58 1; rate 8 1; limit 57 23; limit 43 43; bond 1 5 4 1 43 4; "
                + "bond 3 15 1 5 52 46; bond 2 10 0 5 46 54; bond 4 38 7 1 37 3; bond 4 46 5 5 45 3"},
        {"the ROW that was the 6-th at first",
            "due 45 98; due 32 96; due 14 83; due 35 81; due 39 89; rate 42 2; rate 57 0; rate 34 3; "
                + "rate 51 2; rate 35 2; rate 11 2; limit 39 3; limit 14 37; bond 5 66 6 4 38 18; "
                + "bond 2 8 2 2 35 52; bond 4 39 9 3 44 10; bond 2 21 1 1 37 9; bond 2 26 6 5 44 54"},
        {"the ROW that was the 7-th at first",
            "due 8 96; due 10 90; due 21 74; due 46 75; due 60 99; rate 14 1; rate 13 1; rate 10 2; "
                + "rate 4 3; rate 24 2; rate 56 1; limit 10 37; limit 46 39; limit 8 93; limit 60 36; "
                + "bond 5 15 3 1 38 6; bond 4 85 0 4 56 41; bond 0 92 5 3 56 5; bond 2 96 8 3 46 42; "
                + "bond 2 90 7 1 49 51"},
        {"the ROW that was the 8-th at first",
            "due 38 70; due 37 65; due 45 87; due 54 66; due 29 75; rate 35 2; rate 39 3; rate 59 3; "
                + "rate 23 0; rate 11 1; rate 44 2; limit 45 97; limit 29 49; limit 38 15; limit 37 84; "
                + "bond 3 89 6 1 41 25; bond 4 51 9 3 56 11; bond 2 37 9 1 44 15; bond 5 18 9 1 59 36; "
                + "bond 5 31 6 4 47 41"},
        {"COST",
            "due 8 62; due 53 97; due 46 69; due 31 91; due 20 78; rate 22 1; rate 32 2; rate 4 2; "
                + "rate 52 3; rate 13 1; rate 31 1; limit 8 85; bond 0 92 4 5 32 36; bond 2 69 5 3 30 6; "
                + "bond 3 1 9 4 33 13; bond 2 77 6 4 50 19; bond 3 3 4 5 60 60"},
        {"BARE of a ROW",
            "due 8 62; due 53 97; due 46 69; due 31 91; due 20 78; rate 22 1; rate 32 2; rate 4 2; "
                + "rate 52 3; rate 13 1; rate 31 1; limit 8 85; bond 0 92 4 5 32 36; bond 2 69 5 3 30 6; "
                + "bond 3 1 9 4 33 13; bond 2 77 6 4 50 19; bond 3 3 4 5 60 60"},
        {"SHARE 0 of a ROW",
            "due 30 60; due 53 85; due 50 77; due 19 87; due 43 63; rate 8 3; rate 13 0; rate 13 1; "
                + "rate 50 1; rate 20 0; rate 1 2; limit 50 20; bond 2 79 6 2 53 33; bond 5 65 9 5 37 30; "
                + "bond 2 77 2 1 33 9; bond 0 92 2 3 52 47; bond 2 5 0 4 37 20"},
        {"SHARE 1 of a ROW",
            "due 28 62; due 21 87; due 30 64; due 50 63; due 25 68; rate 56 0; rate 37 1; rate 11 3; "
                + "rate 9 1; rate 53 3; rate 43 1; limit 28 38; limit 50 11; limit 30 10; bond 0 11 1 1 35 50; "
                + "bond 4 82 7 3 56 2; bond 1 72 2 2 40 51; bond 4 36 7 3 32 15; bond 0 23 4 5 31 20"},
        {"SHARE 2 of a ROW",
            "due 29 66; due 22 77; due 30 69; due 15 71; due 43 65; rate 7 1; rate 25 3; rate 34 0; "
                + "rate 31 0; rate 1 2; rate 9 1; limit 15 60; limit 29 21; limit 43 54; limit 15 19; "
                + "bond 2 92 9 2 52 38; bond 1 79 5 1 30 25; bond 4 85 5 3 51 37; bond 4 31 7 1 32 35; "
                + "bond 5 28 3 5 30 44"},
        {"SHARE 3 of a ROW",
            "due 19 90; due 31 75; due 27 92; due 49 72; due 44 92; rate 5 2; rate 43 0; rate 25 1; "
                + "rate 32 1; rate 10 3; rate 45 1; limit 44 73; limit 27 80; limit 31 10; bond 0 9 6 1 46 16; "
                + "bond 4 45 9 1 35 20; bond 0 38 4 4 30 2; bond 3 62 0 4 43 9; bond 2 80 1 3 55 31"},
        {"SHARE 4 of a ROW",
            "due 46 84; due 39 98; due 45 86; due 28 95; due 48 90; rate 45 3; rate 57 2; rate 3 3; "
                + "rate 55 1; rate 11 0; rate 6 3; limit 28 4; bond 0 1 4 3 32 19; bond 1 41 6 5 38 24; "
                + "bond 4 44 2 2 48 47; bond 0 9 8 2 34 13; bond 4 84 8 3 40 35"},
    };
    private static final String[] BOOKS_OF_GREAT_PROOF = {
        "due 58 74; due 8 65; due 20 62; due 36 97; due 38 75; rate 42 0; rate 11 0; rate 32 1; "
            + "rate 19 2; rate 58 1; rate 3 1; limit 8 57; limit 38 5; bond 3 65 5 2 55 25; "
            + "bond 5 14 9 5 40 45; bond 4 7 6 1 37 42; bond 2 58 8 1 60 49; bond 5 26 3 4 35 55",
        "due 33 86; due 43 91; due 14 98; due 58 76; due 34 62; rate 54 2; rate 13 0; rate 33 2; "
            + "rate 37 2; rate 42 0; rate 32 0; limit 33 45; bond 0 12 3 5 55 32; bond 2 29 6 1 35 39; "
            + "bond 2 49 5 2 43 47; bond 5 88 3 3 55 55; bond 4 58 3 1 58 4",
        "due 52 88; due 27 89; due 58 99; due 32 67; due 7 91; rate 11 3; rate 54 1; rate 42 0; "
            + "rate 17 1; rate 5 3; rate 10 0; limit 32 29; limit 52 55; limit 52 58; limit 58 48; "
            + "limit 58 73; bond 4 4 1 1 31 25; bond 1 58 2 2 58 48; bond 0 55 6 1 47 37; "
            + "bond 3 70 1 3 42 57; bond 2 91 9 2 57 41",
        "due 8 77; due 32 69; due 40 88; due 34 71; due 57 63; rate 11 2; rate 16 0; rate 26 1; "
            + "rate 8 2; rate 13 3; rate 4 1; limit 32 65; limit 32 62; bond 4 92 3 1 55 8; "
            + "bond 5 16 2 1 59 35; bond 3 62 3 1 41 25; bond 4 75 1 4 35 42; bond 4 11 3 1 45 6",
        "due 57 71; due 48 94; due 8 65; due 31 61; due 37 73; rate 22 3; rate 38 1; rate 10 2; "
            + "rate 7 3; rate 5 1; rate 17 0; limit 48 50; bond 0 88 4 5 43 38; bond 4 65 4 1 48 29; "
            + "bond 2 84 4 1 58 54; bond 5 81 6 3 44 43; bond 3 7 2 1 32 5",
        "due 5 66; due 60 68; due 34 97; due 52 60; due 23 78; rate 39 2; rate 57 1; rate 23 0; "
            + "rate 55 0; rate 15 1; rate 1 1; limit 34 66; limit 52 61; limit 23 13; bond 4 76 4 1 35 24; "
            + "bond 1 73 4 2 50 34; bond 5 25 9 1 41 21; bond 3 49 6 4 41 58; bond 2 47 4 1 59 56",
    };

    public static void main(String[] args) {
        for (String[] book : GREAT_BOOKS) {
            great(book[0], book[1]);
        }
        for (String book : BOOKS_OF_GREAT_PROOF) {
            greatProof(book);
        }
        CHECKS.end();
    }

    private static void due(String what, long got, long want) {
        CHECKS.due(what, got, want);
    }

    private static void great(String what, String book) {
        DuesOnRungs x = new DuesOnRungs();
        PlainModel model = new PlainModel();
        lay(book, x, model);
        due("17: GREAT: " + what, x.least(), DuesOnRungs.GREAT);
        due("17: GREAT by the plain model too", model.least(), DuesOnRungs.GREAT);
        for (int bond = -1; bond < 5; bond++) {
            due("18: NO: GREAT, " + bond, x.amount(bond, bond & 1), DuesOnRungs.NO);
        }
        for (int k = 0; k < 20; k++) {
            due("19: NO: GREAT, " + k, x.proof(k / 4, k % 4, k & 1), DuesOnRungs.NO);
        }
    }

    private static void greatProof(String book) {
        DuesOnRungs x = new DuesOnRungs();
        PlainModel model = new PlainModel();
        lay(book, x, model);
        due("17: not GREAT", x.least() >= 0 ? 1 : 0, 1);
        due("19: PROOF of RUNG 0 is GREAT", x.proof(0, 3, 0), DuesOnRungs.NO);
        due("19: PRICE of its CARRY is not", x.proof(0, 1, 0) == DuesOnRungs.NO ? 1 : 0, 0);
        due("19: nor PROOF of the last RUNG", x.proof(4, 3, 0) == DuesOnRungs.NO ? 1 : 0, 0);
        for (int k = 0; k < 40; k++) {
            due("19: as by the plain model, " + k, x.proof(k / 8, k / 2 % 4, k % 2), model.proof(k / 8, k / 2 % 4, k % 2));
        }
    }

    private static void lay(String book, DuesOnRungs x, PlainModel model) {
        for (String call : book.split(";")) {
            String[] words = call.trim().split(" ");
            int[] a = new int[words.length];
            for (int i = 1; i < words.length; i++) {
                a[i] = Integer.parseInt(words[i]);
            }
            layOne(words[0], a, x, model);
        }
    }

    private static void layOne(String name, int[] a, DuesOnRungs x, PlainModel model) {
        switch (name) {
            case "due":
                due(name, x.due(a[1], a[2]), model.due(a[1], a[2]));
                break;
            case "rate":
                due(name, x.rate(a[1], a[2]), model.rate(a[1], a[2]));
                break;
            case "limit":
                due(name, x.limit(a[1], a[2]), model.limit(a[1], a[2]));
                break;
            default:
                due(name, x.bond(a[1], a[2], a[3], a[4], a[5], a[6]), model.bond(a[1], a[2], a[3], a[4], a[5], a[6]));
                break;
        }
    }
}
