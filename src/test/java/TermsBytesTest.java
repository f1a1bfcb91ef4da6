import java.util.Arrays;

/** Terms: what the bytes of a document are. */
public final class TermsBytesTest {
    private static final String PLACE = "Terms, BYTES OF A DOCUMENT";
    private static final int[] KINDS = {2, 3, 4, 8, 10, 16, 18};

    public static void main(String[] args) {
        size();
        sizeOfInner();
        name();
        otherKinds();
        wholeNumbers();
        signs();
        truth();
        nothing();
        text();
        rowNames();
        rowsOfManyItems();
        differentNames();
        bytes();
        depth();
        Check.end();
    }

    private static void size() {
        Check.sentence(PLACE, "its SIZE (4 bytes; it counts all of it, itself and the last 0), its ELEMENTS, a byte 0.");
        Desk.isDocument("{}", Docs.raw(5, 0, 0, 0, 0), 0);
        Desk.isDocument("the least element", Docs.raw(7, 0, 0, 0, 10, 0, 0), 1);
        byte[] bytes = Docs.of("{a:1,d:{b:'x'}}");
        for (int n = 0; n < bytes.length; n++) {
            Desk.isNone("only " + n + " bytes", Arrays.copyOf(bytes, n));
            Desk.isNone("only " + n + " bytes", withSize(Arrays.copyOf(bytes, n), n));
        }
        Desk.isNone("a byte more", Arrays.copyOf(bytes, bytes.length + 1));
        Desk.isNone("a byte more", withSize(Arrays.copyOf(bytes, bytes.length + 1), bytes.length + 1));
        for (int size : new int[] {0, 1, 4, 5, bytes.length - 1, bytes.length + 1, 2000, 2001, bytes.length + 256,
            bytes.length + 65536, bytes.length + (1 << 24), bytes.length + (1 << 31), -1, -bytes.length,
            Integer.MAX_VALUE, Integer.MIN_VALUE}) {
            Desk.isNone("size " + size, withSize(bytes, size));
        }
        for (int size : new int[] {0, 1, 4, 6, -1, -5, 5 + (1 << 31)}) {
            Desk.isNone("{} with size " + size, withSize(Docs.of("{}"), size));
        }
        Desk.isNone("four bytes", Docs.raw(4, 0, 0, 0));
        Desk.isNone("a 0 too many", Docs.raw(6, 0, 0, 0, 0, 0));
        for (int last : new int[] {1, 10, 128, 255}) {
            Desk.isNone("the last byte is " + last, Docs.raw(5, 0, 0, 0, last));
            Desk.isNone("the last byte is " + last, Docs.raw(7, 0, 0, 0, 10, 0, last));
        }
        Desk.isNone("the last 0 belongs to no name", Docs.raw(6, 0, 0, 0, 10, 0));
    }

    private static byte[] withSize(byte[] bytes, int size) {
        byte[] out = bytes.clone();
        System.arraycopy(Docs.four(size), 0, out, 0, Math.min(4, out.length));
        return out;
    }

    private static void sizeOfInner() {
        Check.sentence(PLACE, "its SIZE (4 bytes; it counts all of it, itself and the last 0), its ELEMENTS, a byte 0.");
        for (int kind = 3; kind <= 4; kind++) {
            byte[] head = Docs.raw(kind, 'a', 0);
            byte[] inner = Docs.raw(8, 0, 0, 0, 10, '0', 0, 0);
            byte[] next = Docs.raw(10, 'b', 0);
            Desk.isDocument("inner kind " + kind, Docs.around(Docs.join(head, inner, next)), 2);
            for (int size : new int[] {0, 1, 4, 5, 6, 7, 9, 10, 11, 12, 13, 100, -1, -8, 8 + (1 << 31),
                Integer.MAX_VALUE, Integer.MIN_VALUE}) {
                Desk.isNone("inner size " + size, Docs.around(Docs.join(head, withSize(inner, size), next)));
                Desk.isNone("inner size " + size, Docs.around(Docs.join(head, withSize(inner, size))));
            }
            for (int n = 0; n < 8; n++) {
                Desk.isNone("only " + n + " inner bytes", Docs.around(Docs.join(head, Arrays.copyOf(inner, n))));
            }
            Desk.isNone("the outer 0 ends no inner one", Docs.around(Docs.join(head, Docs.raw(5, 0, 0, 0))));
            Desk.isNone("the inner end is no 0", Docs.around(Docs.join(head, Docs.raw(5, 0, 0, 0, 10))));
        }
    }

    private static void name() {
        Check.sentence(PLACE, "its NAME (any bytes but 0, perhaps none, right UTF-8), a byte 0");
        Desk.isDocument("{'':1}", 1);
        Desk.isDocument("{a:{'':{'':null}}}", 1);
        for (int b = 1; b < 256; b++) {
            byte[] bytes = Docs.around(Docs.raw(10, b, 0));
            if (b < 128) {
                Desk.isDocument("name " + b, bytes, 1);
            } else {
                Desk.isNone("name " + b, bytes);
            }
        }
        Desk.isDocument("{'a.b':1,'$set':2,' ':3,'.':4}", 4);
        Desk.isDocument("{" + Docs.times("n", 1993) + ":null}", 1);
        Desk.isNone("a name without an end", Docs.around(Docs.raw(10, 'a')));
        Desk.isNone("an inner name without an end",
            Docs.around(Docs.raw(3, 'a', 0, 7, 0, 0, 0, 10, 'a', 0, 10, 'b', 0)));
    }

    private static void otherKinds() {
        Check.sentence(PLACE, "its VALUE by the kind");
        for (int kind = 0; kind < 256; kind++) {
            int other = kind;
            if (Arrays.stream(KINDS).anyMatch(known -> known == other)) {
                continue;
            }
            for (int n = 0; n <= 12; n++) {
                Desk.isNone("kind " + kind, Docs.around(Docs.join(Docs.raw(kind, 'a', 0), new byte[n])));
            }
            Desk.isNone("kind " + kind, Docs.around(Docs.join(Docs.raw(kind, 'a', 0), Docs.of("{}"))));
            Desk.isNone("kind " + kind, Docs.around(Docs.raw(kind, 'a', 0, 1, 0, 0, 0, 0)));
        }
    }

    private static void wholeNumbers() {
        Check.sentence(PLACE, "16 a WHOLE number of 32 bits (4 bytes), 18 one of 64 bits (8 bytes), both with a sign");
        for (int n = 0; n <= 12; n++) {
            lengthOfNumber(16, n, 4);
            lengthOfNumber(18, n, 8);
        }
        Desk.isDocument("{a:-1,b:-2147483648,c:2147483647,d:0}", 4);
        Desk.isDocument("{a:1L,b:-9223372036854775808L,c:9223372036854775807L,d:-1L}", 4);
    }

    private static void lengthOfNumber(int kind, int n, int right) {
        byte[] value = new byte[n];
        Arrays.fill(value, (byte) 7);
        byte[] bytes = Docs.around(Docs.join(Docs.raw(kind, 'a', 0), value));
        if (n == right) {
            Desk.isDocument("kind " + kind + " of " + n + " bytes", bytes, 1);
        } else {
            Desk.isNone("kind " + kind + " of " + n + " bytes", bytes);
        }
    }

    private static void signs() {
        Check.sentence(PLACE, "both with a sign");
        Desk.done("{a:-1,b:-1L}", "{$inc:{a:1,b:1L}}", 2, "{a:0,b:0L}");
        Desk.done("{a:0,b:0L}", "{$inc:{a:-1,b:-1L}}", 2, "{a:-1,b:-1L}");
        Desk.done("{a:-2147483648}", "{$inc:{a:0L}}", 1, "{a:-2147483648L}");
        Desk.done("{a:0L}", "{$inc:{a:-2147483648}}", 1, "{a:-2147483648L}");
        Check.sentence(PLACE, "(numbers with their lowest byte first)");
        Desk.done("{a:255,b:16777215,c:4294967295L}", "{$inc:{a:1,b:1,c:1}}", 3, "{a:256,b:16777216,c:4294967296L}");
        Desk.isDocument("a size above 255", Docs.join(Docs.raw(44, 1, 0, 0, 10),
            Docs.times("n", 293).getBytes(), Docs.raw(0, 0)), 1);
    }

    private static void truth() {
        Check.sentence(PLACE, "8 a TRUTH (a byte 0 or 1)");
        for (int value = 0; value < 256; value++) {
            byte[] bytes = Docs.around(Docs.raw(8, 'a', 0, value));
            if (value < 2) {
                Desk.isDocument("truth " + value, bytes, 1);
            } else {
                Desk.isNone("truth " + value, bytes);
            }
        }
        Desk.isNone("no byte", Docs.around(Docs.raw(8, 'a', 0)));
        Desk.isNone("two bytes", Docs.around(Docs.raw(8, 'a', 0, 1, 1)));
        Desk.isNone("two bytes", Docs.around(Docs.raw(8, 'a', 0, 0, 0)));
    }

    private static void nothing() {
        Check.sentence(PLACE, "10 NOTHING (no bytes)");
        Desk.isDocument("no bytes", Docs.around(Docs.raw(10, 'a', 0)), 1);
        Desk.isDocument("{a:null,b:null,r:[null,null]}", 3);
        Desk.isNone("a byte 0", Docs.around(Docs.raw(10, 'a', 0, 0)));
        Desk.isNone("a byte 1", Docs.around(Docs.raw(10, 'a', 0, 1)));
    }

    private static void text() {
        Check.sentence(PLACE, "2 a TEXT: n (4 bytes, at least 1), n - 1 bytes of right UTF-8 (0 may be among them), a byte 0");
        Desk.isDocument("{t:''}", 1);
        Desk.isDocument("{t:'',u:'text',v:'a\u0000b'}", 3);
        for (int zeros = 1; zeros < 30; zeros++) {
            Desk.isDocument("{t:'" + Docs.times("\u0000", zeros) + "'}", 1);
        }
        for (int length = 0; length < 4; length++) {
            for (int n : new int[] {0, length, length + 2, length + 3, -1, -length - 1, length + 1 + (1 << 31),
                length + 1 + 256, length + 1 + (1 << 24), Integer.MIN_VALUE, Integer.MAX_VALUE, Integer.MAX_VALUE - 3}) {
                Desk.isNone("n " + n + " for " + length + " bytes", textWith(n, length, 0));
            }
            Desk.isDocument(length + " bytes", textWith(length + 1, length, 0), 1);
            for (int last : new int[] {1, 'x', 0x80, 255}) {
                Desk.isNone("the last byte is " + last, textWith(length + 1, length, last));
            }
        }
        for (int n = 0; n < 4; n++) {
            Desk.isNone(n + " bytes of n", Docs.around(Docs.join(Docs.raw(2, 'a', 0), Arrays.copyOf(Docs.four(1), n))));
        }
        Desk.isNone("n 0 and no byte", Docs.around(Docs.raw(2, 'a', 0, 0, 0, 0, 0)));
        Desk.isNone("n 0 and no byte", Docs.around(Docs.raw(2, 'a', 0, 0, 0, 0, 0, 10, 'b', 0)));
        Desk.isNone("the document's 0 ends no text", Docs.around(Docs.raw(2, 'a', 0, 1, 0, 0, 0)));
        Desk.isNone("the document's 0 ends no text", Docs.around(Docs.raw(2, 'a', 0, 2, 0, 0, 0, 'x')));
    }

    private static byte[] textWith(int n, int length, int last) {
        byte[] text = Docs.times("x", length).getBytes();
        return Docs.around(Docs.join(Docs.raw(2, 'a', 0), Docs.four(n), text, Docs.raw(last)));
    }

    private static void rowNames() {
        Check.sentence(PLACE, "4 a ROW: as a document whose names are 0, 1, 2, .. in decimal digits, in this order");
        rowOf(true);
        rowOf(true, "0");
        rowOf(true, "0", "1", "2");
        for (String name : new String[] {"", "1", "2", "a", "00", "-0", "+0", " 0", "0 ", "0x0", "o", "\u0660", "0.0", "/", ":"}) {
            rowOf(false, name);
            rowOf(false, name, "1");
        }
        for (String name : new String[] {"", "0", "2", "10", "11", "01", "-1", "+1", "1 ", "I"}) {
            rowOf(false, "0", name);
        }
        rowOf(false, "1", "0");
        rowOf(false, "0", "2", "1");
        rowOf(false, "1", "2", "3");
        rowOf(false, "0", "1", "3");
        Desk.isDocument("{r:[[1,[2,3],4],{r:[5]},[6]]}", 1);
        Desk.isDocument("{'1':1,'0':2,r:{'2':1,'1':2}}", 3);
    }

    /** A row, and a document for which such names would be right, of elements without a value. */
    private static void rowOf(boolean right, String... names) {
        byte[] inner = new byte[0];
        for (String name : names) {
            inner = Docs.join(inner, Docs.raw(10), name.getBytes(java.nio.charset.StandardCharsets.UTF_8), Docs.raw(0));
        }
        byte[] row = Docs.around(Docs.join(Docs.raw(4, 'r', 0), Docs.around(inner)));
        byte[] rowInRow = Docs.around(Docs.join(Docs.raw(4, 'r', 0),
            Docs.around(Docs.join(Docs.raw(4, '0', 0), Docs.around(inner)))));
        String what = "a row of " + Arrays.toString(names);
        if (right) {
            Desk.isDocument(what, row, 1);
            Desk.isDocument(what, rowInRow, 1);
        } else {
            Desk.isNone(what, row);
            Desk.isNone(what, rowInRow);
        }
        if (Arrays.stream(names).distinct().count() == names.length) {
            Desk.isDocument("a document of " + Arrays.toString(names),
                Docs.around(Docs.join(Docs.raw(3, 'r', 0), Docs.around(inner))), 1);
        }
    }

    private static void rowsOfManyItems() {
        Check.sentence(PLACE, "4 a ROW: as a document whose names are 0, 1, 2, .. in decimal digits, in this order");
        for (int n : new int[] {9, 10, 11, 12, 20, 21, 99, 100, 101, 102, 111, 200, 418}) {
            Desk.isDocument("{r:" + Docs.row("null", n) + "}", 1);
        }
        // The two bytes behind a name's last digit are the two last 0 of row and document.
        for (int n : new int[] {2, 10, 11, 100, 101, 102}) {
            byte[] bytes = Docs.of("{r:" + Docs.row("null", n) + "}");
            int digit = bytes.length - 4;
            for (int other = '0' - 1; other <= '9' + 1; other++) {
                if (other != bytes[digit]) {
                    byte[] wrong = bytes.clone();
                    wrong[digit] = (byte) other;
                    Desk.isNone("item " + (n - 1) + " with another digit", wrong);
                }
            }
        }
    }

    private static void differentNames() {
        Check.sentence(PLACE, "The names of one document are different.");
        Desk.isNone("{a:1,a:1}");
        Desk.isNone("{a:1,a:'x'}");
        Desk.isNone("{a:1,b:1,a:2}");
        Desk.isNone("{a:1,b:1,b:2}");
        Desk.isNone("{a:1,b:2,c:3,d:4,e:5,f:6,a:7}");
        Desk.isNone("{'':1,'':2}");
        Desk.isNone("{'':1,a:1,'':2}");
        Desk.isNone("{'\u20ac':1,'\u20ac':2}");
        Desk.isNone("{d:{x:1,x:2}}");
        Desk.isNone("{r:[{x:1,x:2}]}");
        Desk.isNone("{r:[{x:1},{x:1,y:1,x:2}]}");
        Desk.isNone("{a:{a:1},b:2,a:3}");
        Desk.isNone("{a:{b:{c:1}},b:{a:1},b:3}");
        Desk.isNone("{a:[{b:1},{b:1}],b:2,b:3}");
        Desk.isDocument("{a:1,d:{a:1,d:{a:1}},b:{a:1}}", 3);
        Desk.isDocument("{r:[{x:1},{x:1},{x:{x:1}}],x:1}", 2);
        Desk.isDocument("{a:1,ab:1,b:1,A:1,'':1,aa:1,abc:1,'a ':1}", 8);
        Desk.isDocument("{'0':1,'1':[1,2],'2':3}", 3);
        String most = Docs.mostElements();
        Desk.isDocument(most, 530);
        Desk.isNone(most.replace("'vk'", "'pA'"));
        Desk.isNone(most.replace("'vk'", "'pB'"));
        Desk.isNone(most.replace("'vk'", "'vj'"));
    }

    private static void bytes() {
        Check.sentence(PLACE, "A document has at most 2,000 bytes");
        Desk.isDocument(Docs.large("t", 1999), 1);
        Desk.isDocument(Docs.large("t", 2000), 1);
        Desk.isDocument("{a:{b:" + Docs.large("c", 2000 - 16) + "}}", 1);
        Desk.isDocument("{r:[" + Docs.large("c", 2000 - 16) + "]}", 1);
        Desk.isDocument("{" + Docs.textOf("a", 1000) + "," + Docs.textOf("b", 995) + "}", 2);
        Desk.isChange("{$set:" + Docs.large("t", 2000 - 11) + "}", 1);
    }

    private static void depth() {
        Check.sentence(PLACE, "documents and rows lie at most 16 deep, the outermost one being 1 deep.");
        for (int depth = 1; depth <= 20; depth++) {
            deep(depth, Docs.deep(depth), depth == 1 ? 0 : 1);
            if (depth > 1) {
                deep(depth, "{a:" + Docs.deepRow(depth - 1) + "}", 1);
                deep(depth, "{b:{},a:" + Docs.deepRow(depth - 1) + ",c:[]}", 3);
            }
            if (depth > 2) {
                deep(depth, "{a:[1," + Docs.deep(depth - 2) + ",2]}", 1);
                deep(depth, "{a:{z:1,a:" + Docs.deepRow(depth - 2) + "}}", 1);
            }
        }
        Desk.isDocument("{a:" + Docs.deep(15) + ",b:" + Docs.deep(15) + ",c:" + Docs.deepRow(15) + "}", 3);
        Desk.isNone("{a:" + Docs.deep(15) + ",b:" + Docs.deep(16) + "}");
        Desk.isNone("{a:" + Docs.deep(15) + ",b:" + Docs.deepRow(16) + "}");
        Desk.isChange("{$set:{a:" + Docs.deep(14) + "}}", 1);
        Desk.isNone("{$set:{a:" + Docs.deep(15) + "}}");
        Desk.isChange("{$pull:{a:" + Docs.deepRow(14) + "}}", 1);
        Desk.isNone("{$pull:{a:" + Docs.deepRow(15) + "}}");
    }

    private static void deep(int depth, String text, int elements) {
        if (depth <= 16) {
            Desk.isDocument(text, elements);
        } else {
            Desk.isNone(text);
        }
    }
}
