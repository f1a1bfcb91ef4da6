import java.util.Arrays;

/** Promise 3: read, and what the bytes of a document are. */
public final class Promise3Test {
    public static void main(String[] args) {
        kinds();
        wrongCalls();
        sizes();
        values();
        names();
        rows();
        utf8();
        limits();
        Check.end();
    }

    private static void right(String what, byte[] bytes, int elements) {
        Desk desk = new Desk();
        Check.due(what, desk.read(1, bytes), elements);
        Check.due(what, desk.bytes(1), bytes);
        Check.due(what + ": another slot", desk.x.many(0, 0), 5);
    }

    private static void right(String text, int elements) {
        right(text, Docs.of(text), elements);
    }

    private static void wrong(String what, byte[] bytes) {
        Desk desk = new Desk();
        desk.read(2, "{k:7}");
        Check.due(what, desk.read(2, bytes), -1);
        desk.holds(what + ": the slot stays", 2, "{k:7}");
        Check.due(what + ": the tape is empty", desk.x.feed(0, 0, 0, 0, 0), 20);
    }

    private static void wrong(String text) {
        wrong(text, Docs.of(text));
    }

    private static void kinds() {
        right("{}", 0);
        right("{a:1}", 1);
        right("{a:-1,b:-2147483648,c:2147483647}", 3);
        right("{a:1L,b:-9223372036854775808L,c:9223372036854775807L}", 3);
        right("{t:true,f:false,n:null}", 3);
        right("{t:'',u:'text',v:'a\u0000b'}", 3);
        right("{d:{},e:{a:1,d:{a:1}}}", 2);
        right("{r:[],s:[1,'x',[null],{a:[]}]}", 2);
        right("{'':1}", 1);
        right("{'a.b':1,'$set':2,' ':3}", 3);
    }

    private static void wrongCalls() {
        Desk desk = new Desk();
        byte[] bytes = Docs.of("{a:1}");
        desk.feed(bytes);
        Check.due("slot -1", desk.x.read(-1, bytes.length), -2);
        Check.due("slot 4", desk.x.read(4, bytes.length), -2);
        Check.due("slot far off", desk.x.read(Integer.MIN_VALUE, bytes.length), -2);
        Check.due("n -1", desk.x.read(0, -1), -2);
        Check.due("n lowest", desk.x.read(0, Integer.MIN_VALUE), -2);
        Check.due("n highest", desk.x.read(0, Integer.MAX_VALUE), -2);
        Check.due("n 21", desk.x.read(0, 21), -2);
        Check.due("the tape stayed", desk.x.feed(0, 0, 0, 0, 0), 40);
        Check.due("read", desk.x.read(0, bytes.length), 1);
        Check.due("nothing is left", desk.x.read(0, 1), -2);
        desk.feed(bytes);
        Check.due("no bytes", desk.x.read(0, 0), -1);
        Check.due("nothing is left", desk.x.read(0, 1), -2);
        desk.holds("the slot stays", 0, "{a:1}");
    }

    private static void sizes() {
        byte[] bytes = Docs.of("{a:1,d:{b:'x'}}");
        for (int n = 0; n < bytes.length; n++) {
            wrong("only " + n + " bytes", Arrays.copyOf(bytes, n));
        }
        wrong("a byte more", Arrays.copyOf(bytes, bytes.length + 1));
        for (int i = 0; i < 4; i++) {
            byte[] other = bytes.clone();
            other[i]++;
            wrong("size byte " + i, other);
            other[i] -= 2;
            wrong("size byte " + i, other);
        }
        wrong("size 4", Docs.raw(4, 0, 0, 0));
        wrong("size 0", Docs.raw(0, 0, 0, 0, 0));
        wrong("no 0 at the end", Docs.raw(5, 0, 0, 0, 1));
        wrong("a 0 too many", Docs.raw(6, 0, 0, 0, 0, 0));
        wrong("a kind alone", Docs.raw(6, 0, 0, 0, 10, 0));
        right("the least element", Docs.raw(7, 0, 0, 0, 10, 0, 0), 1);
        wrong("inner size too small", Docs.around(Docs.raw(3, 'a', 0, 4, 0, 0, 0, 0)));
        wrong("inner size beyond the outer one", Docs.around(Docs.raw(3, 'a', 0, 6, 0, 0, 0, 0)));
        wrong("inner size below 0", Docs.around(Docs.raw(3, 'a', 0, 5, 0, 0, 128, 0)));
        wrong("inner end is no 0", Docs.around(Docs.raw(3, 'a', 0, 5, 0, 0, 0, 10)));
        wrong("a name without an end", Docs.around(Docs.raw(10, 'a')));
    }

    private static void values() {
        for (int kind = 0; kind < 256; kind++) {
            if (kind != 10) {
                wrong("kind " + kind + " without a value", Docs.around(Docs.raw(kind, 'a', 0)));
            }
        }
        wrong("three bytes of a number", Docs.around(Docs.raw(16, 'a', 0, 1, 2, 3)));
        wrong("seven bytes of a number", Docs.around(Docs.raw(18, 'a', 0, 1, 2, 3, 4, 5, 6, 7)));
        wrong("truth 2", Docs.around(Docs.raw(8, 'a', 0, 2)));
        wrong("truth 255", Docs.around(Docs.raw(8, 'a', 0, 255)));
        wrong("text of 0", Docs.around(Docs.raw(2, 'a', 0, 0, 0, 0, 0)));
        wrong("text below 0", Docs.around(Docs.raw(2, 'a', 0, 255, 255, 255, 255, 0)));
        wrong("text beyond the end", Docs.around(Docs.raw(2, 'a', 0, 2, 0, 0, 0, 0)));
        wrong("text as long as can be", Docs.around(Docs.raw(2, 'a', 0, 255, 255, 255, 127, 0)));
        wrong("text without 0", Docs.around(Docs.raw(2, 'a', 0, 1, 0, 0, 0, 7)));
        right("text of 0 alone", Docs.around(Docs.raw(2, 'a', 0, 3, 0, 0, 0, 0, 0, 0)), 1);
    }

    private static void names() {
        wrong("{a:1,a:1}");
        wrong("{a:1,b:1,a:2}");
        wrong("{'':1,'':2}");
        wrong("{d:{x:1,x:2}}");
        wrong("{r:[{x:1,x:2}]}");
        right("{a:1,d:{a:1,d:{a:1}},b:{a:1}}", 3);
        right("{a:1,ab:1,b:1,A:1}", 4);
        wrong("{a:{a:1},b:2,a:3}");
    }

    private static void rows() {
        right("{r:[1,2,3,4,5,6,7,8,9,10,11,12]}", 1);
        right("a row", Docs.around(Docs.raw(4, 'r', 0, 8, 0, 0, 0, 10, '0', 0, 0)), 1);
        wrong("a row from 1 on", Docs.around(Docs.raw(4, 'r', 0, 8, 0, 0, 0, 10, '1', 0, 0)));
        wrong("a row with a name", Docs.around(Docs.raw(4, 'r', 0, 8, 0, 0, 0, 10, 'a', 0, 0)));
        wrong("a row without a name", Docs.around(Docs.raw(4, 'r', 0, 7, 0, 0, 0, 10, 0, 0)));
        wrong("a row with 00", Docs.around(Docs.raw(4, 'r', 0, 9, 0, 0, 0, 10, '0', '0', 0, 0)));
        wrong("a row 0, 0", Docs.around(Docs.raw(4, 'r', 0, 11, 0, 0, 0, 10, '0', 0, 10, '0', 0, 0)));
        wrong("a row 0, 2", Docs.around(Docs.raw(4, 'r', 0, 11, 0, 0, 0, 10, '0', 0, 10, '2', 0, 0)));
        wrong("a row 1, 0", Docs.around(Docs.raw(4, 'r', 0, 11, 0, 0, 0, 10, '1', 0, 10, '0', 0, 0)));
        byte[] eleven = Docs.of("{r:[null,null,null,null,null,null,null,null,null,null,null]}");
        right("a row of eleven", eleven, 1);
        eleven[eleven.length - 4] = '1';
        wrong("a row with 11 for 10", eleven);
    }

    private static void text(String what, boolean isRight, int... bytes) {
        int n = bytes.length;
        int[] value = new int[8 + n];
        value[0] = 2;
        value[1] = 'a';
        value[3] = n + 1;
        System.arraycopy(bytes, 0, value, 7, n);
        int[] name = new int[2 + n];
        name[0] = 10;
        System.arraycopy(bytes, 0, name, 1, n);
        if (isRight) {
            right("text " + what, Docs.around(Docs.raw(value)), 1);
            right("name " + what, Docs.around(Docs.raw(name)), 1);
        } else {
            wrong("text " + what, Docs.around(Docs.raw(value)));
            wrong("name " + what, Docs.around(Docs.raw(name)));
        }
    }

    private static void utf8() {
        text("127", true, 0x7F);
        text("128", true, 0xC2, 0x80);
        text("2047", true, 0xDF, 0xBF);
        text("2048", true, 0xE0, 0xA0, 0x80);
        text("55295", true, 0xED, 0x9F, 0xBF);
        text("57344", true, 0xEE, 0x80, 0x80);
        text("65535", true, 0xEF, 0xBF, 0xBF);
        text("65536", true, 0xF0, 0x90, 0x80, 0x80);
        text("1114111", true, 0xF4, 0x8F, 0xBF, 0xBF);
        text("1114112", false, 0xF4, 0x90, 0x80, 0x80);
        text("beyond", false, 0xF5, 0x80, 0x80, 0x80);
        text("55296", false, 0xED, 0xA0, 0x80);
        text("57343", false, 0xED, 0xBF, 0xBF);
        text("0 in two bytes", false, 0xC0, 0x80);
        text("127 in two bytes", false, 0xC1, 0xBF);
        text("2047 in three bytes", false, 0xE0, 0x9F, 0xBF);
        text("65535 in four bytes", false, 0xF0, 0x8F, 0xBF, 0xBF);
        text("a byte of the middle alone", false, 0x80);
        text("a last byte is missing", false, 0xC3);
        text("a last byte of three is missing", false, 0xE2, 0x82);
        text("a last byte of four is missing", false, 0xF0, 0x9F, 0x98);
        text("no byte of the middle", false, 0xC3, 0x41);
        text("no byte of the middle in three", false, 0xE2, 0x41, 0x80);
        text("no byte of the middle at the end of four", false, 0xF0, 0x9F, 0x98, 0xC0);
        text("five bytes", false, 0xF8, 0x88, 0x80, 0x80, 0x80);
        text("255", false, 0xFF);
        text("several", true, 0x61, 0xC3, 0xA9, 0xE2, 0x82, 0xAC, 0xF0, 0x9F, 0x98, 0x80, 0x62);
    }

    private static void limits() {
        right(Docs.deep(16), 1);
        wrong(Docs.deep(17));
        right("{a:" + Docs.times("[", 15) + Docs.times("]", 15) + "}", 1);
        wrong("{a:" + Docs.times("[", 16) + Docs.times("]", 16) + "}");
        right("{t:'" + Docs.times("x", 2000 - 13) + "'}", 1);
        StringBuilder many = new StringBuilder("{");
        for (int i = 0; i < 332; i++) {
            many.append(i == 0 ? "" : ",").append((char) ('a' + i % 26)).append(i / 26 / 10).append(i / 26 % 10).append(":null");
        }
        right(many.append("}").toString(), 332);
    }
}
