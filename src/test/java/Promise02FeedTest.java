/** Promise 2: feed. */
public final class Promise02FeedTest {
    public static void main(String[] args) {
        orderOfBytes();
        mostBytes();
        mostBytesBehindAgain();
        Check.end();
    }

    private static void orderOfBytes() {
        Subject reader = new Subject();
        // "leve" "l ab" "cdef" "ghij" "k;\n\r" : of each int the highest byte first
        Check.due("feed", reader.feed(0x6c657665, 0x6c206162, 0x63646566, 0x6768696a, 0x6b3b0a0d), 20);
        Check.due("read", reader.read(0, -1), -1);
        Check.due("name", Check.spelt(reader, 0), "abcdefghijk");
        // bytes above 127, and an int below 0, are bytes like all others
        Check.due("feed", reader.feed(0xffffffff, 0x80808080, -1, Integer.MIN_VALUE, 0), 20);
        Check.due("read", reader.read(0, -1), 0);
        // blanks 9, 10, 13, 32 alone
        Check.due("feed", reader.feed(0x090a0d20, 0x20202020, 0x0a0a0a0a, 0x0d0d0d0d, 0x0909090b), 20);
        Check.due("read", reader.read(0, -1), 19);
    }

    private static void mostBytes() {
        Subject reader = new Subject();
        for (int i = 1; i <= 400; i++) {
            Check.due("feed " + i, reader.feed(0x20202020, 0x20202020, 0x20202020, 0x20202020, 0x20202020), 20 * i);
        }
        for (int i = 0; i < 3; i++) {
            Check.due("feed beyond 8000", reader.feed(0x40404040, 0, 0, 0, 0), -1);
        }
        Check.due("read beyond", reader.read(0, 8001), -2);
        Check.due("read of 8000", reader.read(0, 8000), -1);
        Check.due("feed from the start", reader.feed(0, 0, 0, 0, 0), 20);
    }

    private static void mostBytesBehindAgain() {
        for (int extra = 0; extra < 3; extra++) {
            // written with 7979, 7980, 7981 bytes: one more feed only up to 7980
            Subject reader = new Subject();
            StringBuilder text = new StringBuilder("level A>B");
            while (text.length() < 7976 + extra) {
                text.append(",B");
            }
            text.append(text.length() % 2 == 0 ? ";" : "C;");
            int length = text.length();
            Check.due("read", Check.read(reader, 0, text.toString()), -1);
            Check.due("write", reader.write(0, 0), length);
            Check.due("again", reader.again(), length);
            Check.due("feed behind " + length, reader.feed(0x20202020, 0x20202020, 0x20202020, 0x20202020, 0x20202020),
                length + 20 > 8000 ? -1 : length + 20);
            Check.due("read", reader.read(1, -1), -1);
            Check.due("same", reader.same(), true);
        }
    }
}
