/** Promise 3: behind each beginning of many items, each token: with which of them a design goes on, and where the fault is. */
public final class Promise03GrammarTest {
    private static final String[] ITEMS = {
        "level A > B , C ;", "level A ; level B ;", "const c = 1 + c * ( 2 - d ) / 4 % 5 ;", "const c = ( ( 1 ) ) - 2 ;",
        "fun f ( a [ 1 ] , b [ c + 1 ] ) [ 2 * 3 ] = a | b ;", "fun g [ P , Q ] ( a [ P ] ) [ Q ] = { a , b ? c : d } ;",
        "mode m [ 2 + 1 ] = 0 * 1 ;", "in i [ ( 8 ) ] : A | B | C ;", "reg r [ 8 ] = 3 - 1 : if ( m == 1 + 2 ) A | B else if ( n == ( 2 ) ) B else C ;",
        "in i [ 8 ] : if ( m == 1 ) if ( m == 2 ) A else B else C | D ;",
        "wire w = i | r ^ i & r == i != r < i <= r > i >= r << i >> r + i - r * i ;",
        "wire v = i ? r ? i : r : ~ - ! ( i ) ;", "wire v = ( i ? r : s ) ? - i : ! r ;", "wire u = i [ 3 + 1 ] + i [ 7 : 4 * 2 ] ;",
        "wire u = f ( i , r ) + g [ 1 , c + 2 , 3 ] ( i , r ) + g [ 1 ] ( r ) ;", "wire u = i [ ( 1 ) ] * { i , { r } } ;",
        "wire u = f ( f [ i ] ( r [ 1 ] ) , { f ( i ) } ) ;",
        "out o : A | B = num ( 8 , 255 ) + zext ( 9 , i | r ) ;", "out o : if ( m == 1 ) A else B = sext ( 9 , i ? r : s ) ;",
        "wire u = any ( i ) + all ( i | r ) + odd ( i ? r : s ) ;", "next { }", "next { r <= i ; s <= r <= i ; }",
        "next { if ( i ) { } if ( r | s ) { r <= r ; } else { if ( a ) { } } s <= i ; }",
        "next { case ( i ) { 0 : { } 1 + 1 : { } ( c ) : { r <= i ; } default : { r <= i ; } } case ( r ) { c : { } } } level A ;"};

    public static void main(String[] args) {
        for (String item : ITEMS) {
            eachToken(item.split(" "));
        }
        soups();
        Check.end();
    }

    private static void eachToken(String[] tokens) {
        Subject reader = new Subject();
        Grammar grammar = new Grammar();
        StringBuilder text = new StringBuilder();
        for (String token : tokens) {
            for (String other : Grammar.TOKENS) {
                reader = reader.changes() < 400 ? reader : new Subject();
                int due = text.length();
                if (grammar.goesOnWith(other)) {
                    grammar.read(other);
                    due = grammar.isWhole() ? -1 : text.length() + other.length();
                    grammar.back();
                }
                Check.due("read of " + text + other, Check.read(reader, 0, text + other), due);
            }
            Check.due("the items go on at " + text, grammar.goesOnWith(token), true);
            grammar.read(token);
            text.append(token).append(' ');
        }
        Check.due("the item is whole: " + text, grammar.isWhole(), true);
    }

    /** Tokens by dice, most of them such as go on, up to the first that does not. */
    private static void soups() {
        Dice dice = new Dice(61);
        Subject reader = new Subject();
        for (int run = 0; run < 1500; run++) {
            Grammar grammar = new Grammar();
            StringBuilder text = new StringBuilder();
            int due = -1;
            for (int i = 0; i < 25 && due == -1; i++) {
                String token = dice.pick(Grammar.TOKENS);
                for (int tries = 0; tries < 200 && !grammar.goesOnWith(token) && !dice.oneIn(400); tries++) {
                    token = dice.pick(Grammar.TOKENS);
                }
                due = grammar.goesOnWith(token) ? -1 : text.length();
                grammar.read(token);
                text.append(token).append(dice.pick(" ", "\n", "  ", " //\n"));
            }
            due = due == -1 && !grammar.isWhole() ? text.length() : due;
            reader = reader.changes() < 300 ? reader : new Subject();
            Check.due("read of " + text, Check.read(reader, 1, text.toString()), due);
        }
    }
}
